def fm_sayOne_b134 (Q : RM → Prop) (M : RM) : Prop := Q M
def fm_sayOne_c103 (Q : RM → Prop) (k103 : Int32 → Int32 → RM → Prop) (v1 : Int32) (v2 : Int32) (M : RM) : Prop := (vp_in v1 48 ∧ (((rA M 16 v1.toNatClampNeg) ≤ v2 → fm_sayOne_b134 Q   M) ∧ (¬ (rA M 16 v1.toNatClampNeg) ≤ v2 → (vp_in ((12 * v1) + v2) 576 ∧ fm_say (rA M 17 ((12 * v1) + v2).toNatClampNeg) M (fun (M4 : RM) => (∀ x6 : Int32, x6 = v2 + 1 → k103 v1 x6 M4))))))
def fm_sayOne_l103 (Q : RM → Prop) : Nat → Int32 → Int32 → RM → Prop := lit (τ := Int32 → Int32 → RM → Prop) (fun _ _ _ => False) (fun k => fm_sayOne_c103 Q  k)
def fm_sayOne_b82 (Q : RM → Prop) (s0 : Int64) (M : RM) : Prop := fm_sayWord s0 M (fun (M7 : RM) => fm_sayOne_b134 Q   M7)
def fm_sayOne (a1 : Int32) (M : RM) (Q : RM → Prop) : Prop := (vp_in a1 48 ∧ ((rA M 13 a1.toNatClampNeg = 0 → fm_sayWord 1970168933 M (fun (M10 : RM) => fm_sayWord 439855506788 M10 (fun (M12 : RM) => fm_sayOne_b134 Q   M12))) ∧ (rA M 13 a1.toNatClampNeg = 1 → fm_sayWord 1853189228 M (fun (M14 : RM) => fm_sayOne_b134 Q   M14)) ∧ (rA M 13 a1.toNatClampNeg = 2 → (vp_in a1 48 ∧ (((rA M 14 a1.toNatClampNeg) = 0 → fm_sayOne_b82 Q  439721161573 M) ∧ (¬ (rA M 14 a1.toNatClampNeg) = 0 → fm_sayOne_b82 Q  1953658213 M)))) ∧ (rA M 13 a1.toNatClampNeg = 3 → (vp_in a1 48 ∧ fm_sayNumber (rD M 15 a1.toNatClampNeg) M (fun (M19 : RM) => fm_sayOne_b134 Q   M19))) ∧ (¬ rA M 13 a1.toNatClampNeg = 0 ∧ ¬ rA M 13 a1.toNatClampNeg = 1 ∧ ¬ rA M 13 a1.toNatClampNeg = 2 ∧ ¬ rA M 13 a1.toNatClampNeg = 3 → (∃ nn : Nat, fm_sayOne_l103 Q  nn a1 0 M))))
abbrev rmX11_sayOne : Room := { frames := 2, cells := 0, slots := 0, locals := 53 }
set_option maxHeartbeats 4000000 in
set_option maxRecDepth 100000 in
theorem tm_sayOne (l : Launch) (D : va_G) (kA : Nat → ClassId) (h : Nat) (ad : Nat → Nat) (sz : Nat) (M : RM) (a1 : Int32) (Q : RM → Prop) (hw : fm_sayOne a1 M Q) : Met l yX11_sayOne wsX11_sayOne rmX11_sayOne (va_Pc [.ref h, .int a1] (rPc D kA h ad M sz)) (va_Qv Q (rB D kA h ad (rF kA h ad M sz)) (rF kA h ad M sz)) 0 0 (rF kA h ad M sz) := by
  refine Met.ofW (cc := cX11_sayOne) (maxL := 3) (ret := none) (by decide) rfl ?_
  intro p e s m args below meth c s₁ B hml hv
  obtain ⟨rfl, hsz, hP, hK, hD0⟩ := hv
  have hx := B.exec
  have hb := B.bytes
  have hr := B.returns
  have hts := atoms_spec (ws := wsX11_sayOne) B.pre
  have hown : s.vm.findClass RX11 = some m.cls := findClass_of_methodNamed B.named
  have hlocks : meth.locks = false := B.notSynchronized
  subst hsz
  have hH : rH D kA h ad (rF kA h ad M s.heap.size) s.heap M s.heap [] := ⟨hP, hD0.self, va_S.rf⟩
  have hA : ∀ q : Nat, s.heap.size ≤ q → rF kA h ad M s.heap.size q := fun q z => Or.inr z
  generalize rF kA h ad M s.heap.size = A at hH hA ⊢
  have hl := lv_entry ([.ref h, .int a1]) (n := 3) (Nat.le_of_ble_eq_true rfl)
  rw [lg_entry_eq]
  generalize (lg_sl ([.ref h, .int a1]) ++ List.replicate (3 - (lg_sl ([.ref h, .int a1])).length) Slot.unset).toArray = ls at hl ⊢
  generalize ([.ref h, .int a1] : List Value).toArray = args at hts ⊢
  have hl : lv_has ls 3 [(0, .ref h), (1, .int a1)] := hl
  have hin : ∀ w ∈ wsX110, w ∈ wsX11_sayOne := by decide +kernel
  have b134 : ∀ (M : RM) (H : Heap) (locs : List Loc) (ls : Array Slot), rH D kA h ad A s.heap M H locs → lv_has ls 3 [] → fm_sayOne_b134 Q   M → W p l e (headSpec wsX11_sayOne rmX11_sayOne).room s m args below meth c H locs 0 0 (MQ below (va_Qv Q (rB D kA h ad A) A) args s 0 0 A) (F0 m 134 ls []) := by
    intro    M H locs ls hH hl hw
    unfold fm_sayOne_b134 at hw
    exact r_retv hx hb hr hlocks hK hH hw dX11_sayOne_134
  have l103 : ∀ (nn : Nat) (v1 : Int32) (v2 : Int32) (M : RM) (H : Heap) (locs : List Loc) (ls : Array Slot), rH D kA h ad A s.heap M H locs → lv_has ls 3 [(0, .ref h), (1, .int v1), (2, .int v2)] → fm_sayOne_l103 Q  nn v1 v2 M → W p l e (headSpec wsX11_sayOne rmX11_sayOne).room s m args below meth c H locs 0 0 (MQ below (va_Qv Q (rB D kA h ad A) A) args s 0 0 A) (F0 m 103 ls []) := by
    intro   nn
    induction nn with
    | zero => intro v1 v2 M H locs ls hH hl hw; exact False.elim hw
    | succ nn hk103 =>
      intro v1 v2 M H locs ls hH hl hw
      replace hw : fm_sayOne_c103 Q  (fm_sayOne_l103 Q  nn) v1 v2 M := hw
      unfold fm_sayOne_c103 at hw
      refine lv_iload_n hx hb dX11_sayOne_103 rfl (lv_at hl 2 rfl) ?_
      refine lv_aload_n hx hb dX11_sayOne_104 rfl (lv_at hl 0 rfl) ?_
      refine rg_16 hx hb hts hin hown hK hH (hts (.fieldLink RX11 56 "IdlCallerModel" "size" "[I") (by decide +kernel)) dX11_sayOne_105 ?_
      refine lv_iload_n hx hb dX11_sayOne_108 rfl (lv_at hl 1 rfl) ?_
      obtain ⟨h1, hw⟩ := hw
      refine rl_16 hx hb hK hH h1 dX11_sayOne_109 ?_
      refine lv_icmp_ge (tgt := 134) hx hb dX11_sayOne_110 (by decide) (fun c2 => ?_) (fun c2 => ?_)
      · replace hw := hw.1 c2
        exact b134    M H locs ls hH (lv_sub hl [] rfl) hw
      · replace hw := hw.2 c2
        refine lv_aload_n hx hb dX11_sayOne_113 rfl (lv_at hl 0 rfl) ?_
        refine lv_aload_n hx hb dX11_sayOne_114 rfl (lv_at hl 0 rfl) ?_
        refine rg_17 hx hb hts hin hown hK hH (hts (.fieldLink RX11 59 "IdlCallerModel" "texts" "[C") (by decide +kernel)) dX11_sayOne_115 ?_
        refine lv_bipush (v := 12) hx hb dX11_sayOne_118 (by decide) ?_
        refine lv_iload_n hx hb dX11_sayOne_120 rfl (lv_at hl 1 rfl) ?_
        refine lv_imul hx hb dX11_sayOne_121 ?_
        refine lv_iload_n hx hb dX11_sayOne_122 rfl (lv_at hl 2 rfl) ?_
        refine lv_iadd hx hb dX11_sayOne_123 ?_
        obtain ⟨h3, hw⟩ := hw
        refine rl_17 hx hb hK hH h3 dX11_sayOne_124 ?_
        refine r_callv (va_runV (As := [.int (rA M 17 ((12 * v1) + v2).toNatClampNeg)]) (rest := []) ⟨hx, hb, hml, hown, hts⟩ (tm_say l D kA h ad H.size M (rA M 17 ((12 * v1) + v2).toNatClampNeg) _ hw) (cwV 1 hts gX11_sayOne_X11_say rfl rfl rfl (by decide +kernel) ⟨Nat.le_of_ble_eq_true rfl, Nat.le_of_ble_eq_true rfl⟩) (r_preV hK hH) rfl rfl hl.1 rfl (lv_room (Nat.le_of_ble_eq_true rfl)) dX11_sayOne_125 ⟨Nat.le_of_ble_eq_true rfl, Nat.le_of_ble_eq_true rfl⟩) hH hA (fun M4 H locs hw hH => ?_)
        obtain ⟨x6, ex6⟩ : ∃ y : Int32, y = v2 + 1 := ⟨_, rfl⟩
        replace hw := hw x6 ex6
        refine lv_iinc (v := x6) (lv' := [(2, .int x6), (0, .ref h), (1, .int v1)]) hx hb dX11_sayOne_128 hl (k := 2) rfl (by rw [ex6]; rfl) (by decide) rfl (fun ls hl => ?_)
        refine lv_goto (tgt := 103) hx hb dX11_sayOne_131 (by decide) ?_
        exact hk103 v1 x6 M4 H locs ls hH (lv_sub hl [1, 2, 0] rfl) hw
  have b82 : ∀ (s0 : Int64) (M : RM) (H : Heap) (locs : List Loc) (ls : Array Slot), rH D kA h ad A s.heap M H locs → lv_has ls 3 [] → fm_sayOne_b82 Q  s0 M → W p l e (headSpec wsX11_sayOne rmX11_sayOne).room s m args below meth c H locs 0 0 (MQ below (va_Qv Q (rB D kA h ad A) A) args s 0 0 A) (F0 m 82 ls [.long s0, .ref h]) := by
    intro   s0 M H locs ls hH hl hw
    unfold fm_sayOne_b82 at hw
    refine r_callv (va_runV (As := [.long s0]) (rest := []) ⟨hx, hb, hml, hown, hts⟩ (tm_sayWord l D kA h ad H.size M s0 _ hw) (cwV 1 hts gX11_sayOne_X11_sayWord rfl rfl rfl (by decide +kernel) ⟨Nat.le_of_ble_eq_true rfl, Nat.le_of_ble_eq_true rfl⟩) (r_preV hK hH) rfl rfl hl.1 rfl (lv_room (Nat.le_of_ble_eq_true rfl)) dX11_sayOne_82 ⟨Nat.le_of_ble_eq_true rfl, Nat.le_of_ble_eq_true rfl⟩) hH hA (fun M7 H locs hw hH => ?_)
    refine lv_goto (tgt := 134) hx hb dX11_sayOne_85 (by decide) ?_
    exact b134    M7 H locs ls hH (lv_sub hl [] rfl) hw
  clear hP hD0
  unfold fm_sayOne at hw
  have hst : ∀ (M : RM) (H : Heap) (locs : List Loc) (ls : Array Slot), rH D kA h ad A s.heap M H locs → lv_has ls 3 [(0, .ref h), (1, .int a1)] → (vp_in a1 48 ∧ ((rA M 13 a1.toNatClampNeg = 0 → fm_sayWord 1970168933 M (fun (M10 : RM) => fm_sayWord 439855506788 M10 (fun (M12 : RM) => fm_sayOne_b134 Q   M12))) ∧ (rA M 13 a1.toNatClampNeg = 1 → fm_sayWord 1853189228 M (fun (M14 : RM) => fm_sayOne_b134 Q   M14)) ∧ (rA M 13 a1.toNatClampNeg = 2 → (vp_in a1 48 ∧ (((rA M 14 a1.toNatClampNeg) = 0 → fm_sayOne_b82 Q  439721161573 M) ∧ (¬ (rA M 14 a1.toNatClampNeg) = 0 → fm_sayOne_b82 Q  1953658213 M)))) ∧ (rA M 13 a1.toNatClampNeg = 3 → (vp_in a1 48 ∧ fm_sayNumber (rD M 15 a1.toNatClampNeg) M (fun (M19 : RM) => fm_sayOne_b134 Q   M19))) ∧ (¬ rA M 13 a1.toNatClampNeg = 0 ∧ ¬ rA M 13 a1.toNatClampNeg = 1 ∧ ¬ rA M 13 a1.toNatClampNeg = 2 ∧ ¬ rA M 13 a1.toNatClampNeg = 3 → (∃ nn : Nat, fm_sayOne_l103 Q  nn a1 0 M)))) → W p l e (headSpec wsX11_sayOne rmX11_sayOne).room s m args below meth c H locs 0 0 (MQ below (va_Qv Q (rB D kA h ad A) A) args s 0 0 A) (F0 m 0 ls []) := by
    intro M H locs ls hH hl hw
    refine lv_aload_n hx hb dX11_sayOne_0 rfl (lv_at hl 0 rfl) ?_
    refine rg_13 hx hb hts hin hown hK hH (hts (.fieldLink RX11 46 "IdlCallerModel" "kindOf" "[I") (by decide +kernel)) dX11_sayOne_1 ?_
    refine lv_iload_n hx hb dX11_sayOne_4 rfl (lv_at hl 1 rfl) ?_
    obtain ⟨h9, hw⟩ := hw
    refine rl_13 hx hb hK hH h9 dX11_sayOne_5 ?_
    by_cases c0 : rA M 13 a1.toNatClampNeg = 0
    · replace hw := hw.1 c0
      refine lv_tableIn (off := 30) (tgt := 36) hx hb dX11_sayOne_6 (by rw [c0]; decide) (by rw [c0]; decide) (by rw [c0]; rfl) (by decide) ?_
      refine lv_aload_n hx hb dX11_sayOne_36 rfl (lv_at hl 0 rfl) ?_
      refine lv_ldc2 (v := 1970168933) hx hb hown (hts (.constantLong RX11 243 1970168933) (by decide +kernel)) dX11_sayOne_37 ?_
      refine r_callv (va_runV (As := [.long 1970168933]) (rest := []) ⟨hx, hb, hml, hown, hts⟩ (tm_sayWord l D kA h ad H.size M 1970168933 _ hw) (cwV 1 hts gX11_sayOne_X11_sayWord rfl rfl rfl (by decide +kernel) ⟨Nat.le_of_ble_eq_true rfl, Nat.le_of_ble_eq_true rfl⟩) (r_preV hK hH) rfl rfl hl.1 rfl (lv_room (Nat.le_of_ble_eq_true rfl)) dX11_sayOne_40 ⟨Nat.le_of_ble_eq_true rfl, Nat.le_of_ble_eq_true rfl⟩) hH hA (fun M10 H locs hw hH => ?_)
      refine lv_aload_n hx hb dX11_sayOne_43 rfl (lv_at hl 0 rfl) ?_
      refine lv_ldc2 (v := 439855506788) hx hb hown (hts (.constantLong RX11 249 439855506788) (by decide +kernel)) dX11_sayOne_44 ?_
      refine r_callv (va_runV (As := [.long 439855506788]) (rest := []) ⟨hx, hb, hml, hown, hts⟩ (tm_sayWord l D kA h ad H.size M10 439855506788 _ hw) (cwV 1 hts gX11_sayOne_X11_sayWord rfl rfl rfl (by decide +kernel) ⟨Nat.le_of_ble_eq_true rfl, Nat.le_of_ble_eq_true rfl⟩) (r_preV hK hH) rfl rfl hl.1 rfl (lv_room (Nat.le_of_ble_eq_true rfl)) dX11_sayOne_47 ⟨Nat.le_of_ble_eq_true rfl, Nat.le_of_ble_eq_true rfl⟩) hH hA (fun M12 H locs hw hH => ?_)
      refine lv_goto (tgt := 134) hx hb dX11_sayOne_50 (by decide) ?_
      exact b134    M12 H locs ls hH (lv_sub hl [] rfl) hw
    by_cases c1 : rA M 13 a1.toNatClampNeg = 1
    · replace hw := hw.2.1 c1
      refine lv_tableIn (off := 47) (tgt := 53) hx hb dX11_sayOne_6 (by rw [c1]; decide) (by rw [c1]; decide) (by rw [c1]; rfl) (by decide) ?_
      refine lv_aload_n hx hb dX11_sayOne_53 rfl (lv_at hl 0 rfl) ?_
      refine lv_ldc2 (v := 1853189228) hx hb hown (hts (.constantLong RX11 251 1853189228) (by decide +kernel)) dX11_sayOne_54 ?_
      refine r_callv (va_runV (As := [.long 1853189228]) (rest := []) ⟨hx, hb, hml, hown, hts⟩ (tm_sayWord l D kA h ad H.size M 1853189228 _ hw) (cwV 1 hts gX11_sayOne_X11_sayWord rfl rfl rfl (by decide +kernel) ⟨Nat.le_of_ble_eq_true rfl, Nat.le_of_ble_eq_true rfl⟩) (r_preV hK hH) rfl rfl hl.1 rfl (lv_room (Nat.le_of_ble_eq_true rfl)) dX11_sayOne_57 ⟨Nat.le_of_ble_eq_true rfl, Nat.le_of_ble_eq_true rfl⟩) hH hA (fun M14 H locs hw hH => ?_)
      refine lv_goto (tgt := 134) hx hb dX11_sayOne_60 (by decide) ?_
      exact b134    M14 H locs ls hH (lv_sub hl [] rfl) hw
    by_cases c2 : rA M 13 a1.toNatClampNeg = 2
    · replace hw := hw.2.2.1 c2
      refine lv_tableIn (off := 57) (tgt := 63) hx hb dX11_sayOne_6 (by rw [c2]; decide) (by rw [c2]; decide) (by rw [c2]; rfl) (by decide) ?_
      refine lv_aload_n hx hb dX11_sayOne_63 rfl (lv_at hl 0 rfl) ?_
      refine lv_aload_n hx hb dX11_sayOne_64 rfl (lv_at hl 0 rfl) ?_
      refine rg_14 hx hb hts hin hown hK hH (hts (.fieldLink RX11 49 "IdlCallerModel" "truth" "[Z") (by decide +kernel)) dX11_sayOne_65 ?_
      refine lv_iload_n hx hb dX11_sayOne_68 rfl (lv_at hl 1 rfl) ?_
      obtain ⟨h16, hw⟩ := hw
      refine rl_14 hx hb hK hH h16 dX11_sayOne_69 ?_
      refine lv_if_eq (tgt := 79) hx hb dX11_sayOne_70 (by decide) (fun c17 => ?_) (fun c17 => ?_)
      · replace hw := hw.1 c17
        refine lv_ldc2 (v := 439721161573) hx hb hown (hts (.constantLong RX11 255 439721161573) (by decide +kernel)) dX11_sayOne_79 ?_
        exact b82   439721161573 M H locs ls hH (lv_sub hl [] rfl) hw
      · replace hw := hw.2 c17
        refine lv_ldc2 (v := 1953658213) hx hb hown (hts (.constantLong RX11 253 1953658213) (by decide +kernel)) dX11_sayOne_73 ?_
        refine lv_goto (tgt := 82) hx hb dX11_sayOne_76 (by decide) ?_
        exact b82   1953658213 M H locs ls hH (lv_sub hl [] rfl) hw
    by_cases c3 : rA M 13 a1.toNatClampNeg = 3
    · replace hw := hw.2.2.2.1 c3
      refine lv_tableIn (off := 82) (tgt := 88) hx hb dX11_sayOne_6 (by rw [c3]; decide) (by rw [c3]; decide) (by rw [c3]; rfl) (by decide) ?_
      refine lv_aload_n hx hb dX11_sayOne_88 rfl (lv_at hl 0 rfl) ?_
      refine lv_aload_n hx hb dX11_sayOne_89 rfl (lv_at hl 0 rfl) ?_
      refine rg_15 hx hb hts hin hown hK hH (hts (.fieldLink RX11 52 "IdlCallerModel" "numeric" "[D") (by decide +kernel)) dX11_sayOne_90 ?_
      refine lv_iload_n hx hb dX11_sayOne_93 rfl (lv_at hl 1 rfl) ?_
      obtain ⟨h18, hw⟩ := hw
      refine rl_15 hx hb hK hH h18 dX11_sayOne_94 ?_
      refine r_callv (va_runV (As := [.double (rD M 15 a1.toNatClampNeg)]) (rest := []) ⟨hx, hb, hml, hown, hts⟩ (tm_sayNumber l D kA h ad H.size M (rD M 15 a1.toNatClampNeg) _ hw) (cwV 1 hts gX11_sayOne_X11_sayNumber rfl rfl rfl (by decide +kernel) ⟨Nat.le_of_ble_eq_true rfl, Nat.le_of_ble_eq_true rfl⟩) (r_preV hK hH) rfl rfl hl.1 rfl (lv_room (Nat.le_of_ble_eq_true rfl)) dX11_sayOne_95 ⟨Nat.le_of_ble_eq_true rfl, Nat.le_of_ble_eq_true rfl⟩) hH hA (fun M19 H locs hw hH => ?_)
      refine lv_goto (tgt := 134) hx hb dX11_sayOne_98 (by decide) ?_
      exact b134    M19 H locs ls hH (lv_sub hl [] rfl) hw
    replace hw := hw.2.2.2.2 ⟨c0, c1, c2, c3⟩
    have d0 : (rA M 13 a1.toNatClampNeg).toInt ≠ 0 := fun q => c0 (Int32.toInt_inj.mp (q.trans (by decide)))
    have d1 : (rA M 13 a1.toNatClampNeg).toInt ≠ 1 := fun q => c1 (Int32.toInt_inj.mp (q.trans (by decide)))
    have d2 : (rA M 13 a1.toNatClampNeg).toInt ≠ 2 := fun q => c2 (Int32.toInt_inj.mp (q.trans (by decide)))
    have d3 : (rA M 13 a1.toNatClampNeg).toInt ≠ 3 := fun q => c3 (Int32.toInt_inj.mp (q.trans (by decide)))
    refine lv_tableOut (tgt := 101) hx hb dX11_sayOne_6 (by omega) (by decide) ?_
    refine lv_iconst (v := 0) hx hb dX11_sayOne_101 (by decide) ?_
    refine lv_istore_n (lv' := [(2, .int 0), (0, .ref h), (1, .int a1)]) hx hb dX11_sayOne_102 rfl hl (by decide) rfl (fun ls hl => ?_)
    obtain ⟨nn, hw⟩ := hw
    exact l103   nn a1 0 M H locs ls hH (lv_sub hl [1, 2, 0] rfl) hw
  exact hst M s.heap [] ls hH hl hw
def fm_sayAll_b73 (Q : RM → Prop) (k23 : Int32 → Int32 → RM → Prop) (v1 : Int32) (v2 : Int32) (M : RM) : Prop := (∀ x1 : Int32, x1 = v2 + 1 → k23 v1 x1 M)
def fm_sayAll_b49 (Q : RM → Prop) (k23 : Int32 → Int32 → RM → Prop) (v1 : Int32) (v2 : Int32) (v3 : Int32) (M : RM) : Prop := (vp_in v3 48 ∧ (((rA M 13 v3.toNatClampNeg) = 0 → fm_sayAll_b73 Q k23 v1 v2 M) ∧ (¬ (rA M 13 v3.toNatClampNeg) = 0 → (vp_in v3 48 ∧ (((rA M 13 v3.toNatClampNeg) = 1 → fm_sayAll_b73 Q k23 v1 v2 M) ∧ (¬ (rA M 13 v3.toNatClampNeg) = 1 → fm_sayOne v3 M (fun (M6 : RM) => fm_sayAll_b73 Q k23 v1 v2 M6)))))))
def fm_sayAll_c23 (Q : RM → Prop) (k23 : Int32 → Int32 → RM → Prop) (v1 : Int32) (v2 : Int32) (M : RM) : Prop := (vp_in v1 48 ∧ (((rA M 16 v1.toNatClampNeg) ≤ v2 → Q M) ∧ (¬ (rA M 16 v1.toNatClampNeg) ≤ v2 → fm_itemOf v1 v2 M (fun (r11 : Int32) (M10 : RM) => ((v2 ≤ 0 → fm_sayAll_b49 Q k23 v1 v2 r11 M10) ∧ (¬ v2 ≤ 0 → fm_say 44 M10 (fun (M13 : RM) => fm_sayAll_b49 Q k23 v1 v2 r11 M13)))))))
def fm_sayAll_l23 (Q : RM → Prop) : Nat → Int32 → Int32 → RM → Prop := lit (τ := Int32 → Int32 → RM → Prop) (fun _ _ _ => False) (fun k => fm_sayAll_c23 Q  k)
def fm_sayAll (a1 : Int32) (M : RM) (Q : RM → Prop) : Prop := (∀ M15 : RM, M15 = wI M 24 0 → (vp_in a1 48 ∧ (((rA M15 13 a1.toNatClampNeg) = 5 → (∃ nn : Nat, fm_sayAll_l23 Q  nn a1 0 M15)) ∧ (¬ (rA M15 13 a1.toNatClampNeg) = 5 → fm_sayOne a1 M15 (fun (M18 : RM) => Q M18)))))
abbrev rmX11_sayAll : Room := { frames := 3, cells := 0, slots := 0, locals := 75 }
set_option maxHeartbeats 4000000 in
set_option maxRecDepth 100000 in
theorem tm_sayAll (l : Launch) (D : va_G) (kA : Nat → ClassId) (h : Nat) (ad : Nat → Nat) (sz : Nat) (M : RM) (a1 : Int32) (Q : RM → Prop) (hw : fm_sayAll a1 M Q) : Met l yX11_sayAll wsX11_sayAll rmX11_sayAll (va_Pc [.ref h, .int a1] (rPc D kA h ad M sz)) (va_Qv Q (rB D kA h ad (rF kA h ad M sz)) (rF kA h ad M sz)) 0 0 (rF kA h ad M sz) := by
  refine Met.ofW (cc := cX11_sayAll) (maxL := 4) (ret := none) (by decide) rfl ?_
  intro p e s m args below meth c s₁ B hml hv
  obtain ⟨rfl, hsz, hP, hK, hD0⟩ := hv
  have hx := B.exec
  have hb := B.bytes
  have hr := B.returns
  have hts := atoms_spec (ws := wsX11_sayAll) B.pre
  have hown : s.vm.findClass RX11 = some m.cls := findClass_of_methodNamed B.named
  have hlocks : meth.locks = false := B.notSynchronized
  subst hsz
  have hH : rH D kA h ad (rF kA h ad M s.heap.size) s.heap M s.heap [] := ⟨hP, hD0.self, va_S.rf⟩
  have hA : ∀ q : Nat, s.heap.size ≤ q → rF kA h ad M s.heap.size q := fun q z => Or.inr z
  generalize rF kA h ad M s.heap.size = A at hH hA ⊢
  have hl := lv_entry ([.ref h, .int a1]) (n := 4) (Nat.le_of_ble_eq_true rfl)
  rw [lg_entry_eq]
  generalize (lg_sl ([.ref h, .int a1]) ++ List.replicate (4 - (lg_sl ([.ref h, .int a1])).length) Slot.unset).toArray = ls at hl ⊢
  generalize ([.ref h, .int a1] : List Value).toArray = args at hts ⊢
  have hl : lv_has ls 4 [(0, .ref h), (1, .int a1)] := hl
  have hin : ∀ w ∈ wsX110, w ∈ wsX11_sayAll := by decide +kernel
  have b73 : ∀ (k23 : Int32 → Int32 → RM → Prop) (hk23 : ∀ (v1 : Int32) (v2 : Int32) (M : RM) (H : Heap) (locs : List Loc) (ls : Array Slot), rH D kA h ad A s.heap M H locs → lv_has ls 4 [(0, .ref h), (1, .int v1), (2, .int v2)] → k23 v1 v2 M → W p l e (headSpec wsX11_sayAll rmX11_sayAll).room s m args below meth c H locs 0 0 (MQ below (va_Qv Q (rB D kA h ad A) A) args s 0 0 A) (F0 m 23 ls [])) (v1 : Int32) (v2 : Int32) (M : RM) (H : Heap) (locs : List Loc) (ls : Array Slot), rH D kA h ad A s.heap M H locs → lv_has ls 4 [(0, .ref h), (1, .int v1), (2, .int v2)] → fm_sayAll_b73 Q k23 v1 v2 M → W p l e (headSpec wsX11_sayAll rmX11_sayAll).room s m args below meth c H locs 0 0 (MQ below (va_Qv Q (rB D kA h ad A) A) args s 0 0 A) (F0 m 73 ls []) := by
    intro k23 hk23 v1 v2 M H locs ls hH hl hw
    unfold fm_sayAll_b73 at hw
    obtain ⟨x1, ex1⟩ : ∃ y : Int32, y = v2 + 1 := ⟨_, rfl⟩
    replace hw := hw x1 ex1
    refine lv_iinc (v := x1) (lv' := [(2, .int x1), (0, .ref h), (1, .int v1)]) hx hb dX11_sayAll_73 hl (k := 2) rfl (by rw [ex1]; rfl) (by decide) rfl (fun ls hl => ?_)
    refine lv_goto (tgt := 23) hx hb dX11_sayAll_76 (by decide) ?_
    exact hk23 v1 x1 M H locs ls hH (lv_sub hl [1, 2, 0] rfl) hw
  have b49 : ∀ (k23 : Int32 → Int32 → RM → Prop) (hk23 : ∀ (v1 : Int32) (v2 : Int32) (M : RM) (H : Heap) (locs : List Loc) (ls : Array Slot), rH D kA h ad A s.heap M H locs → lv_has ls 4 [(0, .ref h), (1, .int v1), (2, .int v2)] → k23 v1 v2 M → W p l e (headSpec wsX11_sayAll rmX11_sayAll).room s m args below meth c H locs 0 0 (MQ below (va_Qv Q (rB D kA h ad A) A) args s 0 0 A) (F0 m 23 ls [])) (v1 : Int32) (v2 : Int32) (v3 : Int32) (M : RM) (H : Heap) (locs : List Loc) (ls : Array Slot), rH D kA h ad A s.heap M H locs → lv_has ls 4 [(0, .ref h), (1, .int v1), (2, .int v2), (3, .int v3)] → fm_sayAll_b49 Q k23 v1 v2 v3 M → W p l e (headSpec wsX11_sayAll rmX11_sayAll).room s m args below meth c H locs 0 0 (MQ below (va_Qv Q (rB D kA h ad A) A) args s 0 0 A) (F0 m 49 ls []) := by
    intro k23 hk23 v1 v2 v3 M H locs ls hH hl hw
    unfold fm_sayAll_b49 at hw
    refine lv_aload_n hx hb dX11_sayAll_49 rfl (lv_at hl 0 rfl) ?_
    refine rg_13 hx hb hts hin hown hK hH (hts (.fieldLink RX11 46 "IdlCallerModel" "kindOf" "[I") (by decide +kernel)) dX11_sayAll_50 ?_
    refine lv_iload_n hx hb dX11_sayAll_53 rfl (lv_at hl 3 rfl) ?_
    obtain ⟨h2, hw⟩ := hw
    refine rl_13 hx hb hK hH h2 dX11_sayAll_54 ?_
    refine lv_if_eq (tgt := 73) hx hb dX11_sayAll_55 (by decide) (fun c3 => ?_) (fun c3 => ?_)
    · replace hw := hw.1 c3
      exact b73 _ hk23 v1 v2 M H locs ls hH (lv_sub hl [0, 1, 2] rfl) hw
    · replace hw := hw.2 c3
      refine lv_aload_n hx hb dX11_sayAll_58 rfl (lv_at hl 0 rfl) ?_
      refine rg_13 hx hb hts hin hown hK hH (hts (.fieldLink RX11 46 "IdlCallerModel" "kindOf" "[I") (by decide +kernel)) dX11_sayAll_59 ?_
      refine lv_iload_n hx hb dX11_sayAll_62 rfl (lv_at hl 3 rfl) ?_
      obtain ⟨h4, hw⟩ := hw
      refine rl_13 hx hb hK hH h4 dX11_sayAll_63 ?_
      refine lv_iconst (v := 1) hx hb dX11_sayAll_64 (by decide) ?_
      refine lv_icmp_eq (tgt := 73) hx hb dX11_sayAll_65 (by decide) (fun c5 => ?_) (fun c5 => ?_)
      · replace hw := hw.1 c5
        exact b73 _ hk23 v1 v2 M H locs ls hH (lv_sub hl [0, 1, 2] rfl) hw
      · replace hw := hw.2 c5
        refine lv_aload_n hx hb dX11_sayAll_68 rfl (lv_at hl 0 rfl) ?_
        refine lv_iload_n hx hb dX11_sayAll_69 rfl (lv_at hl 3 rfl) ?_
        refine r_callv (va_runV (As := [.int v3]) (rest := []) ⟨hx, hb, hml, hown, hts⟩ (tm_sayOne l D kA h ad H.size M v3 _ hw) (cwV 1 hts gX11_sayAll_X11_sayOne rfl rfl rfl (by decide +kernel) ⟨Nat.le_of_ble_eq_true rfl, Nat.le_of_ble_eq_true rfl⟩) (r_preV hK hH) rfl rfl hl.1 rfl (lv_room (Nat.le_of_ble_eq_true rfl)) dX11_sayAll_70 ⟨Nat.le_of_ble_eq_true rfl, Nat.le_of_ble_eq_true rfl⟩) hH hA (fun M6 H locs hw hH => ?_)
        exact b73 _ hk23 v1 v2 M6 H locs ls hH (lv_sub hl [0, 1, 2] rfl) hw
  have l23 : ∀ (nn : Nat) (v1 : Int32) (v2 : Int32) (M : RM) (H : Heap) (locs : List Loc) (ls : Array Slot), rH D kA h ad A s.heap M H locs → lv_has ls 4 [(0, .ref h), (1, .int v1), (2, .int v2)] → fm_sayAll_l23 Q  nn v1 v2 M → W p l e (headSpec wsX11_sayAll rmX11_sayAll).room s m args below meth c H locs 0 0 (MQ below (va_Qv Q (rB D kA h ad A) A) args s 0 0 A) (F0 m 23 ls []) := by
    intro   nn
    induction nn with
    | zero => intro v1 v2 M H locs ls hH hl hw; exact False.elim hw
    | succ nn hk23 =>
      intro v1 v2 M H locs ls hH hl hw
      replace hw : fm_sayAll_c23 Q  (fm_sayAll_l23 Q  nn) v1 v2 M := hw
      unfold fm_sayAll_c23 at hw
      refine lv_iload_n hx hb dX11_sayAll_23 rfl (lv_at hl 2 rfl) ?_
      refine lv_aload_n hx hb dX11_sayAll_24 rfl (lv_at hl 0 rfl) ?_
      refine rg_16 hx hb hts hin hown hK hH (hts (.fieldLink RX11 56 "IdlCallerModel" "size" "[I") (by decide +kernel)) dX11_sayAll_25 ?_
      refine lv_iload_n hx hb dX11_sayAll_28 rfl (lv_at hl 1 rfl) ?_
      obtain ⟨h8, hw⟩ := hw
      refine rl_16 hx hb hK hH h8 dX11_sayAll_29 ?_
      refine lv_icmp_ge (tgt := 79) hx hb dX11_sayAll_30 (by decide) (fun c9 => ?_) (fun c9 => ?_)
      · replace hw := hw.1 c9
        exact r_retv hx hb hr hlocks hK hH hw dX11_sayAll_79
      · replace hw := hw.2 c9
        refine lv_iload_n hx hb dX11_sayAll_33 rfl (lv_at hl 1 rfl) ?_
        refine lv_iload_n hx hb dX11_sayAll_34 rfl (lv_at hl 2 rfl) ?_
        refine r_calli (va_runS (As := [.int v1, .int v2]) (rest := []) ⟨hx, hb, hml, hown, hts⟩ (tm_itemOf l D kA h ad H.size M v1 v2 _ hw) (va_cwS 2 hts gX11_sayAll_X11_itemOf rfl rfl rfl (by decide +kernel) ⟨Nat.le_of_ble_eq_true rfl, Nat.le_of_ble_eq_true rfl⟩) (r_preS hK hH) rfl rfl hl.1 rfl (lv_room (Nat.le_of_ble_eq_true rfl)) dX11_sayAll_35 ⟨Nat.le_of_ble_eq_true rfl, Nat.le_of_ble_eq_true rfl⟩) hH hA (fun r11 M10 H locs hw hH => ?_)
        refine lv_istore_n (lv' := [(3, .int r11), (0, .ref h), (1, .int v1), (2, .int v2)]) hx hb dX11_sayAll_38 rfl hl (by decide) rfl (fun ls hl => ?_)
        refine lv_iload_n hx hb dX11_sayAll_39 rfl (lv_at hl 3 rfl) ?_
        refine lv_if_le (tgt := 49) hx hb dX11_sayAll_40 (by decide) (fun c12 => ?_) (fun c12 => ?_)
        · replace hw := hw.1 c12
          exact b49 _ hk23 v1 v2 r11 M10 H locs ls hH (lv_sub hl [1, 2, 3, 0] rfl) hw
        · replace hw := hw.2 c12
          refine lv_aload_n hx hb dX11_sayAll_43 rfl (lv_at hl 1 rfl) ?_
          refine lv_bipush (v := 44) hx hb dX11_sayAll_44 (by decide) ?_
          refine r_callv (va_runV (As := [.int 44]) (rest := []) ⟨hx, hb, hml, hown, hts⟩ (tm_say l D kA h ad H.size M10 44 _ hw) (cwV 1 hts gX11_sayAll_X11_say rfl rfl rfl (by decide +kernel) ⟨Nat.le_of_ble_eq_true rfl, Nat.le_of_ble_eq_true rfl⟩) (r_preV hK hH) rfl rfl hl.1 rfl (lv_room (Nat.le_of_ble_eq_true rfl)) dX11_sayAll_46 ⟨Nat.le_of_ble_eq_true rfl, Nat.le_of_ble_eq_true rfl⟩) hH hA (fun M13 H locs hw hH => ?_)
          exact b49 _ hk23 v1 v2 r11 M13 H locs ls hH (lv_sub hl [1, 2, 3, 0] rfl) hw
  clear hP hD0
  unfold fm_sayAll at hw
  have hst : ∀ (M : RM) (H : Heap) (locs : List Loc) (ls : Array Slot), rH D kA h ad A s.heap M H locs → lv_has ls 4 [(0, .ref h), (1, .int a1)] → (∀ M15 : RM, M15 = wI M 24 0 → (vp_in a1 48 ∧ (((rA M15 13 a1.toNatClampNeg) = 5 → (∃ nn : Nat, fm_sayAll_l23 Q  nn a1 0 M15)) ∧ (¬ (rA M15 13 a1.toNatClampNeg) = 5 → fm_sayOne a1 M15 (fun (M18 : RM) => Q M18))))) → W p l e (headSpec wsX11_sayAll rmX11_sayAll).room s m args below meth c H locs 0 0 (MQ below (va_Qv Q (rB D kA h ad A) A) args s 0 0 A) (F0 m 0 ls []) := by
    intro M H locs ls hH hl hw
    refine lv_aload_n hx hb dX11_sayAll_0 rfl (lv_at hl 0 rfl) ?_
    refine lv_iconst (v := 0) hx hb dX11_sayAll_1 (by decide) ?_
    refine rp_24 hx hb hts hin hown hK hH (hts (.fieldLink RX11 227 "IdlCallerModel" "saidSize" "I") (by decide +kernel)) dX11_sayAll_2 (fun M15 H locs eM15 hH => ?_)
    replace hw := hw M15 eM15
    refine lv_aload_n hx hb dX11_sayAll_5 rfl (lv_at hl 0 rfl) ?_
    refine rg_13 hx hb hts hin hown hK hH (hts (.fieldLink RX11 46 "IdlCallerModel" "kindOf" "[I") (by decide +kernel)) dX11_sayAll_6 ?_
    refine lv_iload_n hx hb dX11_sayAll_9 rfl (lv_at hl 1 rfl) ?_
    obtain ⟨h16, hw⟩ := hw
    refine rl_13 hx hb hK hH h16 dX11_sayAll_10 ?_
    refine lv_iconst (v := 5) hx hb dX11_sayAll_11 (by decide) ?_
    refine lv_icmp_eq (tgt := 21) hx hb dX11_sayAll_12 (by decide) (fun c17 => ?_) (fun c17 => ?_)
    · replace hw := hw.1 c17
      refine lv_iconst (v := 0) hx hb dX11_sayAll_21 (by decide) ?_
      refine lv_istore_n (lv' := [(2, .int 0), (0, .ref h), (1, .int a1)]) hx hb dX11_sayAll_22 rfl hl (by decide) rfl (fun ls hl => ?_)
      obtain ⟨nn, hw⟩ := hw
      exact l23   nn a1 0 M15 H locs ls hH (lv_sub hl [1, 2, 0] rfl) hw
    · replace hw := hw.2 c17
      refine lv_aload_n hx hb dX11_sayAll_15 rfl (lv_at hl 0 rfl) ?_
      refine lv_iload_n hx hb dX11_sayAll_16 rfl (lv_at hl 1 rfl) ?_
      refine r_callv (va_runV (As := [.int a1]) (rest := []) ⟨hx, hb, hml, hown, hts⟩ (tm_sayOne l D kA h ad H.size M15 a1 _ hw) (cwV 1 hts gX11_sayAll_X11_sayOne rfl rfl rfl (by decide +kernel) ⟨Nat.le_of_ble_eq_true rfl, Nat.le_of_ble_eq_true rfl⟩) (r_preV hK hH) rfl rfl hl.1 rfl (lv_room (Nat.le_of_ble_eq_true rfl)) dX11_sayAll_17 ⟨Nat.le_of_ble_eq_true rfl, Nat.le_of_ble_eq_true rfl⟩) hH hA (fun M18 H locs hw hH => ?_)
      exact r_retv hx hb hr hlocks hK hH hw dX11_sayAll_20
  exact hst M s.heap [] ls hH hl hw
def fm_digitOf_b65 (Q : Int32 → RM → Prop) (s0 : Int32) (M : RM) : Prop := Q s0 M
def fm_digitOf_b63 (Q : Int32 → RM → Prop) (M : RM) : Prop := fm_digitOf_b65 Q  99 M
def fm_digitOf_b41 (Q : Int32 → RM → Prop) (v0 : Int32) (M : RM) : Prop := ((v0 < 65 → fm_digitOf_b63 Q   M) ∧ (¬ v0 < 65 → ((70 < v0 → fm_digitOf_b63 Q   M) ∧ (¬ 70 < v0 → fm_digitOf_b65 Q  ((v0 - 65) + 10) M))))
def fm_digitOf_b19 (Q : Int32 → RM → Prop) (v0 : Int32) (M : RM) : Prop := ((v0 < 97 → fm_digitOf_b41 Q  v0 M) ∧ (¬ v0 < 97 → ((102 < v0 → fm_digitOf_b41 Q  v0 M) ∧ (¬ 102 < v0 → fm_digitOf_b65 Q  ((v0 - 97) + 10) M))))
def fm_digitOf (a1 : Int32) (M : RM) (Q : Int32 → RM → Prop) : Prop := ((a1 < 48 → fm_digitOf_b19 Q  a1 M) ∧ (¬ a1 < 48 → ((57 < a1 → fm_digitOf_b19 Q  a1 M) ∧ (¬ 57 < a1 → fm_digitOf_b65 Q  (a1 - 48) M))))
abbrev rmX11_digitOf : Room := { frames := 0, cells := 0, slots := 0, locals := 0 }
set_option maxHeartbeats 4000000 in
set_option maxRecDepth 100000 in
theorem tm_digitOf (l : Launch) (D : va_G) (kA : Nat → ClassId) (h : Nat) (ad : Nat → Nat) (sz : Nat) (M : RM) (a1 : Int32) (Q : Int32 → RM → Prop) (hw : fm_digitOf a1 M Q) : Met l yX11_digitOf wsX11_digitOf rmX11_digitOf (va_Pc [.int a1] (rPc D kA h ad M sz)) (va_Qi Q (rB D kA h ad (rF kA h ad M sz)) (rF kA h ad M sz)) 0 0 (rF kA h ad M sz) := by
  refine Met.ofW (cc := cX11_digitOf) (maxL := 1) (ret := (some .int)) (by decide) rfl ?_
  intro p e s m args below meth c s₁ B hml hv
  obtain ⟨rfl, hsz, hP, hK, hD0⟩ := hv
  have hx := B.exec
  have hb := B.bytes
  have hr := B.returns
  have hts := atoms_spec (ws := wsX11_digitOf) B.pre
  have hown : s.vm.findClass RX11 = some m.cls := findClass_of_methodNamed B.named
  have hlocks : meth.locks = false := B.notSynchronized
  subst hsz
  have hH : rH D kA h ad (rF kA h ad M s.heap.size) s.heap M s.heap [] := ⟨hP, hD0.self, va_S.rf⟩
  have hA : ∀ q : Nat, s.heap.size ≤ q → rF kA h ad M s.heap.size q := fun q z => Or.inr z
  generalize rF kA h ad M s.heap.size = A at hH hA ⊢
  have hl := lv_entry ([.int a1]) (n := 1) (Nat.le_of_ble_eq_true rfl)
  rw [lg_entry_eq]
  generalize (lg_sl ([.int a1]) ++ List.replicate (1 - (lg_sl ([.int a1])).length) Slot.unset).toArray = ls at hl ⊢
  generalize ([.int a1] : List Value).toArray = args at hts ⊢
  have hl : lv_has ls 1 [(0, .int a1)] := hl
  have b65 : ∀ (s0 : Int32) (M : RM) (H : Heap) (locs : List Loc) (ls : Array Slot), rH D kA h ad A s.heap M H locs → lv_has ls 1 [] → fm_digitOf_b65 Q  s0 M → W p l e (headSpec wsX11_digitOf rmX11_digitOf).room s m args below meth c H locs 0 0 (MQ below (va_Qi Q (rB D kA h ad A) A) args s 0 0 A) (F0 m 65 ls [.int s0]) := by
    intro   s0 M H locs ls hH hl hw
    unfold fm_digitOf_b65 at hw
    exact r_reti hx hb hr hlocks hK hH hw dX11_digitOf_65
  have b63 : ∀ (M : RM) (H : Heap) (locs : List Loc) (ls : Array Slot), rH D kA h ad A s.heap M H locs → lv_has ls 1 [] → fm_digitOf_b63 Q   M → W p l e (headSpec wsX11_digitOf rmX11_digitOf).room s m args below meth c H locs 0 0 (MQ below (va_Qi Q (rB D kA h ad A) A) args s 0 0 A) (F0 m 63 ls []) := by
    intro    M H locs ls hH hl hw
    unfold fm_digitOf_b63 at hw
    refine lv_bipush (v := 99) hx hb dX11_digitOf_63 (by decide) ?_
    exact b65   99 M H locs ls hH (lv_sub hl [] rfl) hw
  have b41 : ∀ (v0 : Int32) (M : RM) (H : Heap) (locs : List Loc) (ls : Array Slot), rH D kA h ad A s.heap M H locs → lv_has ls 1 [(0, .int v0)] → fm_digitOf_b41 Q  v0 M → W p l e (headSpec wsX11_digitOf rmX11_digitOf).room s m args below meth c H locs 0 0 (MQ below (va_Qi Q (rB D kA h ad A) A) args s 0 0 A) (F0 m 41 ls []) := by
    intro   v0 M H locs ls hH hl hw
    unfold fm_digitOf_b41 at hw
    refine lv_iload_n hx hb dX11_digitOf_41 rfl (lv_at hl 0 rfl) ?_
    refine lv_bipush (v := 65) hx hb dX11_digitOf_42 (by decide) ?_
    refine lv_icmp_lt (tgt := 63) hx hb dX11_digitOf_44 (by decide) (fun c1 => ?_) (fun c1 => ?_)
    · replace hw := hw.1 c1
      exact b63    M H locs ls hH (lv_sub hl [] rfl) hw
    · replace hw := hw.2 c1
      refine lv_iload_n hx hb dX11_digitOf_47 rfl (lv_at hl 0 rfl) ?_
      refine lv_bipush (v := 70) hx hb dX11_digitOf_48 (by decide) ?_
      refine lv_icmp_gt (tgt := 63) hx hb dX11_digitOf_50 (by decide) (fun c2 => ?_) (fun c2 => ?_)
      · replace hw := hw.1 c2
        exact b63    M H locs ls hH (lv_sub hl [] rfl) hw
      · replace hw := hw.2 c2
        refine lv_iload_n hx hb dX11_digitOf_53 rfl (lv_at hl 0 rfl) ?_
        refine lv_bipush (v := 65) hx hb dX11_digitOf_54 (by decide) ?_
        refine lv_isub hx hb dX11_digitOf_56 ?_
        refine lv_bipush (v := 10) hx hb dX11_digitOf_57 (by decide) ?_
        refine lv_iadd hx hb dX11_digitOf_59 ?_
        refine lv_goto (tgt := 65) hx hb dX11_digitOf_60 (by decide) ?_
        exact b65   ((v0 - 65) + 10) M H locs ls hH (lv_sub hl [] rfl) hw
  have b19 : ∀ (v0 : Int32) (M : RM) (H : Heap) (locs : List Loc) (ls : Array Slot), rH D kA h ad A s.heap M H locs → lv_has ls 1 [(0, .int v0)] → fm_digitOf_b19 Q  v0 M → W p l e (headSpec wsX11_digitOf rmX11_digitOf).room s m args below meth c H locs 0 0 (MQ below (va_Qi Q (rB D kA h ad A) A) args s 0 0 A) (F0 m 19 ls []) := by
    intro   v0 M H locs ls hH hl hw
    unfold fm_digitOf_b19 at hw
    refine lv_iload_n hx hb dX11_digitOf_19 rfl (lv_at hl 0 rfl) ?_
    refine lv_bipush (v := 97) hx hb dX11_digitOf_20 (by decide) ?_
    refine lv_icmp_lt (tgt := 41) hx hb dX11_digitOf_22 (by decide) (fun c3 => ?_) (fun c3 => ?_)
    · replace hw := hw.1 c3
      exact b41   v0 M H locs ls hH (lv_sub hl [0] rfl) hw
    · replace hw := hw.2 c3
      refine lv_iload_n hx hb dX11_digitOf_25 rfl (lv_at hl 0 rfl) ?_
      refine lv_bipush (v := 102) hx hb dX11_digitOf_26 (by decide) ?_
      refine lv_icmp_gt (tgt := 41) hx hb dX11_digitOf_28 (by decide) (fun c4 => ?_) (fun c4 => ?_)
      · replace hw := hw.1 c4
        exact b41   v0 M H locs ls hH (lv_sub hl [0] rfl) hw
      · replace hw := hw.2 c4
        refine lv_iload_n hx hb dX11_digitOf_31 rfl (lv_at hl 0 rfl) ?_
        refine lv_bipush (v := 97) hx hb dX11_digitOf_32 (by decide) ?_
        refine lv_isub hx hb dX11_digitOf_34 ?_
        refine lv_bipush (v := 10) hx hb dX11_digitOf_35 (by decide) ?_
        refine lv_iadd hx hb dX11_digitOf_37 ?_
        refine lv_goto (tgt := 65) hx hb dX11_digitOf_38 (by decide) ?_
        exact b65   ((v0 - 97) + 10) M H locs ls hH (lv_sub hl [] rfl) hw
  clear hP hD0
  unfold fm_digitOf at hw
  have hst : ∀ (M : RM) (H : Heap) (locs : List Loc) (ls : Array Slot), rH D kA h ad A s.heap M H locs → lv_has ls 1 [(0, .int a1)] → ((a1 < 48 → fm_digitOf_b19 Q  a1 M) ∧ (¬ a1 < 48 → ((57 < a1 → fm_digitOf_b19 Q  a1 M) ∧ (¬ 57 < a1 → fm_digitOf_b65 Q  (a1 - 48) M)))) → W p l e (headSpec wsX11_digitOf rmX11_digitOf).room s m args below meth c H locs 0 0 (MQ below (va_Qi Q (rB D kA h ad A) A) args s 0 0 A) (F0 m 0 ls []) := by
    intro M H locs ls hH hl hw
    refine lv_iload_n hx hb dX11_digitOf_0 rfl (lv_at hl 0 rfl) ?_
    refine lv_bipush (v := 48) hx hb dX11_digitOf_1 (by decide) ?_
    refine lv_icmp_lt (tgt := 19) hx hb dX11_digitOf_3 (by decide) (fun c5 => ?_) (fun c5 => ?_)
    · replace hw := hw.1 c5
      exact b19   a1 M H locs ls hH (lv_sub hl [0] rfl) hw
    · replace hw := hw.2 c5
      refine lv_iload_n hx hb dX11_digitOf_6 rfl (lv_at hl 0 rfl) ?_
      refine lv_bipush (v := 57) hx hb dX11_digitOf_7 (by decide) ?_
      refine lv_icmp_gt (tgt := 19) hx hb dX11_digitOf_9 (by decide) (fun c6 => ?_) (fun c6 => ?_)
      · replace hw := hw.1 c6
        exact b19   a1 M H locs ls hH (lv_sub hl [0] rfl) hw
      · replace hw := hw.2 c6
        refine lv_iload_n hx hb dX11_digitOf_12 rfl (lv_at hl 0 rfl) ?_
        refine lv_bipush (v := 48) hx hb dX11_digitOf_13 (by decide) ?_
        refine lv_isub hx hb dX11_digitOf_15 ?_
        refine lv_goto (tgt := 65) hx hb dX11_digitOf_16 (by decide) ?_
        exact b65   (a1 - 48) M H locs ls hH (lv_sub hl [] rfl) hw
  exact hst M s.heap [] ls hH hl hw
def fm_hexadecimal_b96 (Q : UInt64 → RM → Prop) (s0 : UInt64) (M : RM) : Prop := Q s0 M
def fm_hexadecimal_b83 (Q : UInt64 → RM → Prop) (v3 : Int64) (M : RM) : Prop := (((rI M 25) = 0 → fm_hexadecimal_b96 Q  FP.dconst0 M) ∧ (¬ (rI M 25) = 0 → fm_hexadecimal_b96 Q  (FP.l2d v3) M))
def fm_hexadecimal_b56 (Q : UInt64 → RM → Prop) (k22 : Int32 → Int64 → Int32 → RM → Prop) (v2 : Int32) (v3 : Int64) (v5 : Int32) (s0 : Int32) (M : RM) : Prop := (nZ s0 ∧ (∀ M3 : RM, M3 = wI M 25 s0 → (vp_in v5 100 ∧ fm_digitOf (rA M3 23 v5.toNatClampNeg) M3 (fun (r6 : Int32) (M5 : RM) => (∀ x7 : Int64, x7 = (16 * v3) + r6.toInt64 → (∀ x8 : Int32, x8 = v5 + 1 → k22 v2 x7 x8 M5))))))
def fm_hexadecimal_c22 (Q : UInt64 → RM → Prop) (k22 : Int32 → Int64 → Int32 → RM → Prop) (v2 : Int32) (v3 : Int64) (v5 : Int32) (M : RM) : Prop := ((v2 ≤ v5 → fm_hexadecimal_b83 Q  v3 M) ∧ (¬ v2 ≤ v5 → (((rI M 25) = 0 → fm_hexadecimal_b83 Q  v3 M) ∧ (¬ (rI M 25) = 0 → (vp_in v5 100 ∧ fm_digitOf (rA M 23 v5.toNatClampNeg) M (fun (r13 : Int32) (M12 : RM) => ((16 ≤ r13 → fm_hexadecimal_b56 Q k22 v2 v3 v5 0 M12) ∧ (¬ 16 ≤ r13 → fm_hexadecimal_b56 Q k22 v2 v3 v5 1 M12))))))))
def fm_hexadecimal_l22 (Q : UInt64 → RM → Prop) : Nat → Int32 → Int64 → Int32 → RM → Prop := lit (τ := Int32 → Int64 → Int32 → RM → Prop) (fun _ _ _ _ => False) (fun k => fm_hexadecimal_c22 Q  k)
def fm_hexadecimal_b16 (Q : UInt64 → RM → Prop) (v1 : Int32) (v2 : Int32) (v3 : Int64) (s0 : Int32) (M : RM) : Prop := (nZ s0 ∧ (∀ M16 : RM, M16 = wI M 25 s0 → (∃ nn : Nat, fm_hexadecimal_l22 Q  nn v2 v3 v1 M16)))
def fm_hexadecimal (a1 : Int32) (a2 : Int32) (M : RM) (Q : UInt64 → RM → Prop) : Prop := ((8 < (a2 - a1) → fm_hexadecimal_b16 Q  a1 a2 0 0 M) ∧ (¬ 8 < (a2 - a1) → fm_hexadecimal_b16 Q  a1 a2 0 1 M))
abbrev rmX11_hexadecimal : Room := { frames := 1, cells := 0, slots := 0, locals := 20 }
set_option maxHeartbeats 4000000 in
set_option maxRecDepth 100000 in
theorem tm_hexadecimal (l : Launch) (D : va_G) (kA : Nat → ClassId) (h : Nat) (ad : Nat → Nat) (sz : Nat) (M : RM) (a1 : Int32) (a2 : Int32) (Q : UInt64 → RM → Prop) (hw : fm_hexadecimal a1 a2 M Q) : Met l yX11_hexadecimal wsX11_hexadecimal rmX11_hexadecimal (va_Pc [.ref h, .int a1, .int a2] (rPc D kA h ad M sz)) (va_Qd Q (rB D kA h ad (rF kA h ad M sz)) (rF kA h ad M sz)) 0 0 (rF kA h ad M sz) := by
  refine Met.ofW (cc := cX11_hexadecimal) (maxL := 6) (ret := (some .double)) (by decide) rfl ?_
  intro p e s m args below meth c s₁ B hml hv
  obtain ⟨rfl, hsz, hP, hK, hD0⟩ := hv
  have hx := B.exec
  have hb := B.bytes
  have hr := B.returns
  have hts := atoms_spec (ws := wsX11_hexadecimal) B.pre
  have hown : s.vm.findClass RX11 = some m.cls := findClass_of_methodNamed B.named
  have hlocks : meth.locks = false := B.notSynchronized
  subst hsz
  have hH : rH D kA h ad (rF kA h ad M s.heap.size) s.heap M s.heap [] := ⟨hP, hD0.self, va_S.rf⟩
  have hA : ∀ q : Nat, s.heap.size ≤ q → rF kA h ad M s.heap.size q := fun q z => Or.inr z
  generalize rF kA h ad M s.heap.size = A at hH hA ⊢
  have hl := lv_entry ([.ref h, .int a1, .int a2]) (n := 6) (Nat.le_of_ble_eq_true rfl)
  rw [lg_entry_eq]
  generalize (lg_sl ([.ref h, .int a1, .int a2]) ++ List.replicate (6 - (lg_sl ([.ref h, .int a1, .int a2])).length) Slot.unset).toArray = ls at hl ⊢
  generalize ([.ref h, .int a1, .int a2] : List Value).toArray = args at hts ⊢
  have hl : lv_has ls 6 [(0, .ref h), (1, .int a1), (2, .int a2)] := hl
  have hin : ∀ w ∈ wsX110, w ∈ wsX11_hexadecimal := by decide +kernel
  have b96 : ∀ (s0 : UInt64) (M : RM) (H : Heap) (locs : List Loc) (ls : Array Slot), rH D kA h ad A s.heap M H locs → lv_has ls 6 [] → fm_hexadecimal_b96 Q  s0 M → W p l e (headSpec wsX11_hexadecimal rmX11_hexadecimal).room s m args below meth c H locs 0 0 (MQ below (va_Qd Q (rB D kA h ad A) A) args s 0 0 A) (F0 m 96 ls [.double s0]) := by
    intro   s0 M H locs ls hH hl hw
    unfold fm_hexadecimal_b96 at hw
    exact r_retd hx hb hr hlocks hK hH hw dX11_hexadecimal_96
  have b83 : ∀ (v3 : Int64) (M : RM) (H : Heap) (locs : List Loc) (ls : Array Slot), rH D kA h ad A s.heap M H locs → lv_has ls 6 [(0, .ref h), (3, .long v3)] → fm_hexadecimal_b83 Q  v3 M → W p l e (headSpec wsX11_hexadecimal rmX11_hexadecimal).room s m args below meth c H locs 0 0 (MQ below (va_Qd Q (rB D kA h ad A) A) args s 0 0 A) (F0 m 83 ls []) := by
    intro   v3 M H locs ls hH hl hw
    unfold fm_hexadecimal_b83 at hw
    refine lv_aload_n hx hb dX11_hexadecimal_83 rfl (lv_at hl 0 rfl) ?_
    refine rg_25 hx hb hts hin hown hK hH (hts (.fieldLink RX11 264 "IdlCallerModel" "hasNumber" "Z") (by decide +kernel)) dX11_hexadecimal_84 ?_
    refine lv_if_eq (tgt := 95) hx hb dX11_hexadecimal_87 (by decide) (fun c1 => ?_) (fun c1 => ?_)
    · replace hw := hw.1 c1
      refine lv_dconst0 hx hb dX11_hexadecimal_95 ?_
      exact b96   FP.dconst0 M H locs ls hH (lv_sub hl [] rfl) hw
    · replace hw := hw.2 c1
      refine lv_lload_n hx hb dX11_hexadecimal_90 rfl (lv_at hl 1 rfl) ?_
      refine lv_l2d hx hb dX11_hexadecimal_91 ?_
      refine lv_goto (tgt := 96) hx hb dX11_hexadecimal_92 (by decide) ?_
      exact b96   (FP.l2d v3) M H locs ls hH (lv_sub hl [] rfl) hw
  have b56 : ∀ (k22 : Int32 → Int64 → Int32 → RM → Prop) (hk22 : ∀ (v2 : Int32) (v3 : Int64) (v5 : Int32) (M : RM) (H : Heap) (locs : List Loc) (ls : Array Slot), rH D kA h ad A s.heap M H locs → lv_has ls 6 [(0, .ref h), (2, .int v2), (3, .long v3), (5, .int v5)] → k22 v2 v3 v5 M → W p l e (headSpec wsX11_hexadecimal rmX11_hexadecimal).room s m args below meth c H locs 0 0 (MQ below (va_Qd Q (rB D kA h ad A) A) args s 0 0 A) (F0 m 22 ls [])) (v2 : Int32) (v3 : Int64) (v5 : Int32) (s0 : Int32) (M : RM) (H : Heap) (locs : List Loc) (ls : Array Slot), rH D kA h ad A s.heap M H locs → lv_has ls 6 [(0, .ref h), (2, .int v2), (3, .long v3), (5, .int v5)] → fm_hexadecimal_b56 Q k22 v2 v3 v5 s0 M → W p l e (headSpec wsX11_hexadecimal rmX11_hexadecimal).room s m args below meth c H locs 0 0 (MQ below (va_Qd Q (rB D kA h ad A) A) args s 0 0 A) (F0 m 56 ls [.int s0, .ref h]) := by
    intro k22 hk22 v2 v3 v5 s0 M H locs ls hH hl hw
    unfold fm_hexadecimal_b56 at hw
    obtain ⟨h2, hw⟩ := hw
    refine rp_25 hx hb hts hin hown hK hH (hts (.fieldLink RX11 264 "IdlCallerModel" "hasNumber" "Z") (by decide +kernel)) h2 dX11_hexadecimal_56 (fun M3 H locs eM3 hH => ?_)
    replace hw := hw M3 eM3
    refine lv_ldc2 (v := 16) hx hb hown (hts (.constantLong RX11 275 16) (by decide +kernel)) dX11_hexadecimal_59 ?_
    refine lv_lload_n hx hb dX11_hexadecimal_62 rfl (lv_at hl 2 rfl) ?_
    refine lv_lmul hx hb dX11_hexadecimal_63 ?_
    refine lv_aload_n hx hb dX11_hexadecimal_64 rfl (lv_at hl 0 rfl) ?_
    refine rg_23 hx hb hts hin hown hK hH (hts (.fieldLink RX11 75 "IdlCallerModel" "said" "[C") (by decide +kernel)) dX11_hexadecimal_65 ?_
    refine lv_iload hx hb dX11_hexadecimal_68 (lv_at hl 3 rfl) ?_
    obtain ⟨h4, hw⟩ := hw
    refine rl_23 hx hb hK hH h4 dX11_hexadecimal_70 ?_
    refine r_calli (va_runS (As := [.int (rA M3 23 v5.toNatClampNeg)]) (rest := [.long (16 * v3)]) ⟨hx, hb, hml, hown, hts⟩ (tm_digitOf l D kA h ad H.size M3 (rA M3 23 v5.toNatClampNeg) _ hw) (va_cwS 1 hts gX11_hexadecimal_X11_digitOf rfl rfl rfl (by decide +kernel) ⟨Nat.le_of_ble_eq_true rfl, Nat.le_of_ble_eq_true rfl⟩) (r_preS hK hH) rfl rfl hl.1 rfl (lv_room (Nat.le_of_ble_eq_true rfl)) dX11_hexadecimal_71 ⟨Nat.le_of_ble_eq_true rfl, Nat.le_of_ble_eq_true rfl⟩) hH hA (fun r6 M5 H locs hw hH => ?_)
    refine lv_i2l hx hb dX11_hexadecimal_74 rfl ?_
    refine lv_ladd hx hb dX11_hexadecimal_75 ?_
    refine lv_topl (fun x7 ex7 => ?_)
    replace hw := hw x7 ex7
    refine lv_lstore_n (lv' := [(3, .long x7), (0, .ref h), (2, .int v2), (5, .int v5)]) hx hb dX11_hexadecimal_76 rfl hl (by decide) rfl (fun ls hl => ?_)
    obtain ⟨x8, ex8⟩ : ∃ y : Int32, y = v5 + 1 := ⟨_, rfl⟩
    replace hw := hw x8 ex8
    refine lv_iinc (v := x8) (lv' := [(5, .int x8), (3, .long x7), (0, .ref h), (2, .int v2)]) hx hb dX11_hexadecimal_77 hl (k := 3) rfl (by rw [ex8]; rfl) (by decide) rfl (fun ls hl => ?_)
    refine lv_goto (tgt := 22) hx hb dX11_hexadecimal_80 (by decide) ?_
    exact hk22 v2 x7 x8 M5 H locs ls hH (lv_sub hl [2, 3, 1, 0] rfl) hw
  have l22 : ∀ (nn : Nat) (v2 : Int32) (v3 : Int64) (v5 : Int32) (M : RM) (H : Heap) (locs : List Loc) (ls : Array Slot), rH D kA h ad A s.heap M H locs → lv_has ls 6 [(0, .ref h), (2, .int v2), (3, .long v3), (5, .int v5)] → fm_hexadecimal_l22 Q  nn v2 v3 v5 M → W p l e (headSpec wsX11_hexadecimal rmX11_hexadecimal).room s m args below meth c H locs 0 0 (MQ below (va_Qd Q (rB D kA h ad A) A) args s 0 0 A) (F0 m 22 ls []) := by
    intro   nn
    induction nn with
    | zero => intro v2 v3 v5 M H locs ls hH hl hw; exact False.elim hw
    | succ nn hk22 =>
      intro v2 v3 v5 M H locs ls hH hl hw
      replace hw : fm_hexadecimal_c22 Q  (fm_hexadecimal_l22 Q  nn) v2 v3 v5 M := hw
      unfold fm_hexadecimal_c22 at hw
      refine lv_iload hx hb dX11_hexadecimal_22 (lv_at hl 3 rfl) ?_
      refine lv_iload_n hx hb dX11_hexadecimal_24 rfl (lv_at hl 1 rfl) ?_
      refine lv_icmp_ge (tgt := 83) hx hb dX11_hexadecimal_25 (by decide) (fun c9 => ?_) (fun c9 => ?_)
      · replace hw := hw.1 c9
        exact b83   v3 M H locs ls hH (lv_sub hl [0, 2] rfl) hw
      · replace hw := hw.2 c9
        refine lv_aload_n hx hb dX11_hexadecimal_28 rfl (lv_at hl 0 rfl) ?_
        refine rg_25 hx hb hts hin hown hK hH (hts (.fieldLink RX11 264 "IdlCallerModel" "hasNumber" "Z") (by decide +kernel)) dX11_hexadecimal_29 ?_
        refine lv_if_eq (tgt := 83) hx hb dX11_hexadecimal_32 (by decide) (fun c10 => ?_) (fun c10 => ?_)
        · replace hw := hw.1 c10
          exact b83   v3 M H locs ls hH (lv_sub hl [0, 2] rfl) hw
        · replace hw := hw.2 c10
          refine lv_aload_n hx hb dX11_hexadecimal_35 rfl (lv_at hl 0 rfl) ?_
          refine lv_aload_n hx hb dX11_hexadecimal_36 rfl (lv_at hl 0 rfl) ?_
          refine rg_23 hx hb hts hin hown hK hH (hts (.fieldLink RX11 75 "IdlCallerModel" "said" "[C") (by decide +kernel)) dX11_hexadecimal_37 ?_
          refine lv_iload hx hb dX11_hexadecimal_40 (lv_at hl 3 rfl) ?_
          obtain ⟨h11, hw⟩ := hw
          refine rl_23 hx hb hK hH h11 dX11_hexadecimal_42 ?_
          refine r_calli (va_runS (As := [.int (rA M 23 v5.toNatClampNeg)]) (rest := [.ref h]) ⟨hx, hb, hml, hown, hts⟩ (tm_digitOf l D kA h ad H.size M (rA M 23 v5.toNatClampNeg) _ hw) (va_cwS 1 hts gX11_hexadecimal_X11_digitOf rfl rfl rfl (by decide +kernel) ⟨Nat.le_of_ble_eq_true rfl, Nat.le_of_ble_eq_true rfl⟩) (r_preS hK hH) rfl rfl hl.1 rfl (lv_room (Nat.le_of_ble_eq_true rfl)) dX11_hexadecimal_43 ⟨Nat.le_of_ble_eq_true rfl, Nat.le_of_ble_eq_true rfl⟩) hH hA (fun r13 M12 H locs hw hH => ?_)
          refine lv_bipush (v := 16) hx hb dX11_hexadecimal_46 (by decide) ?_
          refine lv_icmp_ge (tgt := 55) hx hb dX11_hexadecimal_48 (by decide) (fun c14 => ?_) (fun c14 => ?_)
          · replace hw := hw.1 c14
            refine lv_iconst (v := 0) hx hb dX11_hexadecimal_55 (by decide) ?_
            exact b56 _ hk22 v2 v3 v5 0 M12 H locs ls hH (lv_sub hl [0, 1, 2, 3] rfl) hw
          · replace hw := hw.2 c14
            refine lv_iconst (v := 1) hx hb dX11_hexadecimal_51 (by decide) ?_
            refine lv_goto (tgt := 56) hx hb dX11_hexadecimal_52 (by decide) ?_
            exact b56 _ hk22 v2 v3 v5 1 M12 H locs ls hH (lv_sub hl [0, 1, 2, 3] rfl) hw
  have b16 : ∀ (v1 : Int32) (v2 : Int32) (v3 : Int64) (s0 : Int32) (M : RM) (H : Heap) (locs : List Loc) (ls : Array Slot), rH D kA h ad A s.heap M H locs → lv_has ls 6 [(0, .ref h), (1, .int v1), (2, .int v2), (3, .long v3)] → fm_hexadecimal_b16 Q  v1 v2 v3 s0 M → W p l e (headSpec wsX11_hexadecimal rmX11_hexadecimal).room s m args below meth c H locs 0 0 (MQ below (va_Qd Q (rB D kA h ad A) A) args s 0 0 A) (F0 m 16 ls [.int s0, .ref h]) := by
    intro   v1 v2 v3 s0 M H locs ls hH hl hw
    unfold fm_hexadecimal_b16 at hw
    obtain ⟨h15, hw⟩ := hw
    refine rp_25 hx hb hts hin hown hK hH (hts (.fieldLink RX11 264 "IdlCallerModel" "hasNumber" "Z") (by decide +kernel)) h15 dX11_hexadecimal_16 (fun M16 H locs eM16 hH => ?_)
    replace hw := hw M16 eM16
    refine lv_iload_n hx hb dX11_hexadecimal_19 rfl (lv_at hl 1 rfl) ?_
    refine lv_istore (lv' := [(5, .int v1), (0, .ref h), (1, .int v1), (2, .int v2), (3, .long v3)]) hx hb dX11_hexadecimal_20 hl (by decide) rfl (fun ls hl => ?_)
    obtain ⟨nn, hw⟩ := hw
    exact l22   nn v2 v3 v1 M16 H locs ls hH (lv_sub hl [1, 3, 4, 0] rfl) hw
  clear hP hD0
  unfold fm_hexadecimal at hw
  have hst : ∀ (M : RM) (H : Heap) (locs : List Loc) (ls : Array Slot), rH D kA h ad A s.heap M H locs → lv_has ls 6 [(0, .ref h), (1, .int a1), (2, .int a2)] → ((8 < (a2 - a1) → fm_hexadecimal_b16 Q  a1 a2 0 0 M) ∧ (¬ 8 < (a2 - a1) → fm_hexadecimal_b16 Q  a1 a2 0 1 M)) → W p l e (headSpec wsX11_hexadecimal rmX11_hexadecimal).room s m args below meth c H locs 0 0 (MQ below (va_Qd Q (rB D kA h ad A) A) args s 0 0 A) (F0 m 0 ls []) := by
    intro M H locs ls hH hl hw
    refine lv_lconst (v := 0) hx hb dX11_hexadecimal_0 (by decide) ?_
    refine lv_lstore_n (lv' := [(3, .long 0), (0, .ref h), (1, .int a1), (2, .int a2)]) hx hb dX11_hexadecimal_1 rfl hl (by decide) rfl (fun ls hl => ?_)
    refine lv_aload_n hx hb dX11_hexadecimal_2 rfl (lv_at hl 1 rfl) ?_
    refine lv_iload_n hx hb dX11_hexadecimal_3 rfl (lv_at hl 3 rfl) ?_
    refine lv_iload_n hx hb dX11_hexadecimal_4 rfl (lv_at hl 2 rfl) ?_
    refine lv_isub hx hb dX11_hexadecimal_5 ?_
    refine lv_bipush (v := 8) hx hb dX11_hexadecimal_6 (by decide) ?_
    refine lv_icmp_gt (tgt := 15) hx hb dX11_hexadecimal_8 (by decide) (fun c17 => ?_) (fun c17 => ?_)
    · replace hw := hw.1 c17
      refine lv_iconst (v := 0) hx hb dX11_hexadecimal_15 (by decide) ?_
      exact b16   a1 a2 0 0 M H locs ls hH (lv_sub hl [1, 2, 3, 0] rfl) hw
    · replace hw := hw.2 c17
      refine lv_iconst (v := 1) hx hb dX11_hexadecimal_11 (by decide) ?_
      refine lv_goto (tgt := 16) hx hb dX11_hexadecimal_12 (by decide) ?_
      exact b16   a1 a2 0 1 M H locs ls hH (lv_sub hl [1, 2, 3, 0] rfl) hw
  exact hst M s.heap [] ls hH hl hw
def fm_numberOfSaid_b316 (Q : UInt64 → RM → Prop) (s0 : UInt64) (M : RM) : Prop := Q s0 M
def fm_numberOfSaid_b314 (Q : UInt64 → RM → Prop) (v11 : UInt64) (M : RM) : Prop := fm_numberOfSaid_b316 Q  v11 M
def fm_numberOfSaid_b288 (Q : UInt64 → RM → Prop) (v3 : Int32) (v5 : Int64) (v7 : Int64) (M : RM) : Prop := (vf_n64 (FP.ddiv (FP.l2d v5) (FP.l2d v7)) ∧ (∀ x2 : UInt64, x2 = FP.ddiv (FP.l2d v5) (FP.l2d v7) → ((v3 = 0 → fm_numberOfSaid_b314 Q  x2 M) ∧ (¬ v3 = 0 → (((lg_cmp v5 0) ≤ 0 → fm_numberOfSaid_b314 Q  x2 M) ∧ (¬ (lg_cmp v5 0) ≤ 0 → fm_numberOfSaid_b316 Q  (FP.dneg x2) M))))))
def fm_numberOfSaid_b281 (Q : UInt64 → RM → Prop) (M : RM) : Prop := (nZ (0 : Int32) ∧ (∀ M6 : RM, M6 = wI M 25 0 → Q FP.dconst0 M6))
def fm_numberOfSaid_b250 (Q : UInt64 → RM → Prop) (k162 : Int32 → Int32 → Int32 → Int64 → Int64 → Int32 → Int32 → Int32 → RM → Prop) (v2 : Int32) (v3 : Int32) (v4 : Int32) (v5 : Int64) (v7 : Int64) (v9 : Int32) (v10 : Int32) (v11 : Int32) (M : RM) : Prop := (∀ x7 : Int32, x7 = v11 + 1 → k162 v2 v3 v4 v5 v7 v9 v10 x7 M)
def fm_numberOfSaid_b244 (Q : UInt64 → RM → Prop) (k162 : Int32 → Int32 → Int32 → Int64 → Int64 → Int32 → Int32 → Int32 → RM → Prop) (v2 : Int32) (v3 : Int32) (v4 : Int32) (v5 : Int64) (v9 : Int32) (v11 : Int32) (s0 : Int64) (M : RM) : Prop := fm_numberOfSaid_b250 Q k162 v2 v3 v4 v5 s0 v9 v11 v11 M
def fm_numberOfSaid_b196 (Q : UInt64 → RM → Prop) (k162 : Int32 → Int32 → Int32 → Int64 → Int64 → Int32 → Int32 → Int32 → RM → Prop) (v2 : Int32) (v3 : Int32) (v4 : Int32) (v5 : Int64) (v7 : Int64) (v9 : Int32) (v11 : Int32) (v12 : Int32) (M : RM) : Prop := fm_digitOf v12 M (fun (r9 : Int32) (M8 : RM) => ((r9 ≤ 9 → fm_digitOf v12 M8 (fun (r12 : Int32) (M11 : RM) => (∀ x13 : Int64, x13 = (10 * v5) + r12.toInt64 → ((v9 < 0 → fm_numberOfSaid_b244 Q k162 v2 v3 v4 x13 v9 v11 v7 M11) ∧ (¬ v9 < 0 → fm_numberOfSaid_b244 Q k162 v2 v3 v4 x13 v9 v11 (10 * v7) M11))))) ∧ (¬ r9 ≤ 9 → (nZ (0 : Int32) ∧ (∀ M16 : RM, M16 = wI M8 25 0 → Q FP.dconst0 M16)))))
def fm_numberOfSaid_c162 (Q : UInt64 → RM → Prop) (k162 : Int32 → Int32 → Int32 → Int64 → Int64 → Int32 → Int32 → Int32 → RM → Prop) (v2 : Int32) (v3 : Int32) (v4 : Int32) (v5 : Int64) (v7 : Int64) (v9 : Int32) (v10 : Int32) (v11 : Int32) (M : RM) : Prop := ((v2 ≤ v11 → ((v10 < 0 → fm_numberOfSaid_b281 Q   M) ∧ (¬ v10 < 0 → ((v9 < 0 → fm_numberOfSaid_b288 Q  v3 v5 v7 M) ∧ (¬ v9 < 0 → ((v9 = v4 → fm_numberOfSaid_b281 Q   M) ∧ (¬ v9 = v4 → ((¬ v9 = (v2 - 1) → fm_numberOfSaid_b288 Q  v3 v5 v7 M) ∧ (v9 = (v2 - 1) → fm_numberOfSaid_b281 Q   M))))))))) ∧ (¬ v2 ≤ v11 → (vp_in v11 100 ∧ (∀ x23 : Int32, x23 = rA M 23 v11.toNatClampNeg → ((¬ x23 = 46 → fm_numberOfSaid_b196 Q k162 v2 v3 v4 v5 v7 v9 v11 x23 M) ∧ (x23 = 46 → ((0 ≤ v9 → fm_numberOfSaid_b196 Q k162 v2 v3 v4 v5 v7 v9 v11 x23 M) ∧ (¬ 0 ≤ v9 → fm_numberOfSaid_b250 Q k162 v2 v3 v4 v5 v7 v11 v10 v11 M))))))))
def fm_numberOfSaid_l162 (Q : UInt64 → RM → Prop) : Nat → Int32 → Int32 → Int32 → Int64 → Int64 → Int32 → Int32 → Int32 → RM → Prop := lit (τ := Int32 → Int32 → Int32 → Int64 → Int64 → Int32 → Int32 → Int32 → RM → Prop) (fun _ _ _ _ _ _ _ _ _ => False) (fun k => fm_numberOfSaid_c162 Q  k)
def fm_numberOfSaid_b144 (Q : UInt64 → RM → Prop) (v2 : Int32) (v3 : Int32) (s0 : Int32) (M : RM) : Prop := (∀ x26 : Int32, x26 = (-1) → (∀ x27 : Int32, x27 = (-1) → (∃ nn : Nat, fm_numberOfSaid_l162 Q  nn v2 v3 s0 0 1 x26 x27 s0 M)))
def fm_numberOfSaid_b137 (Q : UInt64 → RM → Prop) (v1 : Int32) (v2 : Int32) (v3 : Int32) (M : RM) : Prop := fm_numberOfSaid_b144 Q  v2 v3 (v1 + 1) M
def fm_numberOfSaid_b121 (Q : UInt64 → RM → Prop) (v1 : Int32) (v2 : Int32) (s0 : Int32) (M : RM) : Prop := ((¬ s0 = 0 → fm_numberOfSaid_b137 Q  v1 v2 s0 M) ∧ (s0 = 0 → (vp_in v1 100 ∧ ((¬ (rA M 23 v1.toNatClampNeg) = 43 → fm_numberOfSaid_b144 Q  v2 s0 v1 M) ∧ ((rA M 23 v1.toNatClampNeg) = 43 → fm_numberOfSaid_b137 Q  v1 v2 s0 M)))))
def fm_numberOfSaid_b105 (Q : UInt64 → RM → Prop) (v1 : Int32) (v2 : Int32) (M : RM) : Prop := (vp_in v1 100 ∧ ((¬ (rA M 23 v1.toNatClampNeg) = 45 → fm_numberOfSaid_b121 Q  v1 v2 0 M) ∧ ((rA M 23 v1.toNatClampNeg) = 45 → fm_numberOfSaid_b121 Q  v1 v2 1 M)))
def fm_numberOfSaid_b53 (Q : UInt64 → RM → Prop) (v1 : Int32) (v2 : Int32) (M : RM) : Prop := (nZ (1 : Int32) ∧ (∀ M34 : RM, M34 = wI M 25 1 → ((¬ v1 = v2 → (((v2 - v1) ≤ 2 → fm_numberOfSaid_b105 Q  v1 v2 M34) ∧ (¬ (v2 - v1) ≤ 2 → (vp_in v1 100 ∧ ((¬ (rA M34 23 v1.toNatClampNeg) = 48 → fm_numberOfSaid_b105 Q  v1 v2 M34) ∧ ((rA M34 23 v1.toNatClampNeg) = 48 → (vp_in (v1 + 1) 100 ∧ ((¬ (rA M34 23 (v1 + 1).toNatClampNeg) = 120 → fm_numberOfSaid_b105 Q  v1 v2 M34) ∧ ((rA M34 23 (v1 + 1).toNatClampNeg) = 120 → fm_hexadecimal (v1 + 2) v2 M34 (fun (r42 : UInt64) (M41 : RM) => Q r42 M41)))))))))) ∧ (v1 = v2 → Q FP.dconst0 M34))))
def fm_numberOfSaid_c29 (Q : UInt64 → RM → Prop) (k29 : Int32 → Int32 → RM → Prop) (v1 : Int32) (v2 : Int32) (M : RM) : Prop := ((v2 ≤ v1 → fm_numberOfSaid_b53 Q  v1 v2 M) ∧ (¬ v2 ≤ v1 → (vp_in (v2 - 1) 100 ∧ ((¬ (rA M 23 (v2 - 1).toNatClampNeg) = 32 → fm_numberOfSaid_b53 Q  v1 v2 M) ∧ ((rA M 23 (v2 - 1).toNatClampNeg) = 32 → (∀ x46 : Int32, x46 = v2 + (-1) → k29 v1 x46 M))))))
def fm_numberOfSaid_l29 (Q : UInt64 → RM → Prop) : Nat → Int32 → Int32 → RM → Prop := lit (τ := Int32 → Int32 → RM → Prop) (fun _ _ _ => False) (fun k => fm_numberOfSaid_c29 Q  k)
def fm_numberOfSaid_c7 (Q : UInt64 → RM → Prop) (k7 : Int32 → Int32 → RM → Prop) (v1 : Int32) (v2 : Int32) (M : RM) : Prop := ((v2 ≤ v1 → (∃ nn : Nat, fm_numberOfSaid_l29 Q  nn v1 v2 M)) ∧ (¬ v2 ≤ v1 → (vp_in v1 100 ∧ ((¬ (rA M 23 v1.toNatClampNeg) = 32 → (∃ nn : Nat, fm_numberOfSaid_l29 Q  nn v1 v2 M)) ∧ ((rA M 23 v1.toNatClampNeg) = 32 → (∀ x50 : Int32, x50 = v1 + 1 → k7 x50 v2 M))))))
def fm_numberOfSaid_l7 (Q : UInt64 → RM → Prop) : Nat → Int32 → Int32 → RM → Prop := lit (τ := Int32 → Int32 → RM → Prop) (fun _ _ _ => False) (fun k => fm_numberOfSaid_c7 Q  k)
def fm_numberOfSaid (M : RM) (Q : UInt64 → RM → Prop) : Prop := (∀ x51 : Int32, x51 = rI M 24 → (∃ nn : Nat, fm_numberOfSaid_l7 Q  nn 0 x51 M))
abbrev rmX11_numberOfSaid : Room := { frames := 2, cells := 0, slots := 0, locals := 45 }
set_option maxHeartbeats 4000000 in
set_option maxRecDepth 100000 in
theorem tm_numberOfSaid (l : Launch) (D : va_G) (kA : Nat → ClassId) (h : Nat) (ad : Nat → Nat) (sz : Nat) (M : RM) (Q : UInt64 → RM → Prop) (hw : fm_numberOfSaid  M Q) : Met l yX11_numberOfSaid wsX11_numberOfSaid rmX11_numberOfSaid (va_Pc [.ref h] (rPc D kA h ad M sz)) (va_Qd Q (rB D kA h ad (rF kA h ad M sz)) (rF kA h ad M sz)) 0 0 (rF kA h ad M sz) := by
  refine Met.ofW (cc := cX11_numberOfSaid) (maxL := 13) (ret := (some .double)) (by decide) rfl ?_
  intro p e s m args below meth c s₁ B hml hv
  obtain ⟨rfl, hsz, hP, hK, hD0⟩ := hv
  have hx := B.exec
  have hb := B.bytes
  have hr := B.returns
  have hts := atoms_spec (ws := wsX11_numberOfSaid) B.pre
  have hown : s.vm.findClass RX11 = some m.cls := findClass_of_methodNamed B.named
  have hlocks : meth.locks = false := B.notSynchronized
  subst hsz
  have hH : rH D kA h ad (rF kA h ad M s.heap.size) s.heap M s.heap [] := ⟨hP, hD0.self, va_S.rf⟩
  have hA : ∀ q : Nat, s.heap.size ≤ q → rF kA h ad M s.heap.size q := fun q z => Or.inr z
  generalize rF kA h ad M s.heap.size = A at hH hA ⊢
  have hl := lv_entry ([.ref h]) (n := 13) (Nat.le_of_ble_eq_true rfl)
  rw [lg_entry_eq]
  generalize (lg_sl ([.ref h]) ++ List.replicate (13 - (lg_sl ([.ref h])).length) Slot.unset).toArray = ls at hl ⊢
  generalize ([.ref h] : List Value).toArray = args at hts ⊢
  have hl : lv_has ls 13 [(0, .ref h)] := hl
  have hin : ∀ w ∈ wsX110, w ∈ wsX11_numberOfSaid := by decide +kernel
  have b316 : ∀ (s0 : UInt64) (M : RM) (H : Heap) (locs : List Loc) (ls : Array Slot), rH D kA h ad A s.heap M H locs → lv_has ls 13 [] → fm_numberOfSaid_b316 Q  s0 M → W p l e (headSpec wsX11_numberOfSaid rmX11_numberOfSaid).room s m args below meth c H locs 0 0 (MQ below (va_Qd Q (rB D kA h ad A) A) args s 0 0 A) (F0 m 316 ls [.double s0]) := by
    intro   s0 M H locs ls hH hl hw
    unfold fm_numberOfSaid_b316 at hw
    exact r_retd hx hb hr hlocks hK hH hw dX11_numberOfSaid_316
  have b314 : ∀ (v11 : UInt64) (M : RM) (H : Heap) (locs : List Loc) (ls : Array Slot), rH D kA h ad A s.heap M H locs → lv_has ls 13 [(11, .double v11)] → fm_numberOfSaid_b314 Q  v11 M → W p l e (headSpec wsX11_numberOfSaid rmX11_numberOfSaid).room s m args below meth c H locs 0 0 (MQ below (va_Qd Q (rB D kA h ad A) A) args s 0 0 A) (F0 m 314 ls []) := by
    intro   v11 M H locs ls hH hl hw
    unfold fm_numberOfSaid_b314 at hw
    refine lv_dload hx hb dX11_numberOfSaid_314 (lv_at hl 0 rfl) ?_
    exact b316   v11 M H locs ls hH (lv_sub hl [] rfl) hw
  have b288 : ∀ (v3 : Int32) (v5 : Int64) (v7 : Int64) (M : RM) (H : Heap) (locs : List Loc) (ls : Array Slot), rH D kA h ad A s.heap M H locs → lv_has ls 13 [(3, .int v3), (5, .long v5), (7, .long v7)] → fm_numberOfSaid_b288 Q  v3 v5 v7 M → W p l e (headSpec wsX11_numberOfSaid rmX11_numberOfSaid).room s m args below meth c H locs 0 0 (MQ below (va_Qd Q (rB D kA h ad A) A) args s 0 0 A) (F0 m 288 ls []) := by
    intro   v3 v5 v7 M H locs ls hH hl hw
    unfold fm_numberOfSaid_b288 at hw
    refine lv_lload hx hb dX11_numberOfSaid_288 (lv_at hl 1 rfl) ?_
    refine lv_l2d hx hb dX11_numberOfSaid_290 ?_
    refine lv_lload hx hb dX11_numberOfSaid_291 (lv_at hl 2 rfl) ?_
    refine lv_l2d hx hb dX11_numberOfSaid_293 ?_
    obtain ⟨h1, hw⟩ := hw
    refine lv_ddiv hx hb dX11_numberOfSaid_294 h1 ?_
    refine lv_topd (fun x2 ex2 => ?_)
    replace hw := hw x2 ex2
    refine lv_dstore (lv' := [(11, .double x2), (3, .int v3), (5, .long v5), (7, .long v7)]) hx hb dX11_numberOfSaid_295 hl (by decide) rfl (fun ls hl => ?_)
    refine lv_iload_n hx hb dX11_numberOfSaid_297 rfl (lv_at hl 1 rfl) ?_
    refine lv_if_eq (tgt := 314) hx hb dX11_numberOfSaid_298 (by decide) (fun c3 => ?_) (fun c3 => ?_)
    · replace hw := hw.1 c3
      exact b314   x2 M H locs ls hH (lv_sub hl [0] rfl) hw
    · replace hw := hw.2 c3
      refine lv_lload hx hb dX11_numberOfSaid_301 (lv_at hl 2 rfl) ?_
      refine lv_lconst (v := 0) hx hb dX11_numberOfSaid_303 (by decide) ?_
      refine W.lcmp hx hb dX11_numberOfSaid_304 ?_
      refine lv_if_le (tgt := 314) hx hb dX11_numberOfSaid_305 (by decide) (fun c4 => ?_) (fun c4 => ?_)
      · replace hw := hw.1 c4
        exact b314   x2 M H locs ls hH (lv_sub hl [0] rfl) hw
      · replace hw := hw.2 c4
        refine lv_dload hx hb dX11_numberOfSaid_308 (lv_at hl 0 rfl) ?_
        refine lv_dneg hx hb dX11_numberOfSaid_310 ?_
        refine lv_goto (tgt := 316) hx hb dX11_numberOfSaid_311 (by decide) ?_
        exact b316   (FP.dneg x2) M H locs ls hH (lv_sub hl [] rfl) hw
  have b281 : ∀ (M : RM) (H : Heap) (locs : List Loc) (ls : Array Slot), rH D kA h ad A s.heap M H locs → lv_has ls 13 [(0, .ref h)] → fm_numberOfSaid_b281 Q   M → W p l e (headSpec wsX11_numberOfSaid rmX11_numberOfSaid).room s m args below meth c H locs 0 0 (MQ below (va_Qd Q (rB D kA h ad A) A) args s 0 0 A) (F0 m 281 ls []) := by
    intro    M H locs ls hH hl hw
    unfold fm_numberOfSaid_b281 at hw
    refine lv_aload_n hx hb dX11_numberOfSaid_281 rfl (lv_at hl 0 rfl) ?_
    refine lv_iconst (v := 0) hx hb dX11_numberOfSaid_282 (by decide) ?_
    obtain ⟨h5, hw⟩ := hw
    refine rp_25 hx hb hts hin hown hK hH (hts (.fieldLink RX11 264 "IdlCallerModel" "hasNumber" "Z") (by decide +kernel)) h5 dX11_numberOfSaid_283 (fun M6 H locs eM6 hH => ?_)
    replace hw := hw M6 eM6
    refine lv_dconst0 hx hb dX11_numberOfSaid_286 ?_
    exact r_retd hx hb hr hlocks hK hH hw dX11_numberOfSaid_287
  have b250 : ∀ (k162 : Int32 → Int32 → Int32 → Int64 → Int64 → Int32 → Int32 → Int32 → RM → Prop) (hk162 : ∀ (v2 : Int32) (v3 : Int32) (v4 : Int32) (v5 : Int64) (v7 : Int64) (v9 : Int32) (v10 : Int32) (v11 : Int32) (M : RM) (H : Heap) (locs : List Loc) (ls : Array Slot), rH D kA h ad A s.heap M H locs → lv_has ls 13 [(0, .ref h), (2, .int v2), (3, .int v3), (4, .int v4), (5, .long v5), (7, .long v7), (9, .int v9), (10, .int v10), (11, .int v11)] → k162 v2 v3 v4 v5 v7 v9 v10 v11 M → W p l e (headSpec wsX11_numberOfSaid rmX11_numberOfSaid).room s m args below meth c H locs 0 0 (MQ below (va_Qd Q (rB D kA h ad A) A) args s 0 0 A) (F0 m 162 ls [])) (v2 : Int32) (v3 : Int32) (v4 : Int32) (v5 : Int64) (v7 : Int64) (v9 : Int32) (v10 : Int32) (v11 : Int32) (M : RM) (H : Heap) (locs : List Loc) (ls : Array Slot), rH D kA h ad A s.heap M H locs → lv_has ls 13 [(0, .ref h), (2, .int v2), (3, .int v3), (4, .int v4), (5, .long v5), (7, .long v7), (9, .int v9), (10, .int v10), (11, .int v11)] → fm_numberOfSaid_b250 Q k162 v2 v3 v4 v5 v7 v9 v10 v11 M → W p l e (headSpec wsX11_numberOfSaid rmX11_numberOfSaid).room s m args below meth c H locs 0 0 (MQ below (va_Qd Q (rB D kA h ad A) A) args s 0 0 A) (F0 m 250 ls []) := by
    intro k162 hk162 v2 v3 v4 v5 v7 v9 v10 v11 M H locs ls hH hl hw
    unfold fm_numberOfSaid_b250 at hw
    obtain ⟨x7, ex7⟩ : ∃ y : Int32, y = v11 + 1 := ⟨_, rfl⟩
    replace hw := hw x7 ex7
    refine lv_iinc (v := x7) (lv' := [(11, .int x7), (0, .ref h), (2, .int v2), (3, .int v3), (4, .int v4), (5, .long v5), (7, .long v7), (9, .int v9), (10, .int v10)]) hx hb dX11_numberOfSaid_250 hl (k := 8) rfl (by rw [ex7]; rfl) (by decide) rfl (fun ls hl => ?_)
    refine lv_goto (tgt := 162) hx hb dX11_numberOfSaid_253 (by decide) ?_
    exact hk162 v2 v3 v4 v5 v7 v9 v10 x7 M H locs ls hH (lv_sub hl [1, 2, 3, 4, 5, 6, 7, 8, 0] rfl) hw
  have b244 : ∀ (k162 : Int32 → Int32 → Int32 → Int64 → Int64 → Int32 → Int32 → Int32 → RM → Prop) (hk162 : ∀ (v2 : Int32) (v3 : Int32) (v4 : Int32) (v5 : Int64) (v7 : Int64) (v9 : Int32) (v10 : Int32) (v11 : Int32) (M : RM) (H : Heap) (locs : List Loc) (ls : Array Slot), rH D kA h ad A s.heap M H locs → lv_has ls 13 [(0, .ref h), (2, .int v2), (3, .int v3), (4, .int v4), (5, .long v5), (7, .long v7), (9, .int v9), (10, .int v10), (11, .int v11)] → k162 v2 v3 v4 v5 v7 v9 v10 v11 M → W p l e (headSpec wsX11_numberOfSaid rmX11_numberOfSaid).room s m args below meth c H locs 0 0 (MQ below (va_Qd Q (rB D kA h ad A) A) args s 0 0 A) (F0 m 162 ls [])) (v2 : Int32) (v3 : Int32) (v4 : Int32) (v5 : Int64) (v9 : Int32) (v11 : Int32) (s0 : Int64) (M : RM) (H : Heap) (locs : List Loc) (ls : Array Slot), rH D kA h ad A s.heap M H locs → lv_has ls 13 [(0, .ref h), (2, .int v2), (3, .int v3), (4, .int v4), (5, .long v5), (9, .int v9), (11, .int v11)] → fm_numberOfSaid_b244 Q k162 v2 v3 v4 v5 v9 v11 s0 M → W p l e (headSpec wsX11_numberOfSaid rmX11_numberOfSaid).room s m args below meth c H locs 0 0 (MQ below (va_Qd Q (rB D kA h ad A) A) args s 0 0 A) (F0 m 244 ls [.long s0]) := by
    intro k162 hk162 v2 v3 v4 v5 v9 v11 s0 M H locs ls hH hl hw
    unfold fm_numberOfSaid_b244 at hw
    refine lv_lstore (lv' := [(7, .long s0), (0, .ref h), (2, .int v2), (3, .int v3), (4, .int v4), (5, .long v5), (9, .int v9), (11, .int v11)]) hx hb dX11_numberOfSaid_244 hl (by decide) rfl (fun ls hl => ?_)
    refine lv_iload hx hb dX11_numberOfSaid_246 (lv_at hl 7 rfl) ?_
    refine lv_istore (lv' := [(10, .int v11), (7, .long s0), (0, .ref h), (2, .int v2), (3, .int v3), (4, .int v4), (5, .long v5), (9, .int v9), (11, .int v11)]) hx hb dX11_numberOfSaid_248 hl (by decide) rfl (fun ls hl => ?_)
    exact b250 _ hk162 v2 v3 v4 v5 s0 v9 v11 v11 M H locs ls hH (lv_sub hl [2, 3, 4, 5, 6, 1, 7, 0, 8] rfl) hw
  have b196 : ∀ (k162 : Int32 → Int32 → Int32 → Int64 → Int64 → Int32 → Int32 → Int32 → RM → Prop) (hk162 : ∀ (v2 : Int32) (v3 : Int32) (v4 : Int32) (v5 : Int64) (v7 : Int64) (v9 : Int32) (v10 : Int32) (v11 : Int32) (M : RM) (H : Heap) (locs : List Loc) (ls : Array Slot), rH D kA h ad A s.heap M H locs → lv_has ls 13 [(0, .ref h), (2, .int v2), (3, .int v3), (4, .int v4), (5, .long v5), (7, .long v7), (9, .int v9), (10, .int v10), (11, .int v11)] → k162 v2 v3 v4 v5 v7 v9 v10 v11 M → W p l e (headSpec wsX11_numberOfSaid rmX11_numberOfSaid).room s m args below meth c H locs 0 0 (MQ below (va_Qd Q (rB D kA h ad A) A) args s 0 0 A) (F0 m 162 ls [])) (v2 : Int32) (v3 : Int32) (v4 : Int32) (v5 : Int64) (v7 : Int64) (v9 : Int32) (v11 : Int32) (v12 : Int32) (M : RM) (H : Heap) (locs : List Loc) (ls : Array Slot), rH D kA h ad A s.heap M H locs → lv_has ls 13 [(0, .ref h), (2, .int v2), (3, .int v3), (4, .int v4), (5, .long v5), (7, .long v7), (9, .int v9), (11, .int v11), (12, .int v12)] → fm_numberOfSaid_b196 Q k162 v2 v3 v4 v5 v7 v9 v11 v12 M → W p l e (headSpec wsX11_numberOfSaid rmX11_numberOfSaid).room s m args below meth c H locs 0 0 (MQ below (va_Qd Q (rB D kA h ad A) A) args s 0 0 A) (F0 m 196 ls []) := by
    intro k162 hk162 v2 v3 v4 v5 v7 v9 v11 v12 M H locs ls hH hl hw
    unfold fm_numberOfSaid_b196 at hw
    refine lv_iload hx hb dX11_numberOfSaid_196 (lv_at hl 8 rfl) ?_
    refine r_calli (va_runS (As := [.int v12]) (rest := []) ⟨hx, hb, hml, hown, hts⟩ (tm_digitOf l D kA h ad H.size M v12 _ hw) (va_cwS 1 hts gX11_numberOfSaid_X11_digitOf rfl rfl rfl (by decide +kernel) ⟨Nat.le_of_ble_eq_true rfl, Nat.le_of_ble_eq_true rfl⟩) (r_preS hK hH) rfl rfl hl.1 rfl (lv_room (Nat.le_of_ble_eq_true rfl)) dX11_numberOfSaid_198 ⟨Nat.le_of_ble_eq_true rfl, Nat.le_of_ble_eq_true rfl⟩) hH hA (fun r9 M8 H locs hw hH => ?_)
    refine lv_bipush (v := 9) hx hb dX11_numberOfSaid_201 (by decide) ?_
    refine lv_icmp_le (tgt := 213) hx hb dX11_numberOfSaid_203 (by decide) (fun c10 => ?_) (fun c10 => ?_)
    · replace hw := hw.1 c10
      refine lv_ldc2 (v := 10) hx hb hown (hts (.constantLong RX11 235 10) (by decide +kernel)) dX11_numberOfSaid_213 ?_
      refine lv_lload hx hb dX11_numberOfSaid_216 (lv_at hl 4 rfl) ?_
      refine lv_lmul hx hb dX11_numberOfSaid_218 ?_
      refine lv_iload hx hb dX11_numberOfSaid_219 (lv_at hl 8 rfl) ?_
      refine r_calli (va_runS (As := [.int v12]) (rest := [.long (10 * v5)]) ⟨hx, hb, hml, hown, hts⟩ (tm_digitOf l D kA h ad H.size M8 v12 _ hw) (va_cwS 1 hts gX11_numberOfSaid_X11_digitOf rfl rfl rfl (by decide +kernel) ⟨Nat.le_of_ble_eq_true rfl, Nat.le_of_ble_eq_true rfl⟩) (r_preS hK hH) rfl rfl hl.1 rfl (lv_room (Nat.le_of_ble_eq_true rfl)) dX11_numberOfSaid_221 ⟨Nat.le_of_ble_eq_true rfl, Nat.le_of_ble_eq_true rfl⟩) hH hA (fun r12 M11 H locs hw hH => ?_)
      refine lv_i2l hx hb dX11_numberOfSaid_224 rfl ?_
      refine lv_ladd hx hb dX11_numberOfSaid_225 ?_
      refine lv_topl (fun x13 ex13 => ?_)
      replace hw := hw x13 ex13
      refine lv_lstore (lv' := [(5, .long x13), (0, .ref h), (2, .int v2), (3, .int v3), (4, .int v4), (7, .long v7), (9, .int v9), (11, .int v11), (12, .int v12)]) hx hb dX11_numberOfSaid_226 hl (by decide) rfl (fun ls hl => ?_)
      refine lv_iload hx hb dX11_numberOfSaid_228 (lv_at hl 6 rfl) ?_
      refine lv_if_lt (tgt := 242) hx hb dX11_numberOfSaid_230 (by decide) (fun c14 => ?_) (fun c14 => ?_)
      · replace hw := hw.1 c14
        refine lv_lload hx hb dX11_numberOfSaid_242 (lv_at hl 5 rfl) ?_
        exact b244 _ hk162 v2 v3 v4 x13 v9 v11 v7 M11 H locs ls hH (lv_sub hl [1, 2, 3, 4, 0, 6, 7] rfl) hw
      · replace hw := hw.2 c14
        refine lv_ldc2 (v := 10) hx hb hown (hts (.constantLong RX11 235 10) (by decide +kernel)) dX11_numberOfSaid_233 ?_
        refine lv_lload hx hb dX11_numberOfSaid_236 (lv_at hl 5 rfl) ?_
        refine lv_lmul hx hb dX11_numberOfSaid_238 ?_
        refine lv_goto (tgt := 244) hx hb dX11_numberOfSaid_239 (by decide) ?_
        exact b244 _ hk162 v2 v3 v4 x13 v9 v11 (10 * v7) M11 H locs ls hH (lv_sub hl [1, 2, 3, 4, 0, 6, 7] rfl) hw
    · replace hw := hw.2 c10
      refine lv_aload_n hx hb dX11_numberOfSaid_206 rfl (lv_at hl 0 rfl) ?_
      refine lv_iconst (v := 0) hx hb dX11_numberOfSaid_207 (by decide) ?_
      obtain ⟨h15, hw⟩ := hw
      refine rp_25 hx hb hts hin hown hK hH (hts (.fieldLink RX11 264 "IdlCallerModel" "hasNumber" "Z") (by decide +kernel)) h15 dX11_numberOfSaid_208 (fun M16 H locs eM16 hH => ?_)
      replace hw := hw M16 eM16
      refine lv_dconst0 hx hb dX11_numberOfSaid_211 ?_
      exact r_retd hx hb hr hlocks hK hH hw dX11_numberOfSaid_212
  have l162 : ∀ (nn : Nat) (v2 : Int32) (v3 : Int32) (v4 : Int32) (v5 : Int64) (v7 : Int64) (v9 : Int32) (v10 : Int32) (v11 : Int32) (M : RM) (H : Heap) (locs : List Loc) (ls : Array Slot), rH D kA h ad A s.heap M H locs → lv_has ls 13 [(0, .ref h), (2, .int v2), (3, .int v3), (4, .int v4), (5, .long v5), (7, .long v7), (9, .int v9), (10, .int v10), (11, .int v11)] → fm_numberOfSaid_l162 Q  nn v2 v3 v4 v5 v7 v9 v10 v11 M → W p l e (headSpec wsX11_numberOfSaid rmX11_numberOfSaid).room s m args below meth c H locs 0 0 (MQ below (va_Qd Q (rB D kA h ad A) A) args s 0 0 A) (F0 m 162 ls []) := by
    intro   nn
    induction nn with
    | zero => intro v2 v3 v4 v5 v7 v9 v10 v11 M H locs ls hH hl hw; exact False.elim hw
    | succ nn hk162 =>
      intro v2 v3 v4 v5 v7 v9 v10 v11 M H locs ls hH hl hw
      replace hw : fm_numberOfSaid_c162 Q  (fm_numberOfSaid_l162 Q  nn) v2 v3 v4 v5 v7 v9 v10 v11 M := hw
      unfold fm_numberOfSaid_c162 at hw
      refine lv_iload hx hb dX11_numberOfSaid_162 (lv_at hl 8 rfl) ?_
      refine lv_iload_n hx hb dX11_numberOfSaid_164 rfl (lv_at hl 1 rfl) ?_
      refine lv_icmp_ge (tgt := 256) hx hb dX11_numberOfSaid_165 (by decide) (fun c17 => ?_) (fun c17 => ?_)
      · replace hw := hw.1 c17
        refine lv_iload hx hb dX11_numberOfSaid_256 (lv_at hl 7 rfl) ?_
        refine lv_if_lt (tgt := 281) hx hb dX11_numberOfSaid_258 (by decide) (fun c18 => ?_) (fun c18 => ?_)
        · replace hw := hw.1 c18
          exact b281    M H locs ls hH (lv_sub hl [0] rfl) hw
        · replace hw := hw.2 c18
          refine lv_iload hx hb dX11_numberOfSaid_261 (lv_at hl 6 rfl) ?_
          refine lv_if_lt (tgt := 288) hx hb dX11_numberOfSaid_263 (by decide) (fun c19 => ?_) (fun c19 => ?_)
          · replace hw := hw.1 c19
            exact b288   v3 v5 v7 M H locs ls hH (lv_sub hl [2, 4, 5] rfl) hw
          · replace hw := hw.2 c19
            refine lv_iload hx hb dX11_numberOfSaid_266 (lv_at hl 6 rfl) ?_
            refine lv_iload hx hb dX11_numberOfSaid_268 (lv_at hl 3 rfl) ?_
            refine lv_icmp_eq (tgt := 281) hx hb dX11_numberOfSaid_270 (by decide) (fun c20 => ?_) (fun c20 => ?_)
            · replace hw := hw.1 c20
              exact b281    M H locs ls hH (lv_sub hl [0] rfl) hw
            · replace hw := hw.2 c20
              refine lv_iload hx hb dX11_numberOfSaid_273 (lv_at hl 6 rfl) ?_
              refine lv_iload_n hx hb dX11_numberOfSaid_275 rfl (lv_at hl 1 rfl) ?_
              refine lv_iconst (v := 1) hx hb dX11_numberOfSaid_276 (by decide) ?_
              refine lv_isub hx hb dX11_numberOfSaid_277 ?_
              refine lv_icmp_ne (tgt := 288) hx hb dX11_numberOfSaid_278 (by decide) (fun c21 => ?_) (fun c21 => ?_)
              · replace hw := hw.1 c21
                exact b288   v3 v5 v7 M H locs ls hH (lv_sub hl [2, 4, 5] rfl) hw
              · replace hw := hw.2 c21
                exact b281    M H locs ls hH (lv_sub hl [0] rfl) hw
      · replace hw := hw.2 c17
        refine lv_aload_n hx hb dX11_numberOfSaid_168 rfl (lv_at hl 0 rfl) ?_
        refine rg_23 hx hb hts hin hown hK hH (hts (.fieldLink RX11 75 "IdlCallerModel" "said" "[C") (by decide +kernel)) dX11_numberOfSaid_169 ?_
        refine lv_iload hx hb dX11_numberOfSaid_172 (lv_at hl 8 rfl) ?_
        obtain ⟨h22, hw⟩ := hw
        refine rl_23 hx hb hK hH h22 dX11_numberOfSaid_174 ?_
        refine lv_topi (fun x23 ex23 => ?_)
        replace hw := hw x23 ex23
        refine lv_istore (lv' := [(12, .int x23), (0, .ref h), (2, .int v2), (3, .int v3), (4, .int v4), (5, .long v5), (7, .long v7), (9, .int v9), (10, .int v10), (11, .int v11)]) hx hb dX11_numberOfSaid_175 hl (by decide) rfl (fun ls hl => ?_)
        refine lv_iload hx hb dX11_numberOfSaid_177 (lv_at hl 0 rfl) ?_
        refine lv_bipush (v := 46) hx hb dX11_numberOfSaid_179 (by decide) ?_
        refine lv_icmp_ne (tgt := 196) hx hb dX11_numberOfSaid_181 (by decide) (fun c24 => ?_) (fun c24 => ?_)
        · replace hw := hw.1 c24
          exact b196 _ hk162 v2 v3 v4 v5 v7 v9 v11 x23 M H locs ls hH (lv_sub hl [1, 2, 3, 4, 5, 6, 7, 9, 0] rfl) hw
        · replace hw := hw.2 c24
          refine lv_iload hx hb dX11_numberOfSaid_184 (lv_at hl 7 rfl) ?_
          refine lv_if_ge (tgt := 196) hx hb dX11_numberOfSaid_186 (by decide) (fun c25 => ?_) (fun c25 => ?_)
          · replace hw := hw.1 c25
            exact b196 _ hk162 v2 v3 v4 v5 v7 v9 v11 x23 M H locs ls hH (lv_sub hl [1, 2, 3, 4, 5, 6, 7, 9, 0] rfl) hw
          · replace hw := hw.2 c25
            refine lv_iload hx hb dX11_numberOfSaid_189 (lv_at hl 9 rfl) ?_
            refine lv_istore (lv' := [(9, .int v11), (12, .int x23), (0, .ref h), (2, .int v2), (3, .int v3), (4, .int v4), (5, .long v5), (7, .long v7), (10, .int v10), (11, .int v11)]) hx hb dX11_numberOfSaid_191 hl (by decide) rfl (fun ls hl => ?_)
            refine lv_goto (tgt := 250) hx hb dX11_numberOfSaid_193 (by decide) ?_
            exact b250 _ hk162 v2 v3 v4 v5 v7 v11 v10 v11 M H locs ls hH (lv_sub hl [2, 3, 4, 5, 6, 7, 0, 8, 9] rfl) hw
  have b144 : ∀ (v2 : Int32) (v3 : Int32) (s0 : Int32) (M : RM) (H : Heap) (locs : List Loc) (ls : Array Slot), rH D kA h ad A s.heap M H locs → lv_has ls 13 [(0, .ref h), (2, .int v2), (3, .int v3)] → fm_numberOfSaid_b144 Q  v2 v3 s0 M → W p l e (headSpec wsX11_numberOfSaid rmX11_numberOfSaid).room s m args below meth c H locs 0 0 (MQ below (va_Qd Q (rB D kA h ad A) A) args s 0 0 A) (F0 m 144 ls [.int s0]) := by
    intro   v2 v3 s0 M H locs ls hH hl hw
    unfold fm_numberOfSaid_b144 at hw
    refine lv_istore (lv' := [(4, .int s0), (0, .ref h), (2, .int v2), (3, .int v3)]) hx hb dX11_numberOfSaid_144 hl (by decide) rfl (fun ls hl => ?_)
    refine lv_lconst (v := 0) hx hb dX11_numberOfSaid_146 (by decide) ?_
    refine lv_lstore (lv' := [(5, .long 0), (4, .int s0), (0, .ref h), (2, .int v2), (3, .int v3)]) hx hb dX11_numberOfSaid_147 hl (by decide) rfl (fun ls hl => ?_)
    refine lv_lconst (v := 1) hx hb dX11_numberOfSaid_149 (by decide) ?_
    refine lv_lstore (lv' := [(7, .long 1), (5, .long 0), (4, .int s0), (0, .ref h), (2, .int v2), (3, .int v3)]) hx hb dX11_numberOfSaid_150 hl (by decide) rfl (fun ls hl => ?_)
    refine lv_iconst (v := (-1)) hx hb dX11_numberOfSaid_152 (by decide) ?_
    refine lv_topi (fun x26 ex26 => ?_)
    replace hw := hw x26 ex26
    refine lv_istore (lv' := [(9, .int x26), (7, .long 1), (5, .long 0), (4, .int s0), (0, .ref h), (2, .int v2), (3, .int v3)]) hx hb dX11_numberOfSaid_153 hl (by decide) rfl (fun ls hl => ?_)
    refine lv_iconst (v := (-1)) hx hb dX11_numberOfSaid_155 (by decide) ?_
    refine lv_topi (fun x27 ex27 => ?_)
    replace hw := hw x27 ex27
    refine lv_istore (lv' := [(10, .int x27), (9, .int x26), (7, .long 1), (5, .long 0), (4, .int s0), (0, .ref h), (2, .int v2), (3, .int v3)]) hx hb dX11_numberOfSaid_156 hl (by decide) rfl (fun ls hl => ?_)
    refine lv_iload hx hb dX11_numberOfSaid_158 (lv_at hl 4 rfl) ?_
    refine lv_istore (lv' := [(11, .int s0), (10, .int x27), (9, .int x26), (7, .long 1), (5, .long 0), (4, .int s0), (0, .ref h), (2, .int v2), (3, .int v3)]) hx hb dX11_numberOfSaid_160 hl (by decide) rfl (fun ls hl => ?_)
    obtain ⟨nn, hw⟩ := hw
    exact l162   nn v2 v3 s0 0 1 x26 x27 s0 M H locs ls hH (lv_sub hl [6, 7, 8, 5, 4, 3, 2, 1, 0] rfl) hw
  have b137 : ∀ (v1 : Int32) (v2 : Int32) (v3 : Int32) (M : RM) (H : Heap) (locs : List Loc) (ls : Array Slot), rH D kA h ad A s.heap M H locs → lv_has ls 13 [(0, .ref h), (1, .int v1), (2, .int v2), (3, .int v3)] → fm_numberOfSaid_b137 Q  v1 v2 v3 M → W p l e (headSpec wsX11_numberOfSaid rmX11_numberOfSaid).room s m args below meth c H locs 0 0 (MQ below (va_Qd Q (rB D kA h ad A) A) args s 0 0 A) (F0 m 137 ls []) := by
    intro   v1 v2 v3 M H locs ls hH hl hw
    unfold fm_numberOfSaid_b137 at hw
    refine lv_iload_n hx hb dX11_numberOfSaid_137 rfl (lv_at hl 1 rfl) ?_
    refine lv_iconst (v := 1) hx hb dX11_numberOfSaid_138 (by decide) ?_
    refine lv_iadd hx hb dX11_numberOfSaid_139 ?_
    refine lv_goto (tgt := 144) hx hb dX11_numberOfSaid_140 (by decide) ?_
    exact b144   v2 v3 (v1 + 1) M H locs ls hH (lv_sub hl [0, 2, 3] rfl) hw
  have b121 : ∀ (v1 : Int32) (v2 : Int32) (s0 : Int32) (M : RM) (H : Heap) (locs : List Loc) (ls : Array Slot), rH D kA h ad A s.heap M H locs → lv_has ls 13 [(0, .ref h), (1, .int v1), (2, .int v2)] → fm_numberOfSaid_b121 Q  v1 v2 s0 M → W p l e (headSpec wsX11_numberOfSaid rmX11_numberOfSaid).room s m args below meth c H locs 0 0 (MQ below (va_Qd Q (rB D kA h ad A) A) args s 0 0 A) (F0 m 121 ls [.int s0]) := by
    intro   v1 v2 s0 M H locs ls hH hl hw
    unfold fm_numberOfSaid_b121 at hw
    refine lv_istore_n (lv' := [(3, .int s0), (0, .ref h), (1, .int v1), (2, .int v2)]) hx hb dX11_numberOfSaid_121 rfl hl (by decide) rfl (fun ls hl => ?_)
    refine lv_iload_n hx hb dX11_numberOfSaid_122 rfl (lv_at hl 0 rfl) ?_
    refine lv_if_ne (tgt := 137) hx hb dX11_numberOfSaid_123 (by decide) (fun c28 => ?_) (fun c28 => ?_)
    · replace hw := hw.1 c28
      exact b137   v1 v2 s0 M H locs ls hH (lv_sub hl [1, 2, 3, 0] rfl) hw
    · replace hw := hw.2 c28
      refine lv_aload_n hx hb dX11_numberOfSaid_126 rfl (lv_at hl 1 rfl) ?_
      refine rg_23 hx hb hts hin hown hK hH (hts (.fieldLink RX11 75 "IdlCallerModel" "said" "[C") (by decide +kernel)) dX11_numberOfSaid_127 ?_
      refine lv_iload_n hx hb dX11_numberOfSaid_130 rfl (lv_at hl 2 rfl) ?_
      obtain ⟨h29, hw⟩ := hw
      refine rl_23 hx hb hK hH h29 dX11_numberOfSaid_131 ?_
      refine lv_bipush (v := 43) hx hb dX11_numberOfSaid_132 (by decide) ?_
      refine lv_icmp_ne (tgt := 143) hx hb dX11_numberOfSaid_134 (by decide) (fun c30 => ?_) (fun c30 => ?_)
      · replace hw := hw.1 c30
        refine lv_iload_n hx hb dX11_numberOfSaid_143 rfl (lv_at hl 2 rfl) ?_
        exact b144   v2 s0 v1 M H locs ls hH (lv_sub hl [1, 3, 0] rfl) hw
      · replace hw := hw.2 c30
        exact b137   v1 v2 s0 M H locs ls hH (lv_sub hl [1, 2, 3, 0] rfl) hw
  have b105 : ∀ (v1 : Int32) (v2 : Int32) (M : RM) (H : Heap) (locs : List Loc) (ls : Array Slot), rH D kA h ad A s.heap M H locs → lv_has ls 13 [(0, .ref h), (1, .int v1), (2, .int v2)] → fm_numberOfSaid_b105 Q  v1 v2 M → W p l e (headSpec wsX11_numberOfSaid rmX11_numberOfSaid).room s m args below meth c H locs 0 0 (MQ below (va_Qd Q (rB D kA h ad A) A) args s 0 0 A) (F0 m 105 ls []) := by
    intro   v1 v2 M H locs ls hH hl hw
    unfold fm_numberOfSaid_b105 at hw
    refine lv_aload_n hx hb dX11_numberOfSaid_105 rfl (lv_at hl 0 rfl) ?_
    refine rg_23 hx hb hts hin hown hK hH (hts (.fieldLink RX11 75 "IdlCallerModel" "said" "[C") (by decide +kernel)) dX11_numberOfSaid_106 ?_
    refine lv_iload_n hx hb dX11_numberOfSaid_109 rfl (lv_at hl 1 rfl) ?_
    obtain ⟨h31, hw⟩ := hw
    refine rl_23 hx hb hK hH h31 dX11_numberOfSaid_110 ?_
    refine lv_bipush (v := 45) hx hb dX11_numberOfSaid_111 (by decide) ?_
    refine lv_icmp_ne (tgt := 120) hx hb dX11_numberOfSaid_113 (by decide) (fun c32 => ?_) (fun c32 => ?_)
    · replace hw := hw.1 c32
      refine lv_iconst (v := 0) hx hb dX11_numberOfSaid_120 (by decide) ?_
      exact b121   v1 v2 0 M H locs ls hH (lv_sub hl [0, 1, 2] rfl) hw
    · replace hw := hw.2 c32
      refine lv_iconst (v := 1) hx hb dX11_numberOfSaid_116 (by decide) ?_
      refine lv_goto (tgt := 121) hx hb dX11_numberOfSaid_117 (by decide) ?_
      exact b121   v1 v2 1 M H locs ls hH (lv_sub hl [0, 1, 2] rfl) hw
  have b53 : ∀ (v1 : Int32) (v2 : Int32) (M : RM) (H : Heap) (locs : List Loc) (ls : Array Slot), rH D kA h ad A s.heap M H locs → lv_has ls 13 [(0, .ref h), (1, .int v1), (2, .int v2)] → fm_numberOfSaid_b53 Q  v1 v2 M → W p l e (headSpec wsX11_numberOfSaid rmX11_numberOfSaid).room s m args below meth c H locs 0 0 (MQ below (va_Qd Q (rB D kA h ad A) A) args s 0 0 A) (F0 m 53 ls []) := by
    intro   v1 v2 M H locs ls hH hl hw
    unfold fm_numberOfSaid_b53 at hw
    refine lv_aload_n hx hb dX11_numberOfSaid_53 rfl (lv_at hl 0 rfl) ?_
    refine lv_iconst (v := 1) hx hb dX11_numberOfSaid_54 (by decide) ?_
    obtain ⟨h33, hw⟩ := hw
    refine rp_25 hx hb hts hin hown hK hH (hts (.fieldLink RX11 264 "IdlCallerModel" "hasNumber" "Z") (by decide +kernel)) h33 dX11_numberOfSaid_55 (fun M34 H locs eM34 hH => ?_)
    replace hw := hw M34 eM34
    refine lv_iload_n hx hb dX11_numberOfSaid_58 rfl (lv_at hl 1 rfl) ?_
    refine lv_iload_n hx hb dX11_numberOfSaid_59 rfl (lv_at hl 2 rfl) ?_
    refine lv_icmp_ne (tgt := 65) hx hb dX11_numberOfSaid_60 (by decide) (fun c35 => ?_) (fun c35 => ?_)
    · replace hw := hw.1 c35
      refine lv_iload_n hx hb dX11_numberOfSaid_65 rfl (lv_at hl 2 rfl) ?_
      refine lv_iload_n hx hb dX11_numberOfSaid_66 rfl (lv_at hl 1 rfl) ?_
      refine lv_isub hx hb dX11_numberOfSaid_67 ?_
      refine lv_iconst (v := 2) hx hb dX11_numberOfSaid_68 (by decide) ?_
      refine lv_icmp_le (tgt := 105) hx hb dX11_numberOfSaid_69 (by decide) (fun c36 => ?_) (fun c36 => ?_)
      · replace hw := hw.1 c36
        exact b105   v1 v2 M34 H locs ls hH (lv_sub hl [0, 1, 2] rfl) hw
      · replace hw := hw.2 c36
        refine lv_aload_n hx hb dX11_numberOfSaid_72 rfl (lv_at hl 0 rfl) ?_
        refine rg_23 hx hb hts hin hown hK hH (hts (.fieldLink RX11 75 "IdlCallerModel" "said" "[C") (by decide +kernel)) dX11_numberOfSaid_73 ?_
        refine lv_iload_n hx hb dX11_numberOfSaid_76 rfl (lv_at hl 1 rfl) ?_
        obtain ⟨h37, hw⟩ := hw
        refine rl_23 hx hb hK hH h37 dX11_numberOfSaid_77 ?_
        refine lv_bipush (v := 48) hx hb dX11_numberOfSaid_78 (by decide) ?_
        refine lv_icmp_ne (tgt := 105) hx hb dX11_numberOfSaid_80 (by decide) (fun c38 => ?_) (fun c38 => ?_)
        · replace hw := hw.1 c38
          exact b105   v1 v2 M34 H locs ls hH (lv_sub hl [0, 1, 2] rfl) hw
        · replace hw := hw.2 c38
          refine lv_aload_n hx hb dX11_numberOfSaid_83 rfl (lv_at hl 0 rfl) ?_
          refine rg_23 hx hb hts hin hown hK hH (hts (.fieldLink RX11 75 "IdlCallerModel" "said" "[C") (by decide +kernel)) dX11_numberOfSaid_84 ?_
          refine lv_iload_n hx hb dX11_numberOfSaid_87 rfl (lv_at hl 1 rfl) ?_
          refine lv_iconst (v := 1) hx hb dX11_numberOfSaid_88 (by decide) ?_
          refine lv_iadd hx hb dX11_numberOfSaid_89 ?_
          obtain ⟨h39, hw⟩ := hw
          refine rl_23 hx hb hK hH h39 dX11_numberOfSaid_90 ?_
          refine lv_bipush (v := 120) hx hb dX11_numberOfSaid_91 (by decide) ?_
          refine lv_icmp_ne (tgt := 105) hx hb dX11_numberOfSaid_93 (by decide) (fun c40 => ?_) (fun c40 => ?_)
          · replace hw := hw.1 c40
            exact b105   v1 v2 M34 H locs ls hH (lv_sub hl [0, 1, 2] rfl) hw
          · replace hw := hw.2 c40
            refine lv_aload_n hx hb dX11_numberOfSaid_96 rfl (lv_at hl 0 rfl) ?_
            refine lv_iload_n hx hb dX11_numberOfSaid_97 rfl (lv_at hl 1 rfl) ?_
            refine lv_iconst (v := 2) hx hb dX11_numberOfSaid_98 (by decide) ?_
            refine lv_iadd hx hb dX11_numberOfSaid_99 ?_
            refine lv_iload_n hx hb dX11_numberOfSaid_100 rfl (lv_at hl 2 rfl) ?_
            refine r_calld (va_runV (As := [.int (v1 + 2), .int v2]) (rest := []) ⟨hx, hb, hml, hown, hts⟩ (tm_hexadecimal l D kA h ad H.size M34 (v1 + 2) v2 _ hw) (cwV 2 hts gX11_numberOfSaid_X11_hexadecimal rfl rfl rfl (by decide +kernel) ⟨Nat.le_of_ble_eq_true rfl, Nat.le_of_ble_eq_true rfl⟩) (r_preV hK hH) rfl rfl hl.1 rfl (lv_room (Nat.le_of_ble_eq_true rfl)) dX11_numberOfSaid_101 ⟨Nat.le_of_ble_eq_true rfl, Nat.le_of_ble_eq_true rfl⟩) hH hA (fun r42 M41 H locs hw hH => ?_)
            exact r_retd hx hb hr hlocks hK hH hw dX11_numberOfSaid_104
    · replace hw := hw.2 c35
      refine lv_dconst0 hx hb dX11_numberOfSaid_63 ?_
      exact r_retd hx hb hr hlocks hK hH hw dX11_numberOfSaid_64
  have l29 : ∀ (nn : Nat) (v1 : Int32) (v2 : Int32) (M : RM) (H : Heap) (locs : List Loc) (ls : Array Slot), rH D kA h ad A s.heap M H locs → lv_has ls 13 [(0, .ref h), (1, .int v1), (2, .int v2)] → fm_numberOfSaid_l29 Q  nn v1 v2 M → W p l e (headSpec wsX11_numberOfSaid rmX11_numberOfSaid).room s m args below meth c H locs 0 0 (MQ below (va_Qd Q (rB D kA h ad A) A) args s 0 0 A) (F0 m 29 ls []) := by
    intro   nn
    induction nn with
    | zero => intro v1 v2 M H locs ls hH hl hw; exact False.elim hw
    | succ nn hk29 =>
      intro v1 v2 M H locs ls hH hl hw
      replace hw : fm_numberOfSaid_c29 Q  (fm_numberOfSaid_l29 Q  nn) v1 v2 M := hw
      unfold fm_numberOfSaid_c29 at hw
      refine lv_iload_n hx hb dX11_numberOfSaid_29 rfl (lv_at hl 1 rfl) ?_
      refine lv_iload_n hx hb dX11_numberOfSaid_30 rfl (lv_at hl 2 rfl) ?_
      refine lv_icmp_ge (tgt := 53) hx hb dX11_numberOfSaid_31 (by decide) (fun c43 => ?_) (fun c43 => ?_)
      · replace hw := hw.1 c43
        exact b53   v1 v2 M H locs ls hH (lv_sub hl [0, 1, 2] rfl) hw
      · replace hw := hw.2 c43
        refine lv_aload_n hx hb dX11_numberOfSaid_34 rfl (lv_at hl 0 rfl) ?_
        refine rg_23 hx hb hts hin hown hK hH (hts (.fieldLink RX11 75 "IdlCallerModel" "said" "[C") (by decide +kernel)) dX11_numberOfSaid_35 ?_
        refine lv_iload_n hx hb dX11_numberOfSaid_38 rfl (lv_at hl 2 rfl) ?_
        refine lv_iconst (v := 1) hx hb dX11_numberOfSaid_39 (by decide) ?_
        refine lv_isub hx hb dX11_numberOfSaid_40 ?_
        obtain ⟨h44, hw⟩ := hw
        refine rl_23 hx hb hK hH h44 dX11_numberOfSaid_41 ?_
        refine lv_bipush (v := 32) hx hb dX11_numberOfSaid_42 (by decide) ?_
        refine lv_icmp_ne (tgt := 53) hx hb dX11_numberOfSaid_44 (by decide) (fun c45 => ?_) (fun c45 => ?_)
        · replace hw := hw.1 c45
          exact b53   v1 v2 M H locs ls hH (lv_sub hl [0, 1, 2] rfl) hw
        · replace hw := hw.2 c45
          obtain ⟨x46, ex46⟩ : ∃ y : Int32, y = v2 + (-1) := ⟨_, rfl⟩
          replace hw := hw x46 ex46
          refine lv_iinc (v := x46) (lv' := [(2, .int x46), (0, .ref h), (1, .int v1)]) hx hb dX11_numberOfSaid_47 hl (k := 2) rfl (by rw [ex46]; rfl) (by decide) rfl (fun ls hl => ?_)
          refine lv_goto (tgt := 29) hx hb dX11_numberOfSaid_50 (by decide) ?_
          exact hk29 v1 x46 M H locs ls hH (lv_sub hl [1, 2, 0] rfl) hw
  have l7 : ∀ (nn : Nat) (v1 : Int32) (v2 : Int32) (M : RM) (H : Heap) (locs : List Loc) (ls : Array Slot), rH D kA h ad A s.heap M H locs → lv_has ls 13 [(0, .ref h), (1, .int v1), (2, .int v2)] → fm_numberOfSaid_l7 Q  nn v1 v2 M → W p l e (headSpec wsX11_numberOfSaid rmX11_numberOfSaid).room s m args below meth c H locs 0 0 (MQ below (va_Qd Q (rB D kA h ad A) A) args s 0 0 A) (F0 m 7 ls []) := by
    intro   nn
    induction nn with
    | zero => intro v1 v2 M H locs ls hH hl hw; exact False.elim hw
    | succ nn hk7 =>
      intro v1 v2 M H locs ls hH hl hw
      replace hw : fm_numberOfSaid_c7 Q  (fm_numberOfSaid_l7 Q  nn) v1 v2 M := hw
      unfold fm_numberOfSaid_c7 at hw
      refine lv_iload_n hx hb dX11_numberOfSaid_7 rfl (lv_at hl 1 rfl) ?_
      refine lv_iload_n hx hb dX11_numberOfSaid_8 rfl (lv_at hl 2 rfl) ?_
      refine lv_icmp_ge (tgt := 29) hx hb dX11_numberOfSaid_9 (by decide) (fun c47 => ?_) (fun c47 => ?_)
      · replace hw := hw.1 c47
        obtain ⟨nn, hw⟩ := hw
        exact l29   nn v1 v2 M H locs ls hH (lv_sub hl [0, 1, 2] rfl) hw
      · replace hw := hw.2 c47
        refine lv_aload_n hx hb dX11_numberOfSaid_12 rfl (lv_at hl 0 rfl) ?_
        refine rg_23 hx hb hts hin hown hK hH (hts (.fieldLink RX11 75 "IdlCallerModel" "said" "[C") (by decide +kernel)) dX11_numberOfSaid_13 ?_
        refine lv_iload_n hx hb dX11_numberOfSaid_16 rfl (lv_at hl 1 rfl) ?_
        obtain ⟨h48, hw⟩ := hw
        refine rl_23 hx hb hK hH h48 dX11_numberOfSaid_17 ?_
        refine lv_bipush (v := 32) hx hb dX11_numberOfSaid_18 (by decide) ?_
        refine lv_icmp_ne (tgt := 29) hx hb dX11_numberOfSaid_20 (by decide) (fun c49 => ?_) (fun c49 => ?_)
        · replace hw := hw.1 c49
          obtain ⟨nn, hw⟩ := hw
          exact l29   nn v1 v2 M H locs ls hH (lv_sub hl [0, 1, 2] rfl) hw
        · replace hw := hw.2 c49
          obtain ⟨x50, ex50⟩ : ∃ y : Int32, y = v1 + 1 := ⟨_, rfl⟩
          replace hw := hw x50 ex50
          refine lv_iinc (v := x50) (lv' := [(1, .int x50), (0, .ref h), (2, .int v2)]) hx hb dX11_numberOfSaid_23 hl (k := 1) rfl (by rw [ex50]; rfl) (by decide) rfl (fun ls hl => ?_)
          refine lv_goto (tgt := 7) hx hb dX11_numberOfSaid_26 (by decide) ?_
          exact hk7 x50 v2 M H locs ls hH (lv_sub hl [1, 0, 2] rfl) hw
  clear hP hD0
  unfold fm_numberOfSaid at hw
  have hst : ∀ (M : RM) (H : Heap) (locs : List Loc) (ls : Array Slot), rH D kA h ad A s.heap M H locs → lv_has ls 13 [(0, .ref h)] → (∀ x51 : Int32, x51 = rI M 24 → (∃ nn : Nat, fm_numberOfSaid_l7 Q  nn 0 x51 M)) → W p l e (headSpec wsX11_numberOfSaid rmX11_numberOfSaid).room s m args below meth c H locs 0 0 (MQ below (va_Qd Q (rB D kA h ad A) A) args s 0 0 A) (F0 m 0 ls []) := by
    intro M H locs ls hH hl hw
    refine lv_iconst (v := 0) hx hb dX11_numberOfSaid_0 (by decide) ?_
    refine lv_istore_n (lv' := [(1, .int 0), (0, .ref h)]) hx hb dX11_numberOfSaid_1 rfl hl (by decide) rfl (fun ls hl => ?_)
    refine lv_aload_n hx hb dX11_numberOfSaid_2 rfl (lv_at hl 1 rfl) ?_
    refine rg_24 hx hb hts hin hown hK hH (hts (.fieldLink RX11 227 "IdlCallerModel" "saidSize" "I") (by decide +kernel)) dX11_numberOfSaid_3 ?_
    refine lv_topi (fun x51 ex51 => ?_)
    replace hw := hw x51 ex51
    refine lv_istore_n (lv' := [(2, .int x51), (1, .int 0), (0, .ref h)]) hx hb dX11_numberOfSaid_6 rfl hl (by decide) rfl (fun ls hl => ?_)
    obtain ⟨nn, hw⟩ := hw
    exact l7   nn 0 x51 M H locs ls hH (lv_sub hl [2, 1, 0] rfl) hw
  exact hst M s.heap [] ls hH hl hw
def fm_numberOf_b63 (Q : UInt64 → RM → Prop) (s0 : UInt64) (M : RM) : Prop := Q s0 M
def fm_numberOf (a1 : Int32) (M : RM) (Q : UInt64 → RM → Prop) : Prop := (nZ (1 : Int32) ∧ (∀ M2 : RM, M2 = wI M 25 1 → (vp_in a1 48 ∧ ((rA M2 13 a1.toNatClampNeg = 0 → (nZ (0 : Int32) ∧ (∀ M5 : RM, M5 = wI M2 25 0 → Q FP.dconst0 M5))) ∧ (rA M2 13 a1.toNatClampNeg = 1 → Q FP.dconst0 M2) ∧ (rA M2 13 a1.toNatClampNeg = 2 → (vp_in a1 48 ∧ (((rA M2 14 a1.toNatClampNeg) = 0 → fm_numberOf_b63 Q  FP.dconst0 M2) ∧ (¬ (rA M2 14 a1.toNatClampNeg) = 0 → fm_numberOf_b63 Q  FP.dconst1 M2)))) ∧ (rA M2 13 a1.toNatClampNeg = 3 → (vp_in a1 48 ∧ Q (rD M2 15 a1.toNatClampNeg) M2)) ∧ (¬ rA M2 13 a1.toNatClampNeg = 0 ∧ ¬ rA M2 13 a1.toNatClampNeg = 1 ∧ ¬ rA M2 13 a1.toNatClampNeg = 2 ∧ ¬ rA M2 13 a1.toNatClampNeg = 3 → fm_sayAll a1 M2 (fun (M9 : RM) => fm_numberOfSaid  M9 (fun (r12 : UInt64) (M11 : RM) => Q r12 M11)))))))
abbrev rmX11_numberOf : Room := { frames := 4, cells := 0, slots := 0, locals := 98 }
set_option maxHeartbeats 4000000 in
set_option maxRecDepth 100000 in
theorem tm_numberOf (l : Launch) (D : va_G) (kA : Nat → ClassId) (h : Nat) (ad : Nat → Nat) (sz : Nat) (M : RM) (a1 : Int32) (Q : UInt64 → RM → Prop) (hw : fm_numberOf a1 M Q) : Met l yX11_numberOf wsX11_numberOf rmX11_numberOf (va_Pc [.ref h, .int a1] (rPc D kA h ad M sz)) (va_Qd Q (rB D kA h ad (rF kA h ad M sz)) (rF kA h ad M sz)) 0 0 (rF kA h ad M sz) := by
  refine Met.ofW (cc := cX11_numberOf) (maxL := 2) (ret := (some .double)) (by decide) rfl ?_
  intro p e s m args below meth c s₁ B hml hv
  obtain ⟨rfl, hsz, hP, hK, hD0⟩ := hv
  have hx := B.exec
  have hb := B.bytes
  have hr := B.returns
  have hts := atoms_spec (ws := wsX11_numberOf) B.pre
  have hown : s.vm.findClass RX11 = some m.cls := findClass_of_methodNamed B.named
  have hlocks : meth.locks = false := B.notSynchronized
  subst hsz
  have hH : rH D kA h ad (rF kA h ad M s.heap.size) s.heap M s.heap [] := ⟨hP, hD0.self, va_S.rf⟩
  have hA : ∀ q : Nat, s.heap.size ≤ q → rF kA h ad M s.heap.size q := fun q z => Or.inr z
  generalize rF kA h ad M s.heap.size = A at hH hA ⊢
  have hl := lv_entry ([.ref h, .int a1]) (n := 2) (Nat.le_of_ble_eq_true rfl)
  rw [lg_entry_eq]
  generalize (lg_sl ([.ref h, .int a1]) ++ List.replicate (2 - (lg_sl ([.ref h, .int a1])).length) Slot.unset).toArray = ls at hl ⊢
  generalize ([.ref h, .int a1] : List Value).toArray = args at hts ⊢
  have hl : lv_has ls 2 [(0, .ref h), (1, .int a1)] := hl
  have hin : ∀ w ∈ wsX110, w ∈ wsX11_numberOf := by decide +kernel
  have b63 : ∀ (s0 : UInt64) (M : RM) (H : Heap) (locs : List Loc) (ls : Array Slot), rH D kA h ad A s.heap M H locs → lv_has ls 2 [] → fm_numberOf_b63 Q  s0 M → W p l e (headSpec wsX11_numberOf rmX11_numberOf).room s m args below meth c H locs 0 0 (MQ below (va_Qd Q (rB D kA h ad A) A) args s 0 0 A) (F0 m 63 ls [.double s0]) := by
    intro   s0 M H locs ls hH hl hw
    unfold fm_numberOf_b63 at hw
    exact r_retd hx hb hr hlocks hK hH hw dX11_numberOf_63
  clear hP hD0
  unfold fm_numberOf at hw
  have hst : ∀ (M : RM) (H : Heap) (locs : List Loc) (ls : Array Slot), rH D kA h ad A s.heap M H locs → lv_has ls 2 [(0, .ref h), (1, .int a1)] → (nZ (1 : Int32) ∧ (∀ M2 : RM, M2 = wI M 25 1 → (vp_in a1 48 ∧ ((rA M2 13 a1.toNatClampNeg = 0 → (nZ (0 : Int32) ∧ (∀ M5 : RM, M5 = wI M2 25 0 → Q FP.dconst0 M5))) ∧ (rA M2 13 a1.toNatClampNeg = 1 → Q FP.dconst0 M2) ∧ (rA M2 13 a1.toNatClampNeg = 2 → (vp_in a1 48 ∧ (((rA M2 14 a1.toNatClampNeg) = 0 → fm_numberOf_b63 Q  FP.dconst0 M2) ∧ (¬ (rA M2 14 a1.toNatClampNeg) = 0 → fm_numberOf_b63 Q  FP.dconst1 M2)))) ∧ (rA M2 13 a1.toNatClampNeg = 3 → (vp_in a1 48 ∧ Q (rD M2 15 a1.toNatClampNeg) M2)) ∧ (¬ rA M2 13 a1.toNatClampNeg = 0 ∧ ¬ rA M2 13 a1.toNatClampNeg = 1 ∧ ¬ rA M2 13 a1.toNatClampNeg = 2 ∧ ¬ rA M2 13 a1.toNatClampNeg = 3 → fm_sayAll a1 M2 (fun (M9 : RM) => fm_numberOfSaid  M9 (fun (r12 : UInt64) (M11 : RM) => Q r12 M11))))))) → W p l e (headSpec wsX11_numberOf rmX11_numberOf).room s m args below meth c H locs 0 0 (MQ below (va_Qd Q (rB D kA h ad A) A) args s 0 0 A) (F0 m 0 ls []) := by
    intro M H locs ls hH hl hw
    refine lv_aload_n hx hb dX11_numberOf_0 rfl (lv_at hl 0 rfl) ?_
    refine lv_iconst (v := 1) hx hb dX11_numberOf_1 (by decide) ?_
    obtain ⟨h1, hw⟩ := hw
    refine rp_25 hx hb hts hin hown hK hH (hts (.fieldLink RX11 264 "IdlCallerModel" "hasNumber" "Z") (by decide +kernel)) h1 dX11_numberOf_2 (fun M2 H locs eM2 hH => ?_)
    replace hw := hw M2 eM2
    refine lv_aload_n hx hb dX11_numberOf_5 rfl (lv_at hl 0 rfl) ?_
    refine rg_13 hx hb hts hin hown hK hH (hts (.fieldLink RX11 46 "IdlCallerModel" "kindOf" "[I") (by decide +kernel)) dX11_numberOf_6 ?_
    refine lv_iload_n hx hb dX11_numberOf_9 rfl (lv_at hl 1 rfl) ?_
    obtain ⟨h3, hw⟩ := hw
    refine rl_13 hx hb hK hH h3 dX11_numberOf_10 ?_
    by_cases c0 : rA M2 13 a1.toNatClampNeg = 0
    · replace hw := hw.1 c0
      refine lv_tableIn (off := 29) (tgt := 40) hx hb dX11_numberOf_11 (by rw [c0]; decide) (by rw [c0]; decide) (by rw [c0]; rfl) (by decide) ?_
      refine lv_aload_n hx hb dX11_numberOf_40 rfl (lv_at hl 0 rfl) ?_
      refine lv_iconst (v := 0) hx hb dX11_numberOf_41 (by decide) ?_
      obtain ⟨h4, hw⟩ := hw
      refine rp_25 hx hb hts hin hown hK hH (hts (.fieldLink RX11 264 "IdlCallerModel" "hasNumber" "Z") (by decide +kernel)) h4 dX11_numberOf_42 (fun M5 H locs eM5 hH => ?_)
      replace hw := hw M5 eM5
      refine lv_dconst0 hx hb dX11_numberOf_45 ?_
      exact r_retd hx hb hr hlocks hK hH hw dX11_numberOf_46
    by_cases c1 : rA M2 13 a1.toNatClampNeg = 1
    · replace hw := hw.2.1 c1
      refine lv_tableIn (off := 36) (tgt := 47) hx hb dX11_numberOf_11 (by rw [c1]; decide) (by rw [c1]; decide) (by rw [c1]; rfl) (by decide) ?_
      refine lv_dconst0 hx hb dX11_numberOf_47 ?_
      exact r_retd hx hb hr hlocks hK hH hw dX11_numberOf_48
    by_cases c2 : rA M2 13 a1.toNatClampNeg = 2
    · replace hw := hw.2.2.1 c2
      refine lv_tableIn (off := 38) (tgt := 49) hx hb dX11_numberOf_11 (by rw [c2]; decide) (by rw [c2]; decide) (by rw [c2]; rfl) (by decide) ?_
      refine lv_aload_n hx hb dX11_numberOf_49 rfl (lv_at hl 0 rfl) ?_
      refine rg_14 hx hb hts hin hown hK hH (hts (.fieldLink RX11 49 "IdlCallerModel" "truth" "[Z") (by decide +kernel)) dX11_numberOf_50 ?_
      refine lv_iload_n hx hb dX11_numberOf_53 rfl (lv_at hl 1 rfl) ?_
      obtain ⟨h6, hw⟩ := hw
      refine rl_14 hx hb hK hH h6 dX11_numberOf_54 ?_
      refine lv_if_eq (tgt := 62) hx hb dX11_numberOf_55 (by decide) (fun c7 => ?_) (fun c7 => ?_)
      · replace hw := hw.1 c7
        refine lv_dconst0 hx hb dX11_numberOf_62 ?_
        exact b63   FP.dconst0 M2 H locs ls hH (lv_sub hl [] rfl) hw
      · replace hw := hw.2 c7
        refine lv_dconst1 hx hb dX11_numberOf_58 ?_
        refine lv_goto (tgt := 63) hx hb dX11_numberOf_59 (by decide) ?_
        exact b63   FP.dconst1 M2 H locs ls hH (lv_sub hl [] rfl) hw
    by_cases c3 : rA M2 13 a1.toNatClampNeg = 3
    · replace hw := hw.2.2.2.1 c3
      refine lv_tableIn (off := 53) (tgt := 64) hx hb dX11_numberOf_11 (by rw [c3]; decide) (by rw [c3]; decide) (by rw [c3]; rfl) (by decide) ?_
      refine lv_aload_n hx hb dX11_numberOf_64 rfl (lv_at hl 0 rfl) ?_
      refine rg_15 hx hb hts hin hown hK hH (hts (.fieldLink RX11 52 "IdlCallerModel" "numeric" "[D") (by decide +kernel)) dX11_numberOf_65 ?_
      refine lv_iload_n hx hb dX11_numberOf_68 rfl (lv_at hl 1 rfl) ?_
      obtain ⟨h8, hw⟩ := hw
      refine rl_15 hx hb hK hH h8 dX11_numberOf_69 ?_
      exact r_retd hx hb hr hlocks hK hH hw dX11_numberOf_70
    replace hw := hw.2.2.2.2 ⟨c0, c1, c2, c3⟩
    have d0 : (rA M2 13 a1.toNatClampNeg).toInt ≠ 0 := fun q => c0 (Int32.toInt_inj.mp (q.trans (by decide)))
    have d1 : (rA M2 13 a1.toNatClampNeg).toInt ≠ 1 := fun q => c1 (Int32.toInt_inj.mp (q.trans (by decide)))
    have d2 : (rA M2 13 a1.toNatClampNeg).toInt ≠ 2 := fun q => c2 (Int32.toInt_inj.mp (q.trans (by decide)))
    have d3 : (rA M2 13 a1.toNatClampNeg).toInt ≠ 3 := fun q => c3 (Int32.toInt_inj.mp (q.trans (by decide)))
    refine lv_tableOut (tgt := 71) hx hb dX11_numberOf_11 (by omega) (by decide) ?_
    refine lv_aload_n hx hb dX11_numberOf_71 rfl (lv_at hl 0 rfl) ?_
    refine lv_iload_n hx hb dX11_numberOf_72 rfl (lv_at hl 1 rfl) ?_
    refine r_callv (va_runV (As := [.int a1]) (rest := []) ⟨hx, hb, hml, hown, hts⟩ (tm_sayAll l D kA h ad H.size M2 a1 _ hw) (cwV 1 hts gX11_numberOf_X11_sayAll rfl rfl rfl (by decide +kernel) ⟨Nat.le_of_ble_eq_true rfl, Nat.le_of_ble_eq_true rfl⟩) (r_preV hK hH) rfl rfl hl.1 rfl (lv_room (Nat.le_of_ble_eq_true rfl)) dX11_numberOf_73 ⟨Nat.le_of_ble_eq_true rfl, Nat.le_of_ble_eq_true rfl⟩) hH hA (fun M9 H locs hw hH => ?_)
    refine lv_aload_n hx hb dX11_numberOf_76 rfl (lv_at hl 0 rfl) ?_
    refine r_calld (va_runV (As := []) (rest := []) ⟨hx, hb, hml, hown, hts⟩ (tm_numberOfSaid l D kA h ad H.size M9  _ hw) (cwV 0 hts gX11_numberOf_X11_numberOfSaid rfl rfl rfl (by decide +kernel) ⟨Nat.le_of_ble_eq_true rfl, Nat.le_of_ble_eq_true rfl⟩) (r_preV hK hH) rfl rfl hl.1 rfl (lv_room (Nat.le_of_ble_eq_true rfl)) dX11_numberOf_77 ⟨Nat.le_of_ble_eq_true rfl, Nat.le_of_ble_eq_true rfl⟩) hH hA (fun r12 M11 H locs hw hH => ?_)
    exact r_retd hx hb hr hlocks hK hH hw dX11_numberOf_80
  exact hst M s.heap [] ls hH hl hw
def fm_make (a1 : Int32) (a2 : Int32) (a3 : Int64) (a4 : UInt64) (M : RM) (Q : RM → Prop) : Prop := (vp_in a1 96 ∧ (∀ M2 : RM, M2 = wA M 19 a1.toNatClampNeg a2 → (vp_in a1 96 ∧ (∀ M4 : RM, M4 = wJ M2 20 a1.toNatClampNeg a3 → (vp_in a1 96 ∧ (∀ M6 : RM, M6 = wD M4 21 a1.toNatClampNeg a4 → Q M6))))))
abbrev rmX11_make : Room := { frames := 0, cells := 0, slots := 0, locals := 0 }
set_option maxHeartbeats 4000000 in
set_option maxRecDepth 100000 in
theorem tm_make (l : Launch) (D : va_G) (kA : Nat → ClassId) (h : Nat) (ad : Nat → Nat) (sz : Nat) (M : RM) (a1 : Int32) (a2 : Int32) (a3 : Int64) (a4 : UInt64) (Q : RM → Prop) (hw : fm_make a1 a2 a3 a4 M Q) : Met l yX11_make wsX11_make rmX11_make (va_Pc [.ref h, .int a1, .int a2, .long a3, .double a4] (rPc D kA h ad M sz)) (va_Qv Q (rB D kA h ad (rF kA h ad M sz)) (rF kA h ad M sz)) 0 0 (rF kA h ad M sz) := by
  refine Met.ofW (cc := cX11_make) (maxL := 7) (ret := none) (by decide) rfl ?_
  intro p e s m args below meth c s₁ B hml hv
  obtain ⟨rfl, hsz, hP, hK, hD0⟩ := hv
  have hx := B.exec
  have hb := B.bytes
  have hr := B.returns
  have hts := atoms_spec (ws := wsX11_make) B.pre
  have hown : s.vm.findClass RX11 = some m.cls := findClass_of_methodNamed B.named
  have hlocks : meth.locks = false := B.notSynchronized
  subst hsz
  have hH : rH D kA h ad (rF kA h ad M s.heap.size) s.heap M s.heap [] := ⟨hP, hD0.self, va_S.rf⟩
  have hA : ∀ q : Nat, s.heap.size ≤ q → rF kA h ad M s.heap.size q := fun q z => Or.inr z
  generalize rF kA h ad M s.heap.size = A at hH hA ⊢
  have hl := lv_entry ([.ref h, .int a1, .int a2, .long a3, .double a4]) (n := 7) (Nat.le_of_ble_eq_true rfl)
  rw [lg_entry_eq]
  generalize (lg_sl ([.ref h, .int a1, .int a2, .long a3, .double a4]) ++ List.replicate (7 - (lg_sl ([.ref h, .int a1, .int a2, .long a3, .double a4])).length) Slot.unset).toArray = ls at hl ⊢
  generalize ([.ref h, .int a1, .int a2, .long a3, .double a4] : List Value).toArray = args at hts ⊢
  have hl : lv_has ls 7 [(0, .ref h), (1, .int a1), (2, .int a2), (3, .long a3), (5, .double a4)] := hl
  have hin : ∀ w ∈ wsX110, w ∈ wsX11_make := by decide +kernel
  clear hP hD0
  unfold fm_make at hw
  have hst : ∀ (M : RM) (H : Heap) (locs : List Loc) (ls : Array Slot), rH D kA h ad A s.heap M H locs → lv_has ls 7 [(0, .ref h), (1, .int a1), (2, .int a2), (3, .long a3), (5, .double a4)] → (vp_in a1 96 ∧ (∀ M2 : RM, M2 = wA M 19 a1.toNatClampNeg a2 → (vp_in a1 96 ∧ (∀ M4 : RM, M4 = wJ M2 20 a1.toNatClampNeg a3 → (vp_in a1 96 ∧ (∀ M6 : RM, M6 = wD M4 21 a1.toNatClampNeg a4 → Q M6)))))) → W p l e (headSpec wsX11_make rmX11_make).room s m args below meth c H locs 0 0 (MQ below (va_Qv Q (rB D kA h ad A) A) args s 0 0 A) (F0 m 0 ls []) := by
    intro M H locs ls hH hl hw
    refine lv_aload_n hx hb dX11_make_0 rfl (lv_at hl 0 rfl) ?_
    refine rg_19 hx hb hts hin hown hK hH (hts (.fieldLink RX11 62 "IdlCallerModel" "madeKind" "[I") (by decide +kernel)) dX11_make_1 ?_
    refine lv_iload_n hx hb dX11_make_4 rfl (lv_at hl 1 rfl) ?_
    refine lv_iload_n hx hb dX11_make_5 rfl (lv_at hl 2 rfl) ?_
    obtain ⟨h1, hw⟩ := hw
    refine rs_19 hx hb hK hH h1 dX11_make_6 (fun M2 H locs eM2 hH => ?_)
    replace hw := hw M2 eM2
    refine lv_aload_n hx hb dX11_make_7 rfl (lv_at hl 0 rfl) ?_
    refine rg_20 hx hb hts hin hown hK hH (hts (.fieldLink RX11 65 "IdlCallerModel" "madeWhole" "[J") (by decide +kernel)) dX11_make_8 ?_
    refine lv_iload_n hx hb dX11_make_11 rfl (lv_at hl 1 rfl) ?_
    refine lv_lload_n hx hb dX11_make_12 rfl (lv_at hl 3 rfl) ?_
    obtain ⟨h3, hw⟩ := hw
    refine rs_20 hx hb hK hH h3 dX11_make_13 (fun M4 H locs eM4 hH => ?_)
    replace hw := hw M4 eM4
    refine lv_aload_n hx hb dX11_make_14 rfl (lv_at hl 0 rfl) ?_
    refine rg_21 hx hb hts hin hown hK hH (hts (.fieldLink RX11 69 "IdlCallerModel" "madeReal" "[D") (by decide +kernel)) dX11_make_15 ?_
    refine lv_iload_n hx hb dX11_make_18 rfl (lv_at hl 1 rfl) ?_
    refine lv_dload hx hb dX11_make_19 (lv_at hl 4 rfl) ?_
    obtain ⟨h5, hw⟩ := hw
    refine rs_21 hx hb hK hH h5 dX11_make_21 (fun M6 H locs eM6 hH => ?_)
    replace hw := hw M6 eM6
    exact r_retv hx hb hr hlocks hK hH hw dX11_make_22
  exact hst M s.heap [] ls hH hl hw
def fm_makeText_c14 (Q : RM → Prop) (k14 : Int32 → Int32 → RM → Prop) (v1 : Int32) (v2 : Int32) (M : RM) : Prop := (((rI M 24) ≤ v2 → Q M) ∧ (¬ (rI M 24) ≤ v2 → (vp_in v2 100 ∧ (vp_in ((80 * v1) + v2) 7680 ∧ (∀ M4 : RM, M4 = wA M 22 ((80 * v1) + v2).toNatClampNeg (vp_nar .char (rA M 23 v2.toNatClampNeg)) → (∀ x5 : Int32, x5 = v2 + 1 → k14 v1 x5 M4))))))
def fm_makeText_l14 (Q : RM → Prop) : Nat → Int32 → Int32 → RM → Prop := lit (τ := Int32 → Int32 → RM → Prop) (fun _ _ _ => False) (fun k => fm_makeText_c14 Q  k)
def fm_makeText (a1 : Int32) (M : RM) (Q : RM → Prop) : Prop := fm_make a1 5 ((rI M 24).toInt64) FP.dconst0 M (fun (M6 : RM) => (∃ nn : Nat, fm_makeText_l14 Q  nn a1 0 M6))
abbrev rmX11_makeText : Room := { frames := 1, cells := 0, slots := 0, locals := 26 }
set_option maxHeartbeats 4000000 in
set_option maxRecDepth 100000 in
theorem tm_makeText (l : Launch) (D : va_G) (kA : Nat → ClassId) (h : Nat) (ad : Nat → Nat) (sz : Nat) (M : RM) (a1 : Int32) (Q : RM → Prop) (hw : fm_makeText a1 M Q) : Met l yX11_makeText wsX11_makeText rmX11_makeText (va_Pc [.ref h, .int a1] (rPc D kA h ad M sz)) (va_Qv Q (rB D kA h ad (rF kA h ad M sz)) (rF kA h ad M sz)) 0 0 (rF kA h ad M sz) := by
  refine Met.ofW (cc := cX11_makeText) (maxL := 3) (ret := none) (by decide) rfl ?_
  intro p e s m args below meth c s₁ B hml hv
  obtain ⟨rfl, hsz, hP, hK, hD0⟩ := hv
  have hx := B.exec
  have hb := B.bytes
  have hr := B.returns
  have hts := atoms_spec (ws := wsX11_makeText) B.pre
  have hown : s.vm.findClass RX11 = some m.cls := findClass_of_methodNamed B.named
  have hlocks : meth.locks = false := B.notSynchronized
  subst hsz
  have hH : rH D kA h ad (rF kA h ad M s.heap.size) s.heap M s.heap [] := ⟨hP, hD0.self, va_S.rf⟩
  have hA : ∀ q : Nat, s.heap.size ≤ q → rF kA h ad M s.heap.size q := fun q z => Or.inr z
  generalize rF kA h ad M s.heap.size = A at hH hA ⊢
  have hl := lv_entry ([.ref h, .int a1]) (n := 3) (Nat.le_of_ble_eq_true rfl)
  rw [lg_entry_eq]
  generalize (lg_sl ([.ref h, .int a1]) ++ List.replicate (3 - (lg_sl ([.ref h, .int a1])).length) Slot.unset).toArray = ls at hl ⊢
  generalize ([.ref h, .int a1] : List Value).toArray = args at hts ⊢
  have hl : lv_has ls 3 [(0, .ref h), (1, .int a1)] := hl
  have hin : ∀ w ∈ wsX110, w ∈ wsX11_makeText := by decide +kernel
  have l14 : ∀ (nn : Nat) (v1 : Int32) (v2 : Int32) (M : RM) (H : Heap) (locs : List Loc) (ls : Array Slot), rH D kA h ad A s.heap M H locs → lv_has ls 3 [(0, .ref h), (1, .int v1), (2, .int v2)] → fm_makeText_l14 Q  nn v1 v2 M → W p l e (headSpec wsX11_makeText rmX11_makeText).room s m args below meth c H locs 0 0 (MQ below (va_Qv Q (rB D kA h ad A) A) args s 0 0 A) (F0 m 14 ls []) := by
    intro   nn
    induction nn with
    | zero => intro v1 v2 M H locs ls hH hl hw; exact False.elim hw
    | succ nn hk14 =>
      intro v1 v2 M H locs ls hH hl hw
      replace hw : fm_makeText_c14 Q  (fm_makeText_l14 Q  nn) v1 v2 M := hw
      unfold fm_makeText_c14 at hw
      refine lv_iload_n hx hb dX11_makeText_14 rfl (lv_at hl 2 rfl) ?_
      refine lv_aload_n hx hb dX11_makeText_15 rfl (lv_at hl 0 rfl) ?_
      refine rg_24 hx hb hts hin hown hK hH (hts (.fieldLink RX11 227 "IdlCallerModel" "saidSize" "I") (by decide +kernel)) dX11_makeText_16 ?_
      refine lv_icmp_ge (tgt := 45) hx hb dX11_makeText_19 (by decide) (fun c1 => ?_) (fun c1 => ?_)
      · replace hw := hw.1 c1
        exact r_retv hx hb hr hlocks hK hH hw dX11_makeText_45
      · replace hw := hw.2 c1
        refine lv_aload_n hx hb dX11_makeText_22 rfl (lv_at hl 0 rfl) ?_
        refine rg_22 hx hb hts hin hown hK hH (hts (.fieldLink RX11 72 "IdlCallerModel" "madeText" "[C") (by decide +kernel)) dX11_makeText_23 ?_
        refine lv_bipush (v := 80) hx hb dX11_makeText_26 (by decide) ?_
        refine lv_iload_n hx hb dX11_makeText_28 rfl (lv_at hl 1 rfl) ?_
        refine lv_imul hx hb dX11_makeText_29 ?_
        refine lv_iload_n hx hb dX11_makeText_30 rfl (lv_at hl 2 rfl) ?_
        refine lv_iadd hx hb dX11_makeText_31 ?_
        refine lv_aload_n hx hb dX11_makeText_32 rfl (lv_at hl 0 rfl) ?_
        refine rg_23 hx hb hts hin hown hK hH (hts (.fieldLink RX11 75 "IdlCallerModel" "said" "[C") (by decide +kernel)) dX11_makeText_33 ?_
        refine lv_iload_n hx hb dX11_makeText_36 rfl (lv_at hl 2 rfl) ?_
        obtain ⟨h2, hw⟩ := hw
        refine rl_23 hx hb hK hH h2 dX11_makeText_37 ?_
        obtain ⟨h3, hw⟩ := hw
        refine rs_22 hx hb hK hH h3 dX11_makeText_38 (fun M4 H locs eM4 hH => ?_)
        replace hw := hw M4 eM4
        obtain ⟨x5, ex5⟩ : ∃ y : Int32, y = v2 + 1 := ⟨_, rfl⟩
        replace hw := hw x5 ex5
        refine lv_iinc (v := x5) (lv' := [(2, .int x5), (0, .ref h), (1, .int v1)]) hx hb dX11_makeText_39 hl (k := 2) rfl (by rw [ex5]; rfl) (by decide) rfl (fun ls hl => ?_)
        refine lv_goto (tgt := 14) hx hb dX11_makeText_42 (by decide) ?_
        exact hk14 v1 x5 M4 H locs ls hH (lv_sub hl [1, 2, 0] rfl) hw
  clear hP hD0
  unfold fm_makeText at hw
  have hst : ∀ (M : RM) (H : Heap) (locs : List Loc) (ls : Array Slot), rH D kA h ad A s.heap M H locs → lv_has ls 3 [(0, .ref h), (1, .int a1)] → fm_make a1 5 ((rI M 24).toInt64) FP.dconst0 M (fun (M6 : RM) => (∃ nn : Nat, fm_makeText_l14 Q  nn a1 0 M6)) → W p l e (headSpec wsX11_makeText rmX11_makeText).room s m args below meth c H locs 0 0 (MQ below (va_Qv Q (rB D kA h ad A) A) args s 0 0 A) (F0 m 0 ls []) := by
    intro M H locs ls hH hl hw
    refine lv_aload_n hx hb dX11_makeText_0 rfl (lv_at hl 0 rfl) ?_
    refine lv_iload_n hx hb dX11_makeText_1 rfl (lv_at hl 1 rfl) ?_
    refine lv_iconst (v := 5) hx hb dX11_makeText_2 (by decide) ?_
    refine lv_aload_n hx hb dX11_makeText_3 rfl (lv_at hl 0 rfl) ?_
    refine rg_24 hx hb hts hin hown hK hH (hts (.fieldLink RX11 227 "IdlCallerModel" "saidSize" "I") (by decide +kernel)) dX11_makeText_4 ?_
    refine lv_i2l hx hb dX11_makeText_7 rfl ?_
    refine lv_dconst0 hx hb dX11_makeText_8 ?_
    refine r_callv (va_runV (As := [.int a1, .int 5, .long ((rI M 24).toInt64), .double FP.dconst0]) (rest := []) ⟨hx, hb, hml, hown, hts⟩ (tm_make l D kA h ad H.size M a1 5 ((rI M 24).toInt64) FP.dconst0 _ hw) (cwV 4 hts gX11_makeText_X11_make rfl rfl rfl (by decide +kernel) ⟨Nat.le_of_ble_eq_true rfl, Nat.le_of_ble_eq_true rfl⟩) (r_preV hK hH) rfl rfl hl.1 rfl (lv_room (Nat.le_of_ble_eq_true rfl)) dX11_makeText_9 ⟨Nat.le_of_ble_eq_true rfl, Nat.le_of_ble_eq_true rfl⟩) hH hA (fun M6 H locs hw hH => ?_)
    refine lv_iconst (v := 0) hx hb dX11_makeText_12 (by decide) ?_
    refine lv_istore_n (lv' := [(2, .int 0), (0, .ref h), (1, .int a1)]) hx hb dX11_makeText_13 rfl hl (by decide) rfl (fun ls hl => ?_)
    obtain ⟨nn, hw⟩ := hw
    exact l14   nn a1 0 M6 H locs ls hH (lv_sub hl [1, 2, 0] rfl) hw
  exact hst M s.heap [] ls hH hl hw
