def fc_L_type (T : LY)  (a1 : Option Nat) (a2 : Int32) (a3 : Int32) (a4 : Int32) (a5 : Int32) (a6 : Int32) (a7 : Option Nat) (M : CM) (Q : Int32 → CM → Prop) : Prop := (∃ p1 : Nat, a1 = some p1 ∧ (tg T p1 = 11 ∧ fc_X10_type T (fun (kk : Nat) (M3 : CM) => (kk = 2 ∧ Q 1 M3)) p1 a2 a3 a4 a5 a6 M (fun (r4 : Int32) (M3 : CM) => (∃ p5 : Nat, a7 = some p5 ∧ (tg T p5 = 23 ∧ (vp_in (0 : Int32) (ln T p5) ∧ (∀ M7 : CM, M7 = yJ M3 p5 (0 : Int32).toNatClampNeg r4.toInt64 → Q 0 M7)))))))
abbrev rmL_type : Room := { frames := 7, cells := 1, slots := 6, locals := 108 }
set_option maxHeartbeats 4000000 in
set_option maxRecDepth 100000 in
theorem tc_L_type (l : Launch) (hst0 : l.stackTraces = false) (D : va_G) (kA : Nat → ClassId) (nm : Nat → Nat) (na : Nat) (sa sv : Nat → Nat) (sz : Nat) (T : LY) (a1 : Option Nat) (a2 : Int32) (a3 : Int32) (a4 : Int32) (a5 : Int32) (a6 : Int32) (a7 : Option Nat) (M : CM) (Q : Int32 → CM → Prop) (hw : fc_L_type T a1 a2 a3 a4 a5 a6 a7 M Q) : Met l yL_type wsL_type rmL_type (va_Pc [va_rf a1, .int a2, .int a3, .int a4, .int a5, .int a6, va_rf a7] (cPc nm na sa sv D kA T M sz)) (va_Qi Q (cB D kA (cF T sz) T) (cF T sz)) 1 6 (cF T sz) := by
  refine Met_ofWH (cc := cL_type) (maxL := 8) (ret := (some .int)) (by decide) rfl ?_
  intro p e s m args below meth c s₁ B hml hv
  obtain ⟨rfl, hsz, hP, hK, hSt⟩ := hv
  have hx := B.exec
  have hb := B.bytes
  have hr := B.returns
  have hts := atoms_spec (ws := wsL_type) B.pre
  have hown : s.vm.findClass RL = some m.cls := findClass_of_methodNamed B.named
  have hlocks : meth.locks = false := B.notSynchronized
  have htb := vx_table (x := yL_type) B (hts (.codeWith yL_type cL_type 8 (some .int) [(0, 16, 19, 13)]) List.mem_cons_self)
  subst hsz
  have hH : cH D kA (cF T s.heap.size) s.heap T M s.heap [] := ⟨hP.self, va_S.rf⟩
  have hA : ∀ q : Nat, s.heap.size ≤ q → cF T s.heap.size q := fun q z => Or.inr z
  generalize cF T s.heap.size = A at hH hA hSt ⊢
  have hl := lv_entry ([va_rf a1, .int a2, .int a3, .int a4, .int a5, .int a6, va_rf a7]) (n := 8) (by first | exact Nat.le_of_ble_eq_true rfl | simp [lg_sl, va_rf_cat, cat_ref, cat_int, cat_long, cat_double])
  rw [lg_entry_eq]
  generalize (lg_sl ([va_rf a1, .int a2, .int a3, .int a4, .int a5, .int a6, va_rf a7]) ++ List.replicate (8 - (lg_sl ([va_rf a1, .int a2, .int a3, .int a4, .int a5, .int a6, va_rf a7])).length) Slot.unset).toArray = ls at hl ⊢
  generalize ([va_rf a1, .int a2, .int a3, .int a4, .int a5, .int a6, va_rf a7] : List Value).toArray = args at hts ⊢
  have hl : lv_has ls 8 [(0, va_rf a1), (1, .int a2), (2, .int a3), (3, .int a4), (4, .int a5), (5, .int a6), (6, va_rf a7)] := by simpa [lv_args, va_rf_cat, cat_ref, cat_int, cat_long, cat_double] using hl
  clear hP
  unfold fc_L_type at hw
  have hst : ∀ (M : CM) (H : Heap) (locs : List Loc) (ls : Array Slot), cH D kA A s.heap T M H locs → lv_has ls 8 [(0, va_rf a1), (1, .int a2), (2, .int a3), (3, .int a4), (4, .int a5), (5, .int a6), (6, va_rf a7)] → (∃ p1 : Nat, a1 = some p1 ∧ (tg T p1 = 11 ∧ fc_X10_type T (fun (kk : Nat) (M3 : CM) => (kk = 2 ∧ Q 1 M3)) p1 a2 a3 a4 a5 a6 M (fun (r4 : Int32) (M3 : CM) => (∃ p5 : Nat, a7 = some p5 ∧ (tg T p5 = 23 ∧ (vp_in (0 : Int32) (ln T p5) ∧ (∀ M7 : CM, M7 = yJ M3 p5 (0 : Int32).toNatClampNeg r4.toInt64 → Q 0 M7))))))) → W p l e (headSpec wsL_type rmL_type).room s m args below meth c H locs 0 0 (MQ below (va_Qi Q (cB D kA A T) A) args s 1 6 A) (F0 m 0 ls []) := by
    intro M H locs ls hH hl hw
    refine s_aload hx hb dL_type_0 (lv_at hl 6 rfl) ?_
    refine lv_iconst (v := 0) hx hb dL_type_2 (by decide) ?_
    refine s_aload_n hx hb dL_type_3 rfl (lv_at hl 0 rfl) ?_
    refine lv_iload_n hx hb dL_type_4 rfl (lv_at hl 1 rfl) ?_
    refine lv_iload_n hx hb dL_type_5 rfl (lv_at hl 2 rfl) ?_
    refine lv_iload_n hx hb dL_type_6 rfl (lv_at hl 3 rfl) ?_
    refine lv_iload hx hb dL_type_7 (lv_at hl 4 rfl) ?_
    refine lv_iload hx hb dL_type_9 (lv_at hl 5 rfl) ?_
    obtain ⟨p1, ep1, hw⟩ := hw
    refine W.st (st' := [.int a6, .int a5, .int a4, .int a3, .int a2, .ref p1, .int 0, va_rf a7]) (by rw [ep1]; rfl) ?_
    obtain ⟨h2, hw⟩ := hw
    refine c_callxi (vx_runV (As := [.int a2, .int a3, .int a4, .int a5, .int a6]) (rest := [.int 0, va_rf a7]) ⟨hx, hb, hml, hown, hts⟩ (tc_X10_type l hst0 D kA nm na sa sv H.size T _ p1 a2 a3 a4 a5 a6 M _ hw) (cwV 5 hts gL_type_X10_type rfl rfl rfl (by decide +kernel) ⟨(show (6 : Nat) + 1 ≤ 7 from Nat.le_of_ble_eq_true rfl), (show 8 + (7 + 11) + (82 : Nat) ≤ 108 from Nat.le_of_ble_eq_true rfl)⟩) (c_preV hK hH hA hSt (c_recv10 hK hH h2)) rfl rfl hl.1 rfl (lv_room (by first | exact Nat.le_of_ble_eq_true rfl | simp [va_rf_cat, cat_ref, cat_int, cat_long, cat_double, cat_null])) dL_type_11 ⟨Nat.le_of_ble_eq_true rfl, Nat.le_of_ble_eq_true rfl⟩) hH hA (fun kk ce q9 M3 H locs hw hH hce hcv hcl => ?_) (fun r4 M3 H locs hw hH => ?_)
    · obtain ⟨hk, hw⟩ := hw
      subst hk
      refine vx_catch (name := "java/lang/IllegalStateException") hown [] _ [] (htb.trans rfl) (fun z hz => nomatch hz) (by decide) (by decide) (hts (.classLink RL 13 "java/lang/IllegalStateException") (by decide +kernel)) (va_Nw.use rfl hSt.2.2.2.2.2.2.2.2.2.2.2.2.2.2.2.2.2.2.2.2.2.2.2.2.2.2.2.2.2.2.1) hce hcv hcl ?_
      refine lv_astore (i := 7) (lv' := [(7, .ref q9), (0, va_rf a1), (1, .int a2), (2, .int a3), (3, .int a4), (4, .int a5), (5, .int a6), (6, va_rf a7)]) hx hb dL_type_19 hl (by decide) (by first | rfl | simp [va_rf_cat, cat_ref, cat_int, cat_long, cat_double, cat_null]) (fun ls hl => ?_)
      refine lv_iconst (v := 1) hx hb dL_type_21 (by decide) ?_
      exact c_reti hx hb hr hlocks hK hH hw dL_type_22
    · refine lv_i2l hx hb dL_type_14 rfl ?_
      obtain ⟨p5, ep5, hw⟩ := hw
      refine W.st (st' := [.long r4.toInt64, .int 0, .ref p5]) (by rw [ep5]; rfl) ?_
      obtain ⟨h6, hw⟩ := hw
      obtain ⟨h8, hw⟩ := hw
      refine cs_3 hx hb hK hH h6 h8 dL_type_15 (fun M7 H locs eM7 hH => ?_)
      replace hw := hw M7 eM7
      refine lv_goto (tgt := 23) hx hb dL_type_16 (by decide) ?_
      refine lv_iconst (v := 0) hx hb dL_type_23 (by decide) ?_
      exact c_reti hx hb hr hlocks hK hH hw dL_type_24
  exact hst M s.heap [] ls hH hl hw
def fc_L_drop (T : LY)  (a1 : Option Nat) (a2 : Int32) (a3 : Option Nat) (M : CM) (Q : Int32 → CM → Prop) : Prop := (∃ p1 : Nat, a1 = some p1 ∧ (tg T p1 = 11 ∧ fc_X10_drop T (fun (kk : Nat) (M3 : CM) => (kk = 1 ∧ Q 1 M3)) p1 a2 M (fun (r4 : Int32) (M3 : CM) => (∃ p5 : Nat, a3 = some p5 ∧ (tg T p5 = 23 ∧ (vp_in (0 : Int32) (ln T p5) ∧ (∀ M7 : CM, M7 = yJ M3 p5 (0 : Int32).toNatClampNeg r4.toInt64 → Q 0 M7)))))))
abbrev rmL_drop : Room := { frames := 7, cells := 1, slots := 6, locals := 105 }
set_option maxHeartbeats 4000000 in
set_option maxRecDepth 100000 in
theorem tc_L_drop (l : Launch) (hst0 : l.stackTraces = false) (D : va_G) (kA : Nat → ClassId) (nm : Nat → Nat) (na : Nat) (sa sv : Nat → Nat) (sz : Nat) (T : LY) (a1 : Option Nat) (a2 : Int32) (a3 : Option Nat) (M : CM) (Q : Int32 → CM → Prop) (hw : fc_L_drop T a1 a2 a3 M Q) : Met l yL_drop wsL_drop rmL_drop (va_Pc [va_rf a1, .int a2, va_rf a3] (cPc nm na sa sv D kA T M sz)) (va_Qi Q (cB D kA (cF T sz) T) (cF T sz)) 1 6 (cF T sz) := by
  refine Met_ofWH (cc := cL_drop) (maxL := 4) (ret := (some .int)) (by decide) rfl ?_
  intro p e s m args below meth c s₁ B hml hv
  obtain ⟨rfl, hsz, hP, hK, hSt⟩ := hv
  have hx := B.exec
  have hb := B.bytes
  have hr := B.returns
  have hts := atoms_spec (ws := wsL_drop) B.pre
  have hown : s.vm.findClass RL = some m.cls := findClass_of_methodNamed B.named
  have hlocks : meth.locks = false := B.notSynchronized
  have htb := vx_table (x := yL_drop) B (hts (.codeWith yL_drop cL_drop 4 (some .int) [(0, 9, 12, 19)]) List.mem_cons_self)
  subst hsz
  have hH : cH D kA (cF T s.heap.size) s.heap T M s.heap [] := ⟨hP.self, va_S.rf⟩
  have hA : ∀ q : Nat, s.heap.size ≤ q → cF T s.heap.size q := fun q z => Or.inr z
  generalize cF T s.heap.size = A at hH hA hSt ⊢
  have hl := lv_entry ([va_rf a1, .int a2, va_rf a3]) (n := 4) (by first | exact Nat.le_of_ble_eq_true rfl | simp [lg_sl, va_rf_cat, cat_ref, cat_int, cat_long, cat_double])
  rw [lg_entry_eq]
  generalize (lg_sl ([va_rf a1, .int a2, va_rf a3]) ++ List.replicate (4 - (lg_sl ([va_rf a1, .int a2, va_rf a3])).length) Slot.unset).toArray = ls at hl ⊢
  generalize ([va_rf a1, .int a2, va_rf a3] : List Value).toArray = args at hts ⊢
  have hl : lv_has ls 4 [(0, va_rf a1), (1, .int a2), (2, va_rf a3)] := by simpa [lv_args, va_rf_cat, cat_ref, cat_int, cat_long, cat_double] using hl
  clear hP
  unfold fc_L_drop at hw
  have hst : ∀ (M : CM) (H : Heap) (locs : List Loc) (ls : Array Slot), cH D kA A s.heap T M H locs → lv_has ls 4 [(0, va_rf a1), (1, .int a2), (2, va_rf a3)] → (∃ p1 : Nat, a1 = some p1 ∧ (tg T p1 = 11 ∧ fc_X10_drop T (fun (kk : Nat) (M3 : CM) => (kk = 1 ∧ Q 1 M3)) p1 a2 M (fun (r4 : Int32) (M3 : CM) => (∃ p5 : Nat, a3 = some p5 ∧ (tg T p5 = 23 ∧ (vp_in (0 : Int32) (ln T p5) ∧ (∀ M7 : CM, M7 = yJ M3 p5 (0 : Int32).toNatClampNeg r4.toInt64 → Q 0 M7))))))) → W p l e (headSpec wsL_drop rmL_drop).room s m args below meth c H locs 0 0 (MQ below (va_Qi Q (cB D kA A T) A) args s 1 6 A) (F0 m 0 ls []) := by
    intro M H locs ls hH hl hw
    refine s_aload_n hx hb dL_drop_0 rfl (lv_at hl 2 rfl) ?_
    refine lv_iconst (v := 0) hx hb dL_drop_1 (by decide) ?_
    refine s_aload_n hx hb dL_drop_2 rfl (lv_at hl 0 rfl) ?_
    refine lv_iload_n hx hb dL_drop_3 rfl (lv_at hl 1 rfl) ?_
    obtain ⟨p1, ep1, hw⟩ := hw
    refine W.st (st' := [.int a2, .ref p1, .int 0, va_rf a3]) (by rw [ep1]; rfl) ?_
    obtain ⟨h2, hw⟩ := hw
    refine c_callxi (vx_runV (As := [.int a2]) (rest := [.int 0, va_rf a3]) ⟨hx, hb, hml, hown, hts⟩ (tc_X10_drop l hst0 D kA nm na sa sv H.size T _ p1 a2 M _ hw) (cwV 1 hts gL_drop_X10_drop rfl rfl rfl (by decide +kernel) ⟨(show (6 : Nat) + 1 ≤ 7 from Nat.le_of_ble_eq_true rfl), (show 8 + (4 + 11) + (82 : Nat) ≤ 105 from Nat.le_of_ble_eq_true rfl)⟩) (c_preV hK hH hA hSt (c_recv10 hK hH h2)) rfl rfl hl.1 rfl (lv_room (by first | exact Nat.le_of_ble_eq_true rfl | simp [va_rf_cat, cat_ref, cat_int, cat_long, cat_double, cat_null])) dL_drop_4 ⟨Nat.le_of_ble_eq_true rfl, Nat.le_of_ble_eq_true rfl⟩) hH hA (fun kk ce q9 M3 H locs hw hH hce hcv hcl => ?_) (fun r4 M3 H locs hw hH => ?_)
    · obtain ⟨hk, hw⟩ := hw
      subst hk
      refine vx_catch (name := "java/lang/IllegalArgumentException") hown [] _ [] (htb.trans rfl) (fun z hz => nomatch hz) (by decide) (by decide) (hts (.classLink RL 19 "java/lang/IllegalArgumentException") (by decide +kernel)) (va_Nw.use rfl hSt.2.2.2.2.2.2.2.2.2.2.2.2.2.2.2.2.2.2.2.2.2.2.2.2.2.2.2.2.2.1) hce hcv hcl ?_
      refine lv_astore_n (i := 3) (lv' := [(3, .ref q9), (0, va_rf a1), (1, .int a2), (2, va_rf a3)]) hx hb dL_drop_12 rfl hl (by decide) (by first | rfl | simp [va_rf_cat, cat_ref, cat_int, cat_long, cat_double, cat_null]) (fun ls hl => ?_)
      refine lv_iconst (v := 1) hx hb dL_drop_13 (by decide) ?_
      exact c_reti hx hb hr hlocks hK hH hw dL_drop_14
    · refine lv_i2l hx hb dL_drop_7 rfl ?_
      obtain ⟨p5, ep5, hw⟩ := hw
      refine W.st (st' := [.long r4.toInt64, .int 0, .ref p5]) (by rw [ep5]; rfl) ?_
      obtain ⟨h6, hw⟩ := hw
      obtain ⟨h8, hw⟩ := hw
      refine cs_3 hx hb hK hH h6 h8 dL_drop_8 (fun M7 H locs eM7 hH => ?_)
      replace hw := hw M7 eM7
      refine lv_goto (tgt := 15) hx hb dL_drop_9 (by decide) ?_
      refine lv_iconst (v := 0) hx hb dL_drop_15 (by decide) ?_
      exact c_reti hx hb hr hlocks hK hH hw dL_drop_16
  exact hst M s.heap [] ls hH hl hw
def fc_L_simple (T : LY)  (a1 : Option Nat) (a2 : Int32) (a3 : Int32) (M : CM) (Q : Int32 → CM → Prop) : Prop := (∃ p1 : Nat, a1 = some p1 ∧ (tg T p1 = 11 ∧ fc_X10_simple T (fun (kk : Nat) (M3 : CM) => (kk = 1 ∧ Q 1 M3)) p1 a2 a3 M (fun (M3 : CM) => Q 0 M3)))
abbrev rmL_simple : Room := { frames := 7, cells := 1, slots := 6, locals := 152 }
set_option maxHeartbeats 4000000 in
set_option maxRecDepth 100000 in
theorem tc_L_simple (l : Launch) (hst0 : l.stackTraces = false) (D : va_G) (kA : Nat → ClassId) (nm : Nat → Nat) (na : Nat) (sa sv : Nat → Nat) (sz : Nat) (T : LY) (a1 : Option Nat) (a2 : Int32) (a3 : Int32) (M : CM) (Q : Int32 → CM → Prop) (hw : fc_L_simple T a1 a2 a3 M Q) : Met l yL_simple wsL_simple rmL_simple (va_Pc [va_rf a1, .int a2, .int a3] (cPc nm na sa sv D kA T M sz)) (va_Qi Q (cB D kA (cF T sz) T) (cF T sz)) 1 6 (cF T sz) := by
  refine Met_ofWH (cc := cL_simple) (maxL := 4) (ret := (some .int)) (by decide) rfl ?_
  intro p e s m args below meth c s₁ B hml hv
  obtain ⟨rfl, hsz, hP, hK, hSt⟩ := hv
  have hx := B.exec
  have hb := B.bytes
  have hr := B.returns
  have hts := atoms_spec (ws := wsL_simple) B.pre
  have hown : s.vm.findClass RL = some m.cls := findClass_of_methodNamed B.named
  have hlocks : meth.locks = false := B.notSynchronized
  have htb := vx_table (x := yL_simple) B (hts (.codeWith yL_simple cL_simple 4 (some .int) [(0, 6, 9, 19)]) List.mem_cons_self)
  subst hsz
  have hH : cH D kA (cF T s.heap.size) s.heap T M s.heap [] := ⟨hP.self, va_S.rf⟩
  have hA : ∀ q : Nat, s.heap.size ≤ q → cF T s.heap.size q := fun q z => Or.inr z
  generalize cF T s.heap.size = A at hH hA hSt ⊢
  have hl := lv_entry ([va_rf a1, .int a2, .int a3]) (n := 4) (by first | exact Nat.le_of_ble_eq_true rfl | simp [lg_sl, va_rf_cat, cat_ref, cat_int, cat_long, cat_double])
  rw [lg_entry_eq]
  generalize (lg_sl ([va_rf a1, .int a2, .int a3]) ++ List.replicate (4 - (lg_sl ([va_rf a1, .int a2, .int a3])).length) Slot.unset).toArray = ls at hl ⊢
  generalize ([va_rf a1, .int a2, .int a3] : List Value).toArray = args at hts ⊢
  have hl : lv_has ls 4 [(0, va_rf a1), (1, .int a2), (2, .int a3)] := by simpa [lv_args, va_rf_cat, cat_ref, cat_int, cat_long, cat_double] using hl
  clear hP
  unfold fc_L_simple at hw
  have hst : ∀ (M : CM) (H : Heap) (locs : List Loc) (ls : Array Slot), cH D kA A s.heap T M H locs → lv_has ls 4 [(0, va_rf a1), (1, .int a2), (2, .int a3)] → (∃ p1 : Nat, a1 = some p1 ∧ (tg T p1 = 11 ∧ fc_X10_simple T (fun (kk : Nat) (M3 : CM) => (kk = 1 ∧ Q 1 M3)) p1 a2 a3 M (fun (M3 : CM) => Q 0 M3))) → W p l e (headSpec wsL_simple rmL_simple).room s m args below meth c H locs 0 0 (MQ below (va_Qi Q (cB D kA A T) A) args s 1 6 A) (F0 m 0 ls []) := by
    intro M H locs ls hH hl hw
    refine s_aload_n hx hb dL_simple_0 rfl (lv_at hl 0 rfl) ?_
    refine lv_iload_n hx hb dL_simple_1 rfl (lv_at hl 1 rfl) ?_
    refine lv_iload_n hx hb dL_simple_2 rfl (lv_at hl 2 rfl) ?_
    obtain ⟨p1, ep1, hw⟩ := hw
    refine W.st (st' := [.int a3, .int a2, .ref p1]) (by rw [ep1]; rfl) ?_
    obtain ⟨h2, hw⟩ := hw
    refine c_callxv (vx_runV (As := [.int a2, .int a3]) (rest := []) ⟨hx, hb, hml, hown, hts⟩ (tc_X10_simple l hst0 D kA nm na sa sv H.size T _ p1 a2 a3 M _ hw) (cwV 2 hts gL_simple_X10_simple rfl rfl rfl (by decide +kernel) ⟨(show (6 : Nat) + 1 ≤ 7 from Nat.le_of_ble_eq_true rfl), (show 8 + (4 + 11) + (129 : Nat) ≤ 152 from Nat.le_of_ble_eq_true rfl)⟩) (c_preV hK hH hA hSt (c_recv10 hK hH h2)) rfl rfl hl.1 rfl (lv_room (by first | exact Nat.le_of_ble_eq_true rfl | simp [va_rf_cat, cat_ref, cat_int, cat_long, cat_double, cat_null])) dL_simple_3 ⟨Nat.le_of_ble_eq_true rfl, Nat.le_of_ble_eq_true rfl⟩) hH hA (fun kk ce q9 M3 H locs hw hH hce hcv hcl => ?_) (fun M3 H locs hw hH => ?_)
    · obtain ⟨hk, hw⟩ := hw
      subst hk
      refine vx_catch (name := "java/lang/IllegalArgumentException") hown [] _ [] (htb.trans rfl) (fun z hz => nomatch hz) (by decide) (by decide) (hts (.classLink RL 19 "java/lang/IllegalArgumentException") (by decide +kernel)) (va_Nw.use rfl hSt.2.2.2.2.2.2.2.2.2.2.2.2.2.2.2.2.2.2.2.2.2.2.2.2.2.2.2.2.2.1) hce hcv hcl ?_
      refine lv_astore_n (i := 3) (lv' := [(3, .ref q9), (0, va_rf a1), (1, .int a2), (2, .int a3)]) hx hb dL_simple_9 rfl hl (by decide) (by first | rfl | simp [va_rf_cat, cat_ref, cat_int, cat_long, cat_double, cat_null]) (fun ls hl => ?_)
      refine lv_iconst (v := 1) hx hb dL_simple_10 (by decide) ?_
      exact c_reti hx hb hr hlocks hK hH hw dL_simple_11
    · refine lv_goto (tgt := 12) hx hb dL_simple_6 (by decide) ?_
      refine lv_iconst (v := 0) hx hb dL_simple_12 (by decide) ?_
      exact c_reti hx hb hr hlocks hK hH hw dL_simple_13
  exact hst M s.heap [] ls hH hl hw
def fc_L_number (T : LY)  (a1 : Option Nat) (a2 : Int32) (a3 : UInt64) (M : CM) (Q : Int32 → CM → Prop) : Prop := (∃ p1 : Nat, a1 = some p1 ∧ (tg T p1 = 11 ∧ fc_X10_number T (fun (kk : Nat) (M3 : CM) => (kk = 1 ∧ Q 1 M3)) p1 a2 a3 M (fun (M3 : CM) => Q 0 M3)))
abbrev rmL_number : Room := { frames := 7, cells := 1, slots := 6, locals := 106 }
set_option maxHeartbeats 4000000 in
set_option maxRecDepth 100000 in
theorem tc_L_number (l : Launch) (hst0 : l.stackTraces = false) (D : va_G) (kA : Nat → ClassId) (nm : Nat → Nat) (na : Nat) (sa sv : Nat → Nat) (sz : Nat) (T : LY) (a1 : Option Nat) (a2 : Int32) (a3 : UInt64) (M : CM) (Q : Int32 → CM → Prop) (hw : fc_L_number T a1 a2 a3 M Q) : Met l yL_number wsL_number rmL_number (va_Pc [va_rf a1, .int a2, .double a3] (cPc nm na sa sv D kA T M sz)) (va_Qi Q (cB D kA (cF T sz) T) (cF T sz)) 1 6 (cF T sz) := by
  refine Met_ofWH (cc := cL_number) (maxL := 5) (ret := (some .int)) (by decide) rfl ?_
  intro p e s m args below meth c s₁ B hml hv
  obtain ⟨rfl, hsz, hP, hK, hSt⟩ := hv
  have hx := B.exec
  have hb := B.bytes
  have hr := B.returns
  have hts := atoms_spec (ws := wsL_number) B.pre
  have hown : s.vm.findClass RL = some m.cls := findClass_of_methodNamed B.named
  have hlocks : meth.locks = false := B.notSynchronized
  have htb := vx_table (x := yL_number) B (hts (.codeWith yL_number cL_number 5 (some .int) [(0, 6, 9, 19)]) List.mem_cons_self)
  subst hsz
  have hH : cH D kA (cF T s.heap.size) s.heap T M s.heap [] := ⟨hP.self, va_S.rf⟩
  have hA : ∀ q : Nat, s.heap.size ≤ q → cF T s.heap.size q := fun q z => Or.inr z
  generalize cF T s.heap.size = A at hH hA hSt ⊢
  have hl := lv_entry ([va_rf a1, .int a2, .double a3]) (n := 5) (by first | exact Nat.le_of_ble_eq_true rfl | simp [lg_sl, va_rf_cat, cat_ref, cat_int, cat_long, cat_double])
  rw [lg_entry_eq]
  generalize (lg_sl ([va_rf a1, .int a2, .double a3]) ++ List.replicate (5 - (lg_sl ([va_rf a1, .int a2, .double a3])).length) Slot.unset).toArray = ls at hl ⊢
  generalize ([va_rf a1, .int a2, .double a3] : List Value).toArray = args at hts ⊢
  have hl : lv_has ls 5 [(0, va_rf a1), (1, .int a2), (2, .double a3)] := by simpa [lv_args, va_rf_cat, cat_ref, cat_int, cat_long, cat_double] using hl
  clear hP
  unfold fc_L_number at hw
  have hst : ∀ (M : CM) (H : Heap) (locs : List Loc) (ls : Array Slot), cH D kA A s.heap T M H locs → lv_has ls 5 [(0, va_rf a1), (1, .int a2), (2, .double a3)] → (∃ p1 : Nat, a1 = some p1 ∧ (tg T p1 = 11 ∧ fc_X10_number T (fun (kk : Nat) (M3 : CM) => (kk = 1 ∧ Q 1 M3)) p1 a2 a3 M (fun (M3 : CM) => Q 0 M3))) → W p l e (headSpec wsL_number rmL_number).room s m args below meth c H locs 0 0 (MQ below (va_Qi Q (cB D kA A T) A) args s 1 6 A) (F0 m 0 ls []) := by
    intro M H locs ls hH hl hw
    refine s_aload_n hx hb dL_number_0 rfl (lv_at hl 0 rfl) ?_
    refine lv_iload_n hx hb dL_number_1 rfl (lv_at hl 1 rfl) ?_
    refine lv_dload_n hx hb dL_number_2 rfl (lv_at hl 2 rfl) ?_
    obtain ⟨p1, ep1, hw⟩ := hw
    refine W.st (st' := [.double a3, .int a2, .ref p1]) (by rw [ep1]; rfl) ?_
    obtain ⟨h2, hw⟩ := hw
    refine c_callxv (vx_runV (As := [.int a2, .double a3]) (rest := []) ⟨hx, hb, hml, hown, hts⟩ (tc_X10_number l hst0 D kA nm na sa sv H.size T _ p1 a2 a3 M _ hw) (cwV 2 hts gL_number_X10_number rfl rfl rfl (by decide +kernel) ⟨(show (6 : Nat) + 1 ≤ 7 from Nat.le_of_ble_eq_true rfl), (show 8 + (5 + 11) + (82 : Nat) ≤ 106 from Nat.le_of_ble_eq_true rfl)⟩) (c_preV hK hH hA hSt (c_recv10 hK hH h2)) rfl rfl hl.1 rfl (lv_room (by first | exact Nat.le_of_ble_eq_true rfl | simp [va_rf_cat, cat_ref, cat_int, cat_long, cat_double, cat_null])) dL_number_3 ⟨Nat.le_of_ble_eq_true rfl, Nat.le_of_ble_eq_true rfl⟩) hH hA (fun kk ce q9 M3 H locs hw hH hce hcv hcl => ?_) (fun M3 H locs hw hH => ?_)
    · obtain ⟨hk, hw⟩ := hw
      subst hk
      refine vx_catch (name := "java/lang/IllegalArgumentException") hown [] _ [] (htb.trans rfl) (fun z hz => nomatch hz) (by decide) (by decide) (hts (.classLink RL 19 "java/lang/IllegalArgumentException") (by decide +kernel)) (va_Nw.use rfl hSt.2.2.2.2.2.2.2.2.2.2.2.2.2.2.2.2.2.2.2.2.2.2.2.2.2.2.2.2.2.1) hce hcv hcl ?_
      refine lv_astore (i := 4) (lv' := [(4, .ref q9), (0, va_rf a1), (1, .int a2), (2, .double a3)]) hx hb dL_number_9 hl (by decide) (by first | rfl | simp [va_rf_cat, cat_ref, cat_int, cat_long, cat_double, cat_null]) (fun ls hl => ?_)
      refine lv_iconst (v := 1) hx hb dL_number_11 (by decide) ?_
      exact c_reti hx hb hr hlocks hK hH hw dL_number_12
    · refine lv_goto (tgt := 13) hx hb dL_number_6 (by decide) ?_
      refine lv_iconst (v := 0) hx hb dL_number_13 (by decide) ?_
      exact c_reti hx hb hr hlocks hK hH hw dL_number_14
  exact hst M s.heap [] ls hH hl hw
def fc_L_text (T : LY)  (a1 : Option Nat) (a2 : Int32) (a3 : Int32) (a4 : Int32) (a5 : Int32) (a6 : Option Nat) (M : CM) (Q : Int32 → CM → Prop) : Prop := (∃ p1 : Nat, a1 = some p1 ∧ (tg T p1 = 11 ∧ fc_X10_text T (fun (kk : Nat) (M3 : CM) => (kk = 1 ∧ Q 1 M3)) p1 a2 a3 a4 a5 M (fun (r4 : Int32) (M3 : CM) => (∃ p5 : Nat, a6 = some p5 ∧ (tg T p5 = 23 ∧ (vp_in (0 : Int32) (ln T p5) ∧ (∀ M7 : CM, M7 = yJ M3 p5 (0 : Int32).toNatClampNeg r4.toInt64 → Q 0 M7)))))))
abbrev rmL_text : Room := { frames := 7, cells := 1, slots := 6, locals := 139 }
set_option maxHeartbeats 4000000 in
set_option maxRecDepth 100000 in
theorem tc_L_text (l : Launch) (hst0 : l.stackTraces = false) (D : va_G) (kA : Nat → ClassId) (nm : Nat → Nat) (na : Nat) (sa sv : Nat → Nat) (sz : Nat) (T : LY) (a1 : Option Nat) (a2 : Int32) (a3 : Int32) (a4 : Int32) (a5 : Int32) (a6 : Option Nat) (M : CM) (Q : Int32 → CM → Prop) (hw : fc_L_text T a1 a2 a3 a4 a5 a6 M Q) : Met l yL_text wsL_text rmL_text (va_Pc [va_rf a1, .int a2, .int a3, .int a4, .int a5, va_rf a6] (cPc nm na sa sv D kA T M sz)) (va_Qi Q (cB D kA (cF T sz) T) (cF T sz)) 1 6 (cF T sz) := by
  refine Met_ofWH (cc := cL_text) (maxL := 7) (ret := (some .int)) (by decide) rfl ?_
  intro p e s m args below meth c s₁ B hml hv
  obtain ⟨rfl, hsz, hP, hK, hSt⟩ := hv
  have hx := B.exec
  have hb := B.bytes
  have hr := B.returns
  have hts := atoms_spec (ws := wsL_text) B.pre
  have hown : s.vm.findClass RL = some m.cls := findClass_of_methodNamed B.named
  have hlocks : meth.locks = false := B.notSynchronized
  have htb := vx_table (x := yL_text) B (hts (.codeWith yL_text cL_text 7 (some .int) [(0, 14, 17, 19)]) List.mem_cons_self)
  subst hsz
  have hH : cH D kA (cF T s.heap.size) s.heap T M s.heap [] := ⟨hP.self, va_S.rf⟩
  have hA : ∀ q : Nat, s.heap.size ≤ q → cF T s.heap.size q := fun q z => Or.inr z
  generalize cF T s.heap.size = A at hH hA hSt ⊢
  have hl := lv_entry ([va_rf a1, .int a2, .int a3, .int a4, .int a5, va_rf a6]) (n := 7) (by first | exact Nat.le_of_ble_eq_true rfl | simp [lg_sl, va_rf_cat, cat_ref, cat_int, cat_long, cat_double])
  rw [lg_entry_eq]
  generalize (lg_sl ([va_rf a1, .int a2, .int a3, .int a4, .int a5, va_rf a6]) ++ List.replicate (7 - (lg_sl ([va_rf a1, .int a2, .int a3, .int a4, .int a5, va_rf a6])).length) Slot.unset).toArray = ls at hl ⊢
  generalize ([va_rf a1, .int a2, .int a3, .int a4, .int a5, va_rf a6] : List Value).toArray = args at hts ⊢
  have hl : lv_has ls 7 [(0, va_rf a1), (1, .int a2), (2, .int a3), (3, .int a4), (4, .int a5), (5, va_rf a6)] := by simpa [lv_args, va_rf_cat, cat_ref, cat_int, cat_long, cat_double] using hl
  clear hP
  unfold fc_L_text at hw
  have hst : ∀ (M : CM) (H : Heap) (locs : List Loc) (ls : Array Slot), cH D kA A s.heap T M H locs → lv_has ls 7 [(0, va_rf a1), (1, .int a2), (2, .int a3), (3, .int a4), (4, .int a5), (5, va_rf a6)] → (∃ p1 : Nat, a1 = some p1 ∧ (tg T p1 = 11 ∧ fc_X10_text T (fun (kk : Nat) (M3 : CM) => (kk = 1 ∧ Q 1 M3)) p1 a2 a3 a4 a5 M (fun (r4 : Int32) (M3 : CM) => (∃ p5 : Nat, a6 = some p5 ∧ (tg T p5 = 23 ∧ (vp_in (0 : Int32) (ln T p5) ∧ (∀ M7 : CM, M7 = yJ M3 p5 (0 : Int32).toNatClampNeg r4.toInt64 → Q 0 M7))))))) → W p l e (headSpec wsL_text rmL_text).room s m args below meth c H locs 0 0 (MQ below (va_Qi Q (cB D kA A T) A) args s 1 6 A) (F0 m 0 ls []) := by
    intro M H locs ls hH hl hw
    refine s_aload hx hb dL_text_0 (lv_at hl 5 rfl) ?_
    refine lv_iconst (v := 0) hx hb dL_text_2 (by decide) ?_
    refine s_aload_n hx hb dL_text_3 rfl (lv_at hl 0 rfl) ?_
    refine lv_iload_n hx hb dL_text_4 rfl (lv_at hl 1 rfl) ?_
    refine lv_iload_n hx hb dL_text_5 rfl (lv_at hl 2 rfl) ?_
    refine lv_iload_n hx hb dL_text_6 rfl (lv_at hl 3 rfl) ?_
    refine lv_iload hx hb dL_text_7 (lv_at hl 4 rfl) ?_
    obtain ⟨p1, ep1, hw⟩ := hw
    refine W.st (st' := [.int a5, .int a4, .int a3, .int a2, .ref p1, .int 0, va_rf a6]) (by rw [ep1]; rfl) ?_
    obtain ⟨h2, hw⟩ := hw
    refine c_callxi (vx_runV (As := [.int a2, .int a3, .int a4, .int a5]) (rest := [.int 0, va_rf a6]) ⟨hx, hb, hml, hown, hts⟩ (tc_X10_text l hst0 D kA nm na sa sv H.size T _ p1 a2 a3 a4 a5 M _ hw) (cwV 4 hts gL_text_X10_text rfl rfl rfl (by decide +kernel) ⟨(show (6 : Nat) + 1 ≤ 7 from Nat.le_of_ble_eq_true rfl), (show 8 + (6 + 11) + (114 : Nat) ≤ 139 from Nat.le_of_ble_eq_true rfl)⟩) (c_preV hK hH hA hSt (c_recv10 hK hH h2)) rfl rfl hl.1 rfl (lv_room (by first | exact Nat.le_of_ble_eq_true rfl | simp [va_rf_cat, cat_ref, cat_int, cat_long, cat_double, cat_null])) dL_text_9 ⟨Nat.le_of_ble_eq_true rfl, Nat.le_of_ble_eq_true rfl⟩) hH hA (fun kk ce q9 M3 H locs hw hH hce hcv hcl => ?_) (fun r4 M3 H locs hw hH => ?_)
    · obtain ⟨hk, hw⟩ := hw
      subst hk
      refine vx_catch (name := "java/lang/IllegalArgumentException") hown [] _ [] (htb.trans rfl) (fun z hz => nomatch hz) (by decide) (by decide) (hts (.classLink RL 19 "java/lang/IllegalArgumentException") (by decide +kernel)) (va_Nw.use rfl hSt.2.2.2.2.2.2.2.2.2.2.2.2.2.2.2.2.2.2.2.2.2.2.2.2.2.2.2.2.2.1) hce hcv hcl ?_
      refine lv_astore (i := 6) (lv' := [(6, .ref q9), (0, va_rf a1), (1, .int a2), (2, .int a3), (3, .int a4), (4, .int a5), (5, va_rf a6)]) hx hb dL_text_17 hl (by decide) (by first | rfl | simp [va_rf_cat, cat_ref, cat_int, cat_long, cat_double, cat_null]) (fun ls hl => ?_)
      refine lv_iconst (v := 1) hx hb dL_text_19 (by decide) ?_
      exact c_reti hx hb hr hlocks hK hH hw dL_text_20
    · refine lv_i2l hx hb dL_text_12 rfl ?_
      obtain ⟨p5, ep5, hw⟩ := hw
      refine W.st (st' := [.long r4.toInt64, .int 0, .ref p5]) (by rw [ep5]; rfl) ?_
      obtain ⟨h6, hw⟩ := hw
      obtain ⟨h8, hw⟩ := hw
      refine cs_3 hx hb hK hH h6 h8 dL_text_13 (fun M7 H locs eM7 hH => ?_)
      replace hw := hw M7 eM7
      refine lv_goto (tgt := 21) hx hb dL_text_14 (by decide) ?_
      refine lv_iconst (v := 0) hx hb dL_text_21 (by decide) ?_
      exact c_reti hx hb hr hlocks hK hH hw dL_text_22
  exact hst M s.heap [] ls hH hl hw
def fc_L_add (T : LY)  (a1 : Option Nat) (a2 : Int32) (a3 : Int32) (a4 : Option Nat) (M : CM) (Q : Int32 → CM → Prop) : Prop := (∃ p1 : Nat, a1 = some p1 ∧ (tg T p1 = 11 ∧ fc_X10_add T (fun (kk : Nat) (M3 : CM) => ((kk = 1 ∧ Q 1 M3) ∨ (kk = 2 ∧ Q 2 M3))) p1 a2 a3 M (fun (r4 : Int32) (M3 : CM) => (∃ p5 : Nat, a4 = some p5 ∧ (tg T p5 = 23 ∧ (vp_in (0 : Int32) (ln T p5) ∧ (∀ M7 : CM, M7 = yJ M3 p5 (0 : Int32).toNatClampNeg r4.toInt64 → Q 0 M7)))))))
abbrev rmL_add : Room := { frames := 7, cells := 1, slots := 6, locals := 138 }
set_option maxHeartbeats 4000000 in
set_option maxRecDepth 100000 in
theorem tc_L_add (l : Launch) (hst0 : l.stackTraces = false) (D : va_G) (kA : Nat → ClassId) (nm : Nat → Nat) (na : Nat) (sa sv : Nat → Nat) (sz : Nat) (T : LY) (a1 : Option Nat) (a2 : Int32) (a3 : Int32) (a4 : Option Nat) (M : CM) (Q : Int32 → CM → Prop) (hw : fc_L_add T a1 a2 a3 a4 M Q) : Met l yL_add wsL_add rmL_add (va_Pc [va_rf a1, .int a2, .int a3, va_rf a4] (cPc nm na sa sv D kA T M sz)) (va_Qi Q (cB D kA (cF T sz) T) (cF T sz)) 1 6 (cF T sz) := by
  refine Met_ofWH (cc := cL_add) (maxL := 5) (ret := (some .int)) (by decide) rfl ?_
  intro p e s m args below meth c s₁ B hml hv
  obtain ⟨rfl, hsz, hP, hK, hSt⟩ := hv
  have hx := B.exec
  have hb := B.bytes
  have hr := B.returns
  have hts := atoms_spec (ws := wsL_add) B.pre
  have hown : s.vm.findClass RL = some m.cls := findClass_of_methodNamed B.named
  have hlocks : meth.locks = false := B.notSynchronized
  have htb := vx_table (x := yL_add) B (hts (.codeWith yL_add cL_add 5 (some .int) [(0, 10, 13, 19), (0, 10, 17, 13)]) List.mem_cons_self)
  subst hsz
  have hH : cH D kA (cF T s.heap.size) s.heap T M s.heap [] := ⟨hP.self, va_S.rf⟩
  have hA : ∀ q : Nat, s.heap.size ≤ q → cF T s.heap.size q := fun q z => Or.inr z
  generalize cF T s.heap.size = A at hH hA hSt ⊢
  have hl := lv_entry ([va_rf a1, .int a2, .int a3, va_rf a4]) (n := 5) (by first | exact Nat.le_of_ble_eq_true rfl | simp [lg_sl, va_rf_cat, cat_ref, cat_int, cat_long, cat_double])
  rw [lg_entry_eq]
  generalize (lg_sl ([va_rf a1, .int a2, .int a3, va_rf a4]) ++ List.replicate (5 - (lg_sl ([va_rf a1, .int a2, .int a3, va_rf a4])).length) Slot.unset).toArray = ls at hl ⊢
  generalize ([va_rf a1, .int a2, .int a3, va_rf a4] : List Value).toArray = args at hts ⊢
  have hl : lv_has ls 5 [(0, va_rf a1), (1, .int a2), (2, .int a3), (3, va_rf a4)] := by simpa [lv_args, va_rf_cat, cat_ref, cat_int, cat_long, cat_double] using hl
  clear hP
  unfold fc_L_add at hw
  have hst : ∀ (M : CM) (H : Heap) (locs : List Loc) (ls : Array Slot), cH D kA A s.heap T M H locs → lv_has ls 5 [(0, va_rf a1), (1, .int a2), (2, .int a3), (3, va_rf a4)] → (∃ p1 : Nat, a1 = some p1 ∧ (tg T p1 = 11 ∧ fc_X10_add T (fun (kk : Nat) (M3 : CM) => ((kk = 1 ∧ Q 1 M3) ∨ (kk = 2 ∧ Q 2 M3))) p1 a2 a3 M (fun (r4 : Int32) (M3 : CM) => (∃ p5 : Nat, a4 = some p5 ∧ (tg T p5 = 23 ∧ (vp_in (0 : Int32) (ln T p5) ∧ (∀ M7 : CM, M7 = yJ M3 p5 (0 : Int32).toNatClampNeg r4.toInt64 → Q 0 M7))))))) → W p l e (headSpec wsL_add rmL_add).room s m args below meth c H locs 0 0 (MQ below (va_Qi Q (cB D kA A T) A) args s 1 6 A) (F0 m 0 ls []) := by
    intro M H locs ls hH hl hw
    refine s_aload_n hx hb dL_add_0 rfl (lv_at hl 3 rfl) ?_
    refine lv_iconst (v := 0) hx hb dL_add_1 (by decide) ?_
    refine s_aload_n hx hb dL_add_2 rfl (lv_at hl 0 rfl) ?_
    refine lv_iload_n hx hb dL_add_3 rfl (lv_at hl 1 rfl) ?_
    refine lv_iload_n hx hb dL_add_4 rfl (lv_at hl 2 rfl) ?_
    obtain ⟨p1, ep1, hw⟩ := hw
    refine W.st (st' := [.int a3, .int a2, .ref p1, .int 0, va_rf a4]) (by rw [ep1]; rfl) ?_
    obtain ⟨h2, hw⟩ := hw
    refine c_callxi (vx_runV (As := [.int a2, .int a3]) (rest := [.int 0, va_rf a4]) ⟨hx, hb, hml, hown, hts⟩ (tc_X10_add l hst0 D kA nm na sa sv H.size T _ p1 a2 a3 M _ hw) (cwV 2 hts gL_add_X10_add rfl rfl rfl (by decide +kernel) ⟨(show (6 : Nat) + 1 ≤ 7 from Nat.le_of_ble_eq_true rfl), (show 8 + (5 + 11) + (114 : Nat) ≤ 138 from Nat.le_of_ble_eq_true rfl)⟩) (c_preV hK hH hA hSt (c_recv10 hK hH h2)) rfl rfl hl.1 rfl (lv_room (by first | exact Nat.le_of_ble_eq_true rfl | simp [va_rf_cat, cat_ref, cat_int, cat_long, cat_double, cat_null])) dL_add_5 ⟨Nat.le_of_ble_eq_true rfl, Nat.le_of_ble_eq_true rfl⟩) hH hA (fun kk ce q9 M3 H locs hw hH hce hcv hcl => ?_) (fun r4 M3 H locs hw hH => ?_)
    · rcases hw with ⟨hk, hw⟩ | ⟨hk, hw⟩
      · subst hk
        refine vx_catch (name := "java/lang/IllegalArgumentException") hown [] _ _ (htb.trans rfl) (fun z hz => nomatch hz) (by decide) (by decide) (hts (.classLink RL 19 "java/lang/IllegalArgumentException") (by decide +kernel)) (va_Nw.use rfl hSt.2.2.2.2.2.2.2.2.2.2.2.2.2.2.2.2.2.2.2.2.2.2.2.2.2.2.2.2.2.1) hce hcv hcl ?_
        refine lv_astore (i := 4) (lv' := [(4, .ref q9), (0, va_rf a1), (1, .int a2), (2, .int a3), (3, va_rf a4)]) hx hb dL_add_13 hl (by decide) (by first | rfl | simp [va_rf_cat, cat_ref, cat_int, cat_long, cat_double, cat_null]) (fun ls hl => ?_)
        refine lv_iconst (v := 1) hx hb dL_add_15 (by decide) ?_
        exact c_reti hx hb hr hlocks hK hH hw dL_add_16
      · subst hk
        refine vx_catch (name := "java/lang/IllegalStateException") hown [_] _ [] (htb.trans rfl) (fun z hz => by rw [List.mem_singleton.mp hz]; exact Or.inr ⟨by decide, _, hts (.classLink RL 19 "java/lang/IllegalArgumentException") (by decide +kernel), hSt.2.2.2.2.2.2.2.2.2.2.2.2.2.2.2.2.2.2.2.2.2.2.2.2.2.2.2.2.2.2.2.1⟩) (by decide) (by decide) (hts (.classLink RL 13 "java/lang/IllegalStateException") (by decide +kernel)) (va_Nw.use rfl hSt.2.2.2.2.2.2.2.2.2.2.2.2.2.2.2.2.2.2.2.2.2.2.2.2.2.2.2.2.2.2.1) hce hcv hcl ?_
        refine lv_astore (i := 4) (lv' := [(4, .ref q9), (0, va_rf a1), (1, .int a2), (2, .int a3), (3, va_rf a4)]) hx hb dL_add_17 hl (by decide) (by first | rfl | simp [va_rf_cat, cat_ref, cat_int, cat_long, cat_double, cat_null]) (fun ls hl => ?_)
        refine lv_iconst (v := 2) hx hb dL_add_19 (by decide) ?_
        exact c_reti hx hb hr hlocks hK hH hw dL_add_20
    · refine lv_i2l hx hb dL_add_8 rfl ?_
      obtain ⟨p5, ep5, hw⟩ := hw
      refine W.st (st' := [.long r4.toInt64, .int 0, .ref p5]) (by rw [ep5]; rfl) ?_
      obtain ⟨h6, hw⟩ := hw
      obtain ⟨h8, hw⟩ := hw
      refine cs_3 hx hb hK hH h6 h8 dL_add_9 (fun M7 H locs eM7 hH => ?_)
      replace hw := hw M7 eM7
      refine lv_goto (tgt := 21) hx hb dL_add_10 (by decide) ?_
      refine lv_iconst (v := 0) hx hb dL_add_21 (by decide) ?_
      exact c_reti hx hb hr hlocks hK hH hw dL_add_22
  exact hst M s.heap [] ls hH hl hw
def fc_L_call (nm : Nat → Nat) (T : LY)  (a1 : Option Nat) (a2 : Int32) (a3 : Int32) (a4 : Option Nat) (M : CM) (Q : Int32 → CM → Prop) : Prop := (∃ p1 : Nat, a1 = some p1 ∧ (tg T p1 = 11 ∧ fc_X10_call nm T (fun (kk : Nat) (M3 : CM) => (kk = 1 ∧ Q 1 M3)) p1 a2 a3 M (fun (r4 : Int32) (M3 : CM) => (∃ p5 : Nat, a4 = some p5 ∧ (tg T p5 = 23 ∧ (vp_in (0 : Int32) (ln T p5) ∧ (∀ M7 : CM, M7 = yJ M3 p5 (0 : Int32).toNatClampNeg r4.toInt64 → Q 0 M7)))))))
abbrev rmL_call : Room := { frames := 7, cells := 1, slots := 6, locals := 178 }
set_option maxHeartbeats 4000000 in
set_option maxRecDepth 100000 in
theorem tc_L_call (l : Launch) (hst0 : l.stackTraces = false) (D : va_G) (kA : Nat → ClassId) (nm : Nat → Nat) (na : Nat) (sa sv : Nat → Nat) (sz : Nat) (T : LY) (a1 : Option Nat) (a2 : Int32) (a3 : Int32) (a4 : Option Nat) (M : CM) (Q : Int32 → CM → Prop) (hw : fc_L_call nm T a1 a2 a3 a4 M Q) : Met l yL_call wsL_call rmL_call (va_Pc [va_rf a1, .int a2, .int a3, va_rf a4] (cPc nm na sa sv D kA T M sz)) (va_Qi Q (cB D kA (cF T sz) T) (cF T sz)) 1 6 (cF T sz) := by
  refine Met_ofWH (cc := cL_call) (maxL := 5) (ret := (some .int)) (by decide) rfl ?_
  intro p e s m args below meth c s₁ B hml hv
  obtain ⟨rfl, hsz, hP, hK, hSt⟩ := hv
  have hx := B.exec
  have hb := B.bytes
  have hr := B.returns
  have hts := atoms_spec (ws := wsL_call) B.pre
  have hown : s.vm.findClass RL = some m.cls := findClass_of_methodNamed B.named
  have hlocks : meth.locks = false := B.notSynchronized
  have htb := vx_table (x := yL_call) B (hts (.codeWith yL_call cL_call 5 (some .int) [(0, 10, 13, 19)]) List.mem_cons_self)
  subst hsz
  have hH : cH D kA (cF T s.heap.size) s.heap T M s.heap [] := ⟨hP.self, va_S.rf⟩
  have hA : ∀ q : Nat, s.heap.size ≤ q → cF T s.heap.size q := fun q z => Or.inr z
  generalize cF T s.heap.size = A at hH hA hSt ⊢
  have hl := lv_entry ([va_rf a1, .int a2, .int a3, va_rf a4]) (n := 5) (by first | exact Nat.le_of_ble_eq_true rfl | simp [lg_sl, va_rf_cat, cat_ref, cat_int, cat_long, cat_double])
  rw [lg_entry_eq]
  generalize (lg_sl ([va_rf a1, .int a2, .int a3, va_rf a4]) ++ List.replicate (5 - (lg_sl ([va_rf a1, .int a2, .int a3, va_rf a4])).length) Slot.unset).toArray = ls at hl ⊢
  generalize ([va_rf a1, .int a2, .int a3, va_rf a4] : List Value).toArray = args at hts ⊢
  have hl : lv_has ls 5 [(0, va_rf a1), (1, .int a2), (2, .int a3), (3, va_rf a4)] := by simpa [lv_args, va_rf_cat, cat_ref, cat_int, cat_long, cat_double] using hl
  clear hP
  unfold fc_L_call at hw
  have hst : ∀ (M : CM) (H : Heap) (locs : List Loc) (ls : Array Slot), cH D kA A s.heap T M H locs → lv_has ls 5 [(0, va_rf a1), (1, .int a2), (2, .int a3), (3, va_rf a4)] → (∃ p1 : Nat, a1 = some p1 ∧ (tg T p1 = 11 ∧ fc_X10_call nm T (fun (kk : Nat) (M3 : CM) => (kk = 1 ∧ Q 1 M3)) p1 a2 a3 M (fun (r4 : Int32) (M3 : CM) => (∃ p5 : Nat, a4 = some p5 ∧ (tg T p5 = 23 ∧ (vp_in (0 : Int32) (ln T p5) ∧ (∀ M7 : CM, M7 = yJ M3 p5 (0 : Int32).toNatClampNeg r4.toInt64 → Q 0 M7))))))) → W p l e (headSpec wsL_call rmL_call).room s m args below meth c H locs 0 0 (MQ below (va_Qi Q (cB D kA A T) A) args s 1 6 A) (F0 m 0 ls []) := by
    intro M H locs ls hH hl hw
    refine s_aload_n hx hb dL_call_0 rfl (lv_at hl 3 rfl) ?_
    refine lv_iconst (v := 0) hx hb dL_call_1 (by decide) ?_
    refine s_aload_n hx hb dL_call_2 rfl (lv_at hl 0 rfl) ?_
    refine lv_iload_n hx hb dL_call_3 rfl (lv_at hl 1 rfl) ?_
    refine lv_iload_n hx hb dL_call_4 rfl (lv_at hl 2 rfl) ?_
    obtain ⟨p1, ep1, hw⟩ := hw
    refine W.st (st' := [.int a3, .int a2, .ref p1, .int 0, va_rf a4]) (by rw [ep1]; rfl) ?_
    obtain ⟨h2, hw⟩ := hw
    refine c_callxi (vx_runV (As := [.int a2, .int a3]) (rest := [.int 0, va_rf a4]) ⟨hx, hb, hml, hown, hts⟩ (tc_X10_call l hst0 D kA nm na sa sv H.size T _ p1 a2 a3 M _ hw) (cwV 2 hts gL_call_X10_call rfl rfl rfl (by decide +kernel) ⟨(show (6 : Nat) + 1 ≤ 7 from Nat.le_of_ble_eq_true rfl), (show 8 + (9 + 11) + (150 : Nat) ≤ 178 from Nat.le_of_ble_eq_true rfl)⟩) (c_preV hK hH hA hSt (c_recv10 hK hH h2)) rfl rfl hl.1 rfl (lv_room (by first | exact Nat.le_of_ble_eq_true rfl | simp [va_rf_cat, cat_ref, cat_int, cat_long, cat_double, cat_null])) dL_call_5 ⟨Nat.le_of_ble_eq_true rfl, Nat.le_of_ble_eq_true rfl⟩) hH hA (fun kk ce q9 M3 H locs hw hH hce hcv hcl => ?_) (fun r4 M3 H locs hw hH => ?_)
    · obtain ⟨hk, hw⟩ := hw
      subst hk
      refine vx_catch (name := "java/lang/IllegalArgumentException") hown [] _ [] (htb.trans rfl) (fun z hz => nomatch hz) (by decide) (by decide) (hts (.classLink RL 19 "java/lang/IllegalArgumentException") (by decide +kernel)) (va_Nw.use rfl hSt.2.2.2.2.2.2.2.2.2.2.2.2.2.2.2.2.2.2.2.2.2.2.2.2.2.2.2.2.2.1) hce hcv hcl ?_
      refine lv_astore (i := 4) (lv' := [(4, .ref q9), (0, va_rf a1), (1, .int a2), (2, .int a3), (3, va_rf a4)]) hx hb dL_call_13 hl (by decide) (by first | rfl | simp [va_rf_cat, cat_ref, cat_int, cat_long, cat_double, cat_null]) (fun ls hl => ?_)
      refine lv_iconst (v := 1) hx hb dL_call_15 (by decide) ?_
      exact c_reti hx hb hr hlocks hK hH hw dL_call_16
    · refine lv_i2l hx hb dL_call_8 rfl ?_
      obtain ⟨p5, ep5, hw⟩ := hw
      refine W.st (st' := [.long r4.toInt64, .int 0, .ref p5]) (by rw [ep5]; rfl) ?_
      obtain ⟨h6, hw⟩ := hw
      obtain ⟨h8, hw⟩ := hw
      refine cs_3 hx hb hK hH h6 h8 dL_call_9 (fun M7 H locs eM7 hH => ?_)
      replace hw := hw M7 eM7
      refine lv_goto (tgt := 17) hx hb dL_call_10 (by decide) ?_
      refine lv_iconst (v := 0) hx hb dL_call_17 (by decide) ?_
      exact c_reti hx hb hr hlocks hK hH hw dL_call_18
  exact hst M s.heap [] ls hH hl hw
def fc_L_operation (nm : Nat → Nat) (T : LY)  (a1 : Option Nat) (a2 : Int32) (a3 : Int32) (a4 : Option Nat) (M : CM) (Q : Int32 → CM → Prop) : Prop := (∃ p1 : Nat, a1 = some p1 ∧ (tg T p1 = 11 ∧ fc_X10_operation nm T (fun (kk : Nat) (M3 : CM) => (kk = 1 ∧ Q 1 M3)) p1 a2 a3 M (fun (r4 : Int32) (M3 : CM) => (∃ p5 : Nat, a4 = some p5 ∧ (tg T p5 = 23 ∧ (vp_in (0 : Int32) (ln T p5) ∧ (∀ M7 : CM, M7 = yJ M3 p5 (0 : Int32).toNatClampNeg r4.toInt64 → Q 0 M7)))))))
abbrev rmL_operation : Room := { frames := 7, cells := 1, slots := 6, locals := 154 }
set_option maxHeartbeats 4000000 in
set_option maxRecDepth 100000 in
theorem tc_L_operation (l : Launch) (hst0 : l.stackTraces = false) (D : va_G) (kA : Nat → ClassId) (nm : Nat → Nat) (na : Nat) (sa sv : Nat → Nat) (sz : Nat) (T : LY) (a1 : Option Nat) (a2 : Int32) (a3 : Int32) (a4 : Option Nat) (M : CM) (Q : Int32 → CM → Prop) (hw : fc_L_operation nm T a1 a2 a3 a4 M Q) : Met l yL_operation wsL_operation rmL_operation (va_Pc [va_rf a1, .int a2, .int a3, va_rf a4] (cPc nm na sa sv D kA T M sz)) (va_Qi Q (cB D kA (cF T sz) T) (cF T sz)) 1 6 (cF T sz) := by
  refine Met_ofWH (cc := cL_operation) (maxL := 5) (ret := (some .int)) (by decide) rfl ?_
  intro p e s m args below meth c s₁ B hml hv
  obtain ⟨rfl, hsz, hP, hK, hSt⟩ := hv
  have hx := B.exec
  have hb := B.bytes
  have hr := B.returns
  have hts := atoms_spec (ws := wsL_operation) B.pre
  have hown : s.vm.findClass RL = some m.cls := findClass_of_methodNamed B.named
  have hlocks : meth.locks = false := B.notSynchronized
  have htb := vx_table (x := yL_operation) B (hts (.codeWith yL_operation cL_operation 5 (some .int) [(0, 10, 13, 19)]) List.mem_cons_self)
  subst hsz
  have hH : cH D kA (cF T s.heap.size) s.heap T M s.heap [] := ⟨hP.self, va_S.rf⟩
  have hA : ∀ q : Nat, s.heap.size ≤ q → cF T s.heap.size q := fun q z => Or.inr z
  generalize cF T s.heap.size = A at hH hA hSt ⊢
  have hl := lv_entry ([va_rf a1, .int a2, .int a3, va_rf a4]) (n := 5) (by first | exact Nat.le_of_ble_eq_true rfl | simp [lg_sl, va_rf_cat, cat_ref, cat_int, cat_long, cat_double])
  rw [lg_entry_eq]
  generalize (lg_sl ([va_rf a1, .int a2, .int a3, va_rf a4]) ++ List.replicate (5 - (lg_sl ([va_rf a1, .int a2, .int a3, va_rf a4])).length) Slot.unset).toArray = ls at hl ⊢
  generalize ([va_rf a1, .int a2, .int a3, va_rf a4] : List Value).toArray = args at hts ⊢
  have hl : lv_has ls 5 [(0, va_rf a1), (1, .int a2), (2, .int a3), (3, va_rf a4)] := by simpa [lv_args, va_rf_cat, cat_ref, cat_int, cat_long, cat_double] using hl
  clear hP
  unfold fc_L_operation at hw
  have hst : ∀ (M : CM) (H : Heap) (locs : List Loc) (ls : Array Slot), cH D kA A s.heap T M H locs → lv_has ls 5 [(0, va_rf a1), (1, .int a2), (2, .int a3), (3, va_rf a4)] → (∃ p1 : Nat, a1 = some p1 ∧ (tg T p1 = 11 ∧ fc_X10_operation nm T (fun (kk : Nat) (M3 : CM) => (kk = 1 ∧ Q 1 M3)) p1 a2 a3 M (fun (r4 : Int32) (M3 : CM) => (∃ p5 : Nat, a4 = some p5 ∧ (tg T p5 = 23 ∧ (vp_in (0 : Int32) (ln T p5) ∧ (∀ M7 : CM, M7 = yJ M3 p5 (0 : Int32).toNatClampNeg r4.toInt64 → Q 0 M7))))))) → W p l e (headSpec wsL_operation rmL_operation).room s m args below meth c H locs 0 0 (MQ below (va_Qi Q (cB D kA A T) A) args s 1 6 A) (F0 m 0 ls []) := by
    intro M H locs ls hH hl hw
    refine s_aload_n hx hb dL_operation_0 rfl (lv_at hl 3 rfl) ?_
    refine lv_iconst (v := 0) hx hb dL_operation_1 (by decide) ?_
    refine s_aload_n hx hb dL_operation_2 rfl (lv_at hl 0 rfl) ?_
    refine lv_iload_n hx hb dL_operation_3 rfl (lv_at hl 1 rfl) ?_
    refine lv_iload_n hx hb dL_operation_4 rfl (lv_at hl 2 rfl) ?_
    obtain ⟨p1, ep1, hw⟩ := hw
    refine W.st (st' := [.int a3, .int a2, .ref p1, .int 0, va_rf a4]) (by rw [ep1]; rfl) ?_
    obtain ⟨h2, hw⟩ := hw
    refine c_callxi (vx_runV (As := [.int a2, .int a3]) (rest := [.int 0, va_rf a4]) ⟨hx, hb, hml, hown, hts⟩ (tc_X10_operation l hst0 D kA nm na sa sv H.size T _ p1 a2 a3 M _ hw) (cwV 2 hts gL_operation_X10_operation rfl rfl rfl (by decide +kernel) ⟨(show (6 : Nat) + 1 ≤ 7 from Nat.le_of_ble_eq_true rfl), (show 8 + (4 + 11) + (131 : Nat) ≤ 154 from Nat.le_of_ble_eq_true rfl)⟩) (c_preV hK hH hA hSt (c_recv10 hK hH h2)) rfl rfl hl.1 rfl (lv_room (by first | exact Nat.le_of_ble_eq_true rfl | simp [va_rf_cat, cat_ref, cat_int, cat_long, cat_double, cat_null])) dL_operation_5 ⟨Nat.le_of_ble_eq_true rfl, Nat.le_of_ble_eq_true rfl⟩) hH hA (fun kk ce q9 M3 H locs hw hH hce hcv hcl => ?_) (fun r4 M3 H locs hw hH => ?_)
    · obtain ⟨hk, hw⟩ := hw
      subst hk
      refine vx_catch (name := "java/lang/IllegalArgumentException") hown [] _ [] (htb.trans rfl) (fun z hz => nomatch hz) (by decide) (by decide) (hts (.classLink RL 19 "java/lang/IllegalArgumentException") (by decide +kernel)) (va_Nw.use rfl hSt.2.2.2.2.2.2.2.2.2.2.2.2.2.2.2.2.2.2.2.2.2.2.2.2.2.2.2.2.2.1) hce hcv hcl ?_
      refine lv_astore (i := 4) (lv' := [(4, .ref q9), (0, va_rf a1), (1, .int a2), (2, .int a3), (3, va_rf a4)]) hx hb dL_operation_13 hl (by decide) (by first | rfl | simp [va_rf_cat, cat_ref, cat_int, cat_long, cat_double, cat_null]) (fun ls hl => ?_)
      refine lv_iconst (v := 1) hx hb dL_operation_15 (by decide) ?_
      exact c_reti hx hb hr hlocks hK hH hw dL_operation_16
    · refine lv_i2l hx hb dL_operation_8 rfl ?_
      obtain ⟨p5, ep5, hw⟩ := hw
      refine W.st (st' := [.long r4.toInt64, .int 0, .ref p5]) (by rw [ep5]; rfl) ?_
      obtain ⟨h6, hw⟩ := hw
      obtain ⟨h8, hw⟩ := hw
      refine cs_3 hx hb hK hH h6 h8 dL_operation_9 (fun M7 H locs eM7 hH => ?_)
      replace hw := hw M7 eM7
      refine lv_goto (tgt := 17) hx hb dL_operation_10 (by decide) ?_
      refine lv_iconst (v := 0) hx hb dL_operation_17 (by decide) ?_
      exact c_reti hx hb hr hlocks hK hH hw dL_operation_18
  exact hst M s.heap [] ls hH hl hw
