def fc_X6_readForm_b185 (nm : Nat → Nat) (mc ms : Nat) (h : Nat) (Q : Option Nat → LY → CM → Prop) (s0 : Option Nat) (T : LY) (M : CM) (K N : Nat) : Prop := (K ≤ mc ∧ N ≤ ms ∧ Q s0 T M)
def fc_X6_readForm_b180 (nm : Nat → Nat) (mc ms : Nat) (h : Nat) (Q : Option Nat → LY → CM → Prop) (v3 : Nat) (T : LY) (M : CM) (K N : Nat) : Prop := fc_X6_readForm_b185 nm mc ms h Q  (some v3) T M K N
def fc_X6_readForm_b158 (nm : Nat → Nat) (mc ms : Nat) (h : Nat) (Q : Option Nat → LY → CM → Prop) (v3 : Nat) (T : LY) (M : CM) (K N : Nat) : Prop := (tg T h = 7 ∧ (((cI M 64 h) = (cI M 62 h) → fc_X6_readForm_b180 nm mc ms h Q  v3 T M K N) ∧ (¬ (cI M 64 h) = (cI M 62 h) → (K ≤ mc ∧ (N ≤ ms ∧ fc_X6_failAt T h (cI M 64 h) M (fun (r4 : Int32) (M3 : CM) => ((r4 = 0 → fc_X6_readForm_b185 nm mc ms h Q  none T M3 K N) ∧ (¬ r4 = 0 → fc_X6_readForm_b180 nm mc ms h Q  v3 T M3 K N))))))))
def fc_X6_readForm_b142 (nm : Nat → Nat) (mc ms : Nat) (h : Nat) (Q : Option Nat → LY → CM → Prop) (v3 : Nat) (v4 : Int32) (T : LY) (M : CM) (K N : Nat) : Prop := ((¬ v4 = 0 → fc_X6_readForm_b158 nm mc ms h Q  v3 T M K N) ∧ (v4 = 0 → (tg T h = 7 ∧ (K ≤ mc ∧ (N ≤ ms ∧ fc_X6_need T h 41 M (fun (r12 : Int32) (M11 : CM) => ((¬ r12 = 0 → fc_X6_readForm_b158 nm mc ms h Q  v3 T M11 K N) ∧ (r12 = 0 → (K ≤ mc ∧ N ≤ ms ∧ Q none T M11)))))))))
def fc_X6_readForm_c71 (nm : Nat → Nat) (mc ms : Nat) (h : Nat) (Q : Option Nat → LY → CM → Prop) (k71 : Nat → Int32 → Int32 → Int32 → LY → CM → Nat → Nat → Prop) (v3 : Nat) (v4 : Int32) (v5 : Int32) (v6 : Int32) (T : LY) (M : CM) (K N : Nat) : Prop := ((5 < v6 → fc_X6_readForm_b142 nm mc ms h Q  v3 v4 T M K N) ∧ (¬ 5 < v6 → ((¬ v4 = 0 → fc_X6_readForm_b142 nm mc ms h Q  v3 v4 T M K N) ∧ (v4 = 0 → (tg T h = 7 ∧ (∃ cc23 nn24 : Nat, K + cc23 ≤ mc ∧ N + nn24 ≤ ms ∧ fc_X6_readArgument nm cc23 nn24 h v5 T M (fun (r21 : Option Nat) (T22 : LY) (M20 : CM) => ((¬ r21 = none → (tg T22 v3 = 3 ∧ (K + cc23 ≤ mc ∧ (N + nn24 ≤ ms ∧ fc_X2_append T22 v3 r21 M20 (fun (M27 : CM) => (∃ p32 : Nat, r21 = some p32 ∧ (tg T22 p32 = 1 ∧ (K + cc23 ≤ mc ∧ (N + nn24 ≤ ms ∧ fc_X0_canBeMissing T22 p32 M27 (fun (r35 : Int32) (M34 : CM) => ((¬ (cI M34 2 p32) = 0 → fc_X6_readForm_b142 nm mc ms h Q  v3 v4 T22 M34 (K + cc23) (N + nn24)) ∧ ((cI M34 2 p32) = 0 → ((v6 = 5 → fc_X6_readForm_b142 nm mc ms h Q  v3 v4 T22 M34 (K + cc23) (N + nn24)) ∧ (¬ v6 = 5 → (tg T22 h = 7 ∧ (K + cc23 ≤ mc ∧ (N + nn24 ≤ ms ∧ fc_X6_take T22 h 44 M34 (fun (r43 : Int32) (M42 : CM) => ((¬ r43 = 0 → (∀ x48 : Int32, x48 = v6 + 1 → k71 v3 v4 r35 x48 T22 M42 (K + cc23) (N + nn24))) ∧ (r43 = 0 → fc_X6_readForm_b142 nm mc ms h Q  v3 v4 T22 M42 (K + cc23) (N + nn24))))))))))))))))))))) ∧ (r21 = none → (K + cc23 ≤ mc ∧ N + nn24 ≤ ms ∧ Q none T22 M20))))))))))
def fc_X6_readForm_l71 (nm : Nat → Nat) (mc ms : Nat) (h : Nat) (Q : Option Nat → LY → CM → Prop) : Nat → Nat → Int32 → Int32 → Int32 → LY → CM → Nat → Nat → Prop := lit (τ := Nat → Int32 → Int32 → Int32 → LY → CM → Nat → Nat → Prop) (fun _ _ _ _ _ _ _ _ => False) (fun k => fc_X6_readForm_c71 nm mc ms h Q  k)
def fc_X6_readForm_b24 (nm : Nat → Nat) (mc ms : Nat) (h : Nat) (Q : Option Nat → LY → CM → Prop) (T : LY) (M : CM) (K N : Nat) : Prop := (tg T h = 7 ∧ (K ≤ mc ∧ (N ≤ ms ∧ fc_X6_failAt T h 0 M (fun (r51 : Int32) (M50 : CM) => (K ≤ mc ∧ N ≤ ms ∧ Q none T M50)))))
def fc_X6_readForm (nm : Nat → Nat) (mc ms : Nat) (h : Nat)  (a1 : Option Nat) (T : LY) (M : CM) (Q : Option Nat → LY → CM → Prop) : Prop := (tg T h = 7 ∧ (0 ≤ mc ∧ (0 ≤ ms ∧ fc_X6_load T h a1 M (fun (M56 : CM) => (0 ≤ mc ∧ (0 ≤ ms ∧ fc_X6_signAt T h 0 M56 (fun (r62 : Int32) (M61 : CM) => (∀ x66 : Int32, x66 = r62 - 97 → ((x66 < 0 → fc_X6_readForm_b24 nm mc ms h Q   T M61 0 0) ∧ (¬ x66 < 0 → ((x66 < 6 → (0 + 1 ≤ mc ∧ (0 + 5 ≤ ms ∧ (∀ (q69 : Nat) (T70 : LY) (M71 : CM), tg T q69 = 0 → T70 = mkT T 3 0 q69 → M71 = mkM M61 q69 → (tg T70 q69 = 3 ∧ (∃ cc78 nn79 : Nat, (0 + 1) + cc78 ≤ mc ∧ (0 + 5) + nn79 ≤ ms ∧ fc_X2_init cc78 nn79 q69 x66 T70 M71 (fun (T77 : LY) (M75 : CM) => (tg T77 h = 7 ∧ (∀ M81 : CM, M81 = sI M75 64 h 1 → ((0 + 1) + cc78 ≤ mc ∧ ((0 + 5) + nn79 ≤ ms ∧ fc_X6_need T77 h 40 M81 (fun (r83 : Int32) (M82 : CM) => ((¬ r83 = 0 → ((0 + 1) + cc78 ≤ mc ∧ ((0 + 5) + nn79 ≤ ms ∧ fc_X6_take T77 h 41 M82 (fun (r89 : Int32) (M88 : CM) => (∃ nn : Nat, fc_X6_readForm_l71 nm mc ms h Q  nn q69 r89 0 1 T77 M88 ((0 + 1) + cc78) ((0 + 5) + nn79)))))) ∧ (r83 = 0 → ((0 + 1) + cc78 ≤ mc ∧ (0 + 5) + nn79 ≤ ms ∧ Q none T77 M82))))))))))))))) ∧ (¬ x66 < 6 → fc_X6_readForm_b24 nm mc ms h Q   T M61 0 0))))))))))))
abbrev rmX6_readForm (mc ms : Nat) : Room := { frames := 9, cells := mc, slots := ms, locals := 207 }
set_option maxHeartbeats 4000000 in
set_option maxRecDepth 100000 in
theorem tc_X6_readForm (l : Launch) (D : va_G) (kA : Nat → ClassId) (nm : Nat → Nat) (na : Nat) (sa sv : Nat → Nat) (sz : Nat) (mc ms : Nat) (h : Nat) (a1 : Option Nat) (T : LY) (M : CM) (Q : Option Nat → LY → CM → Prop) (hw : fc_X6_readForm nm mc ms h a1 T M Q) : Met l yX6_readForm wsX6_readForm (rmX6_readForm mc ms) (va_Pc [.ref h, va_rf a1] (cPc nm na sa sv D kA T M sz)) (va_Qq (fun r (u : LY × CM) => Q r u.1 u.2) (cBT D kA (cF T sz)) (cF T sz)) mc ms (cF T sz) := by
  refine Met.ofW (cc := cX6_readForm) (maxL := 8) (ret := (some (.object "IdlCaller$Form"))) (by decide) rfl ?_
  intro p e s m args below meth c s₁ B hml hv
  obtain ⟨rfl, hsz, hP, hK, hSt⟩ := hv
  have hx := B.exec
  have hb := B.bytes
  have hr := B.returns
  have hts := atoms_spec (ws := wsX6_readForm) B.pre
  have hown : s.vm.findClass RX6 = some m.cls := findClass_of_methodNamed B.named
  have hlocks : meth.locks = false := B.notSynchronized
  subst hsz
  have hH : cH D kA (cF T s.heap.size) s.heap T M s.heap [] := ⟨hP.self, va_S.rf⟩
  have hA : ∀ q : Nat, s.heap.size ≤ q → cF T s.heap.size q := fun q z => Or.inr z
  generalize cF T s.heap.size = A at hH hA hSt ⊢
  have hl := lv_entry ([.ref h, va_rf a1]) (n := 8) (by first | exact Nat.le_of_ble_eq_true rfl | simp [lg_sl, va_rf_cat, cat_ref, cat_int, cat_long, cat_double])
  rw [lg_entry_eq]
  generalize (lg_sl ([.ref h, va_rf a1]) ++ List.replicate (8 - (lg_sl ([.ref h, va_rf a1])).length) Slot.unset).toArray = ls at hl ⊢
  generalize ([.ref h, va_rf a1] : List Value).toArray = args at hts ⊢
  have hl : lv_has ls 8 [(0, .ref h), (1, va_rf a1)] := by simpa [lv_args, va_rf_cat, cat_ref, cat_int, cat_long, cat_double] using hl
  have hin0 : ∀ w ∈ wsX00, w ∈ wsX6_readForm := by decide +kernel
  have hin2 : ∀ w ∈ wsX20, w ∈ wsX6_readForm := by decide +kernel
  have hin6 : ∀ w ∈ wsX60, w ∈ wsX6_readForm := by decide +kernel
  have b185 : ∀ (s0 : Option Nat) (T : LY) (M : CM) (K N : Nat) (H : Heap) (locs : List Loc) (ls : Array Slot), cH D kA A s.heap T M H locs → lv_has ls 8 [] → fc_X6_readForm_b185 nm mc ms h Q  s0 T M K N → W p l e (headSpec wsX6_readForm (rmX6_readForm mc ms)).room s m args below meth c H locs K N (MQ below (va_Qq (fun r (u : LY × CM) => Q r u.1 u.2) (cBT D kA A) A) args s mc ms A) (F0 m 185 ls [va_rf s0]) := by
    intro   s0 T M K N H locs ls hH hl hw
    unfold fc_X6_readForm_b185 at hw
    exact c_retTq (v := s0) hw.1 hw.2.1 hx hb hr (Or.inl ⟨_, rfl⟩) hlocks hK hH hw.2.2 dX6_readForm_185
  have b180 : ∀ (v3 : Nat) (T : LY) (M : CM) (K N : Nat) (H : Heap) (locs : List Loc) (ls : Array Slot), cH D kA A s.heap T M H locs → lv_has ls 8 [(3, .ref v3)] → fc_X6_readForm_b180 nm mc ms h Q  v3 T M K N → W p l e (headSpec wsX6_readForm (rmX6_readForm mc ms)).room s m args below meth c H locs K N (MQ below (va_Qq (fun r (u : LY × CM) => Q r u.1 u.2) (cBT D kA A) A) args s mc ms A) (F0 m 180 ls []) := by
    intro   v3 T M K N H locs ls hH hl hw
    unfold fc_X6_readForm_b180 at hw
    refine lv_aload_n hx hb dX6_readForm_180 rfl (lv_at hl 0 rfl) ?_
    refine lv_goto (tgt := 185) hx hb dX6_readForm_181 (by decide) ?_
    exact b185   (some v3) T M K N H locs ls hH (lv_sub hl [] rfl) hw
  have b158 : ∀ (v3 : Nat) (T : LY) (M : CM) (K N : Nat) (H : Heap) (locs : List Loc) (ls : Array Slot), cH D kA A s.heap T M H locs → lv_has ls 8 [(0, .ref h), (3, .ref v3)] → fc_X6_readForm_b158 nm mc ms h Q  v3 T M K N → W p l e (headSpec wsX6_readForm (rmX6_readForm mc ms)).room s m args below meth c H locs K N (MQ below (va_Qq (fun r (u : LY × CM) => Q r u.1 u.2) (cBT D kA A) A) args s mc ms A) (F0 m 158 ls []) := by
    intro   v3 T M K N H locs ls hH hl hw
    unfold fc_X6_readForm_b158 at hw
    refine lv_aload_n hx hb dX6_readForm_158 rfl (lv_at hl 0 rfl) ?_
    obtain ⟨h1, hw⟩ := hw
    refine cg_64 hx hb hts hin6 hown hK hH h1 (hts (.fieldLink RX6 26 "IdlCaller$Reader" "at" "I") (by decide +kernel)) dX6_readForm_159 ?_
    refine lv_aload_n hx hb dX6_readForm_162 rfl (lv_at hl 0 rfl) ?_
    refine cg_62 hx hb hts hin6 hown hK hH h1 (hts (.fieldLink RX6 19 "IdlCaller$Reader" "count" "I") (by decide +kernel)) dX6_readForm_163 ?_
    refine lv_icmp_eq (tgt := 180) hx hb dX6_readForm_166 (by decide) (fun c2 => ?_) (fun c2 => ?_)
    · replace hw := hw.1 c2
      exact b180   v3 T M K N H locs ls hH (lv_sub hl [1] rfl) hw
    · replace hw := hw.2 c2
      refine lv_aload_n hx hb dX6_readForm_169 rfl (lv_at hl 0 rfl) ?_
      refine lv_aload_n hx hb dX6_readForm_170 rfl (lv_at hl 0 rfl) ?_
      refine cg_64 hx hb hts hin6 hown hK hH h1 (hts (.fieldLink RX6 26 "IdlCaller$Reader" "at" "I") (by decide +kernel)) dX6_readForm_171 ?_
      obtain ⟨h6, hw⟩ := hw
      obtain ⟨h7, hw⟩ := hw
      refine c_calli (va_runV (As := [.int (cI M 64 h)]) (rest := []) ⟨hx, hb, hml, hown, hts⟩ (tc_X6_failAt l D kA nm na sa sv H.size T h (cI M 64 h) M _ hw) (cwV 1 hts gX6_readForm_X6_failAt rfl rfl rfl (by decide +kernel) ⟨(show (1 : Nat) + 1 ≤ 9 from Nat.le_of_ble_eq_true rfl), (show 8 + (2 + 11) + (21 : Nat) ≤ 207 from Nat.le_of_ble_eq_true rfl)⟩) (c_preV hK hH hA hSt (c_recv6 hK hH h1)) rfl rfl hl.1 rfl (lv_room (by first | exact Nat.le_of_ble_eq_true rfl | simp [va_rf_cat, cat_ref, cat_int, cat_long, cat_double, cat_null])) dX6_readForm_174 ⟨h6, h7⟩) hH hA (fun r4 M3 H locs hw hH => ?_)
      refine lv_if_eq (tgt := 184) hx hb dX6_readForm_177 (by decide) (fun c8 => ?_) (fun c8 => ?_)
      · replace hw := hw.1 c8
        refine lv_null hx hb dX6_readForm_184 ?_
        exact b185   none T M3 K N H locs ls hH (lv_sub hl [] rfl) hw
      · replace hw := hw.2 c8
        exact b180   v3 T M3 K N H locs ls hH (lv_sub hl [1] rfl) hw
  have b142 : ∀ (v3 : Nat) (v4 : Int32) (T : LY) (M : CM) (K N : Nat) (H : Heap) (locs : List Loc) (ls : Array Slot), cH D kA A s.heap T M H locs → lv_has ls 8 [(0, .ref h), (3, .ref v3), (4, .int v4)] → fc_X6_readForm_b142 nm mc ms h Q  v3 v4 T M K N → W p l e (headSpec wsX6_readForm (rmX6_readForm mc ms)).room s m args below meth c H locs K N (MQ below (va_Qq (fun r (u : LY × CM) => Q r u.1 u.2) (cBT D kA A) A) args s mc ms A) (F0 m 142 ls []) := by
    intro   v3 v4 T M K N H locs ls hH hl hw
    unfold fc_X6_readForm_b142 at hw
    refine lv_iload hx hb dX6_readForm_142 (lv_at hl 2 rfl) ?_
    refine lv_if_ne (tgt := 158) hx hb dX6_readForm_144 (by decide) (fun c9 => ?_) (fun c9 => ?_)
    · replace hw := hw.1 c9
      exact b158   v3 T M K N H locs ls hH (lv_sub hl [0, 1] rfl) hw
    · replace hw := hw.2 c9
      refine lv_aload_n hx hb dX6_readForm_147 rfl (lv_at hl 0 rfl) ?_
      refine lv_bipush (v := 41) hx hb dX6_readForm_148 (by decide) ?_
      obtain ⟨h10, hw⟩ := hw
      obtain ⟨h14, hw⟩ := hw
      obtain ⟨h15, hw⟩ := hw
      refine c_calli (va_runV (As := [.int 41]) (rest := []) ⟨hx, hb, hml, hown, hts⟩ (tc_X6_need l D kA nm na sa sv H.size T h 41 M _ hw) (cwV 1 hts gX6_readForm_X6_need rfl rfl rfl (by decide +kernel) ⟨(show (2 : Nat) + 1 ≤ 9 from Nat.le_of_ble_eq_true rfl), (show 8 + (2 + 11) + (42 : Nat) ≤ 207 from Nat.le_of_ble_eq_true rfl)⟩) (c_preV hK hH hA hSt (c_recv6 hK hH h10)) rfl rfl hl.1 rfl (lv_room (by first | exact Nat.le_of_ble_eq_true rfl | simp [va_rf_cat, cat_ref, cat_int, cat_long, cat_double, cat_null])) dX6_readForm_150 ⟨h14, h15⟩) hH hA (fun r12 M11 H locs hw hH => ?_)
      refine lv_if_ne (tgt := 158) hx hb dX6_readForm_153 (by decide) (fun c16 => ?_) (fun c16 => ?_)
      · replace hw := hw.1 c16
        exact b158   v3 T M11 K N H locs ls hH (lv_sub hl [0, 1] rfl) hw
      · replace hw := hw.2 c16
        refine lv_null hx hb dX6_readForm_156 ?_
        exact c_retTq (v := none) hw.1 hw.2.1 hx hb hr (Or.inl ⟨_, rfl⟩) hlocks hK hH hw.2.2 dX6_readForm_157
  have l71 : ∀ (nn : Nat) (v3 : Nat) (v4 : Int32) (v5 : Int32) (v6 : Int32) (T : LY) (M : CM) (K N : Nat) (H : Heap) (locs : List Loc) (ls : Array Slot), cH D kA A s.heap T M H locs → lv_has ls 8 [(0, .ref h), (3, .ref v3), (4, .int v4), (5, .int v5), (6, .int v6)] → fc_X6_readForm_l71 nm mc ms h Q  nn v3 v4 v5 v6 T M K N → W p l e (headSpec wsX6_readForm (rmX6_readForm mc ms)).room s m args below meth c H locs K N (MQ below (va_Qq (fun r (u : LY × CM) => Q r u.1 u.2) (cBT D kA A) A) args s mc ms A) (F0 m 71 ls []) := by
    intro   nn
    induction nn with
    | zero => intro v3 v4 v5 v6 T M K N H locs ls hH hl hw; exact False.elim hw
    | succ nn hk71 =>
      intro v3 v4 v5 v6 T M K N H locs ls hH hl hw
      replace hw : fc_X6_readForm_c71 nm mc ms h Q  (fc_X6_readForm_l71 nm mc ms h Q  nn) v3 v4 v5 v6 T M K N := hw
      unfold fc_X6_readForm_c71 at hw
      refine lv_iload hx hb dX6_readForm_71 (lv_at hl 4 rfl) ?_
      refine lv_iconst (v := 5) hx hb dX6_readForm_73 (by decide) ?_
      refine lv_icmp_gt (tgt := 142) hx hb dX6_readForm_74 (by decide) (fun c17 => ?_) (fun c17 => ?_)
      · replace hw := hw.1 c17
        exact b142   v3 v4 T M K N H locs ls hH (lv_sub hl [0, 1, 2] rfl) hw
      · replace hw := hw.2 c17
        refine lv_iload hx hb dX6_readForm_77 (lv_at hl 2 rfl) ?_
        refine lv_if_ne (tgt := 142) hx hb dX6_readForm_79 (by decide) (fun c18 => ?_) (fun c18 => ?_)
        · replace hw := hw.1 c18
          exact b142   v3 v4 T M K N H locs ls hH (lv_sub hl [0, 1, 2] rfl) hw
        · replace hw := hw.2 c18
          refine lv_aload_n hx hb dX6_readForm_82 rfl (lv_at hl 0 rfl) ?_
          refine lv_iload hx hb dX6_readForm_83 (lv_at hl 3 rfl) ?_
          obtain ⟨h19, hw⟩ := hw
          obtain ⟨cc23, nn24, hcc23, hnn24, hw⟩ := hw
          refine c_callTq (va_runV (As := [.int v5]) (rest := []) ⟨hx, hb, hml, hown, hts⟩ (tc_X6_readArgument l D kA nm na sa sv H.size cc23 nn24 h v5 T M _ hw) (cwV 1 hts gX6_readForm_X6_readArgument rfl rfl rfl (by decide +kernel) ⟨(show (8 : Nat) + 1 ≤ 9 from Nat.le_of_ble_eq_true rfl), (show 8 + (6 + 11) + (182 : Nat) ≤ 207 from Nat.le_of_ble_eq_true rfl)⟩) (c_preV hK hH hA hSt (c_recv6 hK hH h19)) rfl rfl hl.1 rfl (lv_room (by first | exact Nat.le_of_ble_eq_true rfl | simp [va_rf_cat, cat_ref, cat_int, cat_long, cat_double, cat_null])) dX6_readForm_85 ⟨hcc23, hnn24⟩) hH hA (fun r21 T22 M20 H locs hw hH => ?_)
          refine s_astore (i := 7) (lv' := [(7, va_rf r21), (0, .ref h), (3, .ref v3), (4, .int v4), (5, .int v5), (6, .int v6)]) hx hb dX6_readForm_88 hl (by decide) (by first | rfl | simp [va_rf_cat, cat_ref, cat_int, cat_long, cat_double, cat_null]) (fun ls hl => ?_)
          refine s_aload hx hb dX6_readForm_90 (lv_at hl 0 rfl) ?_
          refine s_ifnonnull (tgt := 97) hx hb dX6_readForm_92 (by decide) (fun c25 => ?_) (fun c25 => ?_)
          · replace hw := hw.1 c25
            refine lv_aload_n hx hb dX6_readForm_97 rfl (lv_at hl 2 rfl) ?_
            refine s_aload hx hb dX6_readForm_98 (lv_at hl 0 rfl) ?_
            obtain ⟨h26, hw⟩ := hw
            obtain ⟨h30, hw⟩ := hw
            obtain ⟨h31, hw⟩ := hw
            refine c_callv (va_runV (As := [va_rf r21]) (rest := []) ⟨hx, hb, hml, hown, hts⟩ (tc_X2_append l D kA nm na sa sv H.size T22 v3 r21 M20 _ hw) (cwV 1 hts gX6_readForm_X2_append rfl rfl rfl (by decide +kernel) ⟨(show (0 : Nat) + 1 ≤ 9 from Nat.le_of_ble_eq_true rfl), (show 8 + (2 + 11) + (0 : Nat) ≤ 207 from Nat.le_of_ble_eq_true rfl)⟩) (c_preV hK hH hA hSt (c_recv2 hK hH h26)) rfl rfl hl.1 rfl (lv_room (by first | exact Nat.le_of_ble_eq_true rfl | simp [va_rf_cat, cat_ref, cat_int, cat_long, cat_double, cat_null])) dX6_readForm_100 ⟨h30, h31⟩) hH hA (fun M27 H locs hw hH => ?_)
            refine s_aload hx hb dX6_readForm_103 (lv_at hl 0 rfl) ?_
            obtain ⟨p32, ep32, hw⟩ := hw
            refine W.st (st' := [.ref p32]) (by rw [ep32]; rfl) ?_
            obtain ⟨h33, hw⟩ := hw
            obtain ⟨h37, hw⟩ := hw
            obtain ⟨h38, hw⟩ := hw
            refine c_calli (va_runV (As := []) (rest := []) ⟨hx, hb, hml, hown, hts⟩ (tc_X0_canBeMissing l D kA nm na sa sv H.size T22 p32 M27 _ hw) (cwV 0 hts gX6_readForm_X0_canBeMissing rfl rfl rfl (by decide +kernel) ⟨(show (0 : Nat) + 1 ≤ 9 from Nat.le_of_ble_eq_true rfl), (show 8 + (1 + 11) + (0 : Nat) ≤ 207 from Nat.le_of_ble_eq_true rfl)⟩) (c_preV hK hH hA hSt (c_recv0 hK hH h33)) rfl rfl hl.1 rfl (lv_room (by first | exact Nat.le_of_ble_eq_true rfl | simp [va_rf_cat, cat_ref, cat_int, cat_long, cat_double, cat_null])) dX6_readForm_105 ⟨h37, h38⟩) hH hA (fun r35 M34 H locs hw hH => ?_)
            refine lv_istore (i := 5) (lv' := [(5, .int r35), (7, va_rf r21), (0, .ref h), (3, .ref v3), (4, .int v4), (6, .int v6)]) hx hb dX6_readForm_108 hl (by decide) (by first | rfl | simp [va_rf_cat, cat_ref, cat_int, cat_long, cat_double, cat_null]) (fun ls hl => ?_)
            refine s_aload hx hb dX6_readForm_110 (lv_at hl 1 rfl) ?_
            refine W.st (st' := [.ref p32]) (by rw [ep32]; rfl) ?_
            refine cg_2 hx hb hts hin0 hown hK hH h33 (hts (.fieldLink RX6 73 "IdlCaller$Argument" "variadic" "Z") (by decide +kernel)) dX6_readForm_112 ?_
            refine lv_if_ne (tgt := 142) hx hb dX6_readForm_115 (by decide) (fun c39 => ?_) (fun c39 => ?_)
            · replace hw := hw.1 c39
              exact b142   v3 v4 T22 M34 (K + cc23) (N + nn24) H locs ls hH (lv_sub hl [2, 3, 4] rfl) hw
            · replace hw := hw.2 c39
              refine lv_iload hx hb dX6_readForm_118 (lv_at hl 5 rfl) ?_
              refine lv_iconst (v := 5) hx hb dX6_readForm_120 (by decide) ?_
              refine lv_icmp_eq (tgt := 142) hx hb dX6_readForm_121 (by decide) (fun c40 => ?_) (fun c40 => ?_)
              · replace hw := hw.1 c40
                exact b142   v3 v4 T22 M34 (K + cc23) (N + nn24) H locs ls hH (lv_sub hl [2, 3, 4] rfl) hw
              · replace hw := hw.2 c40
                refine lv_aload_n hx hb dX6_readForm_124 rfl (lv_at hl 2 rfl) ?_
                refine lv_bipush (v := 44) hx hb dX6_readForm_125 (by decide) ?_
                obtain ⟨h41, hw⟩ := hw
                obtain ⟨h45, hw⟩ := hw
                obtain ⟨h46, hw⟩ := hw
                refine c_calli (va_runV (As := [.int 44]) (rest := []) ⟨hx, hb, hml, hown, hts⟩ (tc_X6_take l D kA nm na sa sv H.size T22 h 44 M34 _ hw) (cwV 1 hts gX6_readForm_X6_take rfl rfl rfl (by decide +kernel) ⟨(show (1 : Nat) + 1 ≤ 9 from Nat.le_of_ble_eq_true rfl), (show 8 + (2 + 11) + (21 : Nat) ≤ 207 from Nat.le_of_ble_eq_true rfl)⟩) (c_preV hK hH hA hSt (c_recv6 hK hH h41)) rfl rfl hl.1 rfl (lv_room (by first | exact Nat.le_of_ble_eq_true rfl | simp [va_rf_cat, cat_ref, cat_int, cat_long, cat_double, cat_null])) dX6_readForm_127 ⟨h45, h46⟩) hH hA (fun r43 M42 H locs hw hH => ?_)
                refine lv_if_ne (tgt := 136) hx hb dX6_readForm_130 (by decide) (fun c47 => ?_) (fun c47 => ?_)
                · replace hw := hw.1 c47
                  obtain ⟨x48, ex48⟩ : ∃ y : Int32, y = v6 + 1 := ⟨_, rfl⟩
                  replace hw := hw x48 ex48
                  refine lv_iinc (v := x48) (lv' := [(6, .int x48), (5, .int r35), (7, va_rf r21), (0, .ref h), (3, .ref v3), (4, .int v4)]) hx hb dX6_readForm_136 hl (k := 5) rfl (by rw [ex48]; rfl) (by decide) (by first | rfl | simp [va_rf_cat, cat_ref, cat_int, cat_long, cat_double, cat_null]) (fun ls hl => ?_)
                  refine lv_goto (tgt := 71) hx hb dX6_readForm_139 (by decide) ?_
                  exact hk71 v3 v4 r35 x48 T22 M42 (K + cc23) (N + nn24) H locs ls hH (lv_sub hl [3, 4, 5, 1, 0] rfl) hw
                · replace hw := hw.2 c47
                  refine lv_goto (tgt := 142) hx hb dX6_readForm_133 (by decide) ?_
                  exact b142   v3 v4 T22 M42 (K + cc23) (N + nn24) H locs ls hH (lv_sub hl [2, 3, 4] rfl) hw
          · replace hw := hw.2 c25
            refine lv_null hx hb dX6_readForm_95 ?_
            exact c_retTq (v := none) hw.1 hw.2.1 hx hb hr (Or.inl ⟨_, rfl⟩) hlocks hK hH hw.2.2 dX6_readForm_96
  have b24 : ∀ (T : LY) (M : CM) (K N : Nat) (H : Heap) (locs : List Loc) (ls : Array Slot), cH D kA A s.heap T M H locs → lv_has ls 8 [(0, .ref h)] → fc_X6_readForm_b24 nm mc ms h Q   T M K N → W p l e (headSpec wsX6_readForm (rmX6_readForm mc ms)).room s m args below meth c H locs K N (MQ below (va_Qq (fun r (u : LY × CM) => Q r u.1 u.2) (cBT D kA A) A) args s mc ms A) (F0 m 24 ls []) := by
    intro    T M K N H locs ls hH hl hw
    unfold fc_X6_readForm_b24 at hw
    refine lv_aload_n hx hb dX6_readForm_24 rfl (lv_at hl 0 rfl) ?_
    refine lv_iconst (v := 0) hx hb dX6_readForm_25 (by decide) ?_
    obtain ⟨h49, hw⟩ := hw
    obtain ⟨h53, hw⟩ := hw
    obtain ⟨h54, hw⟩ := hw
    refine c_calli (va_runV (As := [.int 0]) (rest := []) ⟨hx, hb, hml, hown, hts⟩ (tc_X6_failAt l D kA nm na sa sv H.size T h 0 M _ hw) (cwV 1 hts gX6_readForm_X6_failAt rfl rfl rfl (by decide +kernel) ⟨(show (1 : Nat) + 1 ≤ 9 from Nat.le_of_ble_eq_true rfl), (show 8 + (2 + 11) + (21 : Nat) ≤ 207 from Nat.le_of_ble_eq_true rfl)⟩) (c_preV hK hH hA hSt (c_recv6 hK hH h49)) rfl rfl hl.1 rfl (lv_room (by first | exact Nat.le_of_ble_eq_true rfl | simp [va_rf_cat, cat_ref, cat_int, cat_long, cat_double, cat_null])) dX6_readForm_26 ⟨h53, h54⟩) hH hA (fun r51 M50 H locs hw hH => ?_)
    refine lv_pop hx hb dX6_readForm_29 rfl ?_
    refine lv_null hx hb dX6_readForm_30 ?_
    exact c_retTq (v := none) hw.1 hw.2.1 hx hb hr (Or.inl ⟨_, rfl⟩) hlocks hK hH hw.2.2 dX6_readForm_31
  clear hP
  unfold fc_X6_readForm at hw
  have hst : ∀ (T : LY) (M : CM) (H : Heap) (locs : List Loc) (ls : Array Slot), cH D kA A s.heap T M H locs → lv_has ls 8 [(0, .ref h), (1, va_rf a1)] → (tg T h = 7 ∧ (0 ≤ mc ∧ (0 ≤ ms ∧ fc_X6_load T h a1 M (fun (M56 : CM) => (0 ≤ mc ∧ (0 ≤ ms ∧ fc_X6_signAt T h 0 M56 (fun (r62 : Int32) (M61 : CM) => (∀ x66 : Int32, x66 = r62 - 97 → ((x66 < 0 → fc_X6_readForm_b24 nm mc ms h Q   T M61 0 0) ∧ (¬ x66 < 0 → ((x66 < 6 → (0 + 1 ≤ mc ∧ (0 + 5 ≤ ms ∧ (∀ (q69 : Nat) (T70 : LY) (M71 : CM), tg T q69 = 0 → T70 = mkT T 3 0 q69 → M71 = mkM M61 q69 → (tg T70 q69 = 3 ∧ (∃ cc78 nn79 : Nat, (0 + 1) + cc78 ≤ mc ∧ (0 + 5) + nn79 ≤ ms ∧ fc_X2_init cc78 nn79 q69 x66 T70 M71 (fun (T77 : LY) (M75 : CM) => (tg T77 h = 7 ∧ (∀ M81 : CM, M81 = sI M75 64 h 1 → ((0 + 1) + cc78 ≤ mc ∧ ((0 + 5) + nn79 ≤ ms ∧ fc_X6_need T77 h 40 M81 (fun (r83 : Int32) (M82 : CM) => ((¬ r83 = 0 → ((0 + 1) + cc78 ≤ mc ∧ ((0 + 5) + nn79 ≤ ms ∧ fc_X6_take T77 h 41 M82 (fun (r89 : Int32) (M88 : CM) => (∃ nn : Nat, fc_X6_readForm_l71 nm mc ms h Q  nn q69 r89 0 1 T77 M88 ((0 + 1) + cc78) ((0 + 5) + nn79)))))) ∧ (r83 = 0 → ((0 + 1) + cc78 ≤ mc ∧ (0 + 5) + nn79 ≤ ms ∧ Q none T77 M82))))))))))))))) ∧ (¬ x66 < 6 → fc_X6_readForm_b24 nm mc ms h Q   T M61 0 0)))))))))))) → W p l e (headSpec wsX6_readForm (rmX6_readForm mc ms)).room s m args below meth c H locs 0 0 (MQ below (va_Qq (fun r (u : LY × CM) => Q r u.1 u.2) (cBT D kA A) A) args s mc ms A) (F0 m 0 ls []) := by
    intro T M H locs ls hH hl hw
    refine lv_aload_n hx hb dX6_readForm_0 rfl (lv_at hl 0 rfl) ?_
    refine s_aload_n hx hb dX6_readForm_1 rfl (lv_at hl 1 rfl) ?_
    obtain ⟨h55, hw⟩ := hw
    obtain ⟨h59, hw⟩ := hw
    obtain ⟨h60, hw⟩ := hw
    refine c_callv (va_runV (As := [va_rf a1]) (rest := []) ⟨hx, hb, hml, hown, hts⟩ (tc_X6_load l D kA nm na sa sv H.size T h a1 M _ hw) (cwV 1 hts gX6_readForm_X6_load rfl rfl rfl (by decide +kernel) ⟨(show (1 : Nat) + 1 ≤ 9 from Nat.le_of_ble_eq_true rfl), (show 8 + (4 + 11) + (21 : Nat) ≤ 207 from Nat.le_of_ble_eq_true rfl)⟩) (c_preV hK hH hA hSt (c_recv6 hK hH h55)) rfl rfl hl.1 rfl (lv_room (by first | exact Nat.le_of_ble_eq_true rfl | simp [va_rf_cat, cat_ref, cat_int, cat_long, cat_double, cat_null])) dX6_readForm_2 ⟨h59, h60⟩) hH hA (fun M56 H locs hw hH => ?_)
    refine lv_aload_n hx hb dX6_readForm_5 rfl (lv_at hl 0 rfl) ?_
    refine lv_iconst (v := 0) hx hb dX6_readForm_6 (by decide) ?_
    obtain ⟨h64, hw⟩ := hw
    obtain ⟨h65, hw⟩ := hw
    refine c_calli (va_runV (As := [.int 0]) (rest := []) ⟨hx, hb, hml, hown, hts⟩ (tc_X6_signAt l D kA nm na sa sv H.size T h 0 M56 _ hw) (cwV 1 hts gX6_readForm_X6_signAt rfl rfl rfl (by decide +kernel) ⟨(show (0 : Nat) + 1 ≤ 9 from Nat.le_of_ble_eq_true rfl), (show 8 + (2 + 11) + (0 : Nat) ≤ 207 from Nat.le_of_ble_eq_true rfl)⟩) (c_preV hK hH hA hSt (c_recv6 hK hH h55)) rfl rfl hl.1 rfl (lv_room (by first | exact Nat.le_of_ble_eq_true rfl | simp [va_rf_cat, cat_ref, cat_int, cat_long, cat_double, cat_null])) dX6_readForm_7 ⟨h64, h65⟩) hH hA (fun r62 M61 H locs hw hH => ?_)
    refine lv_bipush (v := 97) hx hb dX6_readForm_10 (by decide) ?_
    refine lv_isub hx hb dX6_readForm_12 ?_
    refine lv_topi (fun x66 ex66 => ?_)
    replace hw := hw x66 ex66
    refine lv_istore_n (i := 2) (lv' := [(2, .int x66), (0, .ref h), (1, va_rf a1)]) hx hb dX6_readForm_13 rfl hl (by decide) (by first | rfl | simp [va_rf_cat, cat_ref, cat_int, cat_long, cat_double, cat_null]) (fun ls hl => ?_)
    refine lv_iload_n hx hb dX6_readForm_14 rfl (lv_at hl 0 rfl) ?_
    refine lv_if_lt (tgt := 24) hx hb dX6_readForm_15 (by decide) (fun c67 => ?_) (fun c67 => ?_)
    · replace hw := hw.1 c67
      exact b24    T M61 0 0 H locs ls hH (lv_sub hl [1] rfl) hw
    · replace hw := hw.2 c67
      refine lv_iload_n hx hb dX6_readForm_18 rfl (lv_at hl 0 rfl) ?_
      refine lv_bipush (v := 6) hx hb dX6_readForm_19 (by decide) ?_
      refine lv_icmp_lt (tgt := 32) hx hb dX6_readForm_21 (by decide) (fun c68 => ?_) (fun c68 => ?_)
      · replace hw := hw.1 c68
        obtain ⟨h72, hw⟩ := hw
        obtain ⟨h73, hw⟩ := hw
        refine cnew_2 hx hb hts hin2 hown (hts (.classLink RX6 47 RX2) (by decide +kernel)) (hts (.instantiable RX2 5) (by decide +kernel)) (hts (.initialized RX2) (by decide +kernel)) hK hH hA h72 h73 dX6_readForm_32 (fun q69 H zq69 hH => ?_)
        obtain ⟨T70, eT70⟩ : ∃ z, z = mkT T 3 0 q69 := ⟨_, rfl⟩
        obtain ⟨M71, eM71⟩ : ∃ z, z = mkM M61 q69 := ⟨_, rfl⟩
        replace hw := hw q69 T70 M71 zq69 eT70 eM71
        rw [← eT70, ← eM71] at hH
        refine lv_dup hx hb dX6_readForm_35 rfl ?_
        refine lv_iload_n hx hb dX6_readForm_36 rfl (lv_at hl 0 rfl) ?_
        obtain ⟨h74, hw⟩ := hw
        obtain ⟨cc78, nn79, hcc78, hnn79, hw⟩ := hw
        refine c_callTv (va_runI (As := [.int x66]) (rest := [.ref q69]) ⟨hx, hb, hml, hown, hts⟩ (tc_X2_init l D kA nm na sa sv H.size cc78 nn79 q69 x66 T70 M71 _ hw) (cwI 1 hts gX6_readForm_X2_init rfl rfl rfl (hts (.initialized RX2) (by decide +kernel)) (hts (.methodLink RX6 49 yX2_init) (by decide +kernel)) (hts (.instanceMethod yX2_init) (by decide +kernel)) rfl (by decide +kernel) ⟨(show (1 : Nat) + 1 ≤ 9 from Nat.le_of_ble_eq_true rfl), (show 8 + (2 + 11) + (12 : Nat) ≤ 207 from Nat.le_of_ble_eq_true rfl)⟩) (c_preS hK hH hA hSt) rfl rfl hl.1 rfl (lv_room (by first | exact Nat.le_of_ble_eq_true rfl | simp [va_rf_cat, cat_ref, cat_int, cat_long, cat_double, cat_null])) dX6_readForm_37 ⟨hcc78, hnn79⟩) hH hA (fun T77 M75 H locs hw hH => ?_)
        refine lv_astore_n (i := 3) (lv' := [(3, .ref q69), (2, .int x66), (0, .ref h), (1, va_rf a1)]) hx hb dX6_readForm_40 rfl hl (by decide) (by first | rfl | simp [va_rf_cat, cat_ref, cat_int, cat_long, cat_double, cat_null]) (fun ls hl => ?_)
        refine lv_aload_n hx hb dX6_readForm_41 rfl (lv_at hl 2 rfl) ?_
        refine lv_iconst (v := 1) hx hb dX6_readForm_42 (by decide) ?_
        obtain ⟨h80, hw⟩ := hw
        refine cp_64 (x := 1) hx hb hts hin6 hown hK hH h80 (hts (.fieldLink RX6 26 "IdlCaller$Reader" "at" "I") (by decide +kernel)) dX6_readForm_43 (fun M81 H locs eM81 hH => ?_)
        replace hw := hw M81 eM81
        refine lv_aload_n hx hb dX6_readForm_46 rfl (lv_at hl 2 rfl) ?_
        refine lv_bipush (v := 40) hx hb dX6_readForm_47 (by decide) ?_
        obtain ⟨h85, hw⟩ := hw
        obtain ⟨h86, hw⟩ := hw
        refine c_calli (va_runV (As := [.int 40]) (rest := []) ⟨hx, hb, hml, hown, hts⟩ (tc_X6_need l D kA nm na sa sv H.size T77 h 40 M81 _ hw) (cwV 1 hts gX6_readForm_X6_need rfl rfl rfl (by decide +kernel) ⟨(show (2 : Nat) + 1 ≤ 9 from Nat.le_of_ble_eq_true rfl), (show 8 + (2 + 11) + (42 : Nat) ≤ 207 from Nat.le_of_ble_eq_true rfl)⟩) (c_preV hK hH hA hSt (c_recv6 hK hH h80)) rfl rfl hl.1 rfl (lv_room (by first | exact Nat.le_of_ble_eq_true rfl | simp [va_rf_cat, cat_ref, cat_int, cat_long, cat_double, cat_null])) dX6_readForm_49 ⟨h85, h86⟩) hH hA (fun r83 M82 H locs hw hH => ?_)
        refine lv_if_ne (tgt := 57) hx hb dX6_readForm_52 (by decide) (fun c87 => ?_) (fun c87 => ?_)
        · replace hw := hw.1 c87
          refine lv_aload_n hx hb dX6_readForm_57 rfl (lv_at hl 2 rfl) ?_
          refine lv_bipush (v := 41) hx hb dX6_readForm_58 (by decide) ?_
          obtain ⟨h91, hw⟩ := hw
          obtain ⟨h92, hw⟩ := hw
          refine c_calli (va_runV (As := [.int 41]) (rest := []) ⟨hx, hb, hml, hown, hts⟩ (tc_X6_take l D kA nm na sa sv H.size T77 h 41 M82 _ hw) (cwV 1 hts gX6_readForm_X6_take rfl rfl rfl (by decide +kernel) ⟨(show (1 : Nat) + 1 ≤ 9 from Nat.le_of_ble_eq_true rfl), (show 8 + (2 + 11) + (21 : Nat) ≤ 207 from Nat.le_of_ble_eq_true rfl)⟩) (c_preV hK hH hA hSt (c_recv6 hK hH h80)) rfl rfl hl.1 rfl (lv_room (by first | exact Nat.le_of_ble_eq_true rfl | simp [va_rf_cat, cat_ref, cat_int, cat_long, cat_double, cat_null])) dX6_readForm_60 ⟨h91, h92⟩) hH hA (fun r89 M88 H locs hw hH => ?_)
          refine lv_istore (i := 4) (lv' := [(4, .int r89), (3, .ref q69), (2, .int x66), (0, .ref h), (1, va_rf a1)]) hx hb dX6_readForm_63 hl (by decide) (by first | rfl | simp [va_rf_cat, cat_ref, cat_int, cat_long, cat_double, cat_null]) (fun ls hl => ?_)
          refine lv_iconst (v := 0) hx hb dX6_readForm_65 (by decide) ?_
          refine lv_istore (i := 5) (lv' := [(5, .int 0), (4, .int r89), (3, .ref q69), (2, .int x66), (0, .ref h), (1, va_rf a1)]) hx hb dX6_readForm_66 hl (by decide) (by first | rfl | simp [va_rf_cat, cat_ref, cat_int, cat_long, cat_double, cat_null]) (fun ls hl => ?_)
          refine lv_iconst (v := 1) hx hb dX6_readForm_68 (by decide) ?_
          refine lv_istore (i := 6) (lv' := [(6, .int 1), (5, .int 0), (4, .int r89), (3, .ref q69), (2, .int x66), (0, .ref h), (1, va_rf a1)]) hx hb dX6_readForm_69 hl (by decide) (by first | rfl | simp [va_rf_cat, cat_ref, cat_int, cat_long, cat_double, cat_null]) (fun ls hl => ?_)
          obtain ⟨nn, hw⟩ := hw
          exact l71   nn q69 r89 0 1 T77 M88 ((0 + 1) + cc78) ((0 + 5) + nn79) H locs ls hH (lv_sub hl [5, 3, 2, 1, 0] rfl) hw
        · replace hw := hw.2 c87
          refine lv_null hx hb dX6_readForm_55 ?_
          exact c_retTq (v := none) hw.1 hw.2.1 hx hb hr (Or.inl ⟨_, rfl⟩) hlocks hK hH hw.2.2 dX6_readForm_56
      · replace hw := hw.2 c68
        exact b24    T M61 0 0 H locs ls hH (lv_sub hl [1] rfl) hw
  exact hst T M s.heap [] ls hH hl hw
def fc_X4_init (T : LY) (h : Nat)  (M : CM) (Q : CM → Prop) : Prop := (tg T h = 5 ∧ (∀ M2 : CM, M2 = sD M 40 h FP.dconst0 → Q M2))
abbrev rmX4_init : Room := { frames := 1, cells := 0, slots := 0, locals := 12 }
set_option maxHeartbeats 4000000 in
set_option maxRecDepth 100000 in
theorem tc_X4_init (l : Launch) (D : va_G) (kA : Nat → ClassId) (nm : Nat → Nat) (na : Nat) (sa sv : Nat → Nat) (sz : Nat) (T : LY) (h : Nat) (M : CM) (Q : CM → Prop) (hw : fc_X4_init T h  M Q) : Met l yX4_init wsX4_init rmX4_init (va_Pc [.ref h] (cPc nm na sa sv D kA T M sz)) (va_Qv Q (cB D kA (cF T sz) T) (cF T sz)) 0 0 (cF T sz) := by
  refine Met.ofW (cc := cX4_init) (maxL := 1) (ret := none) (by decide) rfl ?_
  intro p e s m args below meth c s₁ B hml hv
  obtain ⟨rfl, hsz, hP, hK, hSt⟩ := hv
  have hx := B.exec
  have hb := B.bytes
  have hr := B.returns
  have hts := atoms_spec (ws := wsX4_init) B.pre
  have hown : s.vm.findClass RX4 = some m.cls := findClass_of_methodNamed B.named
  have hlocks : meth.locks = false := B.notSynchronized
  have hini : meth.name = "<init>" := (name_of_methodNamed B.named B.method).1
  subst hsz
  have hH : cH D kA (cF T s.heap.size) s.heap T M s.heap [] := ⟨hP.self, va_S.rf⟩
  have hA : ∀ q : Nat, s.heap.size ≤ q → cF T s.heap.size q := fun q z => Or.inr z
  generalize cF T s.heap.size = A at hH hA hSt ⊢
  have hl := lv_entry ([.ref h]) (n := 1) (by first | exact Nat.le_of_ble_eq_true rfl | simp [lg_sl, va_rf_cat, cat_ref, cat_int, cat_long, cat_double])
  rw [lg_entry_eq]
  generalize (lg_sl ([.ref h]) ++ List.replicate (1 - (lg_sl ([.ref h])).length) Slot.unset).toArray = ls at hl ⊢
  generalize ([.ref h] : List Value).toArray = args at hts ⊢
  have hl : lv_has ls 1 [(0, .ref h)] := hl
  have hin4 : ∀ w ∈ wsX40, w ∈ wsX4_init := by decide +kernel
  clear hP
  unfold fc_X4_init at hw
  have hst : ∀ (M : CM) (H : Heap) (locs : List Loc) (ls : Array Slot), cH D kA A s.heap T M H locs → lv_has ls 1 [(0, .ref h)] → (tg T h = 5 ∧ (∀ M2 : CM, M2 = sD M 40 h FP.dconst0 → Q M2)) → W p l e (headSpec wsX4_init rmX4_init).room s m args below meth c H locs 0 0 (MQ below (va_Qv Q (cB D kA A T) A) args s 0 0 A) (F0 m 0 ls []) := by
    intro M H locs ls hH hl hw
    refine lv_aload_n hx hb dX4_init_0 rfl (lv_at hl 0 rfl) ?_
    refine W.objInit hx hb hown (hts (.methodLink RX4 3 objectInit) (by decide +kernel)) (hts (.instanceMethod objectInit) (by decide +kernel)) (hts (.code objectInit ⟨#[0xb1]⟩ 1 none) (by decide +kernel)) rfl (by rw [hml]; exact hl.1) rfl dX4_init_1 ((show _ ≤ (1 : Nat) from by first | exact Nat.le_of_ble_eq_true rfl | simp [va_rf_cat, cat_ref, cat_int, cat_long, cat_double, cat_null])) ((show _ ≤ (12 : Nat) from by first | exact Nat.le_of_ble_eq_true rfl | simp [va_rf_cat, cat_ref, cat_int, cat_long, cat_double, cat_null])) ?_
    refine W.eq (g2 := F0 m 4 ls []) rfl ?_
    refine lv_aload_n hx hb dX4_init_4 rfl (lv_at hl 0 rfl) ?_
    refine lv_dconst0 hx hb dX4_init_5 ?_
    obtain ⟨h1, hw⟩ := hw
    refine cp_40 (x := FP.dconst0) hx hb hts hin4 hown hK hH h1 (hts (.fieldLink RX4 9 "IdlCaller$Numeral" "found" "D") (by decide +kernel)) dX4_init_6 (fun M2 H locs eM2 hH => ?_)
    replace hw := hw M2 eM2
    exact c_retv hx hb hr hlocks hK hH hw dX4_init_9
  exact hst M s.heap [] ls hH hl hw
def fc_X4_isDigit_b17 (T : LY) (Q : Int32 → CM → Prop) (s0 : Int32) (M : CM) : Prop := (nZ s0 ∧ Q s0 M)
def fc_X4_isDigit_b16 (T : LY) (Q : Int32 → CM → Prop) (M : CM) : Prop := fc_X4_isDigit_b17 T Q  0 M
def fc_X4_isDigit (T : LY)  (a1 : Int32) (M : CM) (Q : Int32 → CM → Prop) : Prop := ((a1 < 48 → fc_X4_isDigit_b16 T Q   M) ∧ (¬ a1 < 48 → ((57 < a1 → fc_X4_isDigit_b16 T Q   M) ∧ (¬ 57 < a1 → fc_X4_isDigit_b17 T Q  1 M))))
abbrev rmX4_isDigit : Room := { frames := 0, cells := 0, slots := 0, locals := 0 }
set_option maxHeartbeats 4000000 in
set_option maxRecDepth 100000 in
theorem tc_X4_isDigit (l : Launch) (D : va_G) (kA : Nat → ClassId) (nm : Nat → Nat) (na : Nat) (sa sv : Nat → Nat) (sz : Nat) (T : LY) (a1 : Int32) (M : CM) (Q : Int32 → CM → Prop) (hw : fc_X4_isDigit T a1 M Q) : Met l yX4_isDigit wsX4_isDigit rmX4_isDigit (va_Pc [.int a1] (cPc nm na sa sv D kA T M sz)) (va_Qi Q (cB D kA (cF T sz) T) (cF T sz)) 0 0 (cF T sz) := by
  refine Met.ofW (cc := cX4_isDigit) (maxL := 1) (ret := (some .boolean)) (by decide) rfl ?_
  intro p e s m args below meth c s₁ B hml hv
  obtain ⟨rfl, hsz, hP, hK, hSt⟩ := hv
  have hx := B.exec
  have hb := B.bytes
  have hr := B.returns
  have hts := atoms_spec (ws := wsX4_isDigit) B.pre
  have hown : s.vm.findClass RX4 = some m.cls := findClass_of_methodNamed B.named
  have hlocks : meth.locks = false := B.notSynchronized
  subst hsz
  have hH : cH D kA (cF T s.heap.size) s.heap T M s.heap [] := ⟨hP.self, va_S.rf⟩
  have hA : ∀ q : Nat, s.heap.size ≤ q → cF T s.heap.size q := fun q z => Or.inr z
  generalize cF T s.heap.size = A at hH hA hSt ⊢
  have hl := lv_entry ([.int a1]) (n := 1) (by first | exact Nat.le_of_ble_eq_true rfl | simp [lg_sl, va_rf_cat, cat_ref, cat_int, cat_long, cat_double])
  rw [lg_entry_eq]
  generalize (lg_sl ([.int a1]) ++ List.replicate (1 - (lg_sl ([.int a1])).length) Slot.unset).toArray = ls at hl ⊢
  generalize ([.int a1] : List Value).toArray = args at hts ⊢
  have hl : lv_has ls 1 [(0, .int a1)] := hl
  have b17 : ∀ (s0 : Int32) (M : CM) (H : Heap) (locs : List Loc) (ls : Array Slot), cH D kA A s.heap T M H locs → lv_has ls 1 [] → fc_X4_isDigit_b17 T Q  s0 M → W p l e (headSpec wsX4_isDigit rmX4_isDigit).room s m args below meth c H locs 0 0 (MQ below (va_Qi Q (cB D kA A T) A) args s 0 0 A) (F0 m 17 ls [.int s0]) := by
    intro   s0 M H locs ls hH hl hw
    unfold fc_X4_isDigit_b17 at hw
    exact c_retz hx hb hr hw.1.1 hlocks hK hH hw.2 dX4_isDigit_17
  have b16 : ∀ (M : CM) (H : Heap) (locs : List Loc) (ls : Array Slot), cH D kA A s.heap T M H locs → lv_has ls 1 [] → fc_X4_isDigit_b16 T Q   M → W p l e (headSpec wsX4_isDigit rmX4_isDigit).room s m args below meth c H locs 0 0 (MQ below (va_Qi Q (cB D kA A T) A) args s 0 0 A) (F0 m 16 ls []) := by
    intro    M H locs ls hH hl hw
    unfold fc_X4_isDigit_b16 at hw
    refine lv_iconst (v := 0) hx hb dX4_isDigit_16 (by decide) ?_
    exact b17   0 M H locs ls hH (lv_sub hl [] rfl) hw
  clear hP
  unfold fc_X4_isDigit at hw
  have hst : ∀ (M : CM) (H : Heap) (locs : List Loc) (ls : Array Slot), cH D kA A s.heap T M H locs → lv_has ls 1 [(0, .int a1)] → ((a1 < 48 → fc_X4_isDigit_b16 T Q   M) ∧ (¬ a1 < 48 → ((57 < a1 → fc_X4_isDigit_b16 T Q   M) ∧ (¬ 57 < a1 → fc_X4_isDigit_b17 T Q  1 M)))) → W p l e (headSpec wsX4_isDigit rmX4_isDigit).room s m args below meth c H locs 0 0 (MQ below (va_Qi Q (cB D kA A T) A) args s 0 0 A) (F0 m 0 ls []) := by
    intro M H locs ls hH hl hw
    refine lv_iload_n hx hb dX4_isDigit_0 rfl (lv_at hl 0 rfl) ?_
    refine lv_bipush (v := 48) hx hb dX4_isDigit_1 (by decide) ?_
    refine lv_icmp_lt (tgt := 16) hx hb dX4_isDigit_3 (by decide) (fun c1 => ?_) (fun c1 => ?_)
    · replace hw := hw.1 c1
      exact b16    M H locs ls hH (lv_sub hl [] rfl) hw
    · replace hw := hw.2 c1
      refine lv_iload_n hx hb dX4_isDigit_6 rfl (lv_at hl 0 rfl) ?_
      refine lv_bipush (v := 57) hx hb dX4_isDigit_7 (by decide) ?_
      refine lv_icmp_gt (tgt := 16) hx hb dX4_isDigit_9 (by decide) (fun c2 => ?_) (fun c2 => ?_)
      · replace hw := hw.1 c2
        exact b16    M H locs ls hH (lv_sub hl [] rfl) hw
      · replace hw := hw.2 c2
        refine lv_iconst (v := 1) hx hb dX4_isDigit_12 (by decide) ?_
        refine lv_goto (tgt := 17) hx hb dX4_isDigit_13 (by decide) ?_
        exact b17   1 M H locs ls hH (lv_sub hl [] rfl) hw
  exact hst M s.heap [] ls hH hl hw
def fc_X4_digitOf_b55 (T : LY) (Q : Int32 → CM → Prop) (s0 : Int32) (M : CM) : Prop := Q s0 M
def fc_X4_digitOf_b54 (T : LY) (Q : Int32 → CM → Prop) (M : CM) : Prop := fc_X4_digitOf_b55 T Q  (-1) M
def fc_X4_digitOf_b32 (T : LY) (Q : Int32 → CM → Prop) (v0 : Int32) (M : CM) : Prop := ((v0 < 65 → fc_X4_digitOf_b54 T Q   M) ∧ (¬ v0 < 65 → ((70 < v0 → fc_X4_digitOf_b54 T Q   M) ∧ (¬ 70 < v0 → fc_X4_digitOf_b55 T Q  ((v0 - 65) + 10) M))))
def fc_X4_digitOf (T : LY)  (a1 : Int32) (M : CM) (Q : Int32 → CM → Prop) : Prop := fc_X4_isDigit T a1 M (fun (r4 : Int32) (M3 : CM) => ((r4 = 0 → ((a1 < 97 → fc_X4_digitOf_b32 T Q  a1 M3) ∧ (¬ a1 < 97 → ((102 < a1 → fc_X4_digitOf_b32 T Q  a1 M3) ∧ (¬ 102 < a1 → Q ((a1 - 97) + 10) M3))))) ∧ (¬ r4 = 0 → Q (a1 - 48) M3)))
abbrev rmX4_digitOf : Room := { frames := 1, cells := 0, slots := 0, locals := 20 }
set_option maxHeartbeats 4000000 in
set_option maxRecDepth 100000 in
theorem tc_X4_digitOf (l : Launch) (D : va_G) (kA : Nat → ClassId) (nm : Nat → Nat) (na : Nat) (sa sv : Nat → Nat) (sz : Nat) (T : LY) (a1 : Int32) (M : CM) (Q : Int32 → CM → Prop) (hw : fc_X4_digitOf T a1 M Q) : Met l yX4_digitOf wsX4_digitOf rmX4_digitOf (va_Pc [.int a1] (cPc nm na sa sv D kA T M sz)) (va_Qi Q (cB D kA (cF T sz) T) (cF T sz)) 0 0 (cF T sz) := by
  refine Met.ofW (cc := cX4_digitOf) (maxL := 1) (ret := (some .int)) (by decide) rfl ?_
  intro p e s m args below meth c s₁ B hml hv
  obtain ⟨rfl, hsz, hP, hK, hSt⟩ := hv
  have hx := B.exec
  have hb := B.bytes
  have hr := B.returns
  have hts := atoms_spec (ws := wsX4_digitOf) B.pre
  have hown : s.vm.findClass RX4 = some m.cls := findClass_of_methodNamed B.named
  have hlocks : meth.locks = false := B.notSynchronized
  subst hsz
  have hH : cH D kA (cF T s.heap.size) s.heap T M s.heap [] := ⟨hP.self, va_S.rf⟩
  have hA : ∀ q : Nat, s.heap.size ≤ q → cF T s.heap.size q := fun q z => Or.inr z
  generalize cF T s.heap.size = A at hH hA hSt ⊢
  have hl := lv_entry ([.int a1]) (n := 1) (by first | exact Nat.le_of_ble_eq_true rfl | simp [lg_sl, va_rf_cat, cat_ref, cat_int, cat_long, cat_double])
  rw [lg_entry_eq]
  generalize (lg_sl ([.int a1]) ++ List.replicate (1 - (lg_sl ([.int a1])).length) Slot.unset).toArray = ls at hl ⊢
  generalize ([.int a1] : List Value).toArray = args at hts ⊢
  have hl : lv_has ls 1 [(0, .int a1)] := hl
  have b55 : ∀ (s0 : Int32) (M : CM) (H : Heap) (locs : List Loc) (ls : Array Slot), cH D kA A s.heap T M H locs → lv_has ls 1 [] → fc_X4_digitOf_b55 T Q  s0 M → W p l e (headSpec wsX4_digitOf rmX4_digitOf).room s m args below meth c H locs 0 0 (MQ below (va_Qi Q (cB D kA A T) A) args s 0 0 A) (F0 m 55 ls [.int s0]) := by
    intro   s0 M H locs ls hH hl hw
    unfold fc_X4_digitOf_b55 at hw
    exact c_reti hx hb hr hlocks hK hH hw dX4_digitOf_55
  have b54 : ∀ (M : CM) (H : Heap) (locs : List Loc) (ls : Array Slot), cH D kA A s.heap T M H locs → lv_has ls 1 [] → fc_X4_digitOf_b54 T Q   M → W p l e (headSpec wsX4_digitOf rmX4_digitOf).room s m args below meth c H locs 0 0 (MQ below (va_Qi Q (cB D kA A T) A) args s 0 0 A) (F0 m 54 ls []) := by
    intro    M H locs ls hH hl hw
    unfold fc_X4_digitOf_b54 at hw
    refine lv_iconst (v := (-1)) hx hb dX4_digitOf_54 (by decide) ?_
    exact b55   (-1) M H locs ls hH (lv_sub hl [] rfl) hw
  have b32 : ∀ (v0 : Int32) (M : CM) (H : Heap) (locs : List Loc) (ls : Array Slot), cH D kA A s.heap T M H locs → lv_has ls 1 [(0, .int v0)] → fc_X4_digitOf_b32 T Q  v0 M → W p l e (headSpec wsX4_digitOf rmX4_digitOf).room s m args below meth c H locs 0 0 (MQ below (va_Qi Q (cB D kA A T) A) args s 0 0 A) (F0 m 32 ls []) := by
    intro   v0 M H locs ls hH hl hw
    unfold fc_X4_digitOf_b32 at hw
    refine lv_iload_n hx hb dX4_digitOf_32 rfl (lv_at hl 0 rfl) ?_
    refine lv_bipush (v := 65) hx hb dX4_digitOf_33 (by decide) ?_
    refine lv_icmp_lt (tgt := 54) hx hb dX4_digitOf_35 (by decide) (fun c1 => ?_) (fun c1 => ?_)
    · replace hw := hw.1 c1
      exact b54    M H locs ls hH (lv_sub hl [] rfl) hw
    · replace hw := hw.2 c1
      refine lv_iload_n hx hb dX4_digitOf_38 rfl (lv_at hl 0 rfl) ?_
      refine lv_bipush (v := 70) hx hb dX4_digitOf_39 (by decide) ?_
      refine lv_icmp_gt (tgt := 54) hx hb dX4_digitOf_41 (by decide) (fun c2 => ?_) (fun c2 => ?_)
      · replace hw := hw.1 c2
        exact b54    M H locs ls hH (lv_sub hl [] rfl) hw
      · replace hw := hw.2 c2
        refine lv_iload_n hx hb dX4_digitOf_44 rfl (lv_at hl 0 rfl) ?_
        refine lv_bipush (v := 65) hx hb dX4_digitOf_45 (by decide) ?_
        refine lv_isub hx hb dX4_digitOf_47 ?_
        refine lv_bipush (v := 10) hx hb dX4_digitOf_48 (by decide) ?_
        refine lv_iadd hx hb dX4_digitOf_50 ?_
        refine lv_goto (tgt := 55) hx hb dX4_digitOf_51 (by decide) ?_
        exact b55   ((v0 - 65) + 10) M H locs ls hH (lv_sub hl [] rfl) hw
  clear hP
  unfold fc_X4_digitOf at hw
  have hst : ∀ (M : CM) (H : Heap) (locs : List Loc) (ls : Array Slot), cH D kA A s.heap T M H locs → lv_has ls 1 [(0, .int a1)] → fc_X4_isDigit T a1 M (fun (r4 : Int32) (M3 : CM) => ((r4 = 0 → ((a1 < 97 → fc_X4_digitOf_b32 T Q  a1 M3) ∧ (¬ a1 < 97 → ((102 < a1 → fc_X4_digitOf_b32 T Q  a1 M3) ∧ (¬ 102 < a1 → Q ((a1 - 97) + 10) M3))))) ∧ (¬ r4 = 0 → Q (a1 - 48) M3))) → W p l e (headSpec wsX4_digitOf rmX4_digitOf).room s m args below meth c H locs 0 0 (MQ below (va_Qi Q (cB D kA A T) A) args s 0 0 A) (F0 m 0 ls []) := by
    intro M H locs ls hH hl hw
    refine lv_iload_n hx hb dX4_digitOf_0 rfl (lv_at hl 0 rfl) ?_
    refine c_calli (va_runS (As := [.int a1]) (rest := []) ⟨hx, hb, hml, hown, hts⟩ (tc_X4_isDigit l D kA nm na sa sv H.size T a1 M _ hw) (va_cwS 1 hts gX4_digitOf_X4_isDigit rfl rfl rfl (by decide +kernel) ⟨(show (0 : Nat) + 1 ≤ 1 from Nat.le_of_ble_eq_true rfl), (show 8 + (1 + 11) + (0 : Nat) ≤ 20 from Nat.le_of_ble_eq_true rfl)⟩) (c_preS hK hH hA hSt) rfl rfl hl.1 rfl (lv_room (by first | exact Nat.le_of_ble_eq_true rfl | simp [va_rf_cat, cat_ref, cat_int, cat_long, cat_double, cat_null])) dX4_digitOf_1 ⟨Nat.le_of_ble_eq_true rfl, Nat.le_of_ble_eq_true rfl⟩) hH hA (fun r4 M3 H locs hw hH => ?_)
    refine lv_if_eq (tgt := 12) hx hb dX4_digitOf_4 (by decide) (fun c6 => ?_) (fun c6 => ?_)
    · replace hw := hw.1 c6
      refine lv_iload_n hx hb dX4_digitOf_12 rfl (lv_at hl 0 rfl) ?_
      refine lv_bipush (v := 97) hx hb dX4_digitOf_13 (by decide) ?_
      refine lv_icmp_lt (tgt := 32) hx hb dX4_digitOf_15 (by decide) (fun c7 => ?_) (fun c7 => ?_)
      · replace hw := hw.1 c7
        exact b32   a1 M3 H locs ls hH (lv_sub hl [0] rfl) hw
      · replace hw := hw.2 c7
        refine lv_iload_n hx hb dX4_digitOf_18 rfl (lv_at hl 0 rfl) ?_
        refine lv_bipush (v := 102) hx hb dX4_digitOf_19 (by decide) ?_
        refine lv_icmp_gt (tgt := 32) hx hb dX4_digitOf_21 (by decide) (fun c8 => ?_) (fun c8 => ?_)
        · replace hw := hw.1 c8
          exact b32   a1 M3 H locs ls hH (lv_sub hl [0] rfl) hw
        · replace hw := hw.2 c8
          refine lv_iload_n hx hb dX4_digitOf_24 rfl (lv_at hl 0 rfl) ?_
          refine lv_bipush (v := 97) hx hb dX4_digitOf_25 (by decide) ?_
          refine lv_isub hx hb dX4_digitOf_27 ?_
          refine lv_bipush (v := 10) hx hb dX4_digitOf_28 (by decide) ?_
          refine lv_iadd hx hb dX4_digitOf_30 ?_
          exact c_reti hx hb hr hlocks hK hH hw dX4_digitOf_31
    · replace hw := hw.2 c6
      refine lv_iload_n hx hb dX4_digitOf_7 rfl (lv_at hl 0 rfl) ?_
      refine lv_bipush (v := 48) hx hb dX4_digitOf_8 (by decide) ?_
      refine lv_isub hx hb dX4_digitOf_10 ?_
      exact c_reti hx hb hr hlocks hK hH hw dX4_digitOf_11
  exact hst M s.heap [] ls hH hl hw
def fc_X4_readHexadecimal_c23 (T : LY) (h : Nat) (Q : Int32 → CM → Prop) (k23 : Option Nat → Int32 → Int64 → Int32 → CM → Prop) (v1 : Option Nat) (v3 : Int32) (v4 : Int64) (v6 : Int32) (M : CM) : Prop := ((v3 ≤ v6 → (tg T h = 5 ∧ (∀ M3 : CM, M3 = sD M 40 h (FP.l2d v4) → Q 1 M3))) ∧ (¬ v3 ≤ v6 → (∃ p4 : Nat, v1 = some p4 ∧ (tg T p4 = 8 ∧ fc_X7_at T p4 v6 M (fun (r7 : Int32) (M6 : CM) => fc_X4_digitOf T r7 M6 (fun (r10 : Int32) (M9 : CM) => ((0 ≤ r10 → (∀ x13 : Int64, x13 = (v4 * 16) + r10.toInt64 → (∀ x14 : Int32, x14 = v6 + 1 → k23 v1 v3 x13 x14 M9))) ∧ (¬ 0 ≤ r10 → Q 0 M9))))))))
def fc_X4_readHexadecimal_l23 (T : LY) (h : Nat) (Q : Int32 → CM → Prop) : Nat → Option Nat → Int32 → Int64 → Int32 → CM → Prop := lit (τ := Option Nat → Int32 → Int64 → Int32 → CM → Prop) (fun _ _ _ _ _ => False) (fun k => fc_X4_readHexadecimal_c23 T h Q  k)
def fc_X4_readHexadecimal_b15 (T : LY) (h : Nat) (Q : Int32 → CM → Prop) (M : CM) : Prop := Q 0 M
def fc_X4_readHexadecimal (T : LY) (h : Nat)  (a1 : Option Nat) (a2 : Int32) (a3 : Int32) (M : CM) (Q : Int32 → CM → Prop) : Prop := (((a3 - a2) < 1 → fc_X4_readHexadecimal_b15 T h Q   M) ∧ (¬ (a3 - a2) < 1 → (((a3 - a2) ≤ 8 → (∃ nn : Nat, fc_X4_readHexadecimal_l23 T h Q  nn a1 a3 0 a2 M)) ∧ (¬ (a3 - a2) ≤ 8 → fc_X4_readHexadecimal_b15 T h Q   M))))
abbrev rmX4_readHexadecimal : Room := { frames := 2, cells := 0, slots := 0, locals := 40 }
set_option maxHeartbeats 4000000 in
set_option maxRecDepth 100000 in
theorem tc_X4_readHexadecimal (l : Launch) (D : va_G) (kA : Nat → ClassId) (nm : Nat → Nat) (na : Nat) (sa sv : Nat → Nat) (sz : Nat) (T : LY) (h : Nat) (a1 : Option Nat) (a2 : Int32) (a3 : Int32) (M : CM) (Q : Int32 → CM → Prop) (hw : fc_X4_readHexadecimal T h a1 a2 a3 M Q) : Met l yX4_readHexadecimal wsX4_readHexadecimal rmX4_readHexadecimal (va_Pc [.ref h, va_rf a1, .int a2, .int a3] (cPc nm na sa sv D kA T M sz)) (va_Qi Q (cB D kA (cF T sz) T) (cF T sz)) 0 0 (cF T sz) := by
  refine Met.ofW (cc := cX4_readHexadecimal) (maxL := 8) (ret := (some .boolean)) (by decide) rfl ?_
  intro p e s m args below meth c s₁ B hml hv
  obtain ⟨rfl, hsz, hP, hK, hSt⟩ := hv
  have hx := B.exec
  have hb := B.bytes
  have hr := B.returns
  have hts := atoms_spec (ws := wsX4_readHexadecimal) B.pre
  have hown : s.vm.findClass RX4 = some m.cls := findClass_of_methodNamed B.named
  have hlocks : meth.locks = false := B.notSynchronized
  subst hsz
  have hH : cH D kA (cF T s.heap.size) s.heap T M s.heap [] := ⟨hP.self, va_S.rf⟩
  have hA : ∀ q : Nat, s.heap.size ≤ q → cF T s.heap.size q := fun q z => Or.inr z
  generalize cF T s.heap.size = A at hH hA hSt ⊢
  have hl := lv_entry ([.ref h, va_rf a1, .int a2, .int a3]) (n := 8) (by first | exact Nat.le_of_ble_eq_true rfl | simp [lg_sl, va_rf_cat, cat_ref, cat_int, cat_long, cat_double])
  rw [lg_entry_eq]
  generalize (lg_sl ([.ref h, va_rf a1, .int a2, .int a3]) ++ List.replicate (8 - (lg_sl ([.ref h, va_rf a1, .int a2, .int a3])).length) Slot.unset).toArray = ls at hl ⊢
  generalize ([.ref h, va_rf a1, .int a2, .int a3] : List Value).toArray = args at hts ⊢
  have hl : lv_has ls 8 [(0, .ref h), (1, va_rf a1), (2, .int a2), (3, .int a3)] := by simpa [lv_args, va_rf_cat, cat_ref, cat_int, cat_long, cat_double] using hl
  have hin4 : ∀ w ∈ wsX40, w ∈ wsX4_readHexadecimal := by decide +kernel
  have l23 : ∀ (nn : Nat) (v1 : Option Nat) (v3 : Int32) (v4 : Int64) (v6 : Int32) (M : CM) (H : Heap) (locs : List Loc) (ls : Array Slot), cH D kA A s.heap T M H locs → lv_has ls 8 [(0, .ref h), (1, va_rf v1), (3, .int v3), (4, .long v4), (6, .int v6)] → fc_X4_readHexadecimal_l23 T h Q  nn v1 v3 v4 v6 M → W p l e (headSpec wsX4_readHexadecimal rmX4_readHexadecimal).room s m args below meth c H locs 0 0 (MQ below (va_Qi Q (cB D kA A T) A) args s 0 0 A) (F0 m 23 ls []) := by
    intro   nn
    induction nn with
    | zero => intro v1 v3 v4 v6 M H locs ls hH hl hw; exact False.elim hw
    | succ nn hk23 =>
      intro v1 v3 v4 v6 M H locs ls hH hl hw
      replace hw : fc_X4_readHexadecimal_c23 T h Q  (fc_X4_readHexadecimal_l23 T h Q  nn) v1 v3 v4 v6 M := hw
      unfold fc_X4_readHexadecimal_c23 at hw
      refine lv_iload hx hb dX4_readHexadecimal_23 (lv_at hl 4 rfl) ?_
      refine lv_iload_n hx hb dX4_readHexadecimal_25 rfl (lv_at hl 2 rfl) ?_
      refine lv_icmp_ge (tgt := 65) hx hb dX4_readHexadecimal_26 (by decide) (fun c1 => ?_) (fun c1 => ?_)
      · replace hw := hw.1 c1
        refine lv_aload_n hx hb dX4_readHexadecimal_65 rfl (lv_at hl 0 rfl) ?_
        refine lv_lload hx hb dX4_readHexadecimal_66 (lv_at hl 3 rfl) ?_
        refine lv_l2d hx hb dX4_readHexadecimal_68 ?_
        obtain ⟨h2, hw⟩ := hw
        refine cp_40 (x := FP.l2d v4) hx hb hts hin4 hown hK hH h2 (hts (.fieldLink RX4 9 "IdlCaller$Numeral" "found" "D") (by decide +kernel)) dX4_readHexadecimal_69 (fun M3 H locs eM3 hH => ?_)
        replace hw := hw M3 eM3
        refine lv_iconst (v := 1) hx hb dX4_readHexadecimal_72 (by decide) ?_
        exact c_retz hx hb hr rfl hlocks hK hH hw dX4_readHexadecimal_73
      · replace hw := hw.2 c1
        refine s_aload_n hx hb dX4_readHexadecimal_29 rfl (lv_at hl 1 rfl) ?_
        refine lv_iload hx hb dX4_readHexadecimal_30 (lv_at hl 4 rfl) ?_
        obtain ⟨p4, ep4, hw⟩ := hw
        refine W.st (st' := [.int v6, .ref p4]) (by rw [ep4]; rfl) ?_
        obtain ⟨h5, hw⟩ := hw
        refine c_calli (va_runV (As := [.int v6]) (rest := []) ⟨hx, hb, hml, hown, hts⟩ (tc_X7_at l D kA nm na sa sv H.size T p4 v6 M _ hw) (cwV 1 hts gX4_readHexadecimal_X7_at rfl rfl rfl (by decide +kernel) ⟨(show (0 : Nat) + 1 ≤ 2 from Nat.le_of_ble_eq_true rfl), (show 8 + (2 + 11) + (0 : Nat) ≤ 40 from Nat.le_of_ble_eq_true rfl)⟩) (c_preV hK hH hA hSt (c_recv7 hK hH h5)) rfl rfl hl.1 rfl (lv_room (by first | exact Nat.le_of_ble_eq_true rfl | simp [va_rf_cat, cat_ref, cat_int, cat_long, cat_double, cat_null])) dX4_readHexadecimal_32 ⟨Nat.le_of_ble_eq_true rfl, Nat.le_of_ble_eq_true rfl⟩) hH hA (fun r7 M6 H locs hw hH => ?_)
        refine c_calli (va_runS (As := [.int r7]) (rest := []) ⟨hx, hb, hml, hown, hts⟩ (tc_X4_digitOf l D kA nm na sa sv H.size T r7 M6 _ hw) (va_cwS 1 hts gX4_readHexadecimal_X4_digitOf rfl rfl rfl (by decide +kernel) ⟨(show (1 : Nat) + 1 ≤ 2 from Nat.le_of_ble_eq_true rfl), (show 8 + (1 + 11) + (20 : Nat) ≤ 40 from Nat.le_of_ble_eq_true rfl)⟩) (c_preS hK hH hA hSt) rfl rfl hl.1 rfl (lv_room (by first | exact Nat.le_of_ble_eq_true rfl | simp [va_rf_cat, cat_ref, cat_int, cat_long, cat_double, cat_null])) dX4_readHexadecimal_35 ⟨Nat.le_of_ble_eq_true rfl, Nat.le_of_ble_eq_true rfl⟩) hH hA (fun r10 M9 H locs hw hH => ?_)
        refine lv_istore (i := 7) (lv' := [(7, .int r10), (0, .ref h), (1, va_rf v1), (3, .int v3), (4, .long v4), (6, .int v6)]) hx hb dX4_readHexadecimal_38 hl (by decide) (by first | rfl | simp [va_rf_cat, cat_ref, cat_int, cat_long, cat_double, cat_null]) (fun ls hl => ?_)
        refine lv_iload hx hb dX4_readHexadecimal_40 (lv_at hl 0 rfl) ?_
        refine lv_if_ge (tgt := 47) hx hb dX4_readHexadecimal_42 (by decide) (fun c12 => ?_) (fun c12 => ?_)
        · replace hw := hw.1 c12
          refine lv_lload hx hb dX4_readHexadecimal_47 (lv_at hl 4 rfl) ?_
          refine lv_ldc2 (v := 16) hx hb hown (hts (.constantLong RX4 36 16) (by decide +kernel)) dX4_readHexadecimal_49 ?_
          refine lv_lmul hx hb dX4_readHexadecimal_52 ?_
          refine lv_iload hx hb dX4_readHexadecimal_53 (lv_at hl 0 rfl) ?_
          refine lv_i2l hx hb dX4_readHexadecimal_55 rfl ?_
          refine lv_ladd hx hb dX4_readHexadecimal_56 ?_
          refine lv_topl (fun x13 ex13 => ?_)
          replace hw := hw x13 ex13
          refine lv_lstore (i := 4) (lv' := [(4, .long x13), (7, .int r10), (0, .ref h), (1, va_rf v1), (3, .int v3), (6, .int v6)]) hx hb dX4_readHexadecimal_57 hl (by decide) (by first | rfl | simp [va_rf_cat, cat_ref, cat_int, cat_long, cat_double, cat_null]) (fun ls hl => ?_)
          obtain ⟨x14, ex14⟩ : ∃ y : Int32, y = v6 + 1 := ⟨_, rfl⟩
          replace hw := hw x14 ex14
          refine lv_iinc (v := x14) (lv' := [(6, .int x14), (4, .long x13), (7, .int r10), (0, .ref h), (1, va_rf v1), (3, .int v3)]) hx hb dX4_readHexadecimal_59 hl (k := 5) rfl (by rw [ex14]; rfl) (by decide) (by first | rfl | simp [va_rf_cat, cat_ref, cat_int, cat_long, cat_double, cat_null]) (fun ls hl => ?_)
          refine lv_goto (tgt := 23) hx hb dX4_readHexadecimal_62 (by decide) ?_
          exact hk23 v1 v3 x13 x14 M9 H locs ls hH (lv_sub hl [3, 4, 5, 1, 0] rfl) hw
        · replace hw := hw.2 c12
          refine lv_iconst (v := 0) hx hb dX4_readHexadecimal_45 (by decide) ?_
          exact c_retz hx hb hr rfl hlocks hK hH hw dX4_readHexadecimal_46
  have b15 : ∀ (M : CM) (H : Heap) (locs : List Loc) (ls : Array Slot), cH D kA A s.heap T M H locs → lv_has ls 8 [] → fc_X4_readHexadecimal_b15 T h Q   M → W p l e (headSpec wsX4_readHexadecimal rmX4_readHexadecimal).room s m args below meth c H locs 0 0 (MQ below (va_Qi Q (cB D kA A T) A) args s 0 0 A) (F0 m 15 ls []) := by
    intro    M H locs ls hH hl hw
    unfold fc_X4_readHexadecimal_b15 at hw
    refine lv_iconst (v := 0) hx hb dX4_readHexadecimal_15 (by decide) ?_
    exact c_retz hx hb hr rfl hlocks hK hH hw dX4_readHexadecimal_16
  clear hP
  unfold fc_X4_readHexadecimal at hw
  have hst : ∀ (M : CM) (H : Heap) (locs : List Loc) (ls : Array Slot), cH D kA A s.heap T M H locs → lv_has ls 8 [(0, .ref h), (1, va_rf a1), (2, .int a2), (3, .int a3)] → (((a3 - a2) < 1 → fc_X4_readHexadecimal_b15 T h Q   M) ∧ (¬ (a3 - a2) < 1 → (((a3 - a2) ≤ 8 → (∃ nn : Nat, fc_X4_readHexadecimal_l23 T h Q  nn a1 a3 0 a2 M)) ∧ (¬ (a3 - a2) ≤ 8 → fc_X4_readHexadecimal_b15 T h Q   M)))) → W p l e (headSpec wsX4_readHexadecimal rmX4_readHexadecimal).room s m args below meth c H locs 0 0 (MQ below (va_Qi Q (cB D kA A T) A) args s 0 0 A) (F0 m 0 ls []) := by
    intro M H locs ls hH hl hw
    refine lv_iload_n hx hb dX4_readHexadecimal_0 rfl (lv_at hl 3 rfl) ?_
    refine lv_iload_n hx hb dX4_readHexadecimal_1 rfl (lv_at hl 2 rfl) ?_
    refine lv_isub hx hb dX4_readHexadecimal_2 ?_
    refine lv_iconst (v := 1) hx hb dX4_readHexadecimal_3 (by decide) ?_
    refine lv_icmp_lt (tgt := 15) hx hb dX4_readHexadecimal_4 (by decide) (fun c15 => ?_) (fun c15 => ?_)
    · replace hw := hw.1 c15
      exact b15    M H locs ls hH (lv_sub hl [] rfl) hw
    · replace hw := hw.2 c15
      refine lv_iload_n hx hb dX4_readHexadecimal_7 rfl (lv_at hl 3 rfl) ?_
      refine lv_iload_n hx hb dX4_readHexadecimal_8 rfl (lv_at hl 2 rfl) ?_
      refine lv_isub hx hb dX4_readHexadecimal_9 ?_
      refine lv_bipush (v := 8) hx hb dX4_readHexadecimal_10 (by decide) ?_
      refine lv_icmp_le (tgt := 17) hx hb dX4_readHexadecimal_12 (by decide) (fun c16 => ?_) (fun c16 => ?_)
      · replace hw := hw.1 c16
        refine lv_lconst (v := 0) hx hb dX4_readHexadecimal_17 (by decide) ?_
        refine lv_lstore (i := 4) (lv' := [(4, .long 0), (0, .ref h), (1, va_rf a1), (2, .int a2), (3, .int a3)]) hx hb dX4_readHexadecimal_18 hl (by decide) (by first | rfl | simp [va_rf_cat, cat_ref, cat_int, cat_long, cat_double, cat_null]) (fun ls hl => ?_)
        refine lv_iload_n hx hb dX4_readHexadecimal_20 rfl (lv_at hl 3 rfl) ?_
        refine lv_istore (i := 6) (lv' := [(6, .int a2), (4, .long 0), (0, .ref h), (1, va_rf a1), (2, .int a2), (3, .int a3)]) hx hb dX4_readHexadecimal_21 hl (by decide) (by first | rfl | simp [va_rf_cat, cat_ref, cat_int, cat_long, cat_double, cat_null]) (fun ls hl => ?_)
        obtain ⟨nn, hw⟩ := hw
        exact l23   nn a1 a3 0 a2 M H locs ls hH (lv_sub hl [2, 3, 5, 1, 0] rfl) hw
      · replace hw := hw.2 c16
        exact b15    M H locs ls hH (lv_sub hl [] rfl) hw
  exact hst M s.heap [] ls hH hl hw
def fc_X4_readDecimal_b121 (T : LY) (h : Nat) (Q : Int32 → CM → Prop) (k43 : Option Nat → Int32 → Int64 → UInt64 → Int32 → Int32 → CM → Prop) (v1 : Option Nat) (v3 : Int32) (v4 : Int64) (v6 : UInt64) (v8 : Int32) (v9 : Int32) (M : CM) : Prop := (∀ x1 : Int32, x1 = v9 + 1 → k43 v1 v3 v4 v6 v8 x1 M)
def fc_X4_readDecimal_b114 (T : LY) (h : Nat) (Q : Int32 → CM → Prop) (k43 : Option Nat → Int32 → Int64 → UInt64 → Int32 → Int32 → CM → Prop) (v1 : Option Nat) (v3 : Int32) (v4 : Int64) (v8 : Int32) (v9 : Int32) (s0 : UInt64) (M : CM) : Prop := fc_X4_readDecimal_b121 T h Q k43 v1 v3 v4 s0 v8 v9 M
def fc_X4_readDecimal_b75 (T : LY) (h : Nat) (Q : Int32 → CM → Prop) (k43 : Option Nat → Int32 → Int64 → UInt64 → Int32 → Int32 → CM → Prop) (v1 : Option Nat) (v3 : Int32) (v4 : Int64) (v6 : UInt64) (v8 : Int32) (v9 : Int32) (v10 : Int32) (M : CM) : Prop := fc_X4_isDigit T v10 M (fun (r3 : Int32) (M2 : CM) => ((r3 = 0 → Q 0 M2) ∧ (¬ r3 = 0 → (∀ x6 : Int64, x6 = (v4 * 10) + ((v10 - 48).toInt64) → ((v8 = 0 → fc_X4_readDecimal_b114 T h Q k43 v1 v3 x6 v8 v9 v6 M2) ∧ (¬ v8 = 0 → (vf_n64 (FP.dmul v6 4621819117588971520) ∧ fc_X4_readDecimal_b114 T h Q k43 v1 v3 x6 v8 v9 (FP.dmul v6 4621819117588971520) M2)))))))
def fc_X4_readDecimal_c43 (T : LY) (h : Nat) (Q : Int32 → CM → Prop) (k43 : Option Nat → Int32 → Int64 → UInt64 → Int32 → Int32 → CM → Prop) (v1 : Option Nat) (v3 : Int32) (v4 : Int64) (v6 : UInt64) (v8 : Int32) (v9 : Int32) (M : CM) : Prop := ((v3 ≤ v9 → (vf_n64 (FP.ddiv (FP.l2d v4) v6) ∧ (tg T h = 5 ∧ (∀ M12 : CM, M12 = sD M 40 h (FP.ddiv (FP.l2d v4) v6) → Q 1 M12)))) ∧ (¬ v3 ≤ v9 → (∃ p13 : Nat, v1 = some p13 ∧ (tg T p13 = 8 ∧ fc_X7_at T p13 v9 M (fun (r16 : Int32) (M15 : CM) => ((¬ r16 = 46 → fc_X4_readDecimal_b75 T h Q k43 v1 v3 v4 v6 v8 v9 r16 M15) ∧ (r16 = 46 → ((¬ v8 = 0 → fc_X4_readDecimal_b75 T h Q k43 v1 v3 v4 v6 v8 v9 r16 M15) ∧ (v8 = 0 → fc_X4_readDecimal_b121 T h Q k43 v1 v3 v4 v6 1 v9 M15)))))))))
def fc_X4_readDecimal_l43 (T : LY) (h : Nat) (Q : Int32 → CM → Prop) : Nat → Option Nat → Int32 → Int64 → UInt64 → Int32 → Int32 → CM → Prop := lit (τ := Option Nat → Int32 → Int64 → UInt64 → Int32 → Int32 → CM → Prop) (fun _ _ _ _ _ _ _ => False) (fun k => fc_X4_readDecimal_c43 T h Q  k)
def fc_X4_readDecimal_b29 (T : LY) (h : Nat) (Q : Int32 → CM → Prop) (M : CM) : Prop := Q 0 M
def fc_X4_readDecimal (T : LY) (h : Nat)  (a1 : Option Nat) (a2 : Int32) (a3 : Int32) (M : CM) (Q : Int32 → CM → Prop) : Prop := ((a3 ≤ a2 → fc_X4_readDecimal_b29 T h Q   M) ∧ (¬ a3 ≤ a2 → (∃ p21 : Nat, a1 = some p21 ∧ (tg T p21 = 8 ∧ fc_X7_at T p21 a2 M (fun (r24 : Int32) (M23 : CM) => fc_X4_isDigit T r24 M23 (fun (r27 : Int32) (M26 : CM) => ((r27 = 0 → fc_X4_readDecimal_b29 T h Q   M26) ∧ (¬ r27 = 0 → fc_X7_at T p21 (a3 - 1) M26 (fun (r31 : Int32) (M30 : CM) => fc_X4_isDigit T r31 M30 (fun (r34 : Int32) (M33 : CM) => ((¬ r34 = 0 → (∃ nn : Nat, fc_X4_readDecimal_l43 T h Q  nn a1 a3 0 FP.dconst1 0 a2 M33)) ∧ (r34 = 0 → fc_X4_readDecimal_b29 T h Q   M33))))))))))))
abbrev rmX4_readDecimal : Room := { frames := 1, cells := 0, slots := 0, locals := 21 }
set_option maxHeartbeats 4000000 in
set_option maxRecDepth 100000 in
theorem tc_X4_readDecimal (l : Launch) (D : va_G) (kA : Nat → ClassId) (nm : Nat → Nat) (na : Nat) (sa sv : Nat → Nat) (sz : Nat) (T : LY) (h : Nat) (a1 : Option Nat) (a2 : Int32) (a3 : Int32) (M : CM) (Q : Int32 → CM → Prop) (hw : fc_X4_readDecimal T h a1 a2 a3 M Q) : Met l yX4_readDecimal wsX4_readDecimal rmX4_readDecimal (va_Pc [.ref h, va_rf a1, .int a2, .int a3] (cPc nm na sa sv D kA T M sz)) (va_Qi Q (cB D kA (cF T sz) T) (cF T sz)) 0 0 (cF T sz) := by
  refine Met.ofW (cc := cX4_readDecimal) (maxL := 11) (ret := (some .boolean)) (by decide) rfl ?_
  intro p e s m args below meth c s₁ B hml hv
  obtain ⟨rfl, hsz, hP, hK, hSt⟩ := hv
  have hx := B.exec
  have hb := B.bytes
  have hr := B.returns
  have hts := atoms_spec (ws := wsX4_readDecimal) B.pre
  have hown : s.vm.findClass RX4 = some m.cls := findClass_of_methodNamed B.named
  have hlocks : meth.locks = false := B.notSynchronized
  subst hsz
  have hH : cH D kA (cF T s.heap.size) s.heap T M s.heap [] := ⟨hP.self, va_S.rf⟩
  have hA : ∀ q : Nat, s.heap.size ≤ q → cF T s.heap.size q := fun q z => Or.inr z
  generalize cF T s.heap.size = A at hH hA hSt ⊢
  have hl := lv_entry ([.ref h, va_rf a1, .int a2, .int a3]) (n := 11) (by first | exact Nat.le_of_ble_eq_true rfl | simp [lg_sl, va_rf_cat, cat_ref, cat_int, cat_long, cat_double])
  rw [lg_entry_eq]
  generalize (lg_sl ([.ref h, va_rf a1, .int a2, .int a3]) ++ List.replicate (11 - (lg_sl ([.ref h, va_rf a1, .int a2, .int a3])).length) Slot.unset).toArray = ls at hl ⊢
  generalize ([.ref h, va_rf a1, .int a2, .int a3] : List Value).toArray = args at hts ⊢
  have hl : lv_has ls 11 [(0, .ref h), (1, va_rf a1), (2, .int a2), (3, .int a3)] := by simpa [lv_args, va_rf_cat, cat_ref, cat_int, cat_long, cat_double] using hl
  have hin4 : ∀ w ∈ wsX40, w ∈ wsX4_readDecimal := by decide +kernel
  have b121 : ∀ (k43 : Option Nat → Int32 → Int64 → UInt64 → Int32 → Int32 → CM → Prop) (hk43 : ∀ (v1 : Option Nat) (v3 : Int32) (v4 : Int64) (v6 : UInt64) (v8 : Int32) (v9 : Int32) (M : CM) (H : Heap) (locs : List Loc) (ls : Array Slot), cH D kA A s.heap T M H locs → lv_has ls 11 [(0, .ref h), (1, va_rf v1), (3, .int v3), (4, .long v4), (6, .double v6), (8, .int v8), (9, .int v9)] → k43 v1 v3 v4 v6 v8 v9 M → W p l e (headSpec wsX4_readDecimal rmX4_readDecimal).room s m args below meth c H locs 0 0 (MQ below (va_Qi Q (cB D kA A T) A) args s 0 0 A) (F0 m 43 ls [])) (v1 : Option Nat) (v3 : Int32) (v4 : Int64) (v6 : UInt64) (v8 : Int32) (v9 : Int32) (M : CM) (H : Heap) (locs : List Loc) (ls : Array Slot), cH D kA A s.heap T M H locs → lv_has ls 11 [(0, .ref h), (1, va_rf v1), (3, .int v3), (4, .long v4), (6, .double v6), (8, .int v8), (9, .int v9)] → fc_X4_readDecimal_b121 T h Q k43 v1 v3 v4 v6 v8 v9 M → W p l e (headSpec wsX4_readDecimal rmX4_readDecimal).room s m args below meth c H locs 0 0 (MQ below (va_Qi Q (cB D kA A T) A) args s 0 0 A) (F0 m 121 ls []) := by
    intro k43 hk43 v1 v3 v4 v6 v8 v9 M H locs ls hH hl hw
    unfold fc_X4_readDecimal_b121 at hw
    obtain ⟨x1, ex1⟩ : ∃ y : Int32, y = v9 + 1 := ⟨_, rfl⟩
    replace hw := hw x1 ex1
    refine lv_iinc (v := x1) (lv' := [(9, .int x1), (0, .ref h), (1, va_rf v1), (3, .int v3), (4, .long v4), (6, .double v6), (8, .int v8)]) hx hb dX4_readDecimal_121 hl (k := 6) rfl (by rw [ex1]; rfl) (by decide) (by first | rfl | simp [va_rf_cat, cat_ref, cat_int, cat_long, cat_double, cat_null]) (fun ls hl => ?_)
    refine lv_goto (tgt := 43) hx hb dX4_readDecimal_124 (by decide) ?_
    exact hk43 v1 v3 v4 v6 v8 x1 M H locs ls hH (lv_sub hl [1, 2, 3, 4, 5, 6, 0] rfl) hw
  have b114 : ∀ (k43 : Option Nat → Int32 → Int64 → UInt64 → Int32 → Int32 → CM → Prop) (hk43 : ∀ (v1 : Option Nat) (v3 : Int32) (v4 : Int64) (v6 : UInt64) (v8 : Int32) (v9 : Int32) (M : CM) (H : Heap) (locs : List Loc) (ls : Array Slot), cH D kA A s.heap T M H locs → lv_has ls 11 [(0, .ref h), (1, va_rf v1), (3, .int v3), (4, .long v4), (6, .double v6), (8, .int v8), (9, .int v9)] → k43 v1 v3 v4 v6 v8 v9 M → W p l e (headSpec wsX4_readDecimal rmX4_readDecimal).room s m args below meth c H locs 0 0 (MQ below (va_Qi Q (cB D kA A T) A) args s 0 0 A) (F0 m 43 ls [])) (v1 : Option Nat) (v3 : Int32) (v4 : Int64) (v8 : Int32) (v9 : Int32) (s0 : UInt64) (M : CM) (H : Heap) (locs : List Loc) (ls : Array Slot), cH D kA A s.heap T M H locs → lv_has ls 11 [(0, .ref h), (1, va_rf v1), (3, .int v3), (4, .long v4), (8, .int v8), (9, .int v9)] → fc_X4_readDecimal_b114 T h Q k43 v1 v3 v4 v8 v9 s0 M → W p l e (headSpec wsX4_readDecimal rmX4_readDecimal).room s m args below meth c H locs 0 0 (MQ below (va_Qi Q (cB D kA A T) A) args s 0 0 A) (F0 m 114 ls [.double s0]) := by
    intro k43 hk43 v1 v3 v4 v8 v9 s0 M H locs ls hH hl hw
    unfold fc_X4_readDecimal_b114 at hw
    refine lv_dstore (i := 6) (lv' := [(6, .double s0), (0, .ref h), (1, va_rf v1), (3, .int v3), (4, .long v4), (8, .int v8), (9, .int v9)]) hx hb dX4_readDecimal_114 hl (by decide) (by first | rfl | simp [va_rf_cat, cat_ref, cat_int, cat_long, cat_double, cat_null]) (fun ls hl => ?_)
    refine lv_goto (tgt := 121) hx hb dX4_readDecimal_116 (by decide) ?_
    exact b121 _ hk43 v1 v3 v4 s0 v8 v9 M H locs ls hH (lv_sub hl [1, 2, 3, 4, 0, 5, 6] rfl) hw
  have b75 : ∀ (k43 : Option Nat → Int32 → Int64 → UInt64 → Int32 → Int32 → CM → Prop) (hk43 : ∀ (v1 : Option Nat) (v3 : Int32) (v4 : Int64) (v6 : UInt64) (v8 : Int32) (v9 : Int32) (M : CM) (H : Heap) (locs : List Loc) (ls : Array Slot), cH D kA A s.heap T M H locs → lv_has ls 11 [(0, .ref h), (1, va_rf v1), (3, .int v3), (4, .long v4), (6, .double v6), (8, .int v8), (9, .int v9)] → k43 v1 v3 v4 v6 v8 v9 M → W p l e (headSpec wsX4_readDecimal rmX4_readDecimal).room s m args below meth c H locs 0 0 (MQ below (va_Qi Q (cB D kA A T) A) args s 0 0 A) (F0 m 43 ls [])) (v1 : Option Nat) (v3 : Int32) (v4 : Int64) (v6 : UInt64) (v8 : Int32) (v9 : Int32) (v10 : Int32) (M : CM) (H : Heap) (locs : List Loc) (ls : Array Slot), cH D kA A s.heap T M H locs → lv_has ls 11 [(0, .ref h), (1, va_rf v1), (3, .int v3), (4, .long v4), (6, .double v6), (8, .int v8), (9, .int v9), (10, .int v10)] → fc_X4_readDecimal_b75 T h Q k43 v1 v3 v4 v6 v8 v9 v10 M → W p l e (headSpec wsX4_readDecimal rmX4_readDecimal).room s m args below meth c H locs 0 0 (MQ below (va_Qi Q (cB D kA A T) A) args s 0 0 A) (F0 m 75 ls []) := by
    intro k43 hk43 v1 v3 v4 v6 v8 v9 v10 M H locs ls hH hl hw
    unfold fc_X4_readDecimal_b75 at hw
    refine lv_iload hx hb dX4_readDecimal_75 (lv_at hl 7 rfl) ?_
    refine c_calli (va_runS (As := [.int v10]) (rest := []) ⟨hx, hb, hml, hown, hts⟩ (tc_X4_isDigit l D kA nm na sa sv H.size T v10 M _ hw) (va_cwS 1 hts gX4_readDecimal_X4_isDigit rfl rfl rfl (by decide +kernel) ⟨(show (0 : Nat) + 1 ≤ 1 from Nat.le_of_ble_eq_true rfl), (show 8 + (1 + 11) + (0 : Nat) ≤ 21 from Nat.le_of_ble_eq_true rfl)⟩) (c_preS hK hH hA hSt) rfl rfl hl.1 rfl (lv_room (by first | exact Nat.le_of_ble_eq_true rfl | simp [va_rf_cat, cat_ref, cat_int, cat_long, cat_double, cat_null])) dX4_readDecimal_77 ⟨Nat.le_of_ble_eq_true rfl, Nat.le_of_ble_eq_true rfl⟩) hH hA (fun r3 M2 H locs hw hH => ?_)
    refine lv_if_eq (tgt := 119) hx hb dX4_readDecimal_80 (by decide) (fun c5 => ?_) (fun c5 => ?_)
    · replace hw := hw.1 c5
      refine lv_iconst (v := 0) hx hb dX4_readDecimal_119 (by decide) ?_
      exact c_retz hx hb hr rfl hlocks hK hH hw dX4_readDecimal_120
    · replace hw := hw.2 c5
      refine lv_lload hx hb dX4_readDecimal_83 (lv_at hl 3 rfl) ?_
      refine lv_ldc2 (v := 10) hx hb hown (hts (.constantLong RX4 42 10) (by decide +kernel)) dX4_readDecimal_85 ?_
      refine lv_lmul hx hb dX4_readDecimal_88 ?_
      refine lv_iload hx hb dX4_readDecimal_89 (lv_at hl 7 rfl) ?_
      refine lv_bipush (v := 48) hx hb dX4_readDecimal_91 (by decide) ?_
      refine lv_isub hx hb dX4_readDecimal_93 ?_
      refine lv_i2l hx hb dX4_readDecimal_94 rfl ?_
      refine lv_ladd hx hb dX4_readDecimal_95 ?_
      refine lv_topl (fun x6 ex6 => ?_)
      replace hw := hw x6 ex6
      refine lv_lstore (i := 4) (lv' := [(4, .long x6), (0, .ref h), (1, va_rf v1), (3, .int v3), (6, .double v6), (8, .int v8), (9, .int v9), (10, .int v10)]) hx hb dX4_readDecimal_96 hl (by decide) (by first | rfl | simp [va_rf_cat, cat_ref, cat_int, cat_long, cat_double, cat_null]) (fun ls hl => ?_)
      refine lv_iload hx hb dX4_readDecimal_98 (lv_at hl 5 rfl) ?_
      refine lv_if_eq (tgt := 112) hx hb dX4_readDecimal_100 (by decide) (fun c7 => ?_) (fun c7 => ?_)
      · replace hw := hw.1 c7
        refine lv_dload hx hb dX4_readDecimal_112 (lv_at hl 4 rfl) ?_
        exact b114 _ hk43 v1 v3 x6 v8 v9 v6 M2 H locs ls hH (lv_sub hl [1, 2, 3, 0, 5, 6] rfl) hw
      · replace hw := hw.2 c7
        refine lv_dload hx hb dX4_readDecimal_103 (lv_at hl 4 rfl) ?_
        refine lv_ldc2d (v := 4621819117588971520) hx hb hown (hts (.constantDouble RX4 44 4621819117588971520) (by decide +kernel)) dX4_readDecimal_105 ?_
        obtain ⟨h8, hw⟩ := hw
        refine lv_dmul hx hb dX4_readDecimal_108 h8 ?_
        refine lv_goto (tgt := 114) hx hb dX4_readDecimal_109 (by decide) ?_
        exact b114 _ hk43 v1 v3 x6 v8 v9 (FP.dmul v6 4621819117588971520) M2 H locs ls hH (lv_sub hl [1, 2, 3, 0, 5, 6] rfl) hw
  have l43 : ∀ (nn : Nat) (v1 : Option Nat) (v3 : Int32) (v4 : Int64) (v6 : UInt64) (v8 : Int32) (v9 : Int32) (M : CM) (H : Heap) (locs : List Loc) (ls : Array Slot), cH D kA A s.heap T M H locs → lv_has ls 11 [(0, .ref h), (1, va_rf v1), (3, .int v3), (4, .long v4), (6, .double v6), (8, .int v8), (9, .int v9)] → fc_X4_readDecimal_l43 T h Q  nn v1 v3 v4 v6 v8 v9 M → W p l e (headSpec wsX4_readDecimal rmX4_readDecimal).room s m args below meth c H locs 0 0 (MQ below (va_Qi Q (cB D kA A T) A) args s 0 0 A) (F0 m 43 ls []) := by
    intro   nn
    induction nn with
    | zero => intro v1 v3 v4 v6 v8 v9 M H locs ls hH hl hw; exact False.elim hw
    | succ nn hk43 =>
      intro v1 v3 v4 v6 v8 v9 M H locs ls hH hl hw
      replace hw : fc_X4_readDecimal_c43 T h Q  (fc_X4_readDecimal_l43 T h Q  nn) v1 v3 v4 v6 v8 v9 M := hw
      unfold fc_X4_readDecimal_c43 at hw
      refine lv_iload hx hb dX4_readDecimal_43 (lv_at hl 6 rfl) ?_
      refine lv_iload_n hx hb dX4_readDecimal_45 rfl (lv_at hl 2 rfl) ?_
      refine lv_icmp_ge (tgt := 127) hx hb dX4_readDecimal_46 (by decide) (fun c9 => ?_) (fun c9 => ?_)
      · replace hw := hw.1 c9
        refine lv_aload_n hx hb dX4_readDecimal_127 rfl (lv_at hl 0 rfl) ?_
        refine lv_lload hx hb dX4_readDecimal_128 (lv_at hl 3 rfl) ?_
        refine lv_l2d hx hb dX4_readDecimal_130 ?_
        refine lv_dload hx hb dX4_readDecimal_131 (lv_at hl 4 rfl) ?_
        obtain ⟨h10, hw⟩ := hw
        refine lv_ddiv hx hb dX4_readDecimal_133 h10 ?_
        obtain ⟨h11, hw⟩ := hw
        refine cp_40 (x := FP.ddiv (FP.l2d v4) v6) hx hb hts hin4 hown hK hH h11 (hts (.fieldLink RX4 9 "IdlCaller$Numeral" "found" "D") (by decide +kernel)) dX4_readDecimal_134 (fun M12 H locs eM12 hH => ?_)
        replace hw := hw M12 eM12
        refine lv_iconst (v := 1) hx hb dX4_readDecimal_137 (by decide) ?_
        exact c_retz hx hb hr rfl hlocks hK hH hw dX4_readDecimal_138
      · replace hw := hw.2 c9
        refine s_aload_n hx hb dX4_readDecimal_49 rfl (lv_at hl 1 rfl) ?_
        refine lv_iload hx hb dX4_readDecimal_50 (lv_at hl 6 rfl) ?_
        obtain ⟨p13, ep13, hw⟩ := hw
        refine W.st (st' := [.int v9, .ref p13]) (by rw [ep13]; rfl) ?_
        obtain ⟨h14, hw⟩ := hw
        refine c_calli (va_runV (As := [.int v9]) (rest := []) ⟨hx, hb, hml, hown, hts⟩ (tc_X7_at l D kA nm na sa sv H.size T p13 v9 M _ hw) (cwV 1 hts gX4_readDecimal_X7_at rfl rfl rfl (by decide +kernel) ⟨(show (0 : Nat) + 1 ≤ 1 from Nat.le_of_ble_eq_true rfl), (show 8 + (2 + 11) + (0 : Nat) ≤ 21 from Nat.le_of_ble_eq_true rfl)⟩) (c_preV hK hH hA hSt (c_recv7 hK hH h14)) rfl rfl hl.1 rfl (lv_room (by first | exact Nat.le_of_ble_eq_true rfl | simp [va_rf_cat, cat_ref, cat_int, cat_long, cat_double, cat_null])) dX4_readDecimal_52 ⟨Nat.le_of_ble_eq_true rfl, Nat.le_of_ble_eq_true rfl⟩) hH hA (fun r16 M15 H locs hw hH => ?_)
        refine lv_istore (i := 10) (lv' := [(10, .int r16), (0, .ref h), (1, va_rf v1), (3, .int v3), (4, .long v4), (6, .double v6), (8, .int v8), (9, .int v9)]) hx hb dX4_readDecimal_55 hl (by decide) (by first | rfl | simp [va_rf_cat, cat_ref, cat_int, cat_long, cat_double, cat_null]) (fun ls hl => ?_)
        refine lv_iload hx hb dX4_readDecimal_57 (lv_at hl 0 rfl) ?_
        refine lv_bipush (v := 46) hx hb dX4_readDecimal_59 (by decide) ?_
        refine lv_icmp_ne (tgt := 75) hx hb dX4_readDecimal_61 (by decide) (fun c18 => ?_) (fun c18 => ?_)
        · replace hw := hw.1 c18
          exact b75 _ hk43 v1 v3 v4 v6 v8 v9 r16 M15 H locs ls hH (lv_sub hl [1, 2, 3, 4, 5, 6, 7, 0] rfl) hw
        · replace hw := hw.2 c18
          refine lv_iload hx hb dX4_readDecimal_64 (lv_at hl 6 rfl) ?_
          refine lv_if_ne (tgt := 75) hx hb dX4_readDecimal_66 (by decide) (fun c19 => ?_) (fun c19 => ?_)
          · replace hw := hw.1 c19
            exact b75 _ hk43 v1 v3 v4 v6 v8 v9 r16 M15 H locs ls hH (lv_sub hl [1, 2, 3, 4, 5, 6, 7, 0] rfl) hw
          · replace hw := hw.2 c19
            refine lv_iconst (v := 1) hx hb dX4_readDecimal_69 (by decide) ?_
            refine lv_istore (i := 8) (lv' := [(8, .int 1), (10, .int r16), (0, .ref h), (1, va_rf v1), (3, .int v3), (4, .long v4), (6, .double v6), (9, .int v9)]) hx hb dX4_readDecimal_70 hl (by decide) (by first | rfl | simp [va_rf_cat, cat_ref, cat_int, cat_long, cat_double, cat_null]) (fun ls hl => ?_)
            refine lv_goto (tgt := 121) hx hb dX4_readDecimal_72 (by decide) ?_
            exact b121 _ hk43 v1 v3 v4 v6 1 v9 M15 H locs ls hH (lv_sub hl [2, 3, 4, 5, 6, 0, 7] rfl) hw
  have b29 : ∀ (M : CM) (H : Heap) (locs : List Loc) (ls : Array Slot), cH D kA A s.heap T M H locs → lv_has ls 11 [] → fc_X4_readDecimal_b29 T h Q   M → W p l e (headSpec wsX4_readDecimal rmX4_readDecimal).room s m args below meth c H locs 0 0 (MQ below (va_Qi Q (cB D kA A T) A) args s 0 0 A) (F0 m 29 ls []) := by
    intro    M H locs ls hH hl hw
    unfold fc_X4_readDecimal_b29 at hw
    refine lv_iconst (v := 0) hx hb dX4_readDecimal_29 (by decide) ?_
    exact c_retz hx hb hr rfl hlocks hK hH hw dX4_readDecimal_30
  clear hP
  unfold fc_X4_readDecimal at hw
  have hst : ∀ (M : CM) (H : Heap) (locs : List Loc) (ls : Array Slot), cH D kA A s.heap T M H locs → lv_has ls 11 [(0, .ref h), (1, va_rf a1), (2, .int a2), (3, .int a3)] → ((a3 ≤ a2 → fc_X4_readDecimal_b29 T h Q   M) ∧ (¬ a3 ≤ a2 → (∃ p21 : Nat, a1 = some p21 ∧ (tg T p21 = 8 ∧ fc_X7_at T p21 a2 M (fun (r24 : Int32) (M23 : CM) => fc_X4_isDigit T r24 M23 (fun (r27 : Int32) (M26 : CM) => ((r27 = 0 → fc_X4_readDecimal_b29 T h Q   M26) ∧ (¬ r27 = 0 → fc_X7_at T p21 (a3 - 1) M26 (fun (r31 : Int32) (M30 : CM) => fc_X4_isDigit T r31 M30 (fun (r34 : Int32) (M33 : CM) => ((¬ r34 = 0 → (∃ nn : Nat, fc_X4_readDecimal_l43 T h Q  nn a1 a3 0 FP.dconst1 0 a2 M33)) ∧ (r34 = 0 → fc_X4_readDecimal_b29 T h Q   M33)))))))))))) → W p l e (headSpec wsX4_readDecimal rmX4_readDecimal).room s m args below meth c H locs 0 0 (MQ below (va_Qi Q (cB D kA A T) A) args s 0 0 A) (F0 m 0 ls []) := by
    intro M H locs ls hH hl hw
    refine lv_iload_n hx hb dX4_readDecimal_0 rfl (lv_at hl 2 rfl) ?_
    refine lv_iload_n hx hb dX4_readDecimal_1 rfl (lv_at hl 3 rfl) ?_
    refine lv_icmp_ge (tgt := 29) hx hb dX4_readDecimal_2 (by decide) (fun c20 => ?_) (fun c20 => ?_)
    · replace hw := hw.1 c20
      exact b29    M H locs ls hH (lv_sub hl [] rfl) hw
    · replace hw := hw.2 c20
      refine s_aload_n hx hb dX4_readDecimal_5 rfl (lv_at hl 1 rfl) ?_
      refine lv_iload_n hx hb dX4_readDecimal_6 rfl (lv_at hl 2 rfl) ?_
      obtain ⟨p21, ep21, hw⟩ := hw
      refine W.st (st' := [.int a2, .ref p21]) (by rw [ep21]; rfl) ?_
      obtain ⟨h22, hw⟩ := hw
      refine c_calli (va_runV (As := [.int a2]) (rest := []) ⟨hx, hb, hml, hown, hts⟩ (tc_X7_at l D kA nm na sa sv H.size T p21 a2 M _ hw) (cwV 1 hts gX4_readDecimal_X7_at rfl rfl rfl (by decide +kernel) ⟨(show (0 : Nat) + 1 ≤ 1 from Nat.le_of_ble_eq_true rfl), (show 8 + (2 + 11) + (0 : Nat) ≤ 21 from Nat.le_of_ble_eq_true rfl)⟩) (c_preV hK hH hA hSt (c_recv7 hK hH h22)) rfl rfl hl.1 rfl (lv_room (by first | exact Nat.le_of_ble_eq_true rfl | simp [va_rf_cat, cat_ref, cat_int, cat_long, cat_double, cat_null])) dX4_readDecimal_7 ⟨Nat.le_of_ble_eq_true rfl, Nat.le_of_ble_eq_true rfl⟩) hH hA (fun r24 M23 H locs hw hH => ?_)
      refine c_calli (va_runS (As := [.int r24]) (rest := []) ⟨hx, hb, hml, hown, hts⟩ (tc_X4_isDigit l D kA nm na sa sv H.size T r24 M23 _ hw) (va_cwS 1 hts gX4_readDecimal_X4_isDigit rfl rfl rfl (by decide +kernel) ⟨(show (0 : Nat) + 1 ≤ 1 from Nat.le_of_ble_eq_true rfl), (show 8 + (1 + 11) + (0 : Nat) ≤ 21 from Nat.le_of_ble_eq_true rfl)⟩) (c_preS hK hH hA hSt) rfl rfl hl.1 rfl (lv_room (by first | exact Nat.le_of_ble_eq_true rfl | simp [va_rf_cat, cat_ref, cat_int, cat_long, cat_double, cat_null])) dX4_readDecimal_10 ⟨Nat.le_of_ble_eq_true rfl, Nat.le_of_ble_eq_true rfl⟩) hH hA (fun r27 M26 H locs hw hH => ?_)
      refine lv_if_eq (tgt := 29) hx hb dX4_readDecimal_13 (by decide) (fun c29 => ?_) (fun c29 => ?_)
      · replace hw := hw.1 c29
        exact b29    M26 H locs ls hH (lv_sub hl [] rfl) hw
      · replace hw := hw.2 c29
        refine s_aload_n hx hb dX4_readDecimal_16 rfl (lv_at hl 1 rfl) ?_
        refine lv_iload_n hx hb dX4_readDecimal_17 rfl (lv_at hl 3 rfl) ?_
        refine lv_iconst (v := 1) hx hb dX4_readDecimal_18 (by decide) ?_
        refine lv_isub hx hb dX4_readDecimal_19 ?_
        refine W.st (st' := [.int (a3 - 1), .ref p21]) (by rw [ep21]; rfl) ?_
        refine c_calli (va_runV (As := [.int (a3 - 1)]) (rest := []) ⟨hx, hb, hml, hown, hts⟩ (tc_X7_at l D kA nm na sa sv H.size T p21 (a3 - 1) M26 _ hw) (cwV 1 hts gX4_readDecimal_X7_at rfl rfl rfl (by decide +kernel) ⟨(show (0 : Nat) + 1 ≤ 1 from Nat.le_of_ble_eq_true rfl), (show 8 + (2 + 11) + (0 : Nat) ≤ 21 from Nat.le_of_ble_eq_true rfl)⟩) (c_preV hK hH hA hSt (c_recv7 hK hH h22)) rfl rfl hl.1 rfl (lv_room (by first | exact Nat.le_of_ble_eq_true rfl | simp [va_rf_cat, cat_ref, cat_int, cat_long, cat_double, cat_null])) dX4_readDecimal_20 ⟨Nat.le_of_ble_eq_true rfl, Nat.le_of_ble_eq_true rfl⟩) hH hA (fun r31 M30 H locs hw hH => ?_)
        refine c_calli (va_runS (As := [.int r31]) (rest := []) ⟨hx, hb, hml, hown, hts⟩ (tc_X4_isDigit l D kA nm na sa sv H.size T r31 M30 _ hw) (va_cwS 1 hts gX4_readDecimal_X4_isDigit rfl rfl rfl (by decide +kernel) ⟨(show (0 : Nat) + 1 ≤ 1 from Nat.le_of_ble_eq_true rfl), (show 8 + (1 + 11) + (0 : Nat) ≤ 21 from Nat.le_of_ble_eq_true rfl)⟩) (c_preS hK hH hA hSt) rfl rfl hl.1 rfl (lv_room (by first | exact Nat.le_of_ble_eq_true rfl | simp [va_rf_cat, cat_ref, cat_int, cat_long, cat_double, cat_null])) dX4_readDecimal_23 ⟨Nat.le_of_ble_eq_true rfl, Nat.le_of_ble_eq_true rfl⟩) hH hA (fun r34 M33 H locs hw hH => ?_)
        refine lv_if_ne (tgt := 31) hx hb dX4_readDecimal_26 (by decide) (fun c36 => ?_) (fun c36 => ?_)
        · replace hw := hw.1 c36
          refine lv_lconst (v := 0) hx hb dX4_readDecimal_31 (by decide) ?_
          refine lv_lstore (i := 4) (lv' := [(4, .long 0), (0, .ref h), (1, va_rf a1), (2, .int a2), (3, .int a3)]) hx hb dX4_readDecimal_32 hl (by decide) (by first | rfl | simp [va_rf_cat, cat_ref, cat_int, cat_long, cat_double, cat_null]) (fun ls hl => ?_)
          refine lv_dconst1 hx hb dX4_readDecimal_34 ?_
          refine lv_dstore (i := 6) (lv' := [(6, .double FP.dconst1), (4, .long 0), (0, .ref h), (1, va_rf a1), (2, .int a2), (3, .int a3)]) hx hb dX4_readDecimal_35 hl (by decide) (by first | rfl | simp [va_rf_cat, cat_ref, cat_int, cat_long, cat_double, cat_null]) (fun ls hl => ?_)
          refine lv_iconst (v := 0) hx hb dX4_readDecimal_37 (by decide) ?_
          refine lv_istore (i := 8) (lv' := [(8, .int 0), (6, .double FP.dconst1), (4, .long 0), (0, .ref h), (1, va_rf a1), (2, .int a2), (3, .int a3)]) hx hb dX4_readDecimal_38 hl (by decide) (by first | rfl | simp [va_rf_cat, cat_ref, cat_int, cat_long, cat_double, cat_null]) (fun ls hl => ?_)
          refine lv_iload_n hx hb dX4_readDecimal_40 rfl (lv_at hl 5 rfl) ?_
          refine lv_istore (i := 9) (lv' := [(9, .int a2), (8, .int 0), (6, .double FP.dconst1), (4, .long 0), (0, .ref h), (1, va_rf a1), (2, .int a2), (3, .int a3)]) hx hb dX4_readDecimal_41 hl (by decide) (by first | rfl | simp [va_rf_cat, cat_ref, cat_int, cat_long, cat_double, cat_null]) (fun ls hl => ?_)
          obtain ⟨nn, hw⟩ := hw
          exact l43   nn a1 a3 0 FP.dconst1 0 a2 M33 H locs ls hH (lv_sub hl [4, 5, 7, 3, 2, 1, 0] rfl) hw
        · replace hw := hw.2 c36
          exact b29    M33 H locs ls hH (lv_sub hl [] rfl) hw
  exact hst M s.heap [] ls hH hl hw
def fc_X4_read_b176 (T : LY) (h : Nat) (Q : Int32 → CM → Prop) (s0 : UInt64) (M : CM) : Prop := (tg T h = 5 ∧ (∀ M2 : CM, M2 = sD M 40 h s0 → Q 1 M2))
def fc_X4_read_b148 (T : LY) (h : Nat) (Q : Int32 → CM → Prop) (v3 : Int32) (v4 : Int32) (s0 : Int32) (s1 : Option Nat) (M : CM) : Prop := (tg T h = 5 ∧ fc_X4_readDecimal T h s1 s0 v3 M (fun (r5 : Int32) (M4 : CM) => ((¬ r5 = 0 → ((v4 = 0 → fc_X4_read_b176 T h Q  (cD M4 40 h) M4) ∧ (¬ v4 = 0 → (vf_n64 (FP.dsub FP.dconst0 (cD M4 40 h)) ∧ fc_X4_read_b176 T h Q  (FP.dsub FP.dconst0 (cD M4 40 h)) M4)))) ∧ (r5 = 0 → Q 0 M4))))
def fc_X4_read_b132 (T : LY) (h : Nat) (Q : Int32 → CM → Prop) (v1 : Option Nat) (v2 : Int32) (v3 : Int32) (v4 : Int32) (s0 : Int32) (M : CM) : Prop := ((s0 = 0 → fc_X4_read_b148 T h Q  v3 v4 v2 v1 M) ∧ (¬ s0 = 0 → fc_X4_read_b148 T h Q  v3 v4 (v2 + 1) v1 M))
def fc_X4_read_b127 (T : LY) (h : Nat) (Q : Int32 → CM → Prop) (v1 : Option Nat) (v2 : Int32) (v3 : Int32) (v4 : Int32) (M : CM) : Prop := fc_X4_read_b132 T h Q  v1 v2 v3 v4 1 M
def fc_X4_read_b110 (T : LY) (h : Nat) (Q : Int32 → CM → Prop) (v1 : Option Nat) (v2 : Int32) (v3 : Int32) (s0 : Int32) (M : CM) : Prop := ((¬ s0 = 0 → fc_X4_read_b127 T h Q  v1 v2 v3 s0 M) ∧ (s0 = 0 → (∃ p12 : Nat, v1 = some p12 ∧ (tg T p12 = 8 ∧ fc_X7_at T p12 v2 M (fun (r15 : Int32) (M14 : CM) => ((¬ r15 = 43 → fc_X4_read_b132 T h Q  v1 v2 v3 s0 0 M14) ∧ (r15 = 43 → fc_X4_read_b127 T h Q  v1 v2 v3 s0 M14)))))))
def fc_X4_read_b95 (T : LY) (h : Nat) (Q : Int32 → CM → Prop) (v1 : Option Nat) (v2 : Int32) (v3 : Int32) (M : CM) : Prop := (∃ p18 : Nat, v1 = some p18 ∧ (tg T p18 = 8 ∧ fc_X7_at T p18 v2 M (fun (r21 : Int32) (M20 : CM) => ((¬ r21 = 45 → fc_X4_read_b110 T h Q  v1 v2 v3 0 M20) ∧ (r21 = 45 → fc_X4_read_b110 T h Q  v1 v2 v3 1 M20)))))
def fc_X4_read_b56 (T : LY) (h : Nat) (Q : Int32 → CM → Prop) (v1 : Option Nat) (v2 : Int32) (v3 : Int32) (M : CM) : Prop := ((¬ v2 = v3 → (∃ p25 : Nat, v1 = some p25 ∧ (tg T p25 = 8 ∧ fc_X7_at T p25 v2 M (fun (r28 : Int32) (M27 : CM) => ((¬ r28 = 48 → fc_X4_read_b95 T h Q  v1 v2 v3 M27) ∧ (r28 = 48 → fc_X7_at T p25 (v2 + 1) M27 (fun (r32 : Int32) (M31 : CM) => ((¬ r32 = 120 → fc_X4_read_b95 T h Q  v1 v2 v3 M31) ∧ (r32 = 120 → (tg T h = 5 ∧ fc_X4_readHexadecimal T h v1 (v2 + 2) v3 M31 (fun (r37 : Int32) (M36 : CM) => (nZ r37 ∧ Q r37 M36)))))))))))) ∧ (v2 = v3 → Q 1 M))
def fc_X4_read_c33 (T : LY) (h : Nat) (Q : Int32 → CM → Prop) (k33 : Option Nat → Int32 → Int32 → CM → Prop) (v1 : Option Nat) (v2 : Int32) (v3 : Int32) (M : CM) : Prop := ((v3 ≤ v2 → fc_X4_read_b56 T h Q  v1 v2 v3 M) ∧ (¬ v3 ≤ v2 → (∃ p40 : Nat, v1 = some p40 ∧ (tg T p40 = 8 ∧ fc_X7_at T p40 (v3 - 1) M (fun (r43 : Int32) (M42 : CM) => ((¬ r43 = 32 → fc_X4_read_b56 T h Q  v1 v2 v3 M42) ∧ (r43 = 32 → (∀ x46 : Int32, x46 = v3 + (-1) → k33 v1 v2 x46 M42))))))))
def fc_X4_read_l33 (T : LY) (h : Nat) (Q : Int32 → CM → Prop) : Nat → Option Nat → Int32 → Int32 → CM → Prop := lit (τ := Option Nat → Int32 → Int32 → CM → Prop) (fun _ _ _ _ => False) (fun k => fc_X4_read_c33 T h Q  k)
def fc_X4_read_c12 (T : LY) (h : Nat) (Q : Int32 → CM → Prop) (k12 : Option Nat → Int32 → Int32 → CM → Prop) (v1 : Option Nat) (v2 : Int32) (v3 : Int32) (M : CM) : Prop := ((v3 ≤ v2 → (∃ nn : Nat, fc_X4_read_l33 T h Q  nn v1 v2 v3 M)) ∧ (¬ v3 ≤ v2 → (∃ p48 : Nat, v1 = some p48 ∧ (tg T p48 = 8 ∧ fc_X7_at T p48 v2 M (fun (r51 : Int32) (M50 : CM) => ((¬ r51 = 32 → (∃ nn : Nat, fc_X4_read_l33 T h Q  nn v1 v2 v3 M50)) ∧ (r51 = 32 → (∀ x54 : Int32, x54 = v2 + 1 → k12 v1 x54 v3 M50))))))))
def fc_X4_read_l12 (T : LY) (h : Nat) (Q : Int32 → CM → Prop) : Nat → Option Nat → Int32 → Int32 → CM → Prop := lit (τ := Option Nat → Int32 → Int32 → CM → Prop) (fun _ _ _ _ => False) (fun k => fc_X4_read_c12 T h Q  k)
def fc_X4_read (T : LY) (h : Nat)  (a1 : Option Nat) (M : CM) (Q : Int32 → CM → Prop) : Prop := (tg T h = 5 ∧ (∀ M56 : CM, M56 = sD M 40 h FP.dconst0 → (∃ p57 : Nat, a1 = some p57 ∧ (tg T p57 = 8 ∧ (∀ x59 : Int32, x59 = cI M56 71 p57 → (∃ nn : Nat, fc_X4_read_l12 T h Q  nn a1 0 x59 M56))))))
abbrev rmX4_read : Room := { frames := 3, cells := 0, slots := 0, locals := 67 }
set_option maxHeartbeats 4000000 in
set_option maxRecDepth 100000 in
theorem tc_X4_read (l : Launch) (D : va_G) (kA : Nat → ClassId) (nm : Nat → Nat) (na : Nat) (sa sv : Nat → Nat) (sz : Nat) (T : LY) (h : Nat) (a1 : Option Nat) (M : CM) (Q : Int32 → CM → Prop) (hw : fc_X4_read T h a1 M Q) : Met l yX4_read wsX4_read rmX4_read (va_Pc [.ref h, va_rf a1] (cPc nm na sa sv D kA T M sz)) (va_Qi Q (cB D kA (cF T sz) T) (cF T sz)) 0 0 (cF T sz) := by
  refine Met.ofW (cc := cX4_read) (maxL := 6) (ret := (some .boolean)) (by decide) rfl ?_
  intro p e s m args below meth c s₁ B hml hv
  obtain ⟨rfl, hsz, hP, hK, hSt⟩ := hv
  have hx := B.exec
  have hb := B.bytes
  have hr := B.returns
  have hts := atoms_spec (ws := wsX4_read) B.pre
  have hown : s.vm.findClass RX4 = some m.cls := findClass_of_methodNamed B.named
  have hlocks : meth.locks = false := B.notSynchronized
  subst hsz
  have hH : cH D kA (cF T s.heap.size) s.heap T M s.heap [] := ⟨hP.self, va_S.rf⟩
  have hA : ∀ q : Nat, s.heap.size ≤ q → cF T s.heap.size q := fun q z => Or.inr z
  generalize cF T s.heap.size = A at hH hA hSt ⊢
  have hl := lv_entry ([.ref h, va_rf a1]) (n := 6) (by first | exact Nat.le_of_ble_eq_true rfl | simp [lg_sl, va_rf_cat, cat_ref, cat_int, cat_long, cat_double])
  rw [lg_entry_eq]
  generalize (lg_sl ([.ref h, va_rf a1]) ++ List.replicate (6 - (lg_sl ([.ref h, va_rf a1])).length) Slot.unset).toArray = ls at hl ⊢
  generalize ([.ref h, va_rf a1] : List Value).toArray = args at hts ⊢
  have hl : lv_has ls 6 [(0, .ref h), (1, va_rf a1)] := by simpa [lv_args, va_rf_cat, cat_ref, cat_int, cat_long, cat_double] using hl
  have hin4 : ∀ w ∈ wsX40, w ∈ wsX4_read := by decide +kernel
  have hin7 : ∀ w ∈ wsX70, w ∈ wsX4_read := by decide +kernel
  have b176 : ∀ (s0 : UInt64) (M : CM) (H : Heap) (locs : List Loc) (ls : Array Slot), cH D kA A s.heap T M H locs → lv_has ls 6 [] → fc_X4_read_b176 T h Q  s0 M → W p l e (headSpec wsX4_read rmX4_read).room s m args below meth c H locs 0 0 (MQ below (va_Qi Q (cB D kA A T) A) args s 0 0 A) (F0 m 176 ls [.double s0, .ref h]) := by
    intro   s0 M H locs ls hH hl hw
    unfold fc_X4_read_b176 at hw
    obtain ⟨h1, hw⟩ := hw
    refine cp_40 (x := s0) hx hb hts hin4 hown hK hH h1 (hts (.fieldLink RX4 9 "IdlCaller$Numeral" "found" "D") (by decide +kernel)) dX4_read_176 (fun M2 H locs eM2 hH => ?_)
    replace hw := hw M2 eM2
    refine lv_iconst (v := 1) hx hb dX4_read_179 (by decide) ?_
    exact c_retz hx hb hr rfl hlocks hK hH hw dX4_read_180
  have b148 : ∀ (v3 : Int32) (v4 : Int32) (s0 : Int32) (s1 : Option Nat) (M : CM) (H : Heap) (locs : List Loc) (ls : Array Slot), cH D kA A s.heap T M H locs → lv_has ls 6 [(0, .ref h), (3, .int v3), (4, .int v4)] → fc_X4_read_b148 T h Q  v3 v4 s0 s1 M → W p l e (headSpec wsX4_read rmX4_read).room s m args below meth c H locs 0 0 (MQ below (va_Qi Q (cB D kA A T) A) args s 0 0 A) (F0 m 148 ls [.int s0, va_rf s1, .ref h]) := by
    intro   v3 v4 s0 s1 M H locs ls hH hl hw
    unfold fc_X4_read_b148 at hw
    refine lv_iload_n hx hb dX4_read_148 rfl (lv_at hl 1 rfl) ?_
    obtain ⟨h3, hw⟩ := hw
    refine c_calli (va_runV (As := [va_rf s1, .int s0, .int v3]) (rest := []) ⟨hx, hb, hml, hown, hts⟩ (tc_X4_readDecimal l D kA nm na sa sv H.size T h s1 s0 v3 M _ hw) (cwV 3 hts gX4_read_X4_readDecimal rfl rfl rfl (by decide +kernel) ⟨(show (1 : Nat) + 1 ≤ 3 from Nat.le_of_ble_eq_true rfl), (show 8 + (11 + 11) + (21 : Nat) ≤ 67 from Nat.le_of_ble_eq_true rfl)⟩) (c_preV hK hH hA hSt (c_recv4 hK hH h3)) rfl rfl hl.1 rfl (lv_room (by first | exact Nat.le_of_ble_eq_true rfl | simp [va_rf_cat, cat_ref, cat_int, cat_long, cat_double, cat_null])) dX4_read_149 ⟨Nat.le_of_ble_eq_true rfl, Nat.le_of_ble_eq_true rfl⟩) hH hA (fun r5 M4 H locs hw hH => ?_)
    refine lv_if_ne (tgt := 157) hx hb dX4_read_152 (by decide) (fun c7 => ?_) (fun c7 => ?_)
    · replace hw := hw.1 c7
      refine lv_aload_n hx hb dX4_read_157 rfl (lv_at hl 0 rfl) ?_
      refine lv_iload hx hb dX4_read_158 (lv_at hl 2 rfl) ?_
      refine lv_if_eq (tgt := 172) hx hb dX4_read_160 (by decide) (fun c8 => ?_) (fun c8 => ?_)
      · replace hw := hw.1 c8
        refine lv_aload_n hx hb dX4_read_172 rfl (lv_at hl 0 rfl) ?_
        refine cg_40 hx hb hts hin4 hown hK hH h3 (hts (.fieldLink RX4 9 "IdlCaller$Numeral" "found" "D") (by decide +kernel)) dX4_read_173 ?_
        exact b176   (cD M4 40 h) M4 H locs ls hH (lv_sub hl [] rfl) hw
      · replace hw := hw.2 c8
        refine lv_dconst0 hx hb dX4_read_163 ?_
        refine lv_aload_n hx hb dX4_read_164 rfl (lv_at hl 0 rfl) ?_
        refine cg_40 hx hb hts hin4 hown hK hH h3 (hts (.fieldLink RX4 9 "IdlCaller$Numeral" "found" "D") (by decide +kernel)) dX4_read_165 ?_
        obtain ⟨h9, hw⟩ := hw
        refine lv_dsub hx hb dX4_read_168 h9 ?_
        refine lv_goto (tgt := 176) hx hb dX4_read_169 (by decide) ?_
        exact b176   (FP.dsub FP.dconst0 (cD M4 40 h)) M4 H locs ls hH (lv_sub hl [] rfl) hw
    · replace hw := hw.2 c7
      refine lv_iconst (v := 0) hx hb dX4_read_155 (by decide) ?_
      exact c_retz hx hb hr rfl hlocks hK hH hw dX4_read_156
  have b132 : ∀ (v1 : Option Nat) (v2 : Int32) (v3 : Int32) (v4 : Int32) (s0 : Int32) (M : CM) (H : Heap) (locs : List Loc) (ls : Array Slot), cH D kA A s.heap T M H locs → lv_has ls 6 [(0, .ref h), (1, va_rf v1), (2, .int v2), (3, .int v3), (4, .int v4)] → fc_X4_read_b132 T h Q  v1 v2 v3 v4 s0 M → W p l e (headSpec wsX4_read rmX4_read).room s m args below meth c H locs 0 0 (MQ below (va_Qi Q (cB D kA A T) A) args s 0 0 A) (F0 m 132 ls [.int s0]) := by
    intro   v1 v2 v3 v4 s0 M H locs ls hH hl hw
    unfold fc_X4_read_b132 at hw
    refine lv_istore (i := 5) (lv' := [(5, .int s0), (0, .ref h), (1, va_rf v1), (2, .int v2), (3, .int v3), (4, .int v4)]) hx hb dX4_read_132 hl (by decide) (by first | rfl | simp [va_rf_cat, cat_ref, cat_int, cat_long, cat_double, cat_null]) (fun ls hl => ?_)
    refine lv_aload_n hx hb dX4_read_134 rfl (lv_at hl 1 rfl) ?_
    refine s_aload_n hx hb dX4_read_135 rfl (lv_at hl 2 rfl) ?_
    refine lv_iload hx hb dX4_read_136 (lv_at hl 0 rfl) ?_
    refine lv_if_eq (tgt := 147) hx hb dX4_read_138 (by decide) (fun c10 => ?_) (fun c10 => ?_)
    · replace hw := hw.1 c10
      refine lv_iload_n hx hb dX4_read_147 rfl (lv_at hl 3 rfl) ?_
      exact b148   v3 v4 v2 v1 M H locs ls hH (lv_sub hl [1, 4, 5] rfl) hw
    · replace hw := hw.2 c10
      refine lv_iload_n hx hb dX4_read_141 rfl (lv_at hl 3 rfl) ?_
      refine lv_iconst (v := 1) hx hb dX4_read_142 (by decide) ?_
      refine lv_iadd hx hb dX4_read_143 ?_
      refine lv_goto (tgt := 148) hx hb dX4_read_144 (by decide) ?_
      exact b148   v3 v4 (v2 + 1) v1 M H locs ls hH (lv_sub hl [1, 4, 5] rfl) hw
  have b127 : ∀ (v1 : Option Nat) (v2 : Int32) (v3 : Int32) (v4 : Int32) (M : CM) (H : Heap) (locs : List Loc) (ls : Array Slot), cH D kA A s.heap T M H locs → lv_has ls 6 [(0, .ref h), (1, va_rf v1), (2, .int v2), (3, .int v3), (4, .int v4)] → fc_X4_read_b127 T h Q  v1 v2 v3 v4 M → W p l e (headSpec wsX4_read rmX4_read).room s m args below meth c H locs 0 0 (MQ below (va_Qi Q (cB D kA A T) A) args s 0 0 A) (F0 m 127 ls []) := by
    intro   v1 v2 v3 v4 M H locs ls hH hl hw
    unfold fc_X4_read_b127 at hw
    refine lv_iconst (v := 1) hx hb dX4_read_127 (by decide) ?_
    refine lv_goto (tgt := 132) hx hb dX4_read_128 (by decide) ?_
    exact b132   v1 v2 v3 v4 1 M H locs ls hH (lv_sub hl [0, 1, 2, 3, 4] rfl) hw
  have b110 : ∀ (v1 : Option Nat) (v2 : Int32) (v3 : Int32) (s0 : Int32) (M : CM) (H : Heap) (locs : List Loc) (ls : Array Slot), cH D kA A s.heap T M H locs → lv_has ls 6 [(0, .ref h), (1, va_rf v1), (2, .int v2), (3, .int v3)] → fc_X4_read_b110 T h Q  v1 v2 v3 s0 M → W p l e (headSpec wsX4_read rmX4_read).room s m args below meth c H locs 0 0 (MQ below (va_Qi Q (cB D kA A T) A) args s 0 0 A) (F0 m 110 ls [.int s0]) := by
    intro   v1 v2 v3 s0 M H locs ls hH hl hw
    unfold fc_X4_read_b110 at hw
    refine lv_istore (i := 4) (lv' := [(4, .int s0), (0, .ref h), (1, va_rf v1), (2, .int v2), (3, .int v3)]) hx hb dX4_read_110 hl (by decide) (by first | rfl | simp [va_rf_cat, cat_ref, cat_int, cat_long, cat_double, cat_null]) (fun ls hl => ?_)
    refine lv_iload hx hb dX4_read_112 (lv_at hl 0 rfl) ?_
    refine lv_if_ne (tgt := 127) hx hb dX4_read_114 (by decide) (fun c11 => ?_) (fun c11 => ?_)
    · replace hw := hw.1 c11
      exact b127   v1 v2 v3 s0 M H locs ls hH (lv_sub hl [1, 2, 3, 4, 0] rfl) hw
    · replace hw := hw.2 c11
      refine s_aload_n hx hb dX4_read_117 rfl (lv_at hl 2 rfl) ?_
      refine lv_iload_n hx hb dX4_read_118 rfl (lv_at hl 3 rfl) ?_
      obtain ⟨p12, ep12, hw⟩ := hw
      refine W.st (st' := [.int v2, .ref p12]) (by rw [ep12]; rfl) ?_
      obtain ⟨h13, hw⟩ := hw
      refine c_calli (va_runV (As := [.int v2]) (rest := []) ⟨hx, hb, hml, hown, hts⟩ (tc_X7_at l D kA nm na sa sv H.size T p12 v2 M _ hw) (cwV 1 hts gX4_read_X7_at rfl rfl rfl (by decide +kernel) ⟨(show (0 : Nat) + 1 ≤ 3 from Nat.le_of_ble_eq_true rfl), (show 8 + (2 + 11) + (0 : Nat) ≤ 67 from Nat.le_of_ble_eq_true rfl)⟩) (c_preV hK hH hA hSt (c_recv7 hK hH h13)) rfl rfl hl.1 rfl (lv_room (by first | exact Nat.le_of_ble_eq_true rfl | simp [va_rf_cat, cat_ref, cat_int, cat_long, cat_double, cat_null])) dX4_read_119 ⟨Nat.le_of_ble_eq_true rfl, Nat.le_of_ble_eq_true rfl⟩) hH hA (fun r15 M14 H locs hw hH => ?_)
      refine lv_bipush (v := 43) hx hb dX4_read_122 (by decide) ?_
      refine lv_icmp_ne (tgt := 131) hx hb dX4_read_124 (by decide) (fun c17 => ?_) (fun c17 => ?_)
      · replace hw := hw.1 c17
        refine lv_iconst (v := 0) hx hb dX4_read_131 (by decide) ?_
        exact b132   v1 v2 v3 s0 0 M14 H locs ls hH (lv_sub hl [1, 2, 3, 4, 0] rfl) hw
      · replace hw := hw.2 c17
        exact b127   v1 v2 v3 s0 M14 H locs ls hH (lv_sub hl [1, 2, 3, 4, 0] rfl) hw
  have b95 : ∀ (v1 : Option Nat) (v2 : Int32) (v3 : Int32) (M : CM) (H : Heap) (locs : List Loc) (ls : Array Slot), cH D kA A s.heap T M H locs → lv_has ls 6 [(0, .ref h), (1, va_rf v1), (2, .int v2), (3, .int v3)] → fc_X4_read_b95 T h Q  v1 v2 v3 M → W p l e (headSpec wsX4_read rmX4_read).room s m args below meth c H locs 0 0 (MQ below (va_Qi Q (cB D kA A T) A) args s 0 0 A) (F0 m 95 ls []) := by
    intro   v1 v2 v3 M H locs ls hH hl hw
    unfold fc_X4_read_b95 at hw
    refine s_aload_n hx hb dX4_read_95 rfl (lv_at hl 1 rfl) ?_
    refine lv_iload_n hx hb dX4_read_96 rfl (lv_at hl 2 rfl) ?_
    obtain ⟨p18, ep18, hw⟩ := hw
    refine W.st (st' := [.int v2, .ref p18]) (by rw [ep18]; rfl) ?_
    obtain ⟨h19, hw⟩ := hw
    refine c_calli (va_runV (As := [.int v2]) (rest := []) ⟨hx, hb, hml, hown, hts⟩ (tc_X7_at l D kA nm na sa sv H.size T p18 v2 M _ hw) (cwV 1 hts gX4_read_X7_at rfl rfl rfl (by decide +kernel) ⟨(show (0 : Nat) + 1 ≤ 3 from Nat.le_of_ble_eq_true rfl), (show 8 + (2 + 11) + (0 : Nat) ≤ 67 from Nat.le_of_ble_eq_true rfl)⟩) (c_preV hK hH hA hSt (c_recv7 hK hH h19)) rfl rfl hl.1 rfl (lv_room (by first | exact Nat.le_of_ble_eq_true rfl | simp [va_rf_cat, cat_ref, cat_int, cat_long, cat_double, cat_null])) dX4_read_97 ⟨Nat.le_of_ble_eq_true rfl, Nat.le_of_ble_eq_true rfl⟩) hH hA (fun r21 M20 H locs hw hH => ?_)
    refine lv_bipush (v := 45) hx hb dX4_read_100 (by decide) ?_
    refine lv_icmp_ne (tgt := 109) hx hb dX4_read_102 (by decide) (fun c23 => ?_) (fun c23 => ?_)
    · replace hw := hw.1 c23
      refine lv_iconst (v := 0) hx hb dX4_read_109 (by decide) ?_
      exact b110   v1 v2 v3 0 M20 H locs ls hH (lv_sub hl [0, 1, 2, 3] rfl) hw
    · replace hw := hw.2 c23
      refine lv_iconst (v := 1) hx hb dX4_read_105 (by decide) ?_
      refine lv_goto (tgt := 110) hx hb dX4_read_106 (by decide) ?_
      exact b110   v1 v2 v3 1 M20 H locs ls hH (lv_sub hl [0, 1, 2, 3] rfl) hw
  have b56 : ∀ (v1 : Option Nat) (v2 : Int32) (v3 : Int32) (M : CM) (H : Heap) (locs : List Loc) (ls : Array Slot), cH D kA A s.heap T M H locs → lv_has ls 6 [(0, .ref h), (1, va_rf v1), (2, .int v2), (3, .int v3)] → fc_X4_read_b56 T h Q  v1 v2 v3 M → W p l e (headSpec wsX4_read rmX4_read).room s m args below meth c H locs 0 0 (MQ below (va_Qi Q (cB D kA A T) A) args s 0 0 A) (F0 m 56 ls []) := by
    intro   v1 v2 v3 M H locs ls hH hl hw
    unfold fc_X4_read_b56 at hw
    refine lv_iload_n hx hb dX4_read_56 rfl (lv_at hl 2 rfl) ?_
    refine lv_iload_n hx hb dX4_read_57 rfl (lv_at hl 3 rfl) ?_
    refine lv_icmp_ne (tgt := 63) hx hb dX4_read_58 (by decide) (fun c24 => ?_) (fun c24 => ?_)
    · replace hw := hw.1 c24
      refine s_aload_n hx hb dX4_read_63 rfl (lv_at hl 1 rfl) ?_
      refine lv_iload_n hx hb dX4_read_64 rfl (lv_at hl 2 rfl) ?_
      obtain ⟨p25, ep25, hw⟩ := hw
      refine W.st (st' := [.int v2, .ref p25]) (by rw [ep25]; rfl) ?_
      obtain ⟨h26, hw⟩ := hw
      refine c_calli (va_runV (As := [.int v2]) (rest := []) ⟨hx, hb, hml, hown, hts⟩ (tc_X7_at l D kA nm na sa sv H.size T p25 v2 M _ hw) (cwV 1 hts gX4_read_X7_at rfl rfl rfl (by decide +kernel) ⟨(show (0 : Nat) + 1 ≤ 3 from Nat.le_of_ble_eq_true rfl), (show 8 + (2 + 11) + (0 : Nat) ≤ 67 from Nat.le_of_ble_eq_true rfl)⟩) (c_preV hK hH hA hSt (c_recv7 hK hH h26)) rfl rfl hl.1 rfl (lv_room (by first | exact Nat.le_of_ble_eq_true rfl | simp [va_rf_cat, cat_ref, cat_int, cat_long, cat_double, cat_null])) dX4_read_65 ⟨Nat.le_of_ble_eq_true rfl, Nat.le_of_ble_eq_true rfl⟩) hH hA (fun r28 M27 H locs hw hH => ?_)
      refine lv_bipush (v := 48) hx hb dX4_read_68 (by decide) ?_
      refine lv_icmp_ne (tgt := 95) hx hb dX4_read_70 (by decide) (fun c30 => ?_) (fun c30 => ?_)
      · replace hw := hw.1 c30
        exact b95   v1 v2 v3 M27 H locs ls hH (lv_sub hl [0, 1, 2, 3] rfl) hw
      · replace hw := hw.2 c30
        refine s_aload_n hx hb dX4_read_73 rfl (lv_at hl 1 rfl) ?_
        refine lv_iload_n hx hb dX4_read_74 rfl (lv_at hl 2 rfl) ?_
        refine lv_iconst (v := 1) hx hb dX4_read_75 (by decide) ?_
        refine lv_iadd hx hb dX4_read_76 ?_
        refine W.st (st' := [.int (v2 + 1), .ref p25]) (by rw [ep25]; rfl) ?_
        refine c_calli (va_runV (As := [.int (v2 + 1)]) (rest := []) ⟨hx, hb, hml, hown, hts⟩ (tc_X7_at l D kA nm na sa sv H.size T p25 (v2 + 1) M27 _ hw) (cwV 1 hts gX4_read_X7_at rfl rfl rfl (by decide +kernel) ⟨(show (0 : Nat) + 1 ≤ 3 from Nat.le_of_ble_eq_true rfl), (show 8 + (2 + 11) + (0 : Nat) ≤ 67 from Nat.le_of_ble_eq_true rfl)⟩) (c_preV hK hH hA hSt (c_recv7 hK hH h26)) rfl rfl hl.1 rfl (lv_room (by first | exact Nat.le_of_ble_eq_true rfl | simp [va_rf_cat, cat_ref, cat_int, cat_long, cat_double, cat_null])) dX4_read_77 ⟨Nat.le_of_ble_eq_true rfl, Nat.le_of_ble_eq_true rfl⟩) hH hA (fun r32 M31 H locs hw hH => ?_)
        refine lv_bipush (v := 120) hx hb dX4_read_80 (by decide) ?_
        refine lv_icmp_ne (tgt := 95) hx hb dX4_read_82 (by decide) (fun c34 => ?_) (fun c34 => ?_)
        · replace hw := hw.1 c34
          exact b95   v1 v2 v3 M31 H locs ls hH (lv_sub hl [0, 1, 2, 3] rfl) hw
        · replace hw := hw.2 c34
          refine lv_aload_n hx hb dX4_read_85 rfl (lv_at hl 0 rfl) ?_
          refine s_aload_n hx hb dX4_read_86 rfl (lv_at hl 1 rfl) ?_
          refine lv_iload_n hx hb dX4_read_87 rfl (lv_at hl 2 rfl) ?_
          refine lv_iconst (v := 2) hx hb dX4_read_88 (by decide) ?_
          refine lv_iadd hx hb dX4_read_89 ?_
          refine lv_iload_n hx hb dX4_read_90 rfl (lv_at hl 3 rfl) ?_
          obtain ⟨h35, hw⟩ := hw
          refine c_calli (va_runV (As := [va_rf v1, .int (v2 + 2), .int v3]) (rest := []) ⟨hx, hb, hml, hown, hts⟩ (tc_X4_readHexadecimal l D kA nm na sa sv H.size T h v1 (v2 + 2) v3 M31 _ hw) (cwV 3 hts gX4_read_X4_readHexadecimal rfl rfl rfl (by decide +kernel) ⟨(show (2 : Nat) + 1 ≤ 3 from Nat.le_of_ble_eq_true rfl), (show 8 + (8 + 11) + (40 : Nat) ≤ 67 from Nat.le_of_ble_eq_true rfl)⟩) (c_preV hK hH hA hSt (c_recv4 hK hH h35)) rfl rfl hl.1 rfl (lv_room (by first | exact Nat.le_of_ble_eq_true rfl | simp [va_rf_cat, cat_ref, cat_int, cat_long, cat_double, cat_null])) dX4_read_91 ⟨Nat.le_of_ble_eq_true rfl, Nat.le_of_ble_eq_true rfl⟩) hH hA (fun r37 M36 H locs hw hH => ?_)
          exact c_retz hx hb hr hw.1.1 hlocks hK hH hw.2 dX4_read_94
    · replace hw := hw.2 c24
      refine lv_iconst (v := 1) hx hb dX4_read_61 (by decide) ?_
      exact c_retz hx hb hr rfl hlocks hK hH hw dX4_read_62
  have l33 : ∀ (nn : Nat) (v1 : Option Nat) (v2 : Int32) (v3 : Int32) (M : CM) (H : Heap) (locs : List Loc) (ls : Array Slot), cH D kA A s.heap T M H locs → lv_has ls 6 [(0, .ref h), (1, va_rf v1), (2, .int v2), (3, .int v3)] → fc_X4_read_l33 T h Q  nn v1 v2 v3 M → W p l e (headSpec wsX4_read rmX4_read).room s m args below meth c H locs 0 0 (MQ below (va_Qi Q (cB D kA A T) A) args s 0 0 A) (F0 m 33 ls []) := by
    intro   nn
    induction nn with
    | zero => intro v1 v2 v3 M H locs ls hH hl hw; exact False.elim hw
    | succ nn hk33 =>
      intro v1 v2 v3 M H locs ls hH hl hw
      replace hw : fc_X4_read_c33 T h Q  (fc_X4_read_l33 T h Q  nn) v1 v2 v3 M := hw
      unfold fc_X4_read_c33 at hw
      refine lv_iload_n hx hb dX4_read_33 rfl (lv_at hl 3 rfl) ?_
      refine lv_iload_n hx hb dX4_read_34 rfl (lv_at hl 2 rfl) ?_
      refine lv_icmp_le (tgt := 56) hx hb dX4_read_35 (by decide) (fun c39 => ?_) (fun c39 => ?_)
      · replace hw := hw.1 c39
        exact b56   v1 v2 v3 M H locs ls hH (lv_sub hl [0, 1, 2, 3] rfl) hw
      · replace hw := hw.2 c39
        refine s_aload_n hx hb dX4_read_38 rfl (lv_at hl 1 rfl) ?_
        refine lv_iload_n hx hb dX4_read_39 rfl (lv_at hl 3 rfl) ?_
        refine lv_iconst (v := 1) hx hb dX4_read_40 (by decide) ?_
        refine lv_isub hx hb dX4_read_41 ?_
        obtain ⟨p40, ep40, hw⟩ := hw
        refine W.st (st' := [.int (v3 - 1), .ref p40]) (by rw [ep40]; rfl) ?_
        obtain ⟨h41, hw⟩ := hw
        refine c_calli (va_runV (As := [.int (v3 - 1)]) (rest := []) ⟨hx, hb, hml, hown, hts⟩ (tc_X7_at l D kA nm na sa sv H.size T p40 (v3 - 1) M _ hw) (cwV 1 hts gX4_read_X7_at rfl rfl rfl (by decide +kernel) ⟨(show (0 : Nat) + 1 ≤ 3 from Nat.le_of_ble_eq_true rfl), (show 8 + (2 + 11) + (0 : Nat) ≤ 67 from Nat.le_of_ble_eq_true rfl)⟩) (c_preV hK hH hA hSt (c_recv7 hK hH h41)) rfl rfl hl.1 rfl (lv_room (by first | exact Nat.le_of_ble_eq_true rfl | simp [va_rf_cat, cat_ref, cat_int, cat_long, cat_double, cat_null])) dX4_read_42 ⟨Nat.le_of_ble_eq_true rfl, Nat.le_of_ble_eq_true rfl⟩) hH hA (fun r43 M42 H locs hw hH => ?_)
        refine lv_bipush (v := 32) hx hb dX4_read_45 (by decide) ?_
        refine lv_icmp_ne (tgt := 56) hx hb dX4_read_47 (by decide) (fun c45 => ?_) (fun c45 => ?_)
        · replace hw := hw.1 c45
          exact b56   v1 v2 v3 M42 H locs ls hH (lv_sub hl [0, 1, 2, 3] rfl) hw
        · replace hw := hw.2 c45
          obtain ⟨x46, ex46⟩ : ∃ y : Int32, y = v3 + (-1) := ⟨_, rfl⟩
          replace hw := hw x46 ex46
          refine lv_iinc (v := x46) (lv' := [(3, .int x46), (0, .ref h), (1, va_rf v1), (2, .int v2)]) hx hb dX4_read_50 hl (k := 3) rfl (by rw [ex46]; rfl) (by decide) (by first | rfl | simp [va_rf_cat, cat_ref, cat_int, cat_long, cat_double, cat_null]) (fun ls hl => ?_)
          refine lv_goto (tgt := 33) hx hb dX4_read_53 (by decide) ?_
          exact hk33 v1 v2 x46 M42 H locs ls hH (lv_sub hl [1, 2, 3, 0] rfl) hw
  have l12 : ∀ (nn : Nat) (v1 : Option Nat) (v2 : Int32) (v3 : Int32) (M : CM) (H : Heap) (locs : List Loc) (ls : Array Slot), cH D kA A s.heap T M H locs → lv_has ls 6 [(0, .ref h), (1, va_rf v1), (2, .int v2), (3, .int v3)] → fc_X4_read_l12 T h Q  nn v1 v2 v3 M → W p l e (headSpec wsX4_read rmX4_read).room s m args below meth c H locs 0 0 (MQ below (va_Qi Q (cB D kA A T) A) args s 0 0 A) (F0 m 12 ls []) := by
    intro   nn
    induction nn with
    | zero => intro v1 v2 v3 M H locs ls hH hl hw; exact False.elim hw
    | succ nn hk12 =>
      intro v1 v2 v3 M H locs ls hH hl hw
      replace hw : fc_X4_read_c12 T h Q  (fc_X4_read_l12 T h Q  nn) v1 v2 v3 M := hw
      unfold fc_X4_read_c12 at hw
      refine lv_iload_n hx hb dX4_read_12 rfl (lv_at hl 2 rfl) ?_
      refine lv_iload_n hx hb dX4_read_13 rfl (lv_at hl 3 rfl) ?_
      refine lv_icmp_ge (tgt := 33) hx hb dX4_read_14 (by decide) (fun c47 => ?_) (fun c47 => ?_)
      · replace hw := hw.1 c47
        obtain ⟨nn, hw⟩ := hw
        exact l33   nn v1 v2 v3 M H locs ls hH (lv_sub hl [0, 1, 2, 3] rfl) hw
      · replace hw := hw.2 c47
        refine s_aload_n hx hb dX4_read_17 rfl (lv_at hl 1 rfl) ?_
        refine lv_iload_n hx hb dX4_read_18 rfl (lv_at hl 2 rfl) ?_
        obtain ⟨p48, ep48, hw⟩ := hw
        refine W.st (st' := [.int v2, .ref p48]) (by rw [ep48]; rfl) ?_
        obtain ⟨h49, hw⟩ := hw
        refine c_calli (va_runV (As := [.int v2]) (rest := []) ⟨hx, hb, hml, hown, hts⟩ (tc_X7_at l D kA nm na sa sv H.size T p48 v2 M _ hw) (cwV 1 hts gX4_read_X7_at rfl rfl rfl (by decide +kernel) ⟨(show (0 : Nat) + 1 ≤ 3 from Nat.le_of_ble_eq_true rfl), (show 8 + (2 + 11) + (0 : Nat) ≤ 67 from Nat.le_of_ble_eq_true rfl)⟩) (c_preV hK hH hA hSt (c_recv7 hK hH h49)) rfl rfl hl.1 rfl (lv_room (by first | exact Nat.le_of_ble_eq_true rfl | simp [va_rf_cat, cat_ref, cat_int, cat_long, cat_double, cat_null])) dX4_read_19 ⟨Nat.le_of_ble_eq_true rfl, Nat.le_of_ble_eq_true rfl⟩) hH hA (fun r51 M50 H locs hw hH => ?_)
        refine lv_bipush (v := 32) hx hb dX4_read_22 (by decide) ?_
        refine lv_icmp_ne (tgt := 33) hx hb dX4_read_24 (by decide) (fun c53 => ?_) (fun c53 => ?_)
        · replace hw := hw.1 c53
          obtain ⟨nn, hw⟩ := hw
          exact l33   nn v1 v2 v3 M50 H locs ls hH (lv_sub hl [0, 1, 2, 3] rfl) hw
        · replace hw := hw.2 c53
          obtain ⟨x54, ex54⟩ : ∃ y : Int32, y = v2 + 1 := ⟨_, rfl⟩
          replace hw := hw x54 ex54
          refine lv_iinc (v := x54) (lv' := [(2, .int x54), (0, .ref h), (1, va_rf v1), (3, .int v3)]) hx hb dX4_read_27 hl (k := 2) rfl (by rw [ex54]; rfl) (by decide) (by first | rfl | simp [va_rf_cat, cat_ref, cat_int, cat_long, cat_double, cat_null]) (fun ls hl => ?_)
          refine lv_goto (tgt := 12) hx hb dX4_read_30 (by decide) ?_
          exact hk12 v1 x54 v3 M50 H locs ls hH (lv_sub hl [1, 2, 0, 3] rfl) hw
  clear hP
  unfold fc_X4_read at hw
  have hst : ∀ (M : CM) (H : Heap) (locs : List Loc) (ls : Array Slot), cH D kA A s.heap T M H locs → lv_has ls 6 [(0, .ref h), (1, va_rf a1)] → (tg T h = 5 ∧ (∀ M56 : CM, M56 = sD M 40 h FP.dconst0 → (∃ p57 : Nat, a1 = some p57 ∧ (tg T p57 = 8 ∧ (∀ x59 : Int32, x59 = cI M56 71 p57 → (∃ nn : Nat, fc_X4_read_l12 T h Q  nn a1 0 x59 M56)))))) → W p l e (headSpec wsX4_read rmX4_read).room s m args below meth c H locs 0 0 (MQ below (va_Qi Q (cB D kA A T) A) args s 0 0 A) (F0 m 0 ls []) := by
    intro M H locs ls hH hl hw
    refine lv_aload_n hx hb dX4_read_0 rfl (lv_at hl 0 rfl) ?_
    refine lv_dconst0 hx hb dX4_read_1 ?_
    obtain ⟨h55, hw⟩ := hw
    refine cp_40 (x := FP.dconst0) hx hb hts hin4 hown hK hH h55 (hts (.fieldLink RX4 9 "IdlCaller$Numeral" "found" "D") (by decide +kernel)) dX4_read_2 (fun M56 H locs eM56 hH => ?_)
    replace hw := hw M56 eM56
    refine lv_iconst (v := 0) hx hb dX4_read_5 (by decide) ?_
    refine lv_istore_n (i := 2) (lv' := [(2, .int 0), (0, .ref h), (1, va_rf a1)]) hx hb dX4_read_6 rfl hl (by decide) (by first | rfl | simp [va_rf_cat, cat_ref, cat_int, cat_long, cat_double, cat_null]) (fun ls hl => ?_)
    refine s_aload_n hx hb dX4_read_7 rfl (lv_at hl 2 rfl) ?_
    obtain ⟨p57, ep57, hw⟩ := hw
    refine W.st (st' := [.ref p57]) (by rw [ep57]; rfl) ?_
    obtain ⟨h58, hw⟩ := hw
    refine cg_71 hx hb hts hin7 hown hK hH h58 (hts (.fieldLink RX4 15 "IdlCaller$Text" "length" "I") (by decide +kernel)) dX4_read_8 ?_
    refine lv_topi (fun x59 ex59 => ?_)
    replace hw := hw x59 ex59
    refine lv_istore_n (i := 3) (lv' := [(3, .int x59), (2, .int 0), (0, .ref h), (1, va_rf a1)]) hx hb dX4_read_11 rfl hl (by decide) (by first | rfl | simp [va_rf_cat, cat_ref, cat_int, cat_long, cat_double, cat_null]) (fun ls hl => ?_)
    obtain ⟨nn, hw⟩ := hw
    exact l12   nn a1 0 x59 M56 H locs ls hH (lv_sub hl [2, 3, 1, 0] rfl) hw
  exact hst M s.heap [] ls hH hl hw
