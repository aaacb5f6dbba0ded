def fL_b935 (nm : Nat → Nat) (xs : Nat → Int32) (L px po : Nat) (Q : Prop) (k23 : Int32 → LY → CM → RM → Prop) (v4 : Int32) (T : LY) (M : CM) (N : RM) : Prop := (∀ x1 : Int32, x1 = v4 + 6 → k23 x1 T M N)
def fL_b883 (nm : Nat → Nat) (xs : Nat → Int32) (L px po : Nat) (Q : Prop) (k23 : Int32 → LY → CM → RM → Prop) (v4 : Int32) (T : LY) (M : CM) (N : RM) : Prop := fL_b935 nm xs L px po Q k23 v4 T M N
def fL_b881 (nm : Nat → Nat) (xs : Nat → Int32) (L px po : Nat) (Q : Prop) (v4 : Int32) (T : LY) (M : CM) (N : RM) : Prop := False
def fL_b718 (nm : Nat → Nat) (xs : Nat → Int32) (L px po : Nat) (Q : Prop) (k23 : Int32 → LY → CM → RM → Prop) (v4 : Int32) (T : LY) (M : CM) (N : RM) : Prop := fL_b935 nm xs L px po Q k23 v4 T M N
def fL_b650 (nm : Nat → Nat) (xs : Nat → Int32) (L px po : Nat) (Q : Prop) (k23 : Int32 → LY → CM → RM → Prop) (v4 : Int32) (T : LY) (M : CM) (N : RM) : Prop := fL_b935 nm xs L px po Q k23 v4 T M N
def fL_b582 (nm : Nat → Nat) (xs : Nat → Int32) (L px po : Nat) (Q : Prop) (k23 : Int32 → LY → CM → RM → Prop) (v4 : Int32) (T : LY) (M : CM) (N : RM) : Prop := fL_b935 nm xs L px po Q k23 v4 T M N
def fL_b514 (nm : Nat → Nat) (xs : Nat → Int32) (L px po : Nat) (Q : Prop) (k23 : Int32 → LY → CM → RM → Prop) (v4 : Int32) (T : LY) (M : CM) (N : RM) : Prop := fL_b935 nm xs L px po Q k23 v4 T M N
def fL_b303 (nm : Nat → Nat) (xs : Nat → Int32) (L px po : Nat) (Q : Prop) (k23 : Int32 → LY → CM → RM → Prop) (v4 : Int32) (T : LY) (M : CM) (N : RM) : Prop := fL_b935 nm xs L px po Q k23 v4 T M N
def fL_b221 (nm : Nat → Nat) (xs : Nat → Int32) (L px po : Nat) (Q : Prop) (k23 : Int32 → LY → CM → RM → Prop) (v4 : Int32) (T : LY) (M : CM) (N : RM) : Prop := fL_b935 nm xs L px po Q k23 v4 T M N
def fL_c23 (nm : Nat → Nat) (xs : Nat → Int32) (L px po : Nat) (Q : Prop) (k23 : Int32 → LY → CM → RM → Prop) (v4 : Int32) (T : LY) (M : CM) (N : RM) : Prop := ((((Int32.ofNat L) - 6) < v4 → True) ∧ (¬ ((Int32.ofNat L) - 6) < v4 → (vp_in v4 L ∧ (((xs v4.toNatClampNeg) &&& 15 = 0 → (vp_in (v4 + 1) L ∧ (vp_in (v4 + 2) L ∧ (vp_in (v4 + 3) L ∧ (vp_in (v4 + 4) L ∧ (vp_in (v4 + 5) L ∧ fc_L_type T (some px) (xs (v4 + 1).toNatClampNeg) (xs (v4 + 2).toNatClampNeg) (xs (v4 + 3).toNatClampNeg) (xs (v4 + 4).toNatClampNeg) (xs (v4 + 5).toNatClampNeg) (some po) M (fun (r9 : Int32) (M10 : CM) => fm_type (xs (v4 + 1).toNatClampNeg) (xs (v4 + 2).toNatClampNeg) (xs (v4 + 3).toNatClampNeg) (xs (v4 + 4).toNatClampNeg) (xs (v4 + 5).toNatClampNeg) N (fun (r13 : Int32) (N16 : RM) => fm_thrown  N16 (fun (r17 : Int32) (N20 : RM) => ((r17 = r9 → ((¬ r9 = 0 → fL_b221 nm xs L px po Q k23 v4 T M10 N20) ∧ (r9 = 0 → (tg T po = 23 ∧ (vp_in (0 : Int32) (ln T po) ∧ (((lg_cmp (xJ M10 po (0 : Int32).toNatClampNeg) r13.toInt64) = 0 → fL_b221 nm xs L px po Q k23 v4 T M10 N20) ∧ (¬ (lg_cmp (xJ M10 po (0 : Int32).toNatClampNeg) r13.toInt64) = 0 → False))))))) ∧ (¬ r17 = r9 → False))))))))))) ∧ ((xs v4.toNatClampNeg) &&& 15 = 1 → (tg T px = 11 ∧ fc_X10_erase T px  M (fun (r26 : Int32) (M27 : CM) => fm_erase  N (fun (r31 : Int32) (N34 : RM) => ((r26 = r31 → fL_b935 nm xs L px po Q k23 v4 T M27 N34) ∧ (¬ r26 = r31 → False)))))) ∧ ((xs v4.toNatClampNeg) &&& 15 = 2 → (tg T px = 11 ∧ (∃ cc41 nz42 : Nat, cc41 ≤ 290 ∧ nz42 ≤ 2990 ∧ fc_X10_define nm cc41 nz42 px  T M (fun (r36 : Int32) (T38 : LY) (M37 : CM) => fm_define  N (fun (r43 : Int32) (N46 : RM) => ((r36 = r43 → fL_b935 nm xs L px po Q k23 v4 T38 M37 N46) ∧ (¬ r36 = r43 → False))))))) ∧ ((xs v4.toNatClampNeg) &&& 15 = 3 → (vp_in (v4 + 1) L ∧ fc_L_drop T (some px) (xs (v4 + 1).toNatClampNeg) (some po) M (fun (r49 : Int32) (M50 : CM) => fm_drop (xs (v4 + 1).toNatClampNeg) N (fun (r53 : Int32) (N56 : RM) => fm_thrown  N56 (fun (r57 : Int32) (N60 : RM) => ((r57 = r49 → ((¬ r49 = 0 → fL_b303 nm xs L px po Q k23 v4 T M50 N60) ∧ (r49 = 0 → (tg T po = 23 ∧ (vp_in (0 : Int32) (ln T po) ∧ (((lg_cmp (xJ M50 po (0 : Int32).toNatClampNeg) r53.toInt64) = 0 → fL_b303 nm xs L px po Q k23 v4 T M50 N60) ∧ (¬ (lg_cmp (xJ M50 po (0 : Int32).toNatClampNeg) r53.toInt64) = 0 → False))))))) ∧ (¬ r57 = r49 → False))))))) ∧ ((xs v4.toNatClampNeg) &&& 15 = 4 → (tg T px = 11 ∧ fc_X10_place T px  M (fun (r66 : Int32) (M67 : CM) => fm_place  N (fun (r71 : Int32) (N74 : RM) => ((r66 = r71 → fL_b935 nm xs L px po Q k23 v4 T M67 N74) ∧ (¬ r66 = r71 → False)))))) ∧ ((xs v4.toNatClampNeg) &&& 15 = 5 → (vp_in (v4 + 1) L ∧ (vp_in (v4 + 2) L ∧ fc_L_simple T (some px) (xs (v4 + 1).toNatClampNeg) (xs (v4 + 2).toNatClampNeg) M (fun (r78 : Int32) (M79 : CM) => fm_simple (xs (v4 + 1).toNatClampNeg) (xs (v4 + 2).toNatClampNeg) N (fun (N85 : RM) => fm_thrown  N85 (fun (r86 : Int32) (N89 : RM) => ((r86 = r78 → fL_b935 nm xs L px po Q k23 v4 T M79 N89) ∧ (¬ r86 = r78 → False)))))))) ∧ ((xs v4.toNatClampNeg) &&& 15 = 6 → (vp_in (v4 + 1) L ∧ (vp_in (v4 + 2) L ∧ (vf_n64 (FP.dmul (FP.i2d (xs (v4 + 2).toNatClampNeg)) 4593671619917905920) ∧ fc_L_number T (some px) (xs (v4 + 1).toNatClampNeg) (FP.dmul (FP.i2d (xs (v4 + 2).toNatClampNeg)) 4593671619917905920) M (fun (r94 : Int32) (M95 : CM) => (vf_n64 (FP.dmul (FP.i2d (xs (v4 + 2).toNatClampNeg)) 4593671619917905920) ∧ fm_number (xs (v4 + 1).toNatClampNeg) (FP.dmul (FP.i2d (xs (v4 + 2).toNatClampNeg)) 4593671619917905920) N (fun (N102 : RM) => fm_thrown  N102 (fun (r103 : Int32) (N106 : RM) => ((r103 = r94 → fL_b935 nm xs L px po Q k23 v4 T M95 N106) ∧ (¬ r103 = r94 → False)))))))))) ∧ ((xs v4.toNatClampNeg) &&& 15 = 7 → (vp_in (v4 + 1) L ∧ (vp_in (v4 + 2) L ∧ (vp_in (v4 + 3) L ∧ (vp_in (v4 + 4) L ∧ fc_L_text T (some px) (xs (v4 + 1).toNatClampNeg) (xs (v4 + 2).toNatClampNeg) (xs (v4 + 3).toNatClampNeg) (xs (v4 + 4).toNatClampNeg) (some po) M (fun (r112 : Int32) (M113 : CM) => fm_text (xs (v4 + 1).toNatClampNeg) (xs (v4 + 2).toNatClampNeg) (xs (v4 + 3).toNatClampNeg) (xs (v4 + 4).toNatClampNeg) N (fun (r116 : Int32) (N119 : RM) => fm_thrown  N119 (fun (r120 : Int32) (N123 : RM) => ((r120 = r112 → ((¬ r112 = 0 → fL_b514 nm xs L px po Q k23 v4 T M113 N123) ∧ (r112 = 0 → (tg T po = 23 ∧ (vp_in (0 : Int32) (ln T po) ∧ (((lg_cmp (xJ M113 po (0 : Int32).toNatClampNeg) r116.toInt64) = 0 → fL_b514 nm xs L px po Q k23 v4 T M113 N123) ∧ (¬ (lg_cmp (xJ M113 po (0 : Int32).toNatClampNeg) r116.toInt64) = 0 → False))))))) ∧ (¬ r120 = r112 → False)))))))))) ∧ ((xs v4.toNatClampNeg) &&& 15 = 8 → (vp_in (v4 + 1) L ∧ (vp_in (v4 + 2) L ∧ fc_L_add T (some px) (xs (v4 + 1).toNatClampNeg) (xs (v4 + 2).toNatClampNeg) (some po) M (fun (r131 : Int32) (M132 : CM) => fm_add (xs (v4 + 1).toNatClampNeg) (xs (v4 + 2).toNatClampNeg) N (fun (r135 : Int32) (N138 : RM) => fm_thrown  N138 (fun (r139 : Int32) (N142 : RM) => ((r139 = r131 → ((¬ r131 = 0 → fL_b582 nm xs L px po Q k23 v4 T M132 N142) ∧ (r131 = 0 → (tg T po = 23 ∧ (vp_in (0 : Int32) (ln T po) ∧ (((lg_cmp (xJ M132 po (0 : Int32).toNatClampNeg) r135.toInt64) = 0 → fL_b582 nm xs L px po Q k23 v4 T M132 N142) ∧ (¬ (lg_cmp (xJ M132 po (0 : Int32).toNatClampNeg) r135.toInt64) = 0 → False))))))) ∧ (¬ r139 = r131 → False)))))))) ∧ ((xs v4.toNatClampNeg) &&& 15 = 9 → (vp_in (v4 + 1) L ∧ (vp_in (v4 + 2) L ∧ fc_L_call nm T (some px) (xs (v4 + 1).toNatClampNeg) (xs (v4 + 2).toNatClampNeg) (some po) M (fun (r150 : Int32) (M151 : CM) => fm_call (xs (v4 + 1).toNatClampNeg) (xs (v4 + 2).toNatClampNeg) N (fun (r154 : Int32) (N157 : RM) => fm_thrown  N157 (fun (r158 : Int32) (N161 : RM) => ((r158 = r150 → ((¬ r150 = 0 → fL_b650 nm xs L px po Q k23 v4 T M151 N161) ∧ (r150 = 0 → (tg T po = 23 ∧ (vp_in (0 : Int32) (ln T po) ∧ (((lg_cmp (xJ M151 po (0 : Int32).toNatClampNeg) r154.toInt64) = 0 → fL_b650 nm xs L px po Q k23 v4 T M151 N161) ∧ (¬ (lg_cmp (xJ M151 po (0 : Int32).toNatClampNeg) r154.toInt64) = 0 → False))))))) ∧ (¬ r158 = r150 → False)))))))) ∧ ((xs v4.toNatClampNeg) &&& 15 = 10 → (vp_in (v4 + 1) L ∧ (vp_in (v4 + 2) L ∧ fc_L_operation nm T (some px) (xs (v4 + 1).toNatClampNeg) (xs (v4 + 2).toNatClampNeg) (some po) M (fun (r169 : Int32) (M170 : CM) => fm_operation (xs (v4 + 1).toNatClampNeg) (xs (v4 + 2).toNatClampNeg) N (fun (r173 : Int32) (N176 : RM) => fm_thrown  N176 (fun (r177 : Int32) (N180 : RM) => ((r177 = r169 → ((¬ r169 = 0 → fL_b718 nm xs L px po Q k23 v4 T M170 N180) ∧ (r169 = 0 → (tg T po = 23 ∧ (vp_in (0 : Int32) (ln T po) ∧ (((lg_cmp (xJ M170 po (0 : Int32).toNatClampNeg) r173.toInt64) = 0 → fL_b718 nm xs L px po Q k23 v4 T M170 N180) ∧ (¬ (lg_cmp (xJ M170 po (0 : Int32).toNatClampNeg) r173.toInt64) = 0 → False))))))) ∧ (¬ r177 = r169 → False)))))))) ∧ ((xs v4.toNatClampNeg) &&& 15 = 11 → (vp_in (v4 + 1) L ∧ (tg T px = 11 ∧ fc_X10_kind T px (xs (v4 + 1).toNatClampNeg) M (fun (r187 : Int32) (M188 : CM) => fm_kind (xs (v4 + 1).toNatClampNeg) N (fun (r192 : Int32) (N195 : RM) => ((r187 = r192 → fL_b935 nm xs L px po Q k23 v4 T M188 N195) ∧ (¬ r187 = r192 → False))))))) ∧ ((xs v4.toNatClampNeg) &&& 15 = 12 → (vp_in (v4 + 1) L ∧ (vp_in (v4 + 2) L ∧ (tg T px = 11 ∧ fc_X10_item T px (xs (v4 + 1).toNatClampNeg) (xs (v4 + 2).toNatClampNeg) M (fun (r199 : Int32) (M200 : CM) => fm_item (xs (v4 + 1).toNatClampNeg) (xs (v4 + 2).toNatClampNeg) N (fun (r204 : Int32) (N207 : RM) => ((r199 = r204 → fL_b935 nm xs L px po Q k23 v4 T M200 N207) ∧ (¬ r199 = r204 → False)))))))) ∧ ((xs v4.toNatClampNeg) &&& 15 = 13 → (vp_in (v4 + 1) L ∧ (vp_in (v4 + 2) L ∧ (tg T px = 11 ∧ fc_X10_whole T px (xs (v4 + 1).toNatClampNeg) (xs (v4 + 2).toNatClampNeg) M (fun (r211 : Int64) (M212 : CM) => fm_whole (xs (v4 + 1).toNatClampNeg) (xs (v4 + 2).toNatClampNeg) N (fun (r216 : Int64) (N219 : RM) => (((lg_cmp r211 r216) = 0 → fL_b935 nm xs L px po Q k23 v4 T M212 N219) ∧ (¬ (lg_cmp r211 r216) = 0 → False)))))))) ∧ ((xs v4.toNatClampNeg) &&& 15 = 14 → (vp_in (v4 + 1) L ∧ (vp_in (v4 + 2) L ∧ (tg T px = 11 ∧ fc_X10_real T px (xs (v4 + 1).toNatClampNeg) (xs (v4 + 2).toNatClampNeg) M (fun (r223 : UInt64) (M224 : CM) => fm_real (xs (v4 + 1).toNatClampNeg) (xs (v4 + 2).toNatClampNeg) N (fun (r228 : UInt64) (N231 : RM) => (((Op.cmpValue (FP.dcmp r223 r228) .l) = 0 → fL_b883 nm xs L px po Q k23 v4 T M224 N231) ∧ (¬ (Op.cmpValue (FP.dcmp r223 r228) .l) = 0 → (((Op.cmpValue (FP.dcmp r223 r223) .l) = 0 → fL_b881 nm xs L px po Q  v4 T M224 N231) ∧ (¬ (Op.cmpValue (FP.dcmp r223 r223) .l) = 0 → ((¬ (Op.cmpValue (FP.dcmp r228 r228) .l) = 0 → fL_b883 nm xs L px po Q k23 v4 T M224 N231) ∧ ((Op.cmpValue (FP.dcmp r228 r228) .l) = 0 → fL_b881 nm xs L px po Q  v4 T M224 N231)))))))))))) ∧ ((xs v4.toNatClampNeg) &&& 15 = 15 → (vp_in (v4 + 1) L ∧ (vp_in (v4 + 2) L ∧ (vp_in (v4 + 3) L ∧ (tg T px = 11 ∧ fc_X10_sign T px (xs (v4 + 1).toNatClampNeg) (xs (v4 + 2).toNatClampNeg) (xs (v4 + 3).toNatClampNeg) M (fun (r238 : Int32) (M239 : CM) => fm_sign (xs (v4 + 1).toNatClampNeg) (xs (v4 + 2).toNatClampNeg) (xs (v4 + 3).toNatClampNeg) N (fun (r243 : Int32) (N246 : RM) => ((r238 = r243 → fL_b935 nm xs L px po Q k23 v4 T M239 N246) ∧ (¬ r238 = r243 → False))))))))) ∧ (¬ (xs v4.toNatClampNeg) &&& 15 = 0 ∧ ¬ (xs v4.toNatClampNeg) &&& 15 = 1 ∧ ¬ (xs v4.toNatClampNeg) &&& 15 = 2 ∧ ¬ (xs v4.toNatClampNeg) &&& 15 = 3 ∧ ¬ (xs v4.toNatClampNeg) &&& 15 = 4 ∧ ¬ (xs v4.toNatClampNeg) &&& 15 = 5 ∧ ¬ (xs v4.toNatClampNeg) &&& 15 = 6 ∧ ¬ (xs v4.toNatClampNeg) &&& 15 = 7 ∧ ¬ (xs v4.toNatClampNeg) &&& 15 = 8 ∧ ¬ (xs v4.toNatClampNeg) &&& 15 = 9 ∧ ¬ (xs v4.toNatClampNeg) &&& 15 = 10 ∧ ¬ (xs v4.toNatClampNeg) &&& 15 = 11 ∧ ¬ (xs v4.toNatClampNeg) &&& 15 = 12 ∧ ¬ (xs v4.toNatClampNeg) &&& 15 = 13 ∧ ¬ (xs v4.toNatClampNeg) &&& 15 = 14 ∧ ¬ (xs v4.toNatClampNeg) &&& 15 = 15 → fL_b935 nm xs L px po Q k23 v4 T M N)))))
def fL_l23 (nm : Nat → Nat) (xs : Nat → Int32) (L px po : Nat) (Q : Prop) : Nat → Int32 → LY → CM → RM → Prop := lit (τ := Int32 → LY → CM → RM → Prop) (fun _ _ _ _ => False) (fun k => fL_c23 nm xs L px po Q k)
set_option maxHeartbeats 8000000 in
set_option maxRecDepth 100000 in
theorem tL_loop {p : Program} {e : Env} {s : State} {m : MethodId} {below : List Frame} {meth : Method} {c : Code} (l : Launch) (hst0 : l.stackTraces = false) {b L : Nat} {xs : Nat → Int32} (C0 : lw_At p s m meth c b L xs) (D : va_G) (kA : Nat → ClassId) (nm : Nat → Nat) (na : Nat) (sa sv : Nat → Nat) (hK : va_K D vwCl (ty_all kA) s) (hSt : cSt nm na sa sv (fun q : Nat => s.heap.size ≤ q) s s.heap) (hm : Nat) (ad : Nat → Nat) (px po : Nat) : ∀ (nn : Nat) (v4 : Int32) (T : LY) (M : CM) (N : RM) (H : Heap) (locs : List Loc) (ls : Array Slot) (K Nn : Nat), K + 300 * nn ≤ 600000 → Nn + 3000 * nn ≤ 7200000 → lH D kA hm ad (fun q : Nat => s.heap.size ≤ q) s.heap T M N H locs → lv_has ls 9 [(0, .ref b), (1, .ref px), (2, .ref hm), (3, .ref po), (4, .int v4)] → fL_l23 nm xs L px po True nn v4 T M N → W p l e room_1 s m #[Value.ref b] below meth c H locs K Nn (lw_Z below #[Value.ref b] s) (F0 m 23 ls []) := by
  obtain ⟨hx, hb, hr, hml, hown0, hts0, hX, hbl, hlocks, hgv⟩ := id C0
  have hown : s.vm.findClass RL = some m.cls := hown0
  have hts : ∀ w ∈ wsL_law, w.before #[Value.ref b] s = true := fun w hw => hts0 w (wsL_law_in w hw)
  have hA : ∀ q : Nat, s.heap.size ≤ q → (fun q : Nat => s.heap.size ≤ q) q := fun _ z => z
  have hbA : ¬ (fun q : Nat => s.heap.size ≤ q) b := Nat.not_le.mpr hbl
  have b935 : ∀ (KB NB : Nat) (hKB : KB ≤ 600400) (hNB : NB ≤ 7204000) (k23 : Int32 → LY → CM → RM → Prop) (hk23 : ∀ (v4 : Int32) (T : LY) (M : CM) (N : RM) (H : Heap) (locs : List Loc) (ls : Array Slot), lH D kA hm ad (fun q : Nat => s.heap.size ≤ q) s.heap T M N H locs → lv_has ls 9 [(0, .ref b), (1, .ref px), (2, .ref hm), (3, .ref po), (4, .int v4)] → k23 v4 T M N → W p l e room_1 s m #[Value.ref b] below meth c H locs KB NB (lw_Z below #[Value.ref b] s) (F0 m 23 ls [])) (v4 : Int32) (T : LY) (M : CM) (N : RM) (H : Heap) (locs : List Loc) (ls : Array Slot), lH D kA hm ad (fun q : Nat => s.heap.size ≤ q) s.heap T M N H locs → lv_has ls 9 [(0, .ref b), (1, .ref px), (2, .ref hm), (3, .ref po), (4, .int v4)] → fL_b935 nm xs L px po True k23 v4 T M N → W p l e room_1 s m #[Value.ref b] below meth c H locs KB NB (lw_Z below #[Value.ref b] s) (F0 m 935 ls []) := by
    intro KB NB hKB hNB k23 hk23 v4 T M N H locs ls hH hl hw
    unfold fL_b935 at hw
    obtain ⟨x1, ex1⟩ : ∃ y : Int32, y = v4 + 6 := ⟨_, rfl⟩
    replace hw := hw x1 ex1
    refine lv_iinc (v := x1) (lv' := [(4, .int x1), (0, .ref b), (1, .ref px), (2, .ref hm), (3, .ref po)]) hx hb dL_law_935 hl (k := 4) rfl (by rw [ex1]; rfl) (by decide) rfl (fun ls hl => ?_)
    refine lv_goto (tgt := 23) hx hb dL_law_938 (by decide) ?_
    refine W.widen (k := KB) (n := NB) (by omega) (by omega) ?_
    exact hk23 x1 T M N H locs ls hH (lv_sub hl [1, 2, 3, 4, 0] rfl) hw
  have b883 : ∀ (KB NB : Nat) (hKB : KB ≤ 600400) (hNB : NB ≤ 7204000) (k23 : Int32 → LY → CM → RM → Prop) (hk23 : ∀ (v4 : Int32) (T : LY) (M : CM) (N : RM) (H : Heap) (locs : List Loc) (ls : Array Slot), lH D kA hm ad (fun q : Nat => s.heap.size ≤ q) s.heap T M N H locs → lv_has ls 9 [(0, .ref b), (1, .ref px), (2, .ref hm), (3, .ref po), (4, .int v4)] → k23 v4 T M N → W p l e room_1 s m #[Value.ref b] below meth c H locs KB NB (lw_Z below #[Value.ref b] s) (F0 m 23 ls [])) (v4 : Int32) (T : LY) (M : CM) (N : RM) (H : Heap) (locs : List Loc) (ls : Array Slot), lH D kA hm ad (fun q : Nat => s.heap.size ≤ q) s.heap T M N H locs → lv_has ls 9 [(0, .ref b), (1, .ref px), (2, .ref hm), (3, .ref po), (4, .int v4)] → fL_b883 nm xs L px po True k23 v4 T M N → W p l e room_1 s m #[Value.ref b] below meth c H locs KB NB (lw_Z below #[Value.ref b] s) (F0 m 883 ls []) := by
    intro KB NB hKB hNB k23 hk23 v4 T M N H locs ls hH hl hw
    unfold fL_b883 at hw
    refine lv_goto (tgt := 935) hx hb dL_law_883 (by decide) ?_
    refine W.widen (k := KB) (n := NB) (by omega) (by omega) ?_
    exact b935 _ _ (by omega) (by omega) _ hk23 v4 T M N H locs ls hH (lv_sub hl [0, 1, 2, 3, 4] rfl) hw
  have b881 : ∀ (KB NB : Nat) (hKB : KB ≤ 600400) (hNB : NB ≤ 7204000) (v4 : Int32) (T : LY) (M : CM) (N : RM) (H : Heap) (locs : List Loc) (ls : Array Slot), lH D kA hm ad (fun q : Nat => s.heap.size ≤ q) s.heap T M N H locs → lv_has ls 9 [(0, .ref b), (1, .ref px), (2, .ref hm), (3, .ref po), (4, .int v4)] → fL_b881 nm xs L px po True  v4 T M N → W p l e room_1 s m #[Value.ref b] below meth c H locs KB NB (lw_Z below #[Value.ref b] s) (F0 m 881 ls []) := by
    intro KB NB hKB hNB  v4 T M N H locs ls hH hl hw
    unfold fL_b881 at hw
    refine lv_iconst (v := 0) hx hb dL_law_881 (by decide) ?_
    exact False.elim hw
  have b718 : ∀ (KB NB : Nat) (hKB : KB ≤ 600400) (hNB : NB ≤ 7204000) (k23 : Int32 → LY → CM → RM → Prop) (hk23 : ∀ (v4 : Int32) (T : LY) (M : CM) (N : RM) (H : Heap) (locs : List Loc) (ls : Array Slot), lH D kA hm ad (fun q : Nat => s.heap.size ≤ q) s.heap T M N H locs → lv_has ls 9 [(0, .ref b), (1, .ref px), (2, .ref hm), (3, .ref po), (4, .int v4)] → k23 v4 T M N → W p l e room_1 s m #[Value.ref b] below meth c H locs KB NB (lw_Z below #[Value.ref b] s) (F0 m 23 ls [])) (v4 : Int32) (T : LY) (M : CM) (N : RM) (H : Heap) (locs : List Loc) (ls : Array Slot), lH D kA hm ad (fun q : Nat => s.heap.size ≤ q) s.heap T M N H locs → lv_has ls 9 [(0, .ref b), (1, .ref px), (2, .ref hm), (3, .ref po), (4, .int v4)] → fL_b718 nm xs L px po True k23 v4 T M N → W p l e room_1 s m #[Value.ref b] below meth c H locs KB NB (lw_Z below #[Value.ref b] s) (F0 m 718 ls []) := by
    intro KB NB hKB hNB k23 hk23 v4 T M N H locs ls hH hl hw
    unfold fL_b718 at hw
    refine lv_goto (tgt := 935) hx hb dL_law_718 (by decide) ?_
    refine W.widen (k := KB) (n := NB) (by omega) (by omega) ?_
    exact b935 _ _ (by omega) (by omega) _ hk23 v4 T M N H locs ls hH (lv_sub hl [0, 1, 2, 3, 4] rfl) hw
  have b650 : ∀ (KB NB : Nat) (hKB : KB ≤ 600400) (hNB : NB ≤ 7204000) (k23 : Int32 → LY → CM → RM → Prop) (hk23 : ∀ (v4 : Int32) (T : LY) (M : CM) (N : RM) (H : Heap) (locs : List Loc) (ls : Array Slot), lH D kA hm ad (fun q : Nat => s.heap.size ≤ q) s.heap T M N H locs → lv_has ls 9 [(0, .ref b), (1, .ref px), (2, .ref hm), (3, .ref po), (4, .int v4)] → k23 v4 T M N → W p l e room_1 s m #[Value.ref b] below meth c H locs KB NB (lw_Z below #[Value.ref b] s) (F0 m 23 ls [])) (v4 : Int32) (T : LY) (M : CM) (N : RM) (H : Heap) (locs : List Loc) (ls : Array Slot), lH D kA hm ad (fun q : Nat => s.heap.size ≤ q) s.heap T M N H locs → lv_has ls 9 [(0, .ref b), (1, .ref px), (2, .ref hm), (3, .ref po), (4, .int v4)] → fL_b650 nm xs L px po True k23 v4 T M N → W p l e room_1 s m #[Value.ref b] below meth c H locs KB NB (lw_Z below #[Value.ref b] s) (F0 m 650 ls []) := by
    intro KB NB hKB hNB k23 hk23 v4 T M N H locs ls hH hl hw
    unfold fL_b650 at hw
    refine lv_goto (tgt := 935) hx hb dL_law_650 (by decide) ?_
    refine W.widen (k := KB) (n := NB) (by omega) (by omega) ?_
    exact b935 _ _ (by omega) (by omega) _ hk23 v4 T M N H locs ls hH (lv_sub hl [0, 1, 2, 3, 4] rfl) hw
  have b582 : ∀ (KB NB : Nat) (hKB : KB ≤ 600400) (hNB : NB ≤ 7204000) (k23 : Int32 → LY → CM → RM → Prop) (hk23 : ∀ (v4 : Int32) (T : LY) (M : CM) (N : RM) (H : Heap) (locs : List Loc) (ls : Array Slot), lH D kA hm ad (fun q : Nat => s.heap.size ≤ q) s.heap T M N H locs → lv_has ls 9 [(0, .ref b), (1, .ref px), (2, .ref hm), (3, .ref po), (4, .int v4)] → k23 v4 T M N → W p l e room_1 s m #[Value.ref b] below meth c H locs KB NB (lw_Z below #[Value.ref b] s) (F0 m 23 ls [])) (v4 : Int32) (T : LY) (M : CM) (N : RM) (H : Heap) (locs : List Loc) (ls : Array Slot), lH D kA hm ad (fun q : Nat => s.heap.size ≤ q) s.heap T M N H locs → lv_has ls 9 [(0, .ref b), (1, .ref px), (2, .ref hm), (3, .ref po), (4, .int v4)] → fL_b582 nm xs L px po True k23 v4 T M N → W p l e room_1 s m #[Value.ref b] below meth c H locs KB NB (lw_Z below #[Value.ref b] s) (F0 m 582 ls []) := by
    intro KB NB hKB hNB k23 hk23 v4 T M N H locs ls hH hl hw
    unfold fL_b582 at hw
    refine lv_goto (tgt := 935) hx hb dL_law_582 (by decide) ?_
    refine W.widen (k := KB) (n := NB) (by omega) (by omega) ?_
    exact b935 _ _ (by omega) (by omega) _ hk23 v4 T M N H locs ls hH (lv_sub hl [0, 1, 2, 3, 4] rfl) hw
  have b514 : ∀ (KB NB : Nat) (hKB : KB ≤ 600400) (hNB : NB ≤ 7204000) (k23 : Int32 → LY → CM → RM → Prop) (hk23 : ∀ (v4 : Int32) (T : LY) (M : CM) (N : RM) (H : Heap) (locs : List Loc) (ls : Array Slot), lH D kA hm ad (fun q : Nat => s.heap.size ≤ q) s.heap T M N H locs → lv_has ls 9 [(0, .ref b), (1, .ref px), (2, .ref hm), (3, .ref po), (4, .int v4)] → k23 v4 T M N → W p l e room_1 s m #[Value.ref b] below meth c H locs KB NB (lw_Z below #[Value.ref b] s) (F0 m 23 ls [])) (v4 : Int32) (T : LY) (M : CM) (N : RM) (H : Heap) (locs : List Loc) (ls : Array Slot), lH D kA hm ad (fun q : Nat => s.heap.size ≤ q) s.heap T M N H locs → lv_has ls 9 [(0, .ref b), (1, .ref px), (2, .ref hm), (3, .ref po), (4, .int v4)] → fL_b514 nm xs L px po True k23 v4 T M N → W p l e room_1 s m #[Value.ref b] below meth c H locs KB NB (lw_Z below #[Value.ref b] s) (F0 m 514 ls []) := by
    intro KB NB hKB hNB k23 hk23 v4 T M N H locs ls hH hl hw
    unfold fL_b514 at hw
    refine lv_goto (tgt := 935) hx hb dL_law_514 (by decide) ?_
    refine W.widen (k := KB) (n := NB) (by omega) (by omega) ?_
    exact b935 _ _ (by omega) (by omega) _ hk23 v4 T M N H locs ls hH (lv_sub hl [0, 1, 2, 3, 4] rfl) hw
  have b303 : ∀ (KB NB : Nat) (hKB : KB ≤ 600400) (hNB : NB ≤ 7204000) (k23 : Int32 → LY → CM → RM → Prop) (hk23 : ∀ (v4 : Int32) (T : LY) (M : CM) (N : RM) (H : Heap) (locs : List Loc) (ls : Array Slot), lH D kA hm ad (fun q : Nat => s.heap.size ≤ q) s.heap T M N H locs → lv_has ls 9 [(0, .ref b), (1, .ref px), (2, .ref hm), (3, .ref po), (4, .int v4)] → k23 v4 T M N → W p l e room_1 s m #[Value.ref b] below meth c H locs KB NB (lw_Z below #[Value.ref b] s) (F0 m 23 ls [])) (v4 : Int32) (T : LY) (M : CM) (N : RM) (H : Heap) (locs : List Loc) (ls : Array Slot), lH D kA hm ad (fun q : Nat => s.heap.size ≤ q) s.heap T M N H locs → lv_has ls 9 [(0, .ref b), (1, .ref px), (2, .ref hm), (3, .ref po), (4, .int v4)] → fL_b303 nm xs L px po True k23 v4 T M N → W p l e room_1 s m #[Value.ref b] below meth c H locs KB NB (lw_Z below #[Value.ref b] s) (F0 m 303 ls []) := by
    intro KB NB hKB hNB k23 hk23 v4 T M N H locs ls hH hl hw
    unfold fL_b303 at hw
    refine lv_goto (tgt := 935) hx hb dL_law_303 (by decide) ?_
    refine W.widen (k := KB) (n := NB) (by omega) (by omega) ?_
    exact b935 _ _ (by omega) (by omega) _ hk23 v4 T M N H locs ls hH (lv_sub hl [0, 1, 2, 3, 4] rfl) hw
  have b221 : ∀ (KB NB : Nat) (hKB : KB ≤ 600400) (hNB : NB ≤ 7204000) (k23 : Int32 → LY → CM → RM → Prop) (hk23 : ∀ (v4 : Int32) (T : LY) (M : CM) (N : RM) (H : Heap) (locs : List Loc) (ls : Array Slot), lH D kA hm ad (fun q : Nat => s.heap.size ≤ q) s.heap T M N H locs → lv_has ls 9 [(0, .ref b), (1, .ref px), (2, .ref hm), (3, .ref po), (4, .int v4)] → k23 v4 T M N → W p l e room_1 s m #[Value.ref b] below meth c H locs KB NB (lw_Z below #[Value.ref b] s) (F0 m 23 ls [])) (v4 : Int32) (T : LY) (M : CM) (N : RM) (H : Heap) (locs : List Loc) (ls : Array Slot), lH D kA hm ad (fun q : Nat => s.heap.size ≤ q) s.heap T M N H locs → lv_has ls 9 [(0, .ref b), (1, .ref px), (2, .ref hm), (3, .ref po), (4, .int v4)] → fL_b221 nm xs L px po True k23 v4 T M N → W p l e room_1 s m #[Value.ref b] below meth c H locs KB NB (lw_Z below #[Value.ref b] s) (F0 m 221 ls []) := by
    intro KB NB hKB hNB k23 hk23 v4 T M N H locs ls hH hl hw
    unfold fL_b221 at hw
    refine lv_goto (tgt := 935) hx hb dL_law_221 (by decide) ?_
    refine W.widen (k := KB) (n := NB) (by omega) (by omega) ?_
    exact b935 _ _ (by omega) (by omega) _ hk23 v4 T M N H locs ls hH (lv_sub hl [0, 1, 2, 3, 4] rfl) hw
  intro nn
  induction nn with
  | zero => intro v4 T M N H locs ls K Nn hKB hNB hH hl hw; exact False.elim hw
  | succ nn ih =>
    intro v4 T M N H locs ls K Nn hKB hNB hH hl hw
    obtain ⟨KB, eKB⟩ : ∃ z, z = K + 300 := ⟨_, rfl⟩
    obtain ⟨NB, eNB⟩ : ∃ z, z = Nn + 3000 := ⟨_, rfl⟩
    have hk23 : ∀ (v4 : Int32) (T : LY) (M : CM) (N : RM) (H : Heap) (locs : List Loc) (ls : Array Slot), lH D kA hm ad (fun q : Nat => s.heap.size ≤ q) s.heap T M N H locs → lv_has ls 9 [(0, .ref b), (1, .ref px), (2, .ref hm), (3, .ref po), (4, .int v4)] → fL_l23 nm xs L px po True nn v4 T M N → W p l e room_1 s m #[Value.ref b] below meth c H locs KB NB (lw_Z below #[Value.ref b] s) (F0 m 23 ls []) := fun v4 T M N H locs ls a1 a2 a3 => ih v4 T M N H locs ls KB NB (by omega) (by omega) a1 a2 a3
    clear ih
    replace hw : fL_c23 nm xs L px po True (fL_l23 nm xs L px po True nn) v4 T M N := hw
    unfold fL_c23 at hw
    refine lv_iload hx hb dL_law_23 (lv_at hl 4 rfl) ?_
    refine lv_aload_n hx hb dL_law_25 rfl (lv_at hl 0 rfl) ?_
    refine va_slen hx hb hX hbl hbA hH.2.2.2.2 dL_law_26 ?_
    refine lv_bipush (v := 6) hx hb dL_law_27 (by decide) ?_
    refine lv_isub hx hb dL_law_29 ?_
    refine lv_icmp_gt (tgt := 941) hx hb dL_law_30 (by decide) (fun c2 => ?_) (fun c2 => ?_)
    · replace hw := hw.1 c2
      refine lv_iconst (v := 1) hx hb dL_law_941 (by decide) ?_
      refine va_forget (fun q hq => hH.2.2.2.2.2.2 q hq) ?_
      refine W.widen (k := 601024) (n := 7293034) (by omega) (by omega) ?_
      refine W.base ?_
      exact lw_ret (Drawn.sameBut.refl s.drawn lw_cs) hx hb hr hlocks dL_law_942
    · replace hw := hw.2 c2
      refine lv_aload_n hx hb dL_law_33 rfl (lv_at hl 0 rfl) ?_
      refine lv_iload hx hb dL_law_34 (lv_at hl 4 rfl) ?_
      obtain ⟨h3, hw⟩ := hw
      refine va_sld hx hb hX hbl hbA hH.2.2.2.2 h3 dL_law_36 ?_
      refine lv_bipush (v := 15) hx hb dL_law_37 (by decide) ?_
      refine lv_iand hx hb dL_law_39 ?_
      by_cases c0 : (xs v4.toNatClampNeg) &&& 15 = 0
      · replace hw := hw.1 c0
        refine lv_tableIn (off := 80) (tgt := 120) hx hb dL_law_40 (by rw [c0]; decide) (by rw [c0]; decide) (by rw [c0]; rfl) (by decide) ?_
        refine lv_aload_n hx hb dL_law_120 rfl (lv_at hl 1 rfl) ?_
        refine lv_aload_n hx hb dL_law_121 rfl (lv_at hl 0 rfl) ?_
        refine lv_iload hx hb dL_law_122 (lv_at hl 4 rfl) ?_
        refine lv_iconst (v := 1) hx hb dL_law_124 (by decide) ?_
        refine lv_iadd hx hb dL_law_125 ?_
        obtain ⟨h4, hw⟩ := hw
        refine va_sld hx hb hX hbl hbA hH.2.2.2.2 h4 dL_law_126 ?_
        refine lv_aload_n hx hb dL_law_127 rfl (lv_at hl 0 rfl) ?_
        refine lv_iload hx hb dL_law_128 (lv_at hl 4 rfl) ?_
        refine lv_iconst (v := 2) hx hb dL_law_130 (by decide) ?_
        refine lv_iadd hx hb dL_law_131 ?_
        obtain ⟨h5, hw⟩ := hw
        refine va_sld hx hb hX hbl hbA hH.2.2.2.2 h5 dL_law_132 ?_
        refine lv_aload_n hx hb dL_law_133 rfl (lv_at hl 0 rfl) ?_
        refine lv_iload hx hb dL_law_134 (lv_at hl 4 rfl) ?_
        refine lv_iconst (v := 3) hx hb dL_law_136 (by decide) ?_
        refine lv_iadd hx hb dL_law_137 ?_
        obtain ⟨h6, hw⟩ := hw
        refine va_sld hx hb hX hbl hbA hH.2.2.2.2 h6 dL_law_138 ?_
        refine lv_aload_n hx hb dL_law_139 rfl (lv_at hl 0 rfl) ?_
        refine lv_iload hx hb dL_law_140 (lv_at hl 4 rfl) ?_
        refine lv_iconst (v := 4) hx hb dL_law_142 (by decide) ?_
        refine lv_iadd hx hb dL_law_143 ?_
        obtain ⟨h7, hw⟩ := hw
        refine va_sld hx hb hX hbl hbA hH.2.2.2.2 h7 dL_law_144 ?_
        refine lv_aload_n hx hb dL_law_145 rfl (lv_at hl 0 rfl) ?_
        refine lv_iload hx hb dL_law_146 (lv_at hl 4 rfl) ?_
        refine lv_iconst (v := 5) hx hb dL_law_148 (by decide) ?_
        refine lv_iadd hx hb dL_law_149 ?_
        obtain ⟨h8, hw⟩ := hw
        refine va_sld hx hb hX hbl hbA hH.2.2.2.2 h8 dL_law_150 ?_
        refine lv_aload_n hx hb dL_law_151 rfl (lv_at hl 3 rfl) ?_
        refine lc_calli (vx_runSW (As := [va_rf (some px), .int (xs (v4 + 1).toNatClampNeg), .int (xs (v4 + 2).toNatClampNeg), .int (xs (v4 + 3).toNatClampNeg), .int (xs (v4 + 4).toNatClampNeg), .int (xs (v4 + 5).toNatClampNeg), va_rf (some po)]) (rest := []) ⟨hx, hb, hml, hown, hts⟩ (tc_L_type l hst0 D kA nm na sa sv H.size T (some px) (xs (v4 + 1).toNatClampNeg) (xs (v4 + 2).toNatClampNeg) (xs (v4 + 3).toNatClampNeg) (xs (v4 + 4).toNatClampNeg) (xs (v4 + 5).toNatClampNeg) (some po) M _ hw) (vx_cwSW 7 hts gL_law_L_type rfl rfl rfl (by decide +kernel) ⟨(show (7 : Nat) + 1 ≤ 14 from Nat.le_of_ble_eq_true rfl), (show 8 + (8 + 11) + (108 : Nat) ≤ 554 from Nat.le_of_ble_eq_true rfl)⟩) (c_preS hK (lH_toC hH) hA hSt) rfl rfl hl.1 rfl (lv_room (by first | exact Nat.le_of_ble_eq_true rfl | simp [va_rf_cat, cat_ref, cat_int, cat_long, cat_double, cat_null])) dL_law_152 ⟨by show _ ≤ 601024; omega, by show _ ≤ 7293034; omega⟩) hH hA (fun r9 M10 H locs hw hH => ?_)
        refine lv_istore (i := 5) (lv' := [(5, .int r9), (0, .ref b), (1, .ref px), (2, .ref hm), (3, .ref po), (4, .int v4)]) hx hb dL_law_155 hl (by decide) rfl (fun ls hl => ?_)
        refine lv_aload_n hx hb dL_law_157 rfl (lv_at hl 3 rfl) ?_
        refine lv_aload_n hx hb dL_law_158 rfl (lv_at hl 1 rfl) ?_
        refine lv_iload hx hb dL_law_159 (lv_at hl 5 rfl) ?_
        refine lv_iconst (v := 1) hx hb dL_law_161 (by decide) ?_
        refine lv_iadd hx hb dL_law_162 ?_
        refine va_sld hx hb hX hbl hbA hH.2.2.2.2 h4 dL_law_163 ?_
        refine lv_aload_n hx hb dL_law_164 rfl (lv_at hl 1 rfl) ?_
        refine lv_iload hx hb dL_law_165 (lv_at hl 5 rfl) ?_
        refine lv_iconst (v := 2) hx hb dL_law_167 (by decide) ?_
        refine lv_iadd hx hb dL_law_168 ?_
        refine va_sld hx hb hX hbl hbA hH.2.2.2.2 h5 dL_law_169 ?_
        refine lv_aload_n hx hb dL_law_170 rfl (lv_at hl 1 rfl) ?_
        refine lv_iload hx hb dL_law_171 (lv_at hl 5 rfl) ?_
        refine lv_iconst (v := 3) hx hb dL_law_173 (by decide) ?_
        refine lv_iadd hx hb dL_law_174 ?_
        refine va_sld hx hb hX hbl hbA hH.2.2.2.2 h6 dL_law_175 ?_
        refine lv_aload_n hx hb dL_law_176 rfl (lv_at hl 1 rfl) ?_
        refine lv_iload hx hb dL_law_177 (lv_at hl 5 rfl) ?_
        refine lv_iconst (v := 4) hx hb dL_law_179 (by decide) ?_
        refine lv_iadd hx hb dL_law_180 ?_
        refine va_sld hx hb hX hbl hbA hH.2.2.2.2 h7 dL_law_181 ?_
        refine lv_aload_n hx hb dL_law_182 rfl (lv_at hl 1 rfl) ?_
        refine lv_iload hx hb dL_law_183 (lv_at hl 5 rfl) ?_
        refine lv_iconst (v := 5) hx hb dL_law_185 (by decide) ?_
        refine lv_iadd hx hb dL_law_186 ?_
        refine va_sld hx hb hX hbl hbA hH.2.2.2.2 h8 dL_law_187 ?_
        refine lr_calli (va_runV (As := [.int (xs (v4 + 1).toNatClampNeg), .int (xs (v4 + 2).toNatClampNeg), .int (xs (v4 + 3).toNatClampNeg), .int (xs (v4 + 4).toNatClampNeg), .int (xs (v4 + 5).toNatClampNeg)]) (rest := []) ⟨hx, hb, hml, hown, hts⟩ (tm_type l D kA hm ad H.size N (xs (v4 + 1).toNatClampNeg) (xs (v4 + 2).toNatClampNeg) (xs (v4 + 3).toNatClampNeg) (xs (v4 + 4).toNatClampNeg) (xs (v4 + 5).toNatClampNeg) _ hw) (cwV 5 hts gL_law_X11_type rfl rfl rfl (by decide +kernel) ⟨(show (1 : Nat) + 1 ≤ 14 from Nat.le_of_ble_eq_true rfl), (show 8 + (10 + 11) + (23 : Nat) ≤ 554 from Nat.le_of_ble_eq_true rfl)⟩) (r_preV hK (lH_toR hH)) rfl rfl hl.1 rfl (lv_room (by first | exact Nat.le_of_ble_eq_true rfl | simp [va_rf_cat, cat_ref, cat_int, cat_long, cat_double, cat_null])) dL_law_188 ⟨by show _ ≤ 601024; omega, by show _ ≤ 7293034; omega⟩) hH hA (fun r13 N16 H locs hw hH => ?_)
        refine lv_istore (i := 6) (lv' := [(6, .int r13), (5, .int r9), (0, .ref b), (1, .ref px), (2, .ref hm), (3, .ref po), (4, .int v4)]) hx hb dL_law_191 hl (by decide) rfl (fun ls hl => ?_)
        refine lv_aload_n hx hb dL_law_193 rfl (lv_at hl 4 rfl) ?_
        refine lr_calli (va_runV (As := []) (rest := []) ⟨hx, hb, hml, hown, hts⟩ (tm_thrown l D kA hm ad H.size N16  _ hw) (cwV 0 hts gL_law_X11_thrown rfl rfl rfl (by decide +kernel) ⟨(show (0 : Nat) + 1 ≤ 14 from Nat.le_of_ble_eq_true rfl), (show 8 + (1 + 11) + (0 : Nat) ≤ 554 from Nat.le_of_ble_eq_true rfl)⟩) (r_preV hK (lH_toR hH)) rfl rfl hl.1 rfl (lv_room (by first | exact Nat.le_of_ble_eq_true rfl | simp [va_rf_cat, cat_ref, cat_int, cat_long, cat_double, cat_null])) dL_law_194 ⟨by show _ ≤ 601024; omega, by show _ ≤ 7293034; omega⟩) hH hA (fun r17 N20 H locs hw hH => ?_)
        refine lv_iload hx hb dL_law_197 (lv_at hl 1 rfl) ?_
        refine lv_icmp_eq (tgt := 204) hx hb dL_law_199 (by decide) (fun c21 => ?_) (fun c21 => ?_)
        · replace hw := hw.1 c21
          refine lv_iload hx hb dL_law_204 (lv_at hl 1 rfl) ?_
          refine lv_if_ne (tgt := 221) hx hb dL_law_206 (by decide) (fun c22 => ?_) (fun c22 => ?_)
          · replace hw := hw.1 c22
            refine W.widen (k := KB) (n := NB) (by omega) (by omega) ?_
            exact b221 _ _ (by omega) (by omega) _ hk23 v4 T M10 N20 H locs ls hH (lv_sub hl [2, 3, 4, 5, 6] rfl) hw
          · replace hw := hw.2 c22
            refine lv_aload_n hx hb dL_law_209 rfl (lv_at hl 5 rfl) ?_
            refine lv_iconst (v := 0) hx hb dL_law_210 (by decide) ?_
            obtain ⟨h23, hw⟩ := hw
            obtain ⟨h24, hw⟩ := hw
            refine cl_3 hx hb hK (lH_toC hH) h23 h24 dL_law_211 ?_
            refine lv_iload hx hb dL_law_212 (lv_at hl 0 rfl) ?_
            refine lv_i2l hx hb dL_law_214 rfl ?_
            refine W.lcmp hx hb dL_law_215 ?_
            refine lv_if_eq (tgt := 221) hx hb dL_law_216 (by decide) (fun c25 => ?_) (fun c25 => ?_)
            · replace hw := hw.1 c25
              refine W.widen (k := KB) (n := NB) (by omega) (by omega) ?_
              exact b221 _ _ (by omega) (by omega) _ hk23 v4 T M10 N20 H locs ls hH (lv_sub hl [2, 3, 4, 5, 6] rfl) hw
            · replace hw := hw.2 c25
              refine lv_iconst (v := 0) hx hb dL_law_219 (by decide) ?_
              exact False.elim hw
        · replace hw := hw.2 c21
          refine lv_iconst (v := 0) hx hb dL_law_202 (by decide) ?_
          exact False.elim hw
      by_cases c1 : (xs v4.toNatClampNeg) &&& 15 = 1
      · replace hw := hw.2.1 c1
        refine lv_tableIn (off := 184) (tgt := 224) hx hb dL_law_40 (by rw [c1]; decide) (by rw [c1]; decide) (by rw [c1]; rfl) (by decide) ?_
        refine lv_aload_n hx hb dL_law_224 rfl (lv_at hl 1 rfl) ?_
        obtain ⟨h30, hw⟩ := hw
        refine lc_calli (va_runV (As := []) (rest := []) ⟨hx, hb, hml, hown, hts⟩ (tc_X10_erase l D kA nm na sa sv H.size T px  M _ hw) (cwV 0 hts gL_law_X10_erase rfl rfl rfl (by decide +kernel) ⟨(show (0 : Nat) + 1 ≤ 14 from Nat.le_of_ble_eq_true rfl), (show 8 + (2 + 11) + (0 : Nat) ≤ 554 from Nat.le_of_ble_eq_true rfl)⟩) (c_preV hK (lH_toC hH) hA hSt (c_recv10 hK (lH_toC hH) h30)) rfl rfl hl.1 rfl (lv_room (by first | exact Nat.le_of_ble_eq_true rfl | simp [va_rf_cat, cat_ref, cat_int, cat_long, cat_double, cat_null])) dL_law_225 ⟨by show _ ≤ 601024; omega, by show _ ≤ 7293034; omega⟩) hH hA (fun r26 M27 H locs hw hH => ?_)
        refine lv_aload_n hx hb dL_law_228 rfl (lv_at hl 2 rfl) ?_
        refine lr_calli (va_runV (As := []) (rest := [.int r26]) ⟨hx, hb, hml, hown, hts⟩ (tm_erase l D kA hm ad H.size N  _ hw) (cwV 0 hts gL_law_X11_erase rfl rfl rfl (by decide +kernel) ⟨(show (0 : Nat) + 1 ≤ 14 from Nat.le_of_ble_eq_true rfl), (show 8 + (2 + 11) + (0 : Nat) ≤ 554 from Nat.le_of_ble_eq_true rfl)⟩) (r_preV hK (lH_toR hH)) rfl rfl hl.1 rfl (lv_room (by first | exact Nat.le_of_ble_eq_true rfl | simp [va_rf_cat, cat_ref, cat_int, cat_long, cat_double, cat_null])) dL_law_229 ⟨by show _ ≤ 601024; omega, by show _ ≤ 7293034; omega⟩) hH hA (fun r31 N34 H locs hw hH => ?_)
        refine lv_icmp_eq (tgt := 935) hx hb dL_law_232 (by decide) (fun c35 => ?_) (fun c35 => ?_)
        · replace hw := hw.1 c35
          refine W.widen (k := KB) (n := NB) (by omega) (by omega) ?_
          exact b935 _ _ (by omega) (by omega) _ hk23 v4 T M27 N34 H locs ls hH (lv_sub hl [0, 1, 2, 3, 4] rfl) hw
        · replace hw := hw.2 c35
          refine lv_iconst (v := 0) hx hb dL_law_235 (by decide) ?_
          exact False.elim hw
      by_cases c2 : (xs v4.toNatClampNeg) &&& 15 = 2
      · replace hw := hw.2.2.1 c2
        refine lv_tableIn (off := 197) (tgt := 237) hx hb dL_law_40 (by rw [c2]; decide) (by rw [c2]; decide) (by rw [c2]; rfl) (by decide) ?_
        refine lv_aload_n hx hb dL_law_237 rfl (lv_at hl 1 rfl) ?_
        obtain ⟨h40, hw⟩ := hw
        obtain ⟨cc41, nz42, hcc41, hnz42, hw⟩ := hw
        refine lc_callTi (va_runV (As := []) (rest := []) ⟨hx, hb, hml, hown, hts⟩ (tc_X10_define l D kA nm na sa sv H.size cc41 nz42 px  T M _ hw) (cwV 0 hts gL_law_X10_define rfl rfl rfl (by decide +kernel) ⟨(show (10 : Nat) + 1 ≤ 14 from Nat.le_of_ble_eq_true rfl), (show 8 + (3 + 11) + (234 : Nat) ≤ 554 from Nat.le_of_ble_eq_true rfl)⟩) (c_preV hK (lH_toC hH) hA hSt (c_recv10 hK (lH_toC hH) h40)) rfl rfl hl.1 rfl (lv_room (by first | exact Nat.le_of_ble_eq_true rfl | simp [va_rf_cat, cat_ref, cat_int, cat_long, cat_double, cat_null])) dL_law_238 ⟨by show _ ≤ 601024; omega, by show _ ≤ 7293034; omega⟩) hH hA (fun r36 T38 M37 H locs hw hH => ?_)
        refine lv_aload_n hx hb dL_law_241 rfl (lv_at hl 2 rfl) ?_
        refine lr_calli (va_runV (As := []) (rest := [.int r36]) ⟨hx, hb, hml, hown, hts⟩ (tm_define l D kA hm ad H.size N  _ hw) (cwV 0 hts gL_law_X11_define rfl rfl rfl (by decide +kernel) ⟨(show (7 : Nat) + 1 ≤ 14 from Nat.le_of_ble_eq_true rfl), (show 8 + (6 + 11) + (156 : Nat) ≤ 554 from Nat.le_of_ble_eq_true rfl)⟩) (r_preV hK (lH_toR hH)) rfl rfl hl.1 rfl (lv_room (by first | exact Nat.le_of_ble_eq_true rfl | simp [va_rf_cat, cat_ref, cat_int, cat_long, cat_double, cat_null])) dL_law_242 ⟨by show _ ≤ 601024; omega, by show _ ≤ 7293034; omega⟩) hH hA (fun r43 N46 H locs hw hH => ?_)
        refine lv_icmp_eq (tgt := 935) hx hb dL_law_245 (by decide) (fun c47 => ?_) (fun c47 => ?_)
        · replace hw := hw.1 c47
          refine W.widen (k := KB) (n := NB) (by omega) (by omega) ?_
          exact b935 _ _ (by omega) (by omega) _ hk23 v4 T38 M37 N46 H locs ls hH (lv_sub hl [0, 1, 2, 3, 4] rfl) hw
        · replace hw := hw.2 c47
          refine lv_iconst (v := 0) hx hb dL_law_248 (by decide) ?_
          exact False.elim hw
      by_cases c3 : (xs v4.toNatClampNeg) &&& 15 = 3
      · replace hw := hw.2.2.2.1 c3
        refine lv_tableIn (off := 210) (tgt := 250) hx hb dL_law_40 (by rw [c3]; decide) (by rw [c3]; decide) (by rw [c3]; rfl) (by decide) ?_
        refine lv_aload_n hx hb dL_law_250 rfl (lv_at hl 1 rfl) ?_
        refine lv_aload_n hx hb dL_law_251 rfl (lv_at hl 0 rfl) ?_
        refine lv_iload hx hb dL_law_252 (lv_at hl 4 rfl) ?_
        refine lv_iconst (v := 1) hx hb dL_law_254 (by decide) ?_
        refine lv_iadd hx hb dL_law_255 ?_
        obtain ⟨h48, hw⟩ := hw
        refine va_sld hx hb hX hbl hbA hH.2.2.2.2 h48 dL_law_256 ?_
        refine lv_aload_n hx hb dL_law_257 rfl (lv_at hl 3 rfl) ?_
        refine lc_calli (vx_runSW (As := [va_rf (some px), .int (xs (v4 + 1).toNatClampNeg), va_rf (some po)]) (rest := []) ⟨hx, hb, hml, hown, hts⟩ (tc_L_drop l hst0 D kA nm na sa sv H.size T (some px) (xs (v4 + 1).toNatClampNeg) (some po) M _ hw) (vx_cwSW 3 hts gL_law_L_drop rfl rfl rfl (by decide +kernel) ⟨(show (7 : Nat) + 1 ≤ 14 from Nat.le_of_ble_eq_true rfl), (show 8 + (4 + 11) + (105 : Nat) ≤ 554 from Nat.le_of_ble_eq_true rfl)⟩) (c_preS hK (lH_toC hH) hA hSt) rfl rfl hl.1 rfl (lv_room (by first | exact Nat.le_of_ble_eq_true rfl | simp [va_rf_cat, cat_ref, cat_int, cat_long, cat_double, cat_null])) dL_law_258 ⟨by show _ ≤ 601024; omega, by show _ ≤ 7293034; omega⟩) hH hA (fun r49 M50 H locs hw hH => ?_)
        refine lv_istore (i := 5) (lv' := [(5, .int r49), (0, .ref b), (1, .ref px), (2, .ref hm), (3, .ref po), (4, .int v4)]) hx hb dL_law_261 hl (by decide) rfl (fun ls hl => ?_)
        refine lv_aload_n hx hb dL_law_263 rfl (lv_at hl 3 rfl) ?_
        refine lv_aload_n hx hb dL_law_264 rfl (lv_at hl 1 rfl) ?_
        refine lv_iload hx hb dL_law_265 (lv_at hl 5 rfl) ?_
        refine lv_iconst (v := 1) hx hb dL_law_267 (by decide) ?_
        refine lv_iadd hx hb dL_law_268 ?_
        refine va_sld hx hb hX hbl hbA hH.2.2.2.2 h48 dL_law_269 ?_
        refine lr_calli (va_runV (As := [.int (xs (v4 + 1).toNatClampNeg)]) (rest := []) ⟨hx, hb, hml, hown, hts⟩ (tm_drop l D kA hm ad H.size N (xs (v4 + 1).toNatClampNeg) _ hw) (cwV 1 hts gL_law_X11_drop rfl rfl rfl (by decide +kernel) ⟨(show (1 : Nat) + 1 ≤ 14 from Nat.le_of_ble_eq_true rfl), (show 8 + (3 + 11) + (22 : Nat) ≤ 554 from Nat.le_of_ble_eq_true rfl)⟩) (r_preV hK (lH_toR hH)) rfl rfl hl.1 rfl (lv_room (by first | exact Nat.le_of_ble_eq_true rfl | simp [va_rf_cat, cat_ref, cat_int, cat_long, cat_double, cat_null])) dL_law_270 ⟨by show _ ≤ 601024; omega, by show _ ≤ 7293034; omega⟩) hH hA (fun r53 N56 H locs hw hH => ?_)
        refine lv_istore (i := 6) (lv' := [(6, .int r53), (5, .int r49), (0, .ref b), (1, .ref px), (2, .ref hm), (3, .ref po), (4, .int v4)]) hx hb dL_law_273 hl (by decide) rfl (fun ls hl => ?_)
        refine lv_aload_n hx hb dL_law_275 rfl (lv_at hl 4 rfl) ?_
        refine lr_calli (va_runV (As := []) (rest := []) ⟨hx, hb, hml, hown, hts⟩ (tm_thrown l D kA hm ad H.size N56  _ hw) (cwV 0 hts gL_law_X11_thrown rfl rfl rfl (by decide +kernel) ⟨(show (0 : Nat) + 1 ≤ 14 from Nat.le_of_ble_eq_true rfl), (show 8 + (1 + 11) + (0 : Nat) ≤ 554 from Nat.le_of_ble_eq_true rfl)⟩) (r_preV hK (lH_toR hH)) rfl rfl hl.1 rfl (lv_room (by first | exact Nat.le_of_ble_eq_true rfl | simp [va_rf_cat, cat_ref, cat_int, cat_long, cat_double, cat_null])) dL_law_276 ⟨by show _ ≤ 601024; omega, by show _ ≤ 7293034; omega⟩) hH hA (fun r57 N60 H locs hw hH => ?_)
        refine lv_iload hx hb dL_law_279 (lv_at hl 1 rfl) ?_
        refine lv_icmp_eq (tgt := 286) hx hb dL_law_281 (by decide) (fun c61 => ?_) (fun c61 => ?_)
        · replace hw := hw.1 c61
          refine lv_iload hx hb dL_law_286 (lv_at hl 1 rfl) ?_
          refine lv_if_ne (tgt := 303) hx hb dL_law_288 (by decide) (fun c62 => ?_) (fun c62 => ?_)
          · replace hw := hw.1 c62
            refine W.widen (k := KB) (n := NB) (by omega) (by omega) ?_
            exact b303 _ _ (by omega) (by omega) _ hk23 v4 T M50 N60 H locs ls hH (lv_sub hl [2, 3, 4, 5, 6] rfl) hw
          · replace hw := hw.2 c62
            refine lv_aload_n hx hb dL_law_291 rfl (lv_at hl 5 rfl) ?_
            refine lv_iconst (v := 0) hx hb dL_law_292 (by decide) ?_
            obtain ⟨h63, hw⟩ := hw
            obtain ⟨h64, hw⟩ := hw
            refine cl_3 hx hb hK (lH_toC hH) h63 h64 dL_law_293 ?_
            refine lv_iload hx hb dL_law_294 (lv_at hl 0 rfl) ?_
            refine lv_i2l hx hb dL_law_296 rfl ?_
            refine W.lcmp hx hb dL_law_297 ?_
            refine lv_if_eq (tgt := 303) hx hb dL_law_298 (by decide) (fun c65 => ?_) (fun c65 => ?_)
            · replace hw := hw.1 c65
              refine W.widen (k := KB) (n := NB) (by omega) (by omega) ?_
              exact b303 _ _ (by omega) (by omega) _ hk23 v4 T M50 N60 H locs ls hH (lv_sub hl [2, 3, 4, 5, 6] rfl) hw
            · replace hw := hw.2 c65
              refine lv_iconst (v := 0) hx hb dL_law_301 (by decide) ?_
              exact False.elim hw
        · replace hw := hw.2 c61
          refine lv_iconst (v := 0) hx hb dL_law_284 (by decide) ?_
          exact False.elim hw
      by_cases c4 : (xs v4.toNatClampNeg) &&& 15 = 4
      · replace hw := hw.2.2.2.2.1 c4
        refine lv_tableIn (off := 266) (tgt := 306) hx hb dL_law_40 (by rw [c4]; decide) (by rw [c4]; decide) (by rw [c4]; rfl) (by decide) ?_
        refine lv_aload_n hx hb dL_law_306 rfl (lv_at hl 1 rfl) ?_
        obtain ⟨h70, hw⟩ := hw
        refine lc_calli (va_runV (As := []) (rest := []) ⟨hx, hb, hml, hown, hts⟩ (tc_X10_place l D kA nm na sa sv H.size T px  M _ hw) (cwV 0 hts gL_law_X10_place rfl rfl rfl (by decide +kernel) ⟨(show (0 : Nat) + 1 ≤ 14 from Nat.le_of_ble_eq_true rfl), (show 8 + (1 + 11) + (0 : Nat) ≤ 554 from Nat.le_of_ble_eq_true rfl)⟩) (c_preV hK (lH_toC hH) hA hSt (c_recv10 hK (lH_toC hH) h70)) rfl rfl hl.1 rfl (lv_room (by first | exact Nat.le_of_ble_eq_true rfl | simp [va_rf_cat, cat_ref, cat_int, cat_long, cat_double, cat_null])) dL_law_307 ⟨by show _ ≤ 601024; omega, by show _ ≤ 7293034; omega⟩) hH hA (fun r66 M67 H locs hw hH => ?_)
        refine lv_aload_n hx hb dL_law_310 rfl (lv_at hl 2 rfl) ?_
        refine lr_calli (va_runV (As := []) (rest := [.int r66]) ⟨hx, hb, hml, hown, hts⟩ (tm_place l D kA hm ad H.size N  _ hw) (cwV 0 hts gL_law_X11_place rfl rfl rfl (by decide +kernel) ⟨(show (0 : Nat) + 1 ≤ 14 from Nat.le_of_ble_eq_true rfl), (show 8 + (1 + 11) + (0 : Nat) ≤ 554 from Nat.le_of_ble_eq_true rfl)⟩) (r_preV hK (lH_toR hH)) rfl rfl hl.1 rfl (lv_room (by first | exact Nat.le_of_ble_eq_true rfl | simp [va_rf_cat, cat_ref, cat_int, cat_long, cat_double, cat_null])) dL_law_311 ⟨by show _ ≤ 601024; omega, by show _ ≤ 7293034; omega⟩) hH hA (fun r71 N74 H locs hw hH => ?_)
        refine lv_icmp_eq (tgt := 935) hx hb dL_law_314 (by decide) (fun c75 => ?_) (fun c75 => ?_)
        · replace hw := hw.1 c75
          refine W.widen (k := KB) (n := NB) (by omega) (by omega) ?_
          exact b935 _ _ (by omega) (by omega) _ hk23 v4 T M67 N74 H locs ls hH (lv_sub hl [0, 1, 2, 3, 4] rfl) hw
        · replace hw := hw.2 c75
          refine lv_iconst (v := 0) hx hb dL_law_317 (by decide) ?_
          exact False.elim hw
      by_cases c5 : (xs v4.toNatClampNeg) &&& 15 = 5
      · replace hw := hw.2.2.2.2.2.1 c5
        refine lv_tableIn (off := 279) (tgt := 319) hx hb dL_law_40 (by rw [c5]; decide) (by rw [c5]; decide) (by rw [c5]; rfl) (by decide) ?_
        refine lv_aload_n hx hb dL_law_319 rfl (lv_at hl 1 rfl) ?_
        refine lv_aload_n hx hb dL_law_320 rfl (lv_at hl 0 rfl) ?_
        refine lv_iload hx hb dL_law_321 (lv_at hl 4 rfl) ?_
        refine lv_iconst (v := 1) hx hb dL_law_323 (by decide) ?_
        refine lv_iadd hx hb dL_law_324 ?_
        obtain ⟨h76, hw⟩ := hw
        refine va_sld hx hb hX hbl hbA hH.2.2.2.2 h76 dL_law_325 ?_
        refine lv_aload_n hx hb dL_law_326 rfl (lv_at hl 0 rfl) ?_
        refine lv_iload hx hb dL_law_327 (lv_at hl 4 rfl) ?_
        refine lv_iconst (v := 2) hx hb dL_law_329 (by decide) ?_
        refine lv_iadd hx hb dL_law_330 ?_
        obtain ⟨h77, hw⟩ := hw
        refine va_sld hx hb hX hbl hbA hH.2.2.2.2 h77 dL_law_331 ?_
        refine lc_calli (vx_runSW (As := [va_rf (some px), .int (xs (v4 + 1).toNatClampNeg), .int (xs (v4 + 2).toNatClampNeg)]) (rest := []) ⟨hx, hb, hml, hown, hts⟩ (tc_L_simple l hst0 D kA nm na sa sv H.size T (some px) (xs (v4 + 1).toNatClampNeg) (xs (v4 + 2).toNatClampNeg) M _ hw) (vx_cwSW 3 hts gL_law_L_simple rfl rfl rfl (by decide +kernel) ⟨(show (7 : Nat) + 1 ≤ 14 from Nat.le_of_ble_eq_true rfl), (show 8 + (4 + 11) + (152 : Nat) ≤ 554 from Nat.le_of_ble_eq_true rfl)⟩) (c_preS hK (lH_toC hH) hA hSt) rfl rfl hl.1 rfl (lv_room (by first | exact Nat.le_of_ble_eq_true rfl | simp [va_rf_cat, cat_ref, cat_int, cat_long, cat_double, cat_null])) dL_law_332 ⟨by show _ ≤ 601024; omega, by show _ ≤ 7293034; omega⟩) hH hA (fun r78 M79 H locs hw hH => ?_)
        refine lv_istore (i := 5) (lv' := [(5, .int r78), (0, .ref b), (1, .ref px), (2, .ref hm), (3, .ref po), (4, .int v4)]) hx hb dL_law_335 hl (by decide) rfl (fun ls hl => ?_)
        refine lv_aload_n hx hb dL_law_337 rfl (lv_at hl 3 rfl) ?_
        refine lv_aload_n hx hb dL_law_338 rfl (lv_at hl 1 rfl) ?_
        refine lv_iload hx hb dL_law_339 (lv_at hl 5 rfl) ?_
        refine lv_iconst (v := 1) hx hb dL_law_341 (by decide) ?_
        refine lv_iadd hx hb dL_law_342 ?_
        refine va_sld hx hb hX hbl hbA hH.2.2.2.2 h76 dL_law_343 ?_
        refine lv_aload_n hx hb dL_law_344 rfl (lv_at hl 1 rfl) ?_
        refine lv_iload hx hb dL_law_345 (lv_at hl 5 rfl) ?_
        refine lv_iconst (v := 2) hx hb dL_law_347 (by decide) ?_
        refine lv_iadd hx hb dL_law_348 ?_
        refine va_sld hx hb hX hbl hbA hH.2.2.2.2 h77 dL_law_349 ?_
        refine lr_callv (va_runV (As := [.int (xs (v4 + 1).toNatClampNeg), .int (xs (v4 + 2).toNatClampNeg)]) (rest := []) ⟨hx, hb, hml, hown, hts⟩ (tm_simple l D kA hm ad H.size N (xs (v4 + 1).toNatClampNeg) (xs (v4 + 2).toNatClampNeg) _ hw) (cwV 2 hts gL_law_X11_simple rfl rfl rfl (by decide +kernel) ⟨(show (1 : Nat) + 1 ≤ 14 from Nat.le_of_ble_eq_true rfl), (show 8 + (3 + 11) + (22 : Nat) ≤ 554 from Nat.le_of_ble_eq_true rfl)⟩) (r_preV hK (lH_toR hH)) rfl rfl hl.1 rfl (lv_room (by first | exact Nat.le_of_ble_eq_true rfl | simp [va_rf_cat, cat_ref, cat_int, cat_long, cat_double, cat_null])) dL_law_350 ⟨by show _ ≤ 601024; omega, by show _ ≤ 7293034; omega⟩) hH hA (fun N85 H locs hw hH => ?_)
        refine lv_aload_n hx hb dL_law_353 rfl (lv_at hl 3 rfl) ?_
        refine lr_calli (va_runV (As := []) (rest := []) ⟨hx, hb, hml, hown, hts⟩ (tm_thrown l D kA hm ad H.size N85  _ hw) (cwV 0 hts gL_law_X11_thrown rfl rfl rfl (by decide +kernel) ⟨(show (0 : Nat) + 1 ≤ 14 from Nat.le_of_ble_eq_true rfl), (show 8 + (1 + 11) + (0 : Nat) ≤ 554 from Nat.le_of_ble_eq_true rfl)⟩) (r_preV hK (lH_toR hH)) rfl rfl hl.1 rfl (lv_room (by first | exact Nat.le_of_ble_eq_true rfl | simp [va_rf_cat, cat_ref, cat_int, cat_long, cat_double, cat_null])) dL_law_354 ⟨by show _ ≤ 601024; omega, by show _ ≤ 7293034; omega⟩) hH hA (fun r86 N89 H locs hw hH => ?_)
        refine lv_iload hx hb dL_law_357 (lv_at hl 0 rfl) ?_
        refine lv_icmp_eq (tgt := 364) hx hb dL_law_359 (by decide) (fun c90 => ?_) (fun c90 => ?_)
        · replace hw := hw.1 c90
          refine lv_goto (tgt := 935) hx hb dL_law_364 (by decide) ?_
          refine W.widen (k := KB) (n := NB) (by omega) (by omega) ?_
          exact b935 _ _ (by omega) (by omega) _ hk23 v4 T M79 N89 H locs ls hH (lv_sub hl [1, 2, 3, 4, 5] rfl) hw
        · replace hw := hw.2 c90
          refine lv_iconst (v := 0) hx hb dL_law_362 (by decide) ?_
          exact False.elim hw
      by_cases c6 : (xs v4.toNatClampNeg) &&& 15 = 6
      · replace hw := hw.2.2.2.2.2.2.1 c6
        refine lv_tableIn (off := 327) (tgt := 367) hx hb dL_law_40 (by rw [c6]; decide) (by rw [c6]; decide) (by rw [c6]; rfl) (by decide) ?_
        refine lv_aload_n hx hb dL_law_367 rfl (lv_at hl 1 rfl) ?_
        refine lv_aload_n hx hb dL_law_368 rfl (lv_at hl 0 rfl) ?_
        refine lv_iload hx hb dL_law_369 (lv_at hl 4 rfl) ?_
        refine lv_iconst (v := 1) hx hb dL_law_371 (by decide) ?_
        refine lv_iadd hx hb dL_law_372 ?_
        obtain ⟨h91, hw⟩ := hw
        refine va_sld hx hb hX hbl hbA hH.2.2.2.2 h91 dL_law_373 ?_
        refine lv_aload_n hx hb dL_law_374 rfl (lv_at hl 0 rfl) ?_
        refine lv_iload hx hb dL_law_375 (lv_at hl 4 rfl) ?_
        refine lv_iconst (v := 2) hx hb dL_law_377 (by decide) ?_
        refine lv_iadd hx hb dL_law_378 ?_
        obtain ⟨h92, hw⟩ := hw
        refine va_sld hx hb hX hbl hbA hH.2.2.2.2 h92 dL_law_379 ?_
        refine lv_i2d hx hb dL_law_380 ?_
        refine lv_ldc2d (v := 4593671619917905920) hx hb hown (hts (.constantDouble RL 77 4593671619917905920) (by decide +kernel)) dL_law_381 ?_
        obtain ⟨h93, hw⟩ := hw
        refine lv_dmul hx hb dL_law_384 h93 ?_
        refine lc_calli (vx_runSW (As := [va_rf (some px), .int (xs (v4 + 1).toNatClampNeg), .double (FP.dmul (FP.i2d (xs (v4 + 2).toNatClampNeg)) 4593671619917905920)]) (rest := []) ⟨hx, hb, hml, hown, hts⟩ (tc_L_number l hst0 D kA nm na sa sv H.size T (some px) (xs (v4 + 1).toNatClampNeg) (FP.dmul (FP.i2d (xs (v4 + 2).toNatClampNeg)) 4593671619917905920) M _ hw) (vx_cwSW 3 hts gL_law_L_number rfl rfl rfl (by decide +kernel) ⟨(show (7 : Nat) + 1 ≤ 14 from Nat.le_of_ble_eq_true rfl), (show 8 + (5 + 11) + (106 : Nat) ≤ 554 from Nat.le_of_ble_eq_true rfl)⟩) (c_preS hK (lH_toC hH) hA hSt) rfl rfl hl.1 rfl (lv_room (by first | exact Nat.le_of_ble_eq_true rfl | simp [va_rf_cat, cat_ref, cat_int, cat_long, cat_double, cat_null])) dL_law_385 ⟨by show _ ≤ 601024; omega, by show _ ≤ 7293034; omega⟩) hH hA (fun r94 M95 H locs hw hH => ?_)
        refine lv_istore (i := 5) (lv' := [(5, .int r94), (0, .ref b), (1, .ref px), (2, .ref hm), (3, .ref po), (4, .int v4)]) hx hb dL_law_388 hl (by decide) rfl (fun ls hl => ?_)
        refine lv_aload_n hx hb dL_law_390 rfl (lv_at hl 3 rfl) ?_
        refine lv_aload_n hx hb dL_law_391 rfl (lv_at hl 1 rfl) ?_
        refine lv_iload hx hb dL_law_392 (lv_at hl 5 rfl) ?_
        refine lv_iconst (v := 1) hx hb dL_law_394 (by decide) ?_
        refine lv_iadd hx hb dL_law_395 ?_
        refine va_sld hx hb hX hbl hbA hH.2.2.2.2 h91 dL_law_396 ?_
        refine lv_aload_n hx hb dL_law_397 rfl (lv_at hl 1 rfl) ?_
        refine lv_iload hx hb dL_law_398 (lv_at hl 5 rfl) ?_
        refine lv_iconst (v := 2) hx hb dL_law_400 (by decide) ?_
        refine lv_iadd hx hb dL_law_401 ?_
        refine va_sld hx hb hX hbl hbA hH.2.2.2.2 h92 dL_law_402 ?_
        refine lv_i2d hx hb dL_law_403 ?_
        refine lv_ldc2d (v := 4593671619917905920) hx hb hown (hts (.constantDouble RL 77 4593671619917905920) (by decide +kernel)) dL_law_404 ?_
        obtain ⟨h98, hw⟩ := hw
        refine lv_dmul hx hb dL_law_407 h98 ?_
        refine lr_callv (va_runV (As := [.int (xs (v4 + 1).toNatClampNeg), .double (FP.dmul (FP.i2d (xs (v4 + 2).toNatClampNeg)) 4593671619917905920)]) (rest := []) ⟨hx, hb, hml, hown, hts⟩ (tm_number l D kA hm ad H.size N (xs (v4 + 1).toNatClampNeg) (FP.dmul (FP.i2d (xs (v4 + 2).toNatClampNeg)) 4593671619917905920) _ hw) (cwV 2 hts gL_law_X11_number rfl rfl rfl (by decide +kernel) ⟨(show (1 : Nat) + 1 ≤ 14 from Nat.le_of_ble_eq_true rfl), (show 8 + (7 + 11) + (21 : Nat) ≤ 554 from Nat.le_of_ble_eq_true rfl)⟩) (r_preV hK (lH_toR hH)) rfl rfl hl.1 rfl (lv_room (by first | exact Nat.le_of_ble_eq_true rfl | simp [va_rf_cat, cat_ref, cat_int, cat_long, cat_double, cat_null])) dL_law_408 ⟨by show _ ≤ 601024; omega, by show _ ≤ 7293034; omega⟩) hH hA (fun N102 H locs hw hH => ?_)
        refine lv_aload_n hx hb dL_law_411 rfl (lv_at hl 3 rfl) ?_
        refine lr_calli (va_runV (As := []) (rest := []) ⟨hx, hb, hml, hown, hts⟩ (tm_thrown l D kA hm ad H.size N102  _ hw) (cwV 0 hts gL_law_X11_thrown rfl rfl rfl (by decide +kernel) ⟨(show (0 : Nat) + 1 ≤ 14 from Nat.le_of_ble_eq_true rfl), (show 8 + (1 + 11) + (0 : Nat) ≤ 554 from Nat.le_of_ble_eq_true rfl)⟩) (r_preV hK (lH_toR hH)) rfl rfl hl.1 rfl (lv_room (by first | exact Nat.le_of_ble_eq_true rfl | simp [va_rf_cat, cat_ref, cat_int, cat_long, cat_double, cat_null])) dL_law_412 ⟨by show _ ≤ 601024; omega, by show _ ≤ 7293034; omega⟩) hH hA (fun r103 N106 H locs hw hH => ?_)
        refine lv_iload hx hb dL_law_415 (lv_at hl 0 rfl) ?_
        refine lv_icmp_eq (tgt := 422) hx hb dL_law_417 (by decide) (fun c107 => ?_) (fun c107 => ?_)
        · replace hw := hw.1 c107
          refine lv_goto (tgt := 935) hx hb dL_law_422 (by decide) ?_
          refine W.widen (k := KB) (n := NB) (by omega) (by omega) ?_
          exact b935 _ _ (by omega) (by omega) _ hk23 v4 T M95 N106 H locs ls hH (lv_sub hl [1, 2, 3, 4, 5] rfl) hw
        · replace hw := hw.2 c107
          refine lv_iconst (v := 0) hx hb dL_law_420 (by decide) ?_
          exact False.elim hw
      by_cases c7 : (xs v4.toNatClampNeg) &&& 15 = 7
      · replace hw := hw.2.2.2.2.2.2.2.1 c7
        refine lv_tableIn (off := 385) (tgt := 425) hx hb dL_law_40 (by rw [c7]; decide) (by rw [c7]; decide) (by rw [c7]; rfl) (by decide) ?_
        refine lv_aload_n hx hb dL_law_425 rfl (lv_at hl 1 rfl) ?_
        refine lv_aload_n hx hb dL_law_426 rfl (lv_at hl 0 rfl) ?_
        refine lv_iload hx hb dL_law_427 (lv_at hl 4 rfl) ?_
        refine lv_iconst (v := 1) hx hb dL_law_429 (by decide) ?_
        refine lv_iadd hx hb dL_law_430 ?_
        obtain ⟨h108, hw⟩ := hw
        refine va_sld hx hb hX hbl hbA hH.2.2.2.2 h108 dL_law_431 ?_
        refine lv_aload_n hx hb dL_law_432 rfl (lv_at hl 0 rfl) ?_
        refine lv_iload hx hb dL_law_433 (lv_at hl 4 rfl) ?_
        refine lv_iconst (v := 2) hx hb dL_law_435 (by decide) ?_
        refine lv_iadd hx hb dL_law_436 ?_
        obtain ⟨h109, hw⟩ := hw
        refine va_sld hx hb hX hbl hbA hH.2.2.2.2 h109 dL_law_437 ?_
        refine lv_aload_n hx hb dL_law_438 rfl (lv_at hl 0 rfl) ?_
        refine lv_iload hx hb dL_law_439 (lv_at hl 4 rfl) ?_
        refine lv_iconst (v := 3) hx hb dL_law_441 (by decide) ?_
        refine lv_iadd hx hb dL_law_442 ?_
        obtain ⟨h110, hw⟩ := hw
        refine va_sld hx hb hX hbl hbA hH.2.2.2.2 h110 dL_law_443 ?_
        refine lv_aload_n hx hb dL_law_444 rfl (lv_at hl 0 rfl) ?_
        refine lv_iload hx hb dL_law_445 (lv_at hl 4 rfl) ?_
        refine lv_iconst (v := 4) hx hb dL_law_447 (by decide) ?_
        refine lv_iadd hx hb dL_law_448 ?_
        obtain ⟨h111, hw⟩ := hw
        refine va_sld hx hb hX hbl hbA hH.2.2.2.2 h111 dL_law_449 ?_
        refine lv_aload_n hx hb dL_law_450 rfl (lv_at hl 3 rfl) ?_
        refine lc_calli (vx_runSW (As := [va_rf (some px), .int (xs (v4 + 1).toNatClampNeg), .int (xs (v4 + 2).toNatClampNeg), .int (xs (v4 + 3).toNatClampNeg), .int (xs (v4 + 4).toNatClampNeg), va_rf (some po)]) (rest := []) ⟨hx, hb, hml, hown, hts⟩ (tc_L_text l hst0 D kA nm na sa sv H.size T (some px) (xs (v4 + 1).toNatClampNeg) (xs (v4 + 2).toNatClampNeg) (xs (v4 + 3).toNatClampNeg) (xs (v4 + 4).toNatClampNeg) (some po) M _ hw) (vx_cwSW 6 hts gL_law_L_text rfl rfl rfl (by decide +kernel) ⟨(show (7 : Nat) + 1 ≤ 14 from Nat.le_of_ble_eq_true rfl), (show 8 + (7 + 11) + (139 : Nat) ≤ 554 from Nat.le_of_ble_eq_true rfl)⟩) (c_preS hK (lH_toC hH) hA hSt) rfl rfl hl.1 rfl (lv_room (by first | exact Nat.le_of_ble_eq_true rfl | simp [va_rf_cat, cat_ref, cat_int, cat_long, cat_double, cat_null])) dL_law_451 ⟨by show _ ≤ 601024; omega, by show _ ≤ 7293034; omega⟩) hH hA (fun r112 M113 H locs hw hH => ?_)
        refine lv_istore (i := 5) (lv' := [(5, .int r112), (0, .ref b), (1, .ref px), (2, .ref hm), (3, .ref po), (4, .int v4)]) hx hb dL_law_454 hl (by decide) rfl (fun ls hl => ?_)
        refine lv_aload_n hx hb dL_law_456 rfl (lv_at hl 3 rfl) ?_
        refine lv_aload_n hx hb dL_law_457 rfl (lv_at hl 1 rfl) ?_
        refine lv_iload hx hb dL_law_458 (lv_at hl 5 rfl) ?_
        refine lv_iconst (v := 1) hx hb dL_law_460 (by decide) ?_
        refine lv_iadd hx hb dL_law_461 ?_
        refine va_sld hx hb hX hbl hbA hH.2.2.2.2 h108 dL_law_462 ?_
        refine lv_aload_n hx hb dL_law_463 rfl (lv_at hl 1 rfl) ?_
        refine lv_iload hx hb dL_law_464 (lv_at hl 5 rfl) ?_
        refine lv_iconst (v := 2) hx hb dL_law_466 (by decide) ?_
        refine lv_iadd hx hb dL_law_467 ?_
        refine va_sld hx hb hX hbl hbA hH.2.2.2.2 h109 dL_law_468 ?_
        refine lv_aload_n hx hb dL_law_469 rfl (lv_at hl 1 rfl) ?_
        refine lv_iload hx hb dL_law_470 (lv_at hl 5 rfl) ?_
        refine lv_iconst (v := 3) hx hb dL_law_472 (by decide) ?_
        refine lv_iadd hx hb dL_law_473 ?_
        refine va_sld hx hb hX hbl hbA hH.2.2.2.2 h110 dL_law_474 ?_
        refine lv_aload_n hx hb dL_law_475 rfl (lv_at hl 1 rfl) ?_
        refine lv_iload hx hb dL_law_476 (lv_at hl 5 rfl) ?_
        refine lv_iconst (v := 4) hx hb dL_law_478 (by decide) ?_
        refine lv_iadd hx hb dL_law_479 ?_
        refine va_sld hx hb hX hbl hbA hH.2.2.2.2 h111 dL_law_480 ?_
        refine lr_calli (va_runV (As := [.int (xs (v4 + 1).toNatClampNeg), .int (xs (v4 + 2).toNatClampNeg), .int (xs (v4 + 3).toNatClampNeg), .int (xs (v4 + 4).toNatClampNeg)]) (rest := []) ⟨hx, hb, hml, hown, hts⟩ (tm_text l D kA hm ad H.size N (xs (v4 + 1).toNatClampNeg) (xs (v4 + 2).toNatClampNeg) (xs (v4 + 3).toNatClampNeg) (xs (v4 + 4).toNatClampNeg) _ hw) (cwV 4 hts gL_law_X11_text rfl rfl rfl (by decide +kernel) ⟨(show (1 : Nat) + 1 ≤ 14 from Nat.le_of_ble_eq_true rfl), (show 8 + (8 + 11) + (21 : Nat) ≤ 554 from Nat.le_of_ble_eq_true rfl)⟩) (r_preV hK (lH_toR hH)) rfl rfl hl.1 rfl (lv_room (by first | exact Nat.le_of_ble_eq_true rfl | simp [va_rf_cat, cat_ref, cat_int, cat_long, cat_double, cat_null])) dL_law_481 ⟨by show _ ≤ 601024; omega, by show _ ≤ 7293034; omega⟩) hH hA (fun r116 N119 H locs hw hH => ?_)
        refine lv_istore (i := 6) (lv' := [(6, .int r116), (5, .int r112), (0, .ref b), (1, .ref px), (2, .ref hm), (3, .ref po), (4, .int v4)]) hx hb dL_law_484 hl (by decide) rfl (fun ls hl => ?_)
        refine lv_aload_n hx hb dL_law_486 rfl (lv_at hl 4 rfl) ?_
        refine lr_calli (va_runV (As := []) (rest := []) ⟨hx, hb, hml, hown, hts⟩ (tm_thrown l D kA hm ad H.size N119  _ hw) (cwV 0 hts gL_law_X11_thrown rfl rfl rfl (by decide +kernel) ⟨(show (0 : Nat) + 1 ≤ 14 from Nat.le_of_ble_eq_true rfl), (show 8 + (1 + 11) + (0 : Nat) ≤ 554 from Nat.le_of_ble_eq_true rfl)⟩) (r_preV hK (lH_toR hH)) rfl rfl hl.1 rfl (lv_room (by first | exact Nat.le_of_ble_eq_true rfl | simp [va_rf_cat, cat_ref, cat_int, cat_long, cat_double, cat_null])) dL_law_487 ⟨by show _ ≤ 601024; omega, by show _ ≤ 7293034; omega⟩) hH hA (fun r120 N123 H locs hw hH => ?_)
        refine lv_iload hx hb dL_law_490 (lv_at hl 1 rfl) ?_
        refine lv_icmp_eq (tgt := 497) hx hb dL_law_492 (by decide) (fun c124 => ?_) (fun c124 => ?_)
        · replace hw := hw.1 c124
          refine lv_iload hx hb dL_law_497 (lv_at hl 1 rfl) ?_
          refine lv_if_ne (tgt := 514) hx hb dL_law_499 (by decide) (fun c125 => ?_) (fun c125 => ?_)
          · replace hw := hw.1 c125
            refine W.widen (k := KB) (n := NB) (by omega) (by omega) ?_
            exact b514 _ _ (by omega) (by omega) _ hk23 v4 T M113 N123 H locs ls hH (lv_sub hl [2, 3, 4, 5, 6] rfl) hw
          · replace hw := hw.2 c125
            refine lv_aload_n hx hb dL_law_502 rfl (lv_at hl 5 rfl) ?_
            refine lv_iconst (v := 0) hx hb dL_law_503 (by decide) ?_
            obtain ⟨h126, hw⟩ := hw
            obtain ⟨h127, hw⟩ := hw
            refine cl_3 hx hb hK (lH_toC hH) h126 h127 dL_law_504 ?_
            refine lv_iload hx hb dL_law_505 (lv_at hl 0 rfl) ?_
            refine lv_i2l hx hb dL_law_507 rfl ?_
            refine W.lcmp hx hb dL_law_508 ?_
            refine lv_if_eq (tgt := 514) hx hb dL_law_509 (by decide) (fun c128 => ?_) (fun c128 => ?_)
            · replace hw := hw.1 c128
              refine W.widen (k := KB) (n := NB) (by omega) (by omega) ?_
              exact b514 _ _ (by omega) (by omega) _ hk23 v4 T M113 N123 H locs ls hH (lv_sub hl [2, 3, 4, 5, 6] rfl) hw
            · replace hw := hw.2 c128
              refine lv_iconst (v := 0) hx hb dL_law_512 (by decide) ?_
              exact False.elim hw
        · replace hw := hw.2 c124
          refine lv_iconst (v := 0) hx hb dL_law_495 (by decide) ?_
          exact False.elim hw
      by_cases c8 : (xs v4.toNatClampNeg) &&& 15 = 8
      · replace hw := hw.2.2.2.2.2.2.2.2.1 c8
        refine lv_tableIn (off := 477) (tgt := 517) hx hb dL_law_40 (by rw [c8]; decide) (by rw [c8]; decide) (by rw [c8]; rfl) (by decide) ?_
        refine lv_aload_n hx hb dL_law_517 rfl (lv_at hl 1 rfl) ?_
        refine lv_aload_n hx hb dL_law_518 rfl (lv_at hl 0 rfl) ?_
        refine lv_iload hx hb dL_law_519 (lv_at hl 4 rfl) ?_
        refine lv_iconst (v := 1) hx hb dL_law_521 (by decide) ?_
        refine lv_iadd hx hb dL_law_522 ?_
        obtain ⟨h129, hw⟩ := hw
        refine va_sld hx hb hX hbl hbA hH.2.2.2.2 h129 dL_law_523 ?_
        refine lv_aload_n hx hb dL_law_524 rfl (lv_at hl 0 rfl) ?_
        refine lv_iload hx hb dL_law_525 (lv_at hl 4 rfl) ?_
        refine lv_iconst (v := 2) hx hb dL_law_527 (by decide) ?_
        refine lv_iadd hx hb dL_law_528 ?_
        obtain ⟨h130, hw⟩ := hw
        refine va_sld hx hb hX hbl hbA hH.2.2.2.2 h130 dL_law_529 ?_
        refine lv_aload_n hx hb dL_law_530 rfl (lv_at hl 3 rfl) ?_
        refine lc_calli (vx_runSW (As := [va_rf (some px), .int (xs (v4 + 1).toNatClampNeg), .int (xs (v4 + 2).toNatClampNeg), va_rf (some po)]) (rest := []) ⟨hx, hb, hml, hown, hts⟩ (tc_L_add l hst0 D kA nm na sa sv H.size T (some px) (xs (v4 + 1).toNatClampNeg) (xs (v4 + 2).toNatClampNeg) (some po) M _ hw) (vx_cwSW 4 hts gL_law_L_add rfl rfl rfl (by decide +kernel) ⟨(show (7 : Nat) + 1 ≤ 14 from Nat.le_of_ble_eq_true rfl), (show 8 + (5 + 11) + (138 : Nat) ≤ 554 from Nat.le_of_ble_eq_true rfl)⟩) (c_preS hK (lH_toC hH) hA hSt) rfl rfl hl.1 rfl (lv_room (by first | exact Nat.le_of_ble_eq_true rfl | simp [va_rf_cat, cat_ref, cat_int, cat_long, cat_double, cat_null])) dL_law_531 ⟨by show _ ≤ 601024; omega, by show _ ≤ 7293034; omega⟩) hH hA (fun r131 M132 H locs hw hH => ?_)
        refine lv_istore (i := 5) (lv' := [(5, .int r131), (0, .ref b), (1, .ref px), (2, .ref hm), (3, .ref po), (4, .int v4)]) hx hb dL_law_534 hl (by decide) rfl (fun ls hl => ?_)
        refine lv_aload_n hx hb dL_law_536 rfl (lv_at hl 3 rfl) ?_
        refine lv_aload_n hx hb dL_law_537 rfl (lv_at hl 1 rfl) ?_
        refine lv_iload hx hb dL_law_538 (lv_at hl 5 rfl) ?_
        refine lv_iconst (v := 1) hx hb dL_law_540 (by decide) ?_
        refine lv_iadd hx hb dL_law_541 ?_
        refine va_sld hx hb hX hbl hbA hH.2.2.2.2 h129 dL_law_542 ?_
        refine lv_aload_n hx hb dL_law_543 rfl (lv_at hl 1 rfl) ?_
        refine lv_iload hx hb dL_law_544 (lv_at hl 5 rfl) ?_
        refine lv_iconst (v := 2) hx hb dL_law_546 (by decide) ?_
        refine lv_iadd hx hb dL_law_547 ?_
        refine va_sld hx hb hX hbl hbA hH.2.2.2.2 h130 dL_law_548 ?_
        refine lr_calli (va_runV (As := [.int (xs (v4 + 1).toNatClampNeg), .int (xs (v4 + 2).toNatClampNeg)]) (rest := []) ⟨hx, hb, hml, hown, hts⟩ (tm_add l D kA hm ad H.size N (xs (v4 + 1).toNatClampNeg) (xs (v4 + 2).toNatClampNeg) _ hw) (cwV 2 hts gL_law_X11_add rfl rfl rfl (by decide +kernel) ⟨(show (1 : Nat) + 1 ≤ 14 from Nat.le_of_ble_eq_true rfl), (show 8 + (6 + 11) + (21 : Nat) ≤ 554 from Nat.le_of_ble_eq_true rfl)⟩) (r_preV hK (lH_toR hH)) rfl rfl hl.1 rfl (lv_room (by first | exact Nat.le_of_ble_eq_true rfl | simp [va_rf_cat, cat_ref, cat_int, cat_long, cat_double, cat_null])) dL_law_549 ⟨by show _ ≤ 601024; omega, by show _ ≤ 7293034; omega⟩) hH hA (fun r135 N138 H locs hw hH => ?_)
        refine lv_istore (i := 6) (lv' := [(6, .int r135), (5, .int r131), (0, .ref b), (1, .ref px), (2, .ref hm), (3, .ref po), (4, .int v4)]) hx hb dL_law_552 hl (by decide) rfl (fun ls hl => ?_)
        refine lv_aload_n hx hb dL_law_554 rfl (lv_at hl 4 rfl) ?_
        refine lr_calli (va_runV (As := []) (rest := []) ⟨hx, hb, hml, hown, hts⟩ (tm_thrown l D kA hm ad H.size N138  _ hw) (cwV 0 hts gL_law_X11_thrown rfl rfl rfl (by decide +kernel) ⟨(show (0 : Nat) + 1 ≤ 14 from Nat.le_of_ble_eq_true rfl), (show 8 + (1 + 11) + (0 : Nat) ≤ 554 from Nat.le_of_ble_eq_true rfl)⟩) (r_preV hK (lH_toR hH)) rfl rfl hl.1 rfl (lv_room (by first | exact Nat.le_of_ble_eq_true rfl | simp [va_rf_cat, cat_ref, cat_int, cat_long, cat_double, cat_null])) dL_law_555 ⟨by show _ ≤ 601024; omega, by show _ ≤ 7293034; omega⟩) hH hA (fun r139 N142 H locs hw hH => ?_)
        refine lv_iload hx hb dL_law_558 (lv_at hl 1 rfl) ?_
        refine lv_icmp_eq (tgt := 565) hx hb dL_law_560 (by decide) (fun c143 => ?_) (fun c143 => ?_)
        · replace hw := hw.1 c143
          refine lv_iload hx hb dL_law_565 (lv_at hl 1 rfl) ?_
          refine lv_if_ne (tgt := 582) hx hb dL_law_567 (by decide) (fun c144 => ?_) (fun c144 => ?_)
          · replace hw := hw.1 c144
            refine W.widen (k := KB) (n := NB) (by omega) (by omega) ?_
            exact b582 _ _ (by omega) (by omega) _ hk23 v4 T M132 N142 H locs ls hH (lv_sub hl [2, 3, 4, 5, 6] rfl) hw
          · replace hw := hw.2 c144
            refine lv_aload_n hx hb dL_law_570 rfl (lv_at hl 5 rfl) ?_
            refine lv_iconst (v := 0) hx hb dL_law_571 (by decide) ?_
            obtain ⟨h145, hw⟩ := hw
            obtain ⟨h146, hw⟩ := hw
            refine cl_3 hx hb hK (lH_toC hH) h145 h146 dL_law_572 ?_
            refine lv_iload hx hb dL_law_573 (lv_at hl 0 rfl) ?_
            refine lv_i2l hx hb dL_law_575 rfl ?_
            refine W.lcmp hx hb dL_law_576 ?_
            refine lv_if_eq (tgt := 582) hx hb dL_law_577 (by decide) (fun c147 => ?_) (fun c147 => ?_)
            · replace hw := hw.1 c147
              refine W.widen (k := KB) (n := NB) (by omega) (by omega) ?_
              exact b582 _ _ (by omega) (by omega) _ hk23 v4 T M132 N142 H locs ls hH (lv_sub hl [2, 3, 4, 5, 6] rfl) hw
            · replace hw := hw.2 c147
              refine lv_iconst (v := 0) hx hb dL_law_580 (by decide) ?_
              exact False.elim hw
        · replace hw := hw.2 c143
          refine lv_iconst (v := 0) hx hb dL_law_563 (by decide) ?_
          exact False.elim hw
      by_cases c9 : (xs v4.toNatClampNeg) &&& 15 = 9
      · replace hw := hw.2.2.2.2.2.2.2.2.2.1 c9
        refine lv_tableIn (off := 545) (tgt := 585) hx hb dL_law_40 (by rw [c9]; decide) (by rw [c9]; decide) (by rw [c9]; rfl) (by decide) ?_
        refine lv_aload_n hx hb dL_law_585 rfl (lv_at hl 1 rfl) ?_
        refine lv_aload_n hx hb dL_law_586 rfl (lv_at hl 0 rfl) ?_
        refine lv_iload hx hb dL_law_587 (lv_at hl 4 rfl) ?_
        refine lv_iconst (v := 1) hx hb dL_law_589 (by decide) ?_
        refine lv_iadd hx hb dL_law_590 ?_
        obtain ⟨h148, hw⟩ := hw
        refine va_sld hx hb hX hbl hbA hH.2.2.2.2 h148 dL_law_591 ?_
        refine lv_aload_n hx hb dL_law_592 rfl (lv_at hl 0 rfl) ?_
        refine lv_iload hx hb dL_law_593 (lv_at hl 4 rfl) ?_
        refine lv_iconst (v := 2) hx hb dL_law_595 (by decide) ?_
        refine lv_iadd hx hb dL_law_596 ?_
        obtain ⟨h149, hw⟩ := hw
        refine va_sld hx hb hX hbl hbA hH.2.2.2.2 h149 dL_law_597 ?_
        refine lv_aload_n hx hb dL_law_598 rfl (lv_at hl 3 rfl) ?_
        refine lc_calli (vx_runSW (As := [va_rf (some px), .int (xs (v4 + 1).toNatClampNeg), .int (xs (v4 + 2).toNatClampNeg), va_rf (some po)]) (rest := []) ⟨hx, hb, hml, hown, hts⟩ (tc_L_call l hst0 D kA nm na sa sv H.size T (some px) (xs (v4 + 1).toNatClampNeg) (xs (v4 + 2).toNatClampNeg) (some po) M _ hw) (vx_cwSW 4 hts gL_law_L_call rfl rfl rfl (by decide +kernel) ⟨(show (7 : Nat) + 1 ≤ 14 from Nat.le_of_ble_eq_true rfl), (show 8 + (5 + 11) + (178 : Nat) ≤ 554 from Nat.le_of_ble_eq_true rfl)⟩) (c_preS hK (lH_toC hH) hA hSt) rfl rfl hl.1 rfl (lv_room (by first | exact Nat.le_of_ble_eq_true rfl | simp [va_rf_cat, cat_ref, cat_int, cat_long, cat_double, cat_null])) dL_law_599 ⟨by show _ ≤ 601024; omega, by show _ ≤ 7293034; omega⟩) hH hA (fun r150 M151 H locs hw hH => ?_)
        refine lv_istore (i := 5) (lv' := [(5, .int r150), (0, .ref b), (1, .ref px), (2, .ref hm), (3, .ref po), (4, .int v4)]) hx hb dL_law_602 hl (by decide) rfl (fun ls hl => ?_)
        refine lv_aload_n hx hb dL_law_604 rfl (lv_at hl 3 rfl) ?_
        refine lv_aload_n hx hb dL_law_605 rfl (lv_at hl 1 rfl) ?_
        refine lv_iload hx hb dL_law_606 (lv_at hl 5 rfl) ?_
        refine lv_iconst (v := 1) hx hb dL_law_608 (by decide) ?_
        refine lv_iadd hx hb dL_law_609 ?_
        refine va_sld hx hb hX hbl hbA hH.2.2.2.2 h148 dL_law_610 ?_
        refine lv_aload_n hx hb dL_law_611 rfl (lv_at hl 1 rfl) ?_
        refine lv_iload hx hb dL_law_612 (lv_at hl 5 rfl) ?_
        refine lv_iconst (v := 2) hx hb dL_law_614 (by decide) ?_
        refine lv_iadd hx hb dL_law_615 ?_
        refine va_sld hx hb hX hbl hbA hH.2.2.2.2 h149 dL_law_616 ?_
        refine lr_calli (va_runV (As := [.int (xs (v4 + 1).toNatClampNeg), .int (xs (v4 + 2).toNatClampNeg)]) (rest := []) ⟨hx, hb, hml, hown, hts⟩ (tm_call l D kA hm ad H.size N (xs (v4 + 1).toNatClampNeg) (xs (v4 + 2).toNatClampNeg) _ hw) (cwV 2 hts gL_law_X11_call rfl rfl rfl (by decide +kernel) ⟨(show (8 : Nat) + 1 ≤ 14 from Nat.le_of_ble_eq_true rfl), (show 8 + (9 + 11) + (206 : Nat) ≤ 554 from Nat.le_of_ble_eq_true rfl)⟩) (r_preV hK (lH_toR hH)) rfl rfl hl.1 rfl (lv_room (by first | exact Nat.le_of_ble_eq_true rfl | simp [va_rf_cat, cat_ref, cat_int, cat_long, cat_double, cat_null])) dL_law_617 ⟨by show _ ≤ 601024; omega, by show _ ≤ 7293034; omega⟩) hH hA (fun r154 N157 H locs hw hH => ?_)
        refine lv_istore (i := 6) (lv' := [(6, .int r154), (5, .int r150), (0, .ref b), (1, .ref px), (2, .ref hm), (3, .ref po), (4, .int v4)]) hx hb dL_law_620 hl (by decide) rfl (fun ls hl => ?_)
        refine lv_aload_n hx hb dL_law_622 rfl (lv_at hl 4 rfl) ?_
        refine lr_calli (va_runV (As := []) (rest := []) ⟨hx, hb, hml, hown, hts⟩ (tm_thrown l D kA hm ad H.size N157  _ hw) (cwV 0 hts gL_law_X11_thrown rfl rfl rfl (by decide +kernel) ⟨(show (0 : Nat) + 1 ≤ 14 from Nat.le_of_ble_eq_true rfl), (show 8 + (1 + 11) + (0 : Nat) ≤ 554 from Nat.le_of_ble_eq_true rfl)⟩) (r_preV hK (lH_toR hH)) rfl rfl hl.1 rfl (lv_room (by first | exact Nat.le_of_ble_eq_true rfl | simp [va_rf_cat, cat_ref, cat_int, cat_long, cat_double, cat_null])) dL_law_623 ⟨by show _ ≤ 601024; omega, by show _ ≤ 7293034; omega⟩) hH hA (fun r158 N161 H locs hw hH => ?_)
        refine lv_iload hx hb dL_law_626 (lv_at hl 1 rfl) ?_
        refine lv_icmp_eq (tgt := 633) hx hb dL_law_628 (by decide) (fun c162 => ?_) (fun c162 => ?_)
        · replace hw := hw.1 c162
          refine lv_iload hx hb dL_law_633 (lv_at hl 1 rfl) ?_
          refine lv_if_ne (tgt := 650) hx hb dL_law_635 (by decide) (fun c163 => ?_) (fun c163 => ?_)
          · replace hw := hw.1 c163
            refine W.widen (k := KB) (n := NB) (by omega) (by omega) ?_
            exact b650 _ _ (by omega) (by omega) _ hk23 v4 T M151 N161 H locs ls hH (lv_sub hl [2, 3, 4, 5, 6] rfl) hw
          · replace hw := hw.2 c163
            refine lv_aload_n hx hb dL_law_638 rfl (lv_at hl 5 rfl) ?_
            refine lv_iconst (v := 0) hx hb dL_law_639 (by decide) ?_
            obtain ⟨h164, hw⟩ := hw
            obtain ⟨h165, hw⟩ := hw
            refine cl_3 hx hb hK (lH_toC hH) h164 h165 dL_law_640 ?_
            refine lv_iload hx hb dL_law_641 (lv_at hl 0 rfl) ?_
            refine lv_i2l hx hb dL_law_643 rfl ?_
            refine W.lcmp hx hb dL_law_644 ?_
            refine lv_if_eq (tgt := 650) hx hb dL_law_645 (by decide) (fun c166 => ?_) (fun c166 => ?_)
            · replace hw := hw.1 c166
              refine W.widen (k := KB) (n := NB) (by omega) (by omega) ?_
              exact b650 _ _ (by omega) (by omega) _ hk23 v4 T M151 N161 H locs ls hH (lv_sub hl [2, 3, 4, 5, 6] rfl) hw
            · replace hw := hw.2 c166
              refine lv_iconst (v := 0) hx hb dL_law_648 (by decide) ?_
              exact False.elim hw
        · replace hw := hw.2 c162
          refine lv_iconst (v := 0) hx hb dL_law_631 (by decide) ?_
          exact False.elim hw
      by_cases c10 : (xs v4.toNatClampNeg) &&& 15 = 10
      · replace hw := hw.2.2.2.2.2.2.2.2.2.2.1 c10
        refine lv_tableIn (off := 613) (tgt := 653) hx hb dL_law_40 (by rw [c10]; decide) (by rw [c10]; decide) (by rw [c10]; rfl) (by decide) ?_
        refine lv_aload_n hx hb dL_law_653 rfl (lv_at hl 1 rfl) ?_
        refine lv_aload_n hx hb dL_law_654 rfl (lv_at hl 0 rfl) ?_
        refine lv_iload hx hb dL_law_655 (lv_at hl 4 rfl) ?_
        refine lv_iconst (v := 1) hx hb dL_law_657 (by decide) ?_
        refine lv_iadd hx hb dL_law_658 ?_
        obtain ⟨h167, hw⟩ := hw
        refine va_sld hx hb hX hbl hbA hH.2.2.2.2 h167 dL_law_659 ?_
        refine lv_aload_n hx hb dL_law_660 rfl (lv_at hl 0 rfl) ?_
        refine lv_iload hx hb dL_law_661 (lv_at hl 4 rfl) ?_
        refine lv_iconst (v := 2) hx hb dL_law_663 (by decide) ?_
        refine lv_iadd hx hb dL_law_664 ?_
        obtain ⟨h168, hw⟩ := hw
        refine va_sld hx hb hX hbl hbA hH.2.2.2.2 h168 dL_law_665 ?_
        refine lv_aload_n hx hb dL_law_666 rfl (lv_at hl 3 rfl) ?_
        refine lc_calli (vx_runSW (As := [va_rf (some px), .int (xs (v4 + 1).toNatClampNeg), .int (xs (v4 + 2).toNatClampNeg), va_rf (some po)]) (rest := []) ⟨hx, hb, hml, hown, hts⟩ (tc_L_operation l hst0 D kA nm na sa sv H.size T (some px) (xs (v4 + 1).toNatClampNeg) (xs (v4 + 2).toNatClampNeg) (some po) M _ hw) (vx_cwSW 4 hts gL_law_L_operation rfl rfl rfl (by decide +kernel) ⟨(show (7 : Nat) + 1 ≤ 14 from Nat.le_of_ble_eq_true rfl), (show 8 + (5 + 11) + (154 : Nat) ≤ 554 from Nat.le_of_ble_eq_true rfl)⟩) (c_preS hK (lH_toC hH) hA hSt) rfl rfl hl.1 rfl (lv_room (by first | exact Nat.le_of_ble_eq_true rfl | simp [va_rf_cat, cat_ref, cat_int, cat_long, cat_double, cat_null])) dL_law_667 ⟨by show _ ≤ 601024; omega, by show _ ≤ 7293034; omega⟩) hH hA (fun r169 M170 H locs hw hH => ?_)
        refine lv_istore (i := 5) (lv' := [(5, .int r169), (0, .ref b), (1, .ref px), (2, .ref hm), (3, .ref po), (4, .int v4)]) hx hb dL_law_670 hl (by decide) rfl (fun ls hl => ?_)
        refine lv_aload_n hx hb dL_law_672 rfl (lv_at hl 3 rfl) ?_
        refine lv_aload_n hx hb dL_law_673 rfl (lv_at hl 1 rfl) ?_
        refine lv_iload hx hb dL_law_674 (lv_at hl 5 rfl) ?_
        refine lv_iconst (v := 1) hx hb dL_law_676 (by decide) ?_
        refine lv_iadd hx hb dL_law_677 ?_
        refine va_sld hx hb hX hbl hbA hH.2.2.2.2 h167 dL_law_678 ?_
        refine lv_aload_n hx hb dL_law_679 rfl (lv_at hl 1 rfl) ?_
        refine lv_iload hx hb dL_law_680 (lv_at hl 5 rfl) ?_
        refine lv_iconst (v := 2) hx hb dL_law_682 (by decide) ?_
        refine lv_iadd hx hb dL_law_683 ?_
        refine va_sld hx hb hX hbl hbA hH.2.2.2.2 h168 dL_law_684 ?_
        refine lr_calli (va_runV (As := [.int (xs (v4 + 1).toNatClampNeg), .int (xs (v4 + 2).toNatClampNeg)]) (rest := []) ⟨hx, hb, hml, hown, hts⟩ (tm_operation l D kA hm ad H.size N (xs (v4 + 1).toNatClampNeg) (xs (v4 + 2).toNatClampNeg) _ hw) (cwV 2 hts gL_law_X11_operation rfl rfl rfl (by decide +kernel) ⟨(show (5 : Nat) + 1 ≤ 14 from Nat.le_of_ble_eq_true rfl), (show 8 + (3 + 11) + (125 : Nat) ≤ 554 from Nat.le_of_ble_eq_true rfl)⟩) (r_preV hK (lH_toR hH)) rfl rfl hl.1 rfl (lv_room (by first | exact Nat.le_of_ble_eq_true rfl | simp [va_rf_cat, cat_ref, cat_int, cat_long, cat_double, cat_null])) dL_law_685 ⟨by show _ ≤ 601024; omega, by show _ ≤ 7293034; omega⟩) hH hA (fun r173 N176 H locs hw hH => ?_)
        refine lv_istore (i := 6) (lv' := [(6, .int r173), (5, .int r169), (0, .ref b), (1, .ref px), (2, .ref hm), (3, .ref po), (4, .int v4)]) hx hb dL_law_688 hl (by decide) rfl (fun ls hl => ?_)
        refine lv_aload_n hx hb dL_law_690 rfl (lv_at hl 4 rfl) ?_
        refine lr_calli (va_runV (As := []) (rest := []) ⟨hx, hb, hml, hown, hts⟩ (tm_thrown l D kA hm ad H.size N176  _ hw) (cwV 0 hts gL_law_X11_thrown rfl rfl rfl (by decide +kernel) ⟨(show (0 : Nat) + 1 ≤ 14 from Nat.le_of_ble_eq_true rfl), (show 8 + (1 + 11) + (0 : Nat) ≤ 554 from Nat.le_of_ble_eq_true rfl)⟩) (r_preV hK (lH_toR hH)) rfl rfl hl.1 rfl (lv_room (by first | exact Nat.le_of_ble_eq_true rfl | simp [va_rf_cat, cat_ref, cat_int, cat_long, cat_double, cat_null])) dL_law_691 ⟨by show _ ≤ 601024; omega, by show _ ≤ 7293034; omega⟩) hH hA (fun r177 N180 H locs hw hH => ?_)
        refine lv_iload hx hb dL_law_694 (lv_at hl 1 rfl) ?_
        refine lv_icmp_eq (tgt := 701) hx hb dL_law_696 (by decide) (fun c181 => ?_) (fun c181 => ?_)
        · replace hw := hw.1 c181
          refine lv_iload hx hb dL_law_701 (lv_at hl 1 rfl) ?_
          refine lv_if_ne (tgt := 718) hx hb dL_law_703 (by decide) (fun c182 => ?_) (fun c182 => ?_)
          · replace hw := hw.1 c182
            refine W.widen (k := KB) (n := NB) (by omega) (by omega) ?_
            exact b718 _ _ (by omega) (by omega) _ hk23 v4 T M170 N180 H locs ls hH (lv_sub hl [2, 3, 4, 5, 6] rfl) hw
          · replace hw := hw.2 c182
            refine lv_aload_n hx hb dL_law_706 rfl (lv_at hl 5 rfl) ?_
            refine lv_iconst (v := 0) hx hb dL_law_707 (by decide) ?_
            obtain ⟨h183, hw⟩ := hw
            obtain ⟨h184, hw⟩ := hw
            refine cl_3 hx hb hK (lH_toC hH) h183 h184 dL_law_708 ?_
            refine lv_iload hx hb dL_law_709 (lv_at hl 0 rfl) ?_
            refine lv_i2l hx hb dL_law_711 rfl ?_
            refine W.lcmp hx hb dL_law_712 ?_
            refine lv_if_eq (tgt := 718) hx hb dL_law_713 (by decide) (fun c185 => ?_) (fun c185 => ?_)
            · replace hw := hw.1 c185
              refine W.widen (k := KB) (n := NB) (by omega) (by omega) ?_
              exact b718 _ _ (by omega) (by omega) _ hk23 v4 T M170 N180 H locs ls hH (lv_sub hl [2, 3, 4, 5, 6] rfl) hw
            · replace hw := hw.2 c185
              refine lv_iconst (v := 0) hx hb dL_law_716 (by decide) ?_
              exact False.elim hw
        · replace hw := hw.2 c181
          refine lv_iconst (v := 0) hx hb dL_law_699 (by decide) ?_
          exact False.elim hw
      by_cases c11 : (xs v4.toNatClampNeg) &&& 15 = 11
      · replace hw := hw.2.2.2.2.2.2.2.2.2.2.2.1 c11
        refine lv_tableIn (off := 681) (tgt := 721) hx hb dL_law_40 (by rw [c11]; decide) (by rw [c11]; decide) (by rw [c11]; rfl) (by decide) ?_
        refine lv_aload_n hx hb dL_law_721 rfl (lv_at hl 1 rfl) ?_
        refine lv_aload_n hx hb dL_law_722 rfl (lv_at hl 0 rfl) ?_
        refine lv_iload hx hb dL_law_723 (lv_at hl 4 rfl) ?_
        refine lv_iconst (v := 1) hx hb dL_law_725 (by decide) ?_
        refine lv_iadd hx hb dL_law_726 ?_
        obtain ⟨h186, hw⟩ := hw
        refine va_sld hx hb hX hbl hbA hH.2.2.2.2 h186 dL_law_727 ?_
        obtain ⟨h191, hw⟩ := hw
        refine lc_calli (va_runV (As := [.int (xs (v4 + 1).toNatClampNeg)]) (rest := []) ⟨hx, hb, hml, hown, hts⟩ (tc_X10_kind l D kA nm na sa sv H.size T px (xs (v4 + 1).toNatClampNeg) M _ hw) (cwV 1 hts gL_law_X10_kind rfl rfl rfl (by decide +kernel) ⟨(show (3 : Nat) + 1 ≤ 14 from Nat.le_of_ble_eq_true rfl), (show 8 + (3 + 11) + (65 : Nat) ≤ 554 from Nat.le_of_ble_eq_true rfl)⟩) (c_preV hK (lH_toC hH) hA hSt (c_recv10 hK (lH_toC hH) h191)) rfl rfl hl.1 rfl (lv_room (by first | exact Nat.le_of_ble_eq_true rfl | simp [va_rf_cat, cat_ref, cat_int, cat_long, cat_double, cat_null])) dL_law_728 ⟨by show _ ≤ 601024; omega, by show _ ≤ 7293034; omega⟩) hH hA (fun r187 M188 H locs hw hH => ?_)
        refine lv_aload_n hx hb dL_law_731 rfl (lv_at hl 2 rfl) ?_
        refine lv_aload_n hx hb dL_law_732 rfl (lv_at hl 0 rfl) ?_
        refine lv_iload hx hb dL_law_733 (lv_at hl 4 rfl) ?_
        refine lv_iconst (v := 1) hx hb dL_law_735 (by decide) ?_
        refine lv_iadd hx hb dL_law_736 ?_
        refine va_sld hx hb hX hbl hbA hH.2.2.2.2 h186 dL_law_737 ?_
        refine lr_calli (va_runV (As := [.int (xs (v4 + 1).toNatClampNeg)]) (rest := [.int r187]) ⟨hx, hb, hml, hown, hts⟩ (tm_kind l D kA hm ad H.size N (xs (v4 + 1).toNatClampNeg) _ hw) (cwV 1 hts gL_law_X11_kind rfl rfl rfl (by decide +kernel) ⟨(show (2 : Nat) + 1 ≤ 14 from Nat.le_of_ble_eq_true rfl), (show 8 + (3 + 11) + (44 : Nat) ≤ 554 from Nat.le_of_ble_eq_true rfl)⟩) (r_preV hK (lH_toR hH)) rfl rfl hl.1 rfl (lv_room (by first | exact Nat.le_of_ble_eq_true rfl | simp [va_rf_cat, cat_ref, cat_int, cat_long, cat_double, cat_null])) dL_law_738 ⟨by show _ ≤ 601024; omega, by show _ ≤ 7293034; omega⟩) hH hA (fun r192 N195 H locs hw hH => ?_)
        refine lv_icmp_eq (tgt := 935) hx hb dL_law_741 (by decide) (fun c196 => ?_) (fun c196 => ?_)
        · replace hw := hw.1 c196
          refine W.widen (k := KB) (n := NB) (by omega) (by omega) ?_
          exact b935 _ _ (by omega) (by omega) _ hk23 v4 T M188 N195 H locs ls hH (lv_sub hl [0, 1, 2, 3, 4] rfl) hw
        · replace hw := hw.2 c196
          refine lv_iconst (v := 0) hx hb dL_law_744 (by decide) ?_
          exact False.elim hw
      by_cases c12 : (xs v4.toNatClampNeg) &&& 15 = 12
      · replace hw := hw.2.2.2.2.2.2.2.2.2.2.2.2.1 c12
        refine lv_tableIn (off := 706) (tgt := 746) hx hb dL_law_40 (by rw [c12]; decide) (by rw [c12]; decide) (by rw [c12]; rfl) (by decide) ?_
        refine lv_aload_n hx hb dL_law_746 rfl (lv_at hl 1 rfl) ?_
        refine lv_aload_n hx hb dL_law_747 rfl (lv_at hl 0 rfl) ?_
        refine lv_iload hx hb dL_law_748 (lv_at hl 4 rfl) ?_
        refine lv_iconst (v := 1) hx hb dL_law_750 (by decide) ?_
        refine lv_iadd hx hb dL_law_751 ?_
        obtain ⟨h197, hw⟩ := hw
        refine va_sld hx hb hX hbl hbA hH.2.2.2.2 h197 dL_law_752 ?_
        refine lv_aload_n hx hb dL_law_753 rfl (lv_at hl 0 rfl) ?_
        refine lv_iload hx hb dL_law_754 (lv_at hl 4 rfl) ?_
        refine lv_iconst (v := 2) hx hb dL_law_756 (by decide) ?_
        refine lv_iadd hx hb dL_law_757 ?_
        obtain ⟨h198, hw⟩ := hw
        refine va_sld hx hb hX hbl hbA hH.2.2.2.2 h198 dL_law_758 ?_
        obtain ⟨h203, hw⟩ := hw
        refine lc_calli (va_runV (As := [.int (xs (v4 + 1).toNatClampNeg), .int (xs (v4 + 2).toNatClampNeg)]) (rest := []) ⟨hx, hb, hml, hown, hts⟩ (tc_X10_item l D kA nm na sa sv H.size T px (xs (v4 + 1).toNatClampNeg) (xs (v4 + 2).toNatClampNeg) M _ hw) (cwV 2 hts gL_law_X10_item rfl rfl rfl (by decide +kernel) ⟨(show (3 : Nat) + 1 ≤ 14 from Nat.le_of_ble_eq_true rfl), (show 8 + (4 + 11) + (65 : Nat) ≤ 554 from Nat.le_of_ble_eq_true rfl)⟩) (c_preV hK (lH_toC hH) hA hSt (c_recv10 hK (lH_toC hH) h203)) rfl rfl hl.1 rfl (lv_room (by first | exact Nat.le_of_ble_eq_true rfl | simp [va_rf_cat, cat_ref, cat_int, cat_long, cat_double, cat_null])) dL_law_759 ⟨by show _ ≤ 601024; omega, by show _ ≤ 7293034; omega⟩) hH hA (fun r199 M200 H locs hw hH => ?_)
        refine lv_aload_n hx hb dL_law_762 rfl (lv_at hl 2 rfl) ?_
        refine lv_aload_n hx hb dL_law_763 rfl (lv_at hl 0 rfl) ?_
        refine lv_iload hx hb dL_law_764 (lv_at hl 4 rfl) ?_
        refine lv_iconst (v := 1) hx hb dL_law_766 (by decide) ?_
        refine lv_iadd hx hb dL_law_767 ?_
        refine va_sld hx hb hX hbl hbA hH.2.2.2.2 h197 dL_law_768 ?_
        refine lv_aload_n hx hb dL_law_769 rfl (lv_at hl 0 rfl) ?_
        refine lv_iload hx hb dL_law_770 (lv_at hl 4 rfl) ?_
        refine lv_iconst (v := 2) hx hb dL_law_772 (by decide) ?_
        refine lv_iadd hx hb dL_law_773 ?_
        refine va_sld hx hb hX hbl hbA hH.2.2.2.2 h198 dL_law_774 ?_
        refine lr_calli (va_runV (As := [.int (xs (v4 + 1).toNatClampNeg), .int (xs (v4 + 2).toNatClampNeg)]) (rest := [.int r199]) ⟨hx, hb, hml, hown, hts⟩ (tm_item l D kA hm ad H.size N (xs (v4 + 1).toNatClampNeg) (xs (v4 + 2).toNatClampNeg) _ hw) (cwV 2 hts gL_law_X11_item rfl rfl rfl (by decide +kernel) ⟨(show (2 : Nat) + 1 ≤ 14 from Nat.le_of_ble_eq_true rfl), (show 8 + (4 + 11) + (44 : Nat) ≤ 554 from Nat.le_of_ble_eq_true rfl)⟩) (r_preV hK (lH_toR hH)) rfl rfl hl.1 rfl (lv_room (by first | exact Nat.le_of_ble_eq_true rfl | simp [va_rf_cat, cat_ref, cat_int, cat_long, cat_double, cat_null])) dL_law_775 ⟨by show _ ≤ 601024; omega, by show _ ≤ 7293034; omega⟩) hH hA (fun r204 N207 H locs hw hH => ?_)
        refine lv_icmp_eq (tgt := 935) hx hb dL_law_778 (by decide) (fun c208 => ?_) (fun c208 => ?_)
        · replace hw := hw.1 c208
          refine W.widen (k := KB) (n := NB) (by omega) (by omega) ?_
          exact b935 _ _ (by omega) (by omega) _ hk23 v4 T M200 N207 H locs ls hH (lv_sub hl [0, 1, 2, 3, 4] rfl) hw
        · replace hw := hw.2 c208
          refine lv_iconst (v := 0) hx hb dL_law_781 (by decide) ?_
          exact False.elim hw
      by_cases c13 : (xs v4.toNatClampNeg) &&& 15 = 13
      · replace hw := hw.2.2.2.2.2.2.2.2.2.2.2.2.2.1 c13
        refine lv_tableIn (off := 743) (tgt := 783) hx hb dL_law_40 (by rw [c13]; decide) (by rw [c13]; decide) (by rw [c13]; rfl) (by decide) ?_
        refine lv_aload_n hx hb dL_law_783 rfl (lv_at hl 1 rfl) ?_
        refine lv_aload_n hx hb dL_law_784 rfl (lv_at hl 0 rfl) ?_
        refine lv_iload hx hb dL_law_785 (lv_at hl 4 rfl) ?_
        refine lv_iconst (v := 1) hx hb dL_law_787 (by decide) ?_
        refine lv_iadd hx hb dL_law_788 ?_
        obtain ⟨h209, hw⟩ := hw
        refine va_sld hx hb hX hbl hbA hH.2.2.2.2 h209 dL_law_789 ?_
        refine lv_aload_n hx hb dL_law_790 rfl (lv_at hl 0 rfl) ?_
        refine lv_iload hx hb dL_law_791 (lv_at hl 4 rfl) ?_
        refine lv_iconst (v := 2) hx hb dL_law_793 (by decide) ?_
        refine lv_iadd hx hb dL_law_794 ?_
        obtain ⟨h210, hw⟩ := hw
        refine va_sld hx hb hX hbl hbA hH.2.2.2.2 h210 dL_law_795 ?_
        obtain ⟨h215, hw⟩ := hw
        refine lc_calll (va_runV (As := [.int (xs (v4 + 1).toNatClampNeg), .int (xs (v4 + 2).toNatClampNeg)]) (rest := []) ⟨hx, hb, hml, hown, hts⟩ (tc_X10_whole l D kA nm na sa sv H.size T px (xs (v4 + 1).toNatClampNeg) (xs (v4 + 2).toNatClampNeg) M _ hw) (cwV 2 hts gL_law_X10_whole rfl rfl rfl (by decide +kernel) ⟨(show (3 : Nat) + 1 ≤ 14 from Nat.le_of_ble_eq_true rfl), (show 8 + (4 + 11) + (65 : Nat) ≤ 554 from Nat.le_of_ble_eq_true rfl)⟩) (c_preV hK (lH_toC hH) hA hSt (c_recv10 hK (lH_toC hH) h215)) rfl rfl hl.1 rfl (lv_room (by first | exact Nat.le_of_ble_eq_true rfl | simp [va_rf_cat, cat_ref, cat_int, cat_long, cat_double, cat_null])) dL_law_796 ⟨by show _ ≤ 601024; omega, by show _ ≤ 7293034; omega⟩) hH hA (fun r211 M212 H locs hw hH => ?_)
        refine lv_aload_n hx hb dL_law_799 rfl (lv_at hl 2 rfl) ?_
        refine lv_aload_n hx hb dL_law_800 rfl (lv_at hl 0 rfl) ?_
        refine lv_iload hx hb dL_law_801 (lv_at hl 4 rfl) ?_
        refine lv_iconst (v := 1) hx hb dL_law_803 (by decide) ?_
        refine lv_iadd hx hb dL_law_804 ?_
        refine va_sld hx hb hX hbl hbA hH.2.2.2.2 h209 dL_law_805 ?_
        refine lv_aload_n hx hb dL_law_806 rfl (lv_at hl 0 rfl) ?_
        refine lv_iload hx hb dL_law_807 (lv_at hl 4 rfl) ?_
        refine lv_iconst (v := 2) hx hb dL_law_809 (by decide) ?_
        refine lv_iadd hx hb dL_law_810 ?_
        refine va_sld hx hb hX hbl hbA hH.2.2.2.2 h210 dL_law_811 ?_
        refine lr_calll (va_runV (As := [.int (xs (v4 + 1).toNatClampNeg), .int (xs (v4 + 2).toNatClampNeg)]) (rest := [.long r211]) ⟨hx, hb, hml, hown, hts⟩ (tm_whole l D kA hm ad H.size N (xs (v4 + 1).toNatClampNeg) (xs (v4 + 2).toNatClampNeg) _ hw) (cwV 2 hts gL_law_X11_whole rfl rfl rfl (by decide +kernel) ⟨(show (2 : Nat) + 1 ≤ 14 from Nat.le_of_ble_eq_true rfl), (show 8 + (4 + 11) + (44 : Nat) ≤ 554 from Nat.le_of_ble_eq_true rfl)⟩) (r_preV hK (lH_toR hH)) rfl rfl hl.1 rfl (lv_room (by first | exact Nat.le_of_ble_eq_true rfl | simp [va_rf_cat, cat_ref, cat_int, cat_long, cat_double, cat_null])) dL_law_812 ⟨by show _ ≤ 601024; omega, by show _ ≤ 7293034; omega⟩) hH hA (fun r216 N219 H locs hw hH => ?_)
        refine W.lcmp hx hb dL_law_815 ?_
        refine lv_if_eq (tgt := 935) hx hb dL_law_816 (by decide) (fun c220 => ?_) (fun c220 => ?_)
        · replace hw := hw.1 c220
          refine W.widen (k := KB) (n := NB) (by omega) (by omega) ?_
          exact b935 _ _ (by omega) (by omega) _ hk23 v4 T M212 N219 H locs ls hH (lv_sub hl [0, 1, 2, 3, 4] rfl) hw
        · replace hw := hw.2 c220
          refine lv_iconst (v := 0) hx hb dL_law_819 (by decide) ?_
          exact False.elim hw
      by_cases c14 : (xs v4.toNatClampNeg) &&& 15 = 14
      · replace hw := hw.2.2.2.2.2.2.2.2.2.2.2.2.2.2.1 c14
        refine lv_tableIn (off := 781) (tgt := 821) hx hb dL_law_40 (by rw [c14]; decide) (by rw [c14]; decide) (by rw [c14]; rfl) (by decide) ?_
        refine lv_aload_n hx hb dL_law_821 rfl (lv_at hl 1 rfl) ?_
        refine lv_aload_n hx hb dL_law_822 rfl (lv_at hl 0 rfl) ?_
        refine lv_iload hx hb dL_law_823 (lv_at hl 4 rfl) ?_
        refine lv_iconst (v := 1) hx hb dL_law_825 (by decide) ?_
        refine lv_iadd hx hb dL_law_826 ?_
        obtain ⟨h221, hw⟩ := hw
        refine va_sld hx hb hX hbl hbA hH.2.2.2.2 h221 dL_law_827 ?_
        refine lv_aload_n hx hb dL_law_828 rfl (lv_at hl 0 rfl) ?_
        refine lv_iload hx hb dL_law_829 (lv_at hl 4 rfl) ?_
        refine lv_iconst (v := 2) hx hb dL_law_831 (by decide) ?_
        refine lv_iadd hx hb dL_law_832 ?_
        obtain ⟨h222, hw⟩ := hw
        refine va_sld hx hb hX hbl hbA hH.2.2.2.2 h222 dL_law_833 ?_
        obtain ⟨h227, hw⟩ := hw
        refine lc_calld (va_runV (As := [.int (xs (v4 + 1).toNatClampNeg), .int (xs (v4 + 2).toNatClampNeg)]) (rest := []) ⟨hx, hb, hml, hown, hts⟩ (tc_X10_real l D kA nm na sa sv H.size T px (xs (v4 + 1).toNatClampNeg) (xs (v4 + 2).toNatClampNeg) M _ hw) (cwV 2 hts gL_law_X10_real rfl rfl rfl (by decide +kernel) ⟨(show (3 : Nat) + 1 ≤ 14 from Nat.le_of_ble_eq_true rfl), (show 8 + (4 + 11) + (65 : Nat) ≤ 554 from Nat.le_of_ble_eq_true rfl)⟩) (c_preV hK (lH_toC hH) hA hSt (c_recv10 hK (lH_toC hH) h227)) rfl rfl hl.1 rfl (lv_room (by first | exact Nat.le_of_ble_eq_true rfl | simp [va_rf_cat, cat_ref, cat_int, cat_long, cat_double, cat_null])) dL_law_834 ⟨by show _ ≤ 601024; omega, by show _ ≤ 7293034; omega⟩) hH hA (fun r223 M224 H locs hw hH => ?_)
        refine lv_dstore (i := 5) (lv' := [(5, .double r223), (0, .ref b), (1, .ref px), (2, .ref hm), (3, .ref po), (4, .int v4)]) hx hb dL_law_837 hl (by decide) rfl (fun ls hl => ?_)
        refine lv_aload_n hx hb dL_law_839 rfl (lv_at hl 3 rfl) ?_
        refine lv_aload_n hx hb dL_law_840 rfl (lv_at hl 1 rfl) ?_
        refine lv_iload hx hb dL_law_841 (lv_at hl 5 rfl) ?_
        refine lv_iconst (v := 1) hx hb dL_law_843 (by decide) ?_
        refine lv_iadd hx hb dL_law_844 ?_
        refine va_sld hx hb hX hbl hbA hH.2.2.2.2 h221 dL_law_845 ?_
        refine lv_aload_n hx hb dL_law_846 rfl (lv_at hl 1 rfl) ?_
        refine lv_iload hx hb dL_law_847 (lv_at hl 5 rfl) ?_
        refine lv_iconst (v := 2) hx hb dL_law_849 (by decide) ?_
        refine lv_iadd hx hb dL_law_850 ?_
        refine va_sld hx hb hX hbl hbA hH.2.2.2.2 h222 dL_law_851 ?_
        refine lr_calld (va_runV (As := [.int (xs (v4 + 1).toNatClampNeg), .int (xs (v4 + 2).toNatClampNeg)]) (rest := []) ⟨hx, hb, hml, hown, hts⟩ (tm_real l D kA hm ad H.size N (xs (v4 + 1).toNatClampNeg) (xs (v4 + 2).toNatClampNeg) _ hw) (cwV 2 hts gL_law_X11_real rfl rfl rfl (by decide +kernel) ⟨(show (2 : Nat) + 1 ≤ 14 from Nat.le_of_ble_eq_true rfl), (show 8 + (4 + 11) + (44 : Nat) ≤ 554 from Nat.le_of_ble_eq_true rfl)⟩) (r_preV hK (lH_toR hH)) rfl rfl hl.1 rfl (lv_room (by first | exact Nat.le_of_ble_eq_true rfl | simp [va_rf_cat, cat_ref, cat_int, cat_long, cat_double, cat_null])) dL_law_852 ⟨by show _ ≤ 601024; omega, by show _ ≤ 7293034; omega⟩) hH hA (fun r228 N231 H locs hw hH => ?_)
        refine lv_dstore (i := 7) (lv' := [(7, .double r228), (5, .double r223), (0, .ref b), (1, .ref px), (2, .ref hm), (3, .ref po), (4, .int v4)]) hx hb dL_law_855 hl (by decide) rfl (fun ls hl => ?_)
        refine lv_dload hx hb dL_law_857 (lv_at hl 1 rfl) ?_
        refine lv_dload hx hb dL_law_859 (lv_at hl 0 rfl) ?_
        refine lv_dcmp hx hb dL_law_861 ?_
        refine lv_if_eq (tgt := 883) hx hb dL_law_862 (by decide) (fun c232 => ?_) (fun c232 => ?_)
        · replace hw := hw.1 c232
          refine W.widen (k := KB) (n := NB) (by omega) (by omega) ?_
          exact b883 _ _ (by omega) (by omega) _ hk23 v4 T M224 N231 H locs ls hH (lv_sub hl [2, 3, 4, 5, 6] rfl) hw
        · replace hw := hw.2 c232
          refine lv_dload hx hb dL_law_865 (lv_at hl 1 rfl) ?_
          refine lv_dload hx hb dL_law_867 (lv_at hl 1 rfl) ?_
          refine lv_dcmp hx hb dL_law_869 ?_
          refine lv_if_eq (tgt := 881) hx hb dL_law_870 (by decide) (fun c233 => ?_) (fun c233 => ?_)
          · replace hw := hw.1 c233
            refine W.widen (k := KB) (n := NB) (by omega) (by omega) ?_
            exact b881 _ _ (by omega) (by omega)   v4 T M224 N231 H locs ls hH (lv_sub hl [2, 3, 4, 5, 6] rfl) hw
          · replace hw := hw.2 c233
            refine lv_dload hx hb dL_law_873 (lv_at hl 0 rfl) ?_
            refine lv_dload hx hb dL_law_875 (lv_at hl 0 rfl) ?_
            refine lv_dcmp hx hb dL_law_877 ?_
            refine lv_if_ne (tgt := 883) hx hb dL_law_878 (by decide) (fun c234 => ?_) (fun c234 => ?_)
            · replace hw := hw.1 c234
              refine W.widen (k := KB) (n := NB) (by omega) (by omega) ?_
              exact b883 _ _ (by omega) (by omega) _ hk23 v4 T M224 N231 H locs ls hH (lv_sub hl [2, 3, 4, 5, 6] rfl) hw
            · replace hw := hw.2 c234
              refine W.widen (k := KB) (n := NB) (by omega) (by omega) ?_
              exact b881 _ _ (by omega) (by omega)   v4 T M224 N231 H locs ls hH (lv_sub hl [2, 3, 4, 5, 6] rfl) hw
      by_cases c15 : (xs v4.toNatClampNeg) &&& 15 = 15
      · replace hw := hw.2.2.2.2.2.2.2.2.2.2.2.2.2.2.2.1 c15
        refine lv_tableIn (off := 846) (tgt := 886) hx hb dL_law_40 (by rw [c15]; decide) (by rw [c15]; decide) (by rw [c15]; rfl) (by decide) ?_
        refine lv_aload_n hx hb dL_law_886 rfl (lv_at hl 1 rfl) ?_
        refine lv_aload_n hx hb dL_law_887 rfl (lv_at hl 0 rfl) ?_
        refine lv_iload hx hb dL_law_888 (lv_at hl 4 rfl) ?_
        refine lv_iconst (v := 1) hx hb dL_law_890 (by decide) ?_
        refine lv_iadd hx hb dL_law_891 ?_
        obtain ⟨h235, hw⟩ := hw
        refine va_sld hx hb hX hbl hbA hH.2.2.2.2 h235 dL_law_892 ?_
        refine lv_aload_n hx hb dL_law_893 rfl (lv_at hl 0 rfl) ?_
        refine lv_iload hx hb dL_law_894 (lv_at hl 4 rfl) ?_
        refine lv_iconst (v := 2) hx hb dL_law_896 (by decide) ?_
        refine lv_iadd hx hb dL_law_897 ?_
        obtain ⟨h236, hw⟩ := hw
        refine va_sld hx hb hX hbl hbA hH.2.2.2.2 h236 dL_law_898 ?_
        refine lv_aload_n hx hb dL_law_899 rfl (lv_at hl 0 rfl) ?_
        refine lv_iload hx hb dL_law_900 (lv_at hl 4 rfl) ?_
        refine lv_iconst (v := 3) hx hb dL_law_902 (by decide) ?_
        refine lv_iadd hx hb dL_law_903 ?_
        obtain ⟨h237, hw⟩ := hw
        refine va_sld hx hb hX hbl hbA hH.2.2.2.2 h237 dL_law_904 ?_
        obtain ⟨h242, hw⟩ := hw
        refine lc_calli (va_runV (As := [.int (xs (v4 + 1).toNatClampNeg), .int (xs (v4 + 2).toNatClampNeg), .int (xs (v4 + 3).toNatClampNeg)]) (rest := []) ⟨hx, hb, hml, hown, hts⟩ (tc_X10_sign l D kA nm na sa sv H.size T px (xs (v4 + 1).toNatClampNeg) (xs (v4 + 2).toNatClampNeg) (xs (v4 + 3).toNatClampNeg) M _ hw) (cwV 3 hts gL_law_X10_sign rfl rfl rfl (by decide +kernel) ⟨(show (3 : Nat) + 1 ≤ 14 from Nat.le_of_ble_eq_true rfl), (show 8 + (6 + 11) + (65 : Nat) ≤ 554 from Nat.le_of_ble_eq_true rfl)⟩) (c_preV hK (lH_toC hH) hA hSt (c_recv10 hK (lH_toC hH) h242)) rfl rfl hl.1 rfl (lv_room (by first | exact Nat.le_of_ble_eq_true rfl | simp [va_rf_cat, cat_ref, cat_int, cat_long, cat_double, cat_null])) dL_law_905 ⟨by show _ ≤ 601024; omega, by show _ ≤ 7293034; omega⟩) hH hA (fun r238 M239 H locs hw hH => ?_)
        refine lv_aload_n hx hb dL_law_908 rfl (lv_at hl 2 rfl) ?_
        refine lv_aload_n hx hb dL_law_909 rfl (lv_at hl 0 rfl) ?_
        refine lv_iload hx hb dL_law_910 (lv_at hl 4 rfl) ?_
        refine lv_iconst (v := 1) hx hb dL_law_912 (by decide) ?_
        refine lv_iadd hx hb dL_law_913 ?_
        refine va_sld hx hb hX hbl hbA hH.2.2.2.2 h235 dL_law_914 ?_
        refine lv_aload_n hx hb dL_law_915 rfl (lv_at hl 0 rfl) ?_
        refine lv_iload hx hb dL_law_916 (lv_at hl 4 rfl) ?_
        refine lv_iconst (v := 2) hx hb dL_law_918 (by decide) ?_
        refine lv_iadd hx hb dL_law_919 ?_
        refine va_sld hx hb hX hbl hbA hH.2.2.2.2 h236 dL_law_920 ?_
        refine lv_aload_n hx hb dL_law_921 rfl (lv_at hl 0 rfl) ?_
        refine lv_iload hx hb dL_law_922 (lv_at hl 4 rfl) ?_
        refine lv_iconst (v := 3) hx hb dL_law_924 (by decide) ?_
        refine lv_iadd hx hb dL_law_925 ?_
        refine va_sld hx hb hX hbl hbA hH.2.2.2.2 h237 dL_law_926 ?_
        refine lr_calli (va_runV (As := [.int (xs (v4 + 1).toNatClampNeg), .int (xs (v4 + 2).toNatClampNeg), .int (xs (v4 + 3).toNatClampNeg)]) (rest := [.int r238]) ⟨hx, hb, hml, hown, hts⟩ (tm_sign l D kA hm ad H.size N (xs (v4 + 1).toNatClampNeg) (xs (v4 + 2).toNatClampNeg) (xs (v4 + 3).toNatClampNeg) _ hw) (cwV 3 hts gL_law_X11_sign rfl rfl rfl (by decide +kernel) ⟨(show (2 : Nat) + 1 ≤ 14 from Nat.le_of_ble_eq_true rfl), (show 8 + (5 + 11) + (44 : Nat) ≤ 554 from Nat.le_of_ble_eq_true rfl)⟩) (r_preV hK (lH_toR hH)) rfl rfl hl.1 rfl (lv_room (by first | exact Nat.le_of_ble_eq_true rfl | simp [va_rf_cat, cat_ref, cat_int, cat_long, cat_double, cat_null])) dL_law_927 ⟨by show _ ≤ 601024; omega, by show _ ≤ 7293034; omega⟩) hH hA (fun r243 N246 H locs hw hH => ?_)
        refine lv_icmp_eq (tgt := 935) hx hb dL_law_930 (by decide) (fun c247 => ?_) (fun c247 => ?_)
        · replace hw := hw.1 c247
          refine W.widen (k := KB) (n := NB) (by omega) (by omega) ?_
          exact b935 _ _ (by omega) (by omega) _ hk23 v4 T M239 N246 H locs ls hH (lv_sub hl [0, 1, 2, 3, 4] rfl) hw
        · replace hw := hw.2 c247
          refine lv_iconst (v := 0) hx hb dL_law_933 (by decide) ?_
          exact False.elim hw
      replace hw := hw.2.2.2.2.2.2.2.2.2.2.2.2.2.2.2.2 ⟨c0, c1, c2, c3, c4, c5, c6, c7, c8, c9, c10, c11, c12, c13, c14, c15⟩
      have d0 : ((xs v4.toNatClampNeg) &&& 15).toInt ≠ 0 := fun q => c0 (Int32.toInt_inj.mp (q.trans (by decide)))
      have d1 : ((xs v4.toNatClampNeg) &&& 15).toInt ≠ 1 := fun q => c1 (Int32.toInt_inj.mp (q.trans (by decide)))
      have d2 : ((xs v4.toNatClampNeg) &&& 15).toInt ≠ 2 := fun q => c2 (Int32.toInt_inj.mp (q.trans (by decide)))
      have d3 : ((xs v4.toNatClampNeg) &&& 15).toInt ≠ 3 := fun q => c3 (Int32.toInt_inj.mp (q.trans (by decide)))
      have d4 : ((xs v4.toNatClampNeg) &&& 15).toInt ≠ 4 := fun q => c4 (Int32.toInt_inj.mp (q.trans (by decide)))
      have d5 : ((xs v4.toNatClampNeg) &&& 15).toInt ≠ 5 := fun q => c5 (Int32.toInt_inj.mp (q.trans (by decide)))
      have d6 : ((xs v4.toNatClampNeg) &&& 15).toInt ≠ 6 := fun q => c6 (Int32.toInt_inj.mp (q.trans (by decide)))
      have d7 : ((xs v4.toNatClampNeg) &&& 15).toInt ≠ 7 := fun q => c7 (Int32.toInt_inj.mp (q.trans (by decide)))
      have d8 : ((xs v4.toNatClampNeg) &&& 15).toInt ≠ 8 := fun q => c8 (Int32.toInt_inj.mp (q.trans (by decide)))
      have d9 : ((xs v4.toNatClampNeg) &&& 15).toInt ≠ 9 := fun q => c9 (Int32.toInt_inj.mp (q.trans (by decide)))
      have d10 : ((xs v4.toNatClampNeg) &&& 15).toInt ≠ 10 := fun q => c10 (Int32.toInt_inj.mp (q.trans (by decide)))
      have d11 : ((xs v4.toNatClampNeg) &&& 15).toInt ≠ 11 := fun q => c11 (Int32.toInt_inj.mp (q.trans (by decide)))
      have d12 : ((xs v4.toNatClampNeg) &&& 15).toInt ≠ 12 := fun q => c12 (Int32.toInt_inj.mp (q.trans (by decide)))
      have d13 : ((xs v4.toNatClampNeg) &&& 15).toInt ≠ 13 := fun q => c13 (Int32.toInt_inj.mp (q.trans (by decide)))
      have d14 : ((xs v4.toNatClampNeg) &&& 15).toInt ≠ 14 := fun q => c14 (Int32.toInt_inj.mp (q.trans (by decide)))
      have d15 : ((xs v4.toNatClampNeg) &&& 15).toInt ≠ 15 := fun q => c15 (Int32.toInt_inj.mp (q.trans (by decide)))
      refine lv_tableOut (tgt := 935) hx hb dL_law_40 (by omega) (by decide) ?_
      refine W.widen (k := KB) (n := NB) (by omega) (by omega) ?_
      exact b935 _ _ (by omega) (by omega) _ hk23 v4 T M N H locs ls hH (lv_sub hl [0, 1, 2, 3, 4] rfl) hw
