/-! numbers that are told: eighths -/
def nv (n : Int32) : UInt64 := FP.dmul (FP.i2d n) 4593671619917905920
theorem c8_W : WK 3 1 (Jvm.FP.Core.val64 4593671619917905920) := by
  rw [show Jvm.FP.Core.val64 4593671619917905920 = .fin false 4503599627370496 (-55) by decide +kernel]
  show Jvm.FP.Core.signed false (4503599627370496 * 2 ^ ((-55 + ((3 : Nat) : Int))).toNat) = 1 * ((2 ^ (-(-55 + ((3 : Nat) : Int))).toNat : Nat) : Int)
  decide +kernel
theorem wh_c (u : UInt64) (s : Bool) (c : Nat) (q i : Int) (h : Jvm.FP.Core.val64 u = .fin s c q) (h2 : Jvm.FP.Core.signed s (c * 2 ^ q.toNat) = i * ((2 ^ (-q).toNat : Nat) : Int)) : Jvm.FP.Core.Whole i (Jvm.FP.Core.val64 u) := by
  rw [h]; exact h2
theorem d8_W : Jvm.FP.Core.Whole 8 (Jvm.FP.Core.val64 4620693217682128896) := wh_c _ false 4503599627370496 (-49) 8 (by decide +kernel) (by decide +kernel)
theorem d0_W : Jvm.FP.Core.Whole 0 (Jvm.FP.Core.val64 FP.dconst0) := wh_c _ false 0 (-1074) 0 (by decide +kernel) (by decide +kernel)
theorem dhi_W : Jvm.FP.Core.Whole 2147483648 (Jvm.FP.Core.val64 4746794007248502784) := wh_c _ false 4503599627370496 (-21) 2147483648 (by decide +kernel) (by decide +kernel)
theorem dlo_W : Jvm.FP.Core.Whole (-2147483648) (Jvm.FP.Core.val64 13970166044103278592) := wh_c _ true 4503599627370496 (-21) (-2147483648) (by decide +kernel) (by decide +kernel)
theorem d1000_W : Jvm.FP.Core.Whole 1000 (Jvm.FP.Core.val64 4652007308841189376) := wh_c _ false 8796093022208000 (-43) 1000 (by decide +kernel) (by decide +kernel)
theorem WK_i (k : Nat) {i : Int} {d : Jvm.FP.Core.Datum} (h : Jvm.FP.Core.Whole i d) : WK k (i * ((2 ^ k : Nat) : Int)) d := by
  have := WK_up k (WK_0 h)
  rw [Nat.zero_add] at this; exact this
theorem nv_W (n : Int32) : WK 3 n.toInt (Jvm.FP.Core.val64 (nv n)) := by
  have h := WK_mul (WK_0 (Jvm.FP.Core.i2d_int n)) c8_W
  rw [Int.mul_one] at h
  have h1 := n.toInt_lt
  have h2 := n.le_toInt
  have e : Jvm.FP.Core.val64 (nv n) = Jvm.FP.Core.round Jvm.FP.Core.b64 (Jvm.FP.Core.exactProduct (Jvm.FP.Core.val64 (Jvm.FP.Core.i2d n)) (Jvm.FP.Core.val64 4593671619917905920)) := Jvm.FP.Core.val64_dmul _ _
  rw [e]
  exact WK_r (by decide) (by omega) h
theorem m8_W {u : UInt64} {i : Int} (h : WK 3 i (Jvm.FP.Core.val64 u)) (hi : i.natAbs ≤ 2 ^ 53) : Jvm.FP.Core.DInt i (FP.dmul u 4620693217682128896) := by
  have h1 := WK_mul h (WK_0 d8_W)
  have h2 : WK 0 i (Jvm.FP.Core.exactProduct (Jvm.FP.Core.val64 u) (Jvm.FP.Core.val64 4620693217682128896)) := WK_down (l := 3) h1
  have e : Jvm.FP.Core.val64 (FP.dmul u 4620693217682128896) = Jvm.FP.Core.round Jvm.FP.Core.b64 (Jvm.FP.Core.exactProduct (Jvm.FP.Core.val64 u) (Jvm.FP.Core.val64 4620693217682128896)) := Jvm.FP.Core.val64_dmul _ _
  show Jvm.FP.Core.Whole i _
  rw [e]
  exact WK_whole (WK_r (by decide) hi h2)
theorem nn_of {u : UInt64} {k : Nat} {i : Int} (h : WK k i (Jvm.FP.Core.val64 u)) : Jvm.FP.Core.dIsNaN u = false := (Jvm.FP.Core.notNaN_iff u).mpr (WK_nan h)
theorem dI_nn {u : UInt64} {i : Int} (h : Jvm.FP.Core.DInt i u) : Jvm.FP.Core.dIsNaN u = false := nn_of (WK_0 h)
theorem cmp_W {u v : UInt64} {k : Nat} {i j : Int} (hu : WK k i (Jvm.FP.Core.val64 u)) (hv : WK k j (Jvm.FP.Core.val64 v)) : FP.dcmp u v = some (compare i j) := WK_cmp hu hv
theorem cI_lt {i j : Int} (h : i < j) : compare i j = .lt := (Jvm.FP.Core.compare_lt_iff i j).mpr h
theorem cI_gt {i j : Int} (h : j < i) : compare i j = .gt := (Jvm.FP.Core.compare_gt_iff i j).mpr h
theorem cI_eq' {i j : Int} (h : i = j) : compare i j = .eq := (Jvm.FP.Core.compare_eq_iff i j).mpr h
theorem nv_lo (n : Int32) : FP.dcmp (nv n) 13970166044103278592 = some .gt := by
  have h1 := n.le_toInt
  rw [cmp_W (nv_W n) (WK_i 3 dlo_W), cI_gt (by show -2147483648 * ((2 ^ 3 : Nat) : Int) < _; omega)]
theorem nv_hi (n : Int32) : FP.dcmp (nv n) 4746794007248502784 = some .lt := by
  have h1 := n.toInt_lt
  rw [cmp_W (nv_W n) (WK_i 3 dhi_W), cI_lt (by show _ < 2147483648 * ((2 ^ 3 : Nat) : Int); omega)]
theorem nv_0 (n : Int32) : FP.dcmp (nv n) FP.dconst0 = some (compare n.toInt 0) := by
  rw [cmp_W (nv_W n) (WK_i 3 d0_W)]; rfl
theorem nv_neg (n : Int32) : WK 3 (-n.toInt) (Jvm.FP.Core.val64 (FP.dneg (nv n))) := by
  have e : Jvm.FP.Core.val64 (FP.dneg (nv n)) = Jvm.FP.Core.negate (Jvm.FP.Core.val64 (nv n)) := Jvm.FP.val64_dneg _
  rw [e]; exact WK_neg (nv_W n)
theorem nv_8 (n : Int32) : Jvm.FP.Core.DInt n.toInt (FP.dmul (nv n) 4620693217682128896) := by
  have h1 := n.toInt_lt
  have h2 := n.le_toInt
  exact m8_W (nv_W n) (by omega)
theorem i64_of (n : Int32) : n.toInt64.toInt = n.toInt := Int32.toInt_toInt64 n
theorem nv_told (n : Int32) : FP.dcmp (FP.l2d (FP.d2l (FP.dmul (nv n) 4620693217682128896))) (FP.dmul (nv n) 4620693217682128896) = some .eq := by
  have h1 := n.toInt_lt
  have h2 := n.le_toInt
  have h8 := nv_8 n
  have e : FP.d2l (FP.dmul (nv n) 4620693217682128896) = n.toInt64 := Jvm.FP.Core.d2l_int (by rw [i64_of]; exact h8)
  have h9 : Jvm.FP.Core.DInt n.toInt (FP.l2d n.toInt64) := by rw [← i64_of]; exact Jvm.FP.Core.l2d_int (by rw [i64_of]; omega)
  rw [e, cmp_W (WK_0 h9) (WK_0 h8), cI_eq' rfl]
theorem s_canBeTold {T : LY} {M : CM} (n : Int32) {Q : Int32 → CM → Prop} (h : Q 1 M) : fc_X10_canBeTold T (nv n) M Q := by
  unfold fc_X10_canBeTold fc_X10_canBeTold_b36 fc_X10_canBeTold_b35
  rw [nv_lo, nv_hi]
  exact ⟨fun z => absurd z (by decide), fun _ => ⟨fun z => absurd z (by decide), fun _ => ⟨vf_of (dI_nn (nv_8 n)), nm_r rfl (by rw [nv_told]; exact ⟨fun z => absurd rfl z, fun _ => ⟨nZ_1, h⟩⟩)⟩⟩⟩
theorem dgs_len (n : Nat) : ∀ k b, (dgs n k b).length ≤ k + 1
  | 0, _ => Nat.le_refl _
  | k + 1, b => by
    unfold dgs
    split
    · rw [List.length_cons]; exact Nat.succ_le_succ (dgs_len n k true)
    · exact Nat.le_succ_of_le (dgs_len n k false)
theorem ths_len : ∀ k m, (ths k m).length ≤ k
  | 0, _ => Nat.le_refl _
  | k + 1, m => by
    unfold ths
    split
    · exact Nat.zero_le _
    · rw [List.length_cons]; exact Nat.succ_le_succ (ths_len k _)
theorem numW_len (b : Bool) (e : Nat) : (numW b e).length ≤ 15 := by
  have h1 := dgs_len (e / 8) 9 false
  have h2 := ths_len 3 (e % 8 * 125)
  unfold numW
  rw [List.length_append, List.length_append]
  have h3 : (if b = true then [(45 : Int32)] else []).length ≤ 1 := by split <;> simp
  have h4 : (if e % 8 = 0 then [] else 46 :: ths 3 (e % 8 * 125)).length ≤ 4 := by
    split
    · simp
    · rw [List.length_cons]; omega
  omega
def nW (n : Int32) : List Int32 := numW (decide (n.toInt < 0)) n.toInt.natAbs
section NUM
variable {T : LY} {M : CM} {G : Nat → Nat → Nat} {I : Nat → Nat → Int32} {J : Nat → Int64} {D : Nat → UInt64} {W : Nat → List Int32} {px hN cv : Nat} {RW : Nat → Nat}
theorem s_number (hX : SX G T M px hN RW cv) (hS : SA G T M) (hV : VA G M I J D W) (a n : Int32) {X : Nat → CM → Prop} {Q : CM → Prop}
    (h1 : ∀ j, j < 8 → a = nI j → ∀ M' I' J' D' W', zA G M M' → VA G M' I' J' D' W' → (I' 80 j = 4 ∧ I' 83 j = 1 ∧ I' 85 j = 0 ∧ J' j = 0 ∧ D' j = nv n ∧ W' j = nW n) → (∀ v, v ≠ j → sam I J D W I' J' D' W' v) → Q M')
    (h0 : (a < 0 ∨ 8 ≤ a) → X 1 M) : fc_X10_number T X px a (nv n) M Q := by
  unfold fc_X10_number fc_X10_number_b22
  rw [hX.2.2.1]
  refine ⟨hX.1, s_slotAt hX (r := 0) (by decide) a (fun j hj e => ⟨fun z => (by cases z), fun _ => s_canBeTold n ⟨fun _ => ⟨_, rfl, (hS.2.1 _ (by omega)).1, ?_⟩, fun z => absurd z (by decide)⟩⟩) (fun e => ⟨fun _ => h0 e, fun z => absurd rfl z⟩)⟩
  rw [show 48 * 0 + j = j by omega]
  have hj144 : j < 144 := by omega
  refine s_X8_becomeDouble hS hV hj144 _ (fun M1 z1 v1 => ⟨G 1 j, ?_, (hS.1 j (by omega)).1, ?_⟩)
  · rw [z1.2.2.2.1]; exact (hS.2.1 j hj144).2.1
  have hlt := n.toInt_lt
  have hle := n.le_toInt
  have hn8 := nv_8 n
  obtain ⟨u, hu⟩ : ∃ u, u = (if decide (n.toInt < 0) = true then FP.dneg (nv n) else nv n) := ⟨_, rfl⟩
  have hW : WK 3 (n.toInt.natAbs : Int) (Jvm.FP.Core.val64 u) := by
    by_cases c : n.toInt < 0
    · rw [hu, if_pos (decide_eq_true c), show (n.toInt.natAbs : Int) = -n.toInt by omega]; exact nv_neg n
    · rw [hu, if_neg (by rw [decide_eq_false c]; decide), show (n.toInt.natAbs : Int) = n.toInt by omega]; exact nv_W n
  have h8 := m8_W hW (by omega)
  refine s_X7_appendNumber (zA_SA z1 hS) v1 (by omega) (nv n) (decide (n.toInt < 0)) n.toInt.natAbs (by omega) ?_ ?_ ?_ (fun M2 z2 v2 => ?_)
  · rw [nv_0]
    by_cases c : n.toInt < 0
    · rw [cI_lt c, decide_eq_true c]; decide
    · rw [decide_eq_false c]
      by_cases c0 : n.toInt = 0
      · rw [cI_eq' c0]; decide
      · rw [cI_gt (by omega)]; decide
  · rw [← hu]; exact vf_of (dI_nn h8)
  · rw [← hu]
    exact Jvm.FP.Core.d2l_int (by rw [pk_lT (by omega)]; exact h8)
  · have hl := numW_len (decide (n.toInt < 0)) n.toInt.natAbs
    have hr : rm j = 84 := rm_top hj144 (by omega)
    refine h1 j hj e M2 _ _ _ _ (zA_tr z1 z2) v2 ⟨?_, ?_, ?_, va_ups _ _ _, va_ups _ _ _, ?_⟩ (fun v hv => ⟨fun g => (upI_n _ _ hv).trans (bec_n _ _ _ hv), va_upn _ _ hv, va_upn _ _ hv, ?_⟩)
    · rw [upI_f _ _ (by decide), bec_80]
    · rw [upI_s]
    · rw [upI_f _ _ (by decide), bec_85]
    · rw [va_ups, va_ups, puts_app _ _ _ (by rw [hr]; simp only [List.length_nil]; omega)]; rfl
    · rw [va_upn _ _ hv, va_upn _ _ hv]
end NUM
