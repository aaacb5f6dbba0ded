/-! numbers that both round alike -/
theorem dh_W : WK 1 1 (Jvm.FP.Core.val64 4602678819172646912) := by
  rw [show Jvm.FP.Core.val64 4602678819172646912 = .fin false 4503599627370496 (-53) by decide +kernel]
  show Jvm.FP.Core.signed false (4503599627370496 * 2 ^ ((-53 + ((1 : Nat) : Int))).toNat) = 1 * ((2 ^ (-(-53 + ((1 : Nat) : Int))).toNat : Nat) : Int)
  decide +kernel
theorem lgc_0 {x : Int64} : lg_cmp x 0 = 0 ↔ x = 0 := by
  unfold lg_cmp
  by_cases h : x > 0
  · rw [if_pos h]
    exact ⟨fun z => absurd z (by decide), fun z => by rw [z] at h; exact absurd h (by decide)⟩
  · rw [if_neg h]
    by_cases g : x = 0
    · rw [if_pos g]; exact ⟨fun _ => g, fun _ => rfl⟩
    · rw [if_neg g]; exact ⟨fun z => absurd z (by decide), fun z => absurd z g⟩
theorem par_1 (x : Int64) : lg_cmp (x &&& 1) 0 = 0 ↔ x.toInt % 2 = 0 := by
  have h : (x &&& 1).toUInt64.toNat = x.toUInt64.toNat % 2 := by
    show (x.toUInt64 &&& Int64.toUInt64 1).toNat = _
    rw [UInt64.toNat_and]
    exact Nat.and_two_pow_sub_one_eq_mod _ 1
  have h2 : x.toInt = if 2 * x.toUInt64.toNat < 18446744073709551616 then (x.toUInt64.toNat : Int) else (x.toUInt64.toNat : Int) - 18446744073709551616 := BitVec.toInt_eq_toNat_cond _
  have h3 : x &&& 1 = 0 ↔ (x &&& 1).toUInt64.toNat = 0 := ⟨fun z => by rw [z]; rfl, fun z => congrArg UInt64.toInt64 (UInt64.toNat_inj.mp (z.trans rfl))⟩
  rw [lgc_0, h3, h]
  split at h2 <;> omega
theorem tdv (c : Int) {P : Nat} (hP : 0 < P) : (c - c.tdiv (P : Int) * (P : Int)).natAbs < P ∧ (0 ≤ c → 0 ≤ c - c.tdiv (P : Int) * (P : Int)) ∧ (c ≤ 0 → c - c.tdiv (P : Int) * (P : Int) ≤ 0) ∧ (c.tdiv (P : Int)).natAbs * P ≤ c.natAbs := by
  rcases Int.le_total 0 c with h | h
  · obtain ⟨n, rfl⟩ : ∃ n : Nat, c = (n : Int) := ⟨c.natAbs, by omega⟩
    have m1 := Nat.div_add_mod n P
    have m2 := Nat.mod_lt n hP
    rw [Nat.mul_comm] at m1
    have e : ((n : Int).tdiv (P : Int)) = ((n / P : Nat) : Int) := rfl
    rw [e, ← Int.natCast_mul, Int.natAbs_natCast, Int.natAbs_natCast]
    generalize n / P * P = y at *
    omega
  · obtain ⟨n, rfl⟩ : ∃ n : Nat, c = -(n : Int) := ⟨c.natAbs, by omega⟩
    have m1 := Nat.div_add_mod n P
    have m2 := Nat.mod_lt n hP
    rw [Nat.mul_comm] at m1
    have e : ((-(n : Int)).tdiv (P : Int)) = -((n / P : Nat) : Int) := by rw [Int.neg_tdiv]; rfl
    rw [e, Int.neg_mul, ← Int.natCast_mul, Int.natAbs_neg, Int.natAbs_neg, Int.natAbs_natCast, Int.natAbs_natCast]
    generalize n / P * P = y at *
    omega
theorem par_2 (x : Int64) (h : x.toInt.natAbs ≤ 2 ^ 54) : lg_cmp (x - x / 2 * 2) 0 = 0 ↔ x.toInt % 2 = 0 := by
  obtain ⟨t1, -, -, t4⟩ := tdv x.toInt (P := 2) (by decide)
  have ed : (x / 2).toInt = x.toInt.tdiv 2 := by
    rw [Int64.toInt_div]
    show (x.toInt.tdiv 2).bmod _ = _
    have t5 : (x.toInt.tdiv 2).natAbs * 2 ≤ x.toInt.natAbs := t4
    exact Int.bmod_eq_of_le (by omega) (by omega)
  have t6 : (x.toInt - x.toInt.tdiv 2 * 2).natAbs < 2 := t1
  have em : (x / 2 * 2).toInt = x.toInt.tdiv 2 * 2 := by
    rw [Int64.toInt_mul, ed]
    show (x.toInt.tdiv 2 * 2).bmod _ = _
    exact Int.bmod_eq_of_le (by omega) (by omega)
  have es : (x - x / 2 * 2).toInt = x.toInt - x.toInt.tdiv 2 * 2 := by
    rw [Int64.toInt_sub, em]
    exact Int.bmod_eq_of_le (by omega) (by omega)
  have e0 : x - x / 2 * 2 = 0 ↔ (x - x / 2 * 2).toInt = 0 := ⟨fun z => by rw [z]; rfl, fun z => Int64.toInt.inj (z.trans rfl)⟩
  rw [lgc_0, e0, es]
  omega
theorem rR_lt {d : UInt64} (h : Op.cmpValue (FP.dcmp (rndO d) 4602678819172646912) .l = -1) : rndR d = rndW d := by
  unfold rndR; rw [h, if_neg (show ¬ (0 : Int32) < -1 by decide), if_pos (show ¬ (-1 : Int32) = 0 by decide)]
theorem rR_gt {d : UInt64} (h : Op.cmpValue (FP.dcmp (rndO d) 4602678819172646912) .l = 1) : rndR d = rndW d + 1 := by
  unfold rndR; rw [h, if_pos (show (0 : Int32) < 1 by decide)]
theorem rR_eq {d : UInt64} (h : Op.cmpValue (FP.dcmp (rndO d) 4602678819172646912) .l = 0) : rndR d = if lg_cmp (rndW d - rndW d / 2 * 2) 0 = 0 then rndW d else rndW d + 1 := by
  unfold rndR; rw [h, if_neg (show ¬ (0 : Int32) < 0 by decide), if_neg (show ¬ ¬ (0 : Int32) = 0 by decide)]
theorem rC_lt {d : UInt64} (h : Op.cmpValue (FP.dcmp (rndS d) 4602678819172646912) .l = -1) : rndC d = FP.d2l d := by
  unfold rndC; rw [h, if_neg (fun z => z.elim (fun y => absurd y (by decide)) (fun y => absurd y.1 (by decide)))]
theorem rC_gt {d : UInt64} (h : Op.cmpValue (FP.dcmp (rndS d) 4602678819172646912) .l = 1) : rndC d = if rndN d then FP.d2l d - 1 else FP.d2l d + 1 := by
  unfold rndC; rw [h, if_pos (Or.inl (by decide))]
theorem rC_eq {d : UInt64} (h : Op.cmpValue (FP.dcmp (rndS d) 4602678819172646912) .l = 0) : rndC d = if lg_cmp (FP.d2l d &&& 1) 0 = 0 then FP.d2l d else (if rndN d then FP.d2l d - 1 else FP.d2l d + 1) := by
  unfold rndC; rw [h]
  by_cases c : lg_cmp (FP.d2l d &&& 1) 0 = 0
  · rw [if_pos c, if_neg (fun z => z.elim (fun y => absurd y (by decide)) (fun y => y.2 c))]
  · rw [if_neg c, if_pos (Or.inr ⟨rfl, c⟩)]
theorem cvl_lt {i j : Int} (h : i < j) {o : CmpOp} : Op.cmpValue (some (compare i j)) o = -1 := by rw [cI_lt h]; rfl
theorem cvl_eq {i j : Int} (h : i = j) {o : CmpOp} : Op.cmpValue (some (compare i j)) o = 0 := by rw [cI_eq' h]; rfl
theorem cvl_gt {i j : Int} (h : j < i) {o : CmpOp} : Op.cmpValue (some (compare i j)) o = 1 := by rw [cI_gt h]; rfl
theorem cvl_ge {i j : Int} (h : j ≤ i) {o : CmpOp} : 0 ≤ Op.cmpValue (some (compare i j)) o := by
  rcases Int.lt_or_eq_of_le h with x | x
  · rw [cvl_gt x]; decide
  · rw [cvl_eq x.symm]; decide
theorem cvl_le {i j : Int} (h : i ≤ j) {o : CmpOp} : Op.cmpValue (some (compare i j)) o ≤ 0 := by
  rcases Int.lt_or_eq_of_le h with x | x
  · rw [cvl_lt x]; decide
  · rw [cvl_eq x]; decide
theorem gd_W {k : Nat} (k1 : 1 ≤ k) (k53 : k ≤ 53) {c : Int} {d : UInt64} (h : WK k c (Jvm.FP.Core.val64 d)) (hc : c.natAbs < 2 ^ 54) : gd d := by
  obtain ⟨H, hH⟩ : ∃ H : Nat, H = 2 ^ (k - 1) := ⟨_, rfl⟩
  have hP : 2 ^ k = 2 * H := by
    rw [hH, ← Nat.pow_succ', show (k - 1).succ = k by omega]
  have H1 : 1 ≤ H := by rw [hH]; exact Nat.two_pow_pos _
  have H2 : H ≤ 2 ^ 52 := by rw [hH]; exact Nat.pow_le_pow_right (by decide) (by omega)
  have hh : WK k (H : Int) (Jvm.FP.Core.val64 4602678819172646912) := by
    have z := WK_up (k - 1) dh_W
    rw [show 1 + (k - 1) = k by omega, Int.one_mul, ← hH] at z
    exact z
  have hw := cut_W h (by omega)
  obtain ⟨t1, t2, t3, t4⟩ := tdv c (P := 2 ^ k) (Nat.two_pow_pos k)
  rw [← hw] at t1 t2 t3 t4
  obtain ⟨w, ew⟩ : ∃ w, w = FP.d2l d := ⟨_, rfl⟩
  rw [← ew] at t1 t2 t3 t4 hw
  obtain ⟨r, er⟩ : ∃ r, r = c - w.toInt * ((2 ^ k : Nat) : Int) := ⟨_, rfl⟩
  rw [← er] at t1 t2 t3
  have wb : w.toInt.natAbs < 2 ^ 53 := by
    have z : w.toInt.natAbs * 2 ≤ w.toInt.natAbs * 2 ^ k := Nat.mul_le_mul_left _ (by omega)
    omega
  have R : WK k r (Jvm.FP.Core.val64 (rstC d)) := by
    unfold rstC
    rw [← ew, er]
    exact rest_W (by omega) h (by omega) (by rw [← er]; omega)
  have cr0 : FP.dcmp (rstC d) FP.dconst0 = some (compare r 0) := by
    have z := cmp_W R (WK_i k d0_W)
    rw [Int.zero_mul] at z; exact z
  have l2 : WK k (w.toInt * ((2 ^ k : Nat) : Int)) (Jvm.FP.Core.val64 (FP.l2d w)) := WK_i k (Jvm.FP.Core.l2d_int (a := w) (by omega))
  have crw : FP.dcmp (FP.l2d w) d = some (compare (w.toInt * ((2 ^ k : Nat) : Int)) c) := cmp_W l2 h
  refine ⟨nn_of h, ?_⟩
  by_cases r0 : 0 ≤ r
  · have n0 : rndN d = false := by
      unfold rndN
      rw [cr0, decide_eq_true (cvl_ge r0)]; rfl
    have eW : rndW d = w := by
      unfold rndW
      rw [← ew, crw, if_pos (cvl_le (by omega))]
    have eO : rndO d = rstC d := by
      unfold rndO rstC
      rw [eW, ew]
    have eS : rndS d = rstC d := by
      unfold rndS
      rw [n0]; rfl
    have c5 : FP.dcmp (rstC d) 4602678819172646912 = some (compare r (H : Int)) := cmp_W R hh
    rcases Int.lt_trichotomy r (H : Int) with x | x | x
    · rw [rR_lt (by rw [eO, c5, cvl_lt x]), rC_lt (by rw [eS, c5, cvl_lt x]), eW, ew]
    · rw [rR_eq (by rw [eO, c5, cvl_eq x]), rC_eq (by rw [eS, c5, cvl_eq x]), eW, ← ew, n0]
      by_cases p : w.toInt % 2 = 0
      · rw [if_pos ((par_2 w (by omega)).mpr p), if_pos ((par_1 w).mpr p)]
      · rw [if_neg (fun z => p ((par_2 w (by omega)).mp z)), if_neg (fun z => p ((par_1 w).mp z))]; rfl
    · rw [rR_gt (by rw [eO, c5, cvl_gt x]), rC_gt (by rw [eS, c5, cvl_gt x]), eW, ← ew, n0]; rfl
  · have n1 : rndN d = true := by
      unfold rndN
      rw [cr0, cvl_lt (by omega)]; rfl
    have eW : rndW d = w - 1 := by
      unfold rndW
      rw [← ew, crw, cvl_gt (by omega), if_neg (by decide)]
    have w1 : (w - 1).toInt = w.toInt - 1 := by
      rw [Int64.toInt_sub]
      show (w.toInt - 1).bmod _ = _
      exact Int.bmod_eq_of_le (by omega) (by omega)
    have e1 : c - (w - 1).toInt * ((2 ^ k : Nat) : Int) = r + ((2 ^ k : Nat) : Int) := by
      rw [w1, Int.sub_mul, Int.one_mul, er]; omega
    have O : WK k (r + ((2 ^ k : Nat) : Int)) (Jvm.FP.Core.val64 (rndO d)) := by
      unfold rndO
      rw [eW, ← e1]
      exact rest_W (by omega) h (by rw [w1]; omega) (by rw [e1]; omega)
    have S : WK k (-r) (Jvm.FP.Core.val64 (rndS d)) := by
      unfold rndS
      rw [n1, if_pos rfl]
      have e : Jvm.FP.Core.val64 (FP.dneg (rstC d)) = Jvm.FP.Core.negate (Jvm.FP.Core.val64 (rstC d)) := Jvm.FP.val64_dneg _
      rw [e]; exact WK_neg R
    have cO : FP.dcmp (rndO d) 4602678819172646912 = some (compare (r + ((2 ^ k : Nat) : Int)) (H : Int)) := cmp_W O hh
    have cS : FP.dcmp (rndS d) 4602678819172646912 = some (compare (-r) (H : Int)) := cmp_W S hh
    have back : w - 1 + 1 = w := Int64.sub_add_cancel w 1
    rcases Int.lt_trichotomy (-r) (H : Int) with x | x | x
    · rw [rR_gt (by rw [cO, cvl_gt (by omega)]), rC_lt (by rw [cS, cvl_lt x]), eW, back, ew]
    · rw [rR_eq (by rw [cO, cvl_eq (by omega)]), rC_eq (by rw [cS, cvl_eq x]), eW, ← ew, n1, back, if_pos rfl]
      by_cases p : w.toInt % 2 = 0
      · rw [if_neg (fun z => by have := (par_2 (w - 1) (by omega)).mp z; omega), if_pos ((par_1 w).mpr p)]
      · rw [if_pos ((par_2 (w - 1) (by omega)).mpr (by omega)), if_neg (fun z => p ((par_1 w).mp z))]
    · rw [rR_lt (by rw [cO, cvl_lt (by omega)]), rC_gt (by rw [cS, cvl_gt x]), eW, ← ew, n1, if_pos rfl]
theorem zv_half : Jvm.FP.Core.zval Jvm.FP.Core.b64 (Jvm.FP.Core.val64 4602678819172646912) * 2 = (Jvm.FP.Core.one64 : Int) := by decide +kernel
theorem l2d_z0 : FP.l2d 0 = FP.dconst0 := by decide +kernel
theorem zv_0 : Jvm.FP.Core.zval Jvm.FP.Core.b64 (Jvm.FP.Core.val64 FP.dconst0) = 0 := by decide +kernel
theorem zv_m1 : Jvm.FP.Core.zval Jvm.FP.Core.b64 (Jvm.FP.Core.val64 (FP.l2d (0 - 1))) = -(Jvm.FP.Core.one64 : Int) := by decide +kernel
theorem fin_ne {d : UInt64} (h : Jvm.FP.Core.DFin d) : Jvm.FP.Core.val64 d ≠ .nan := by
  obtain ⟨s, c, q, e⟩ := h
  rw [e]; exact Jvm.FP.Core.Datum.noConfusion
theorem fin_neg {d : UInt64} (h : Jvm.FP.Core.DFin d) : ∃ s c q, Jvm.FP.Core.negate (Jvm.FP.Core.val64 d) = .fin s c q := by
  obtain ⟨s, c, q, e⟩ := h
  rw [e]; exact ⟨!s, c, q, rfl⟩
theorem zv_abs (d : Jvm.FP.Core.Datum) : (Jvm.FP.Core.zval Jvm.FP.Core.b64 d).natAbs = Jvm.FP.Core.zmag Jvm.FP.Core.b64 d := by
  unfold Jvm.FP.Core.zval Jvm.FP.Core.signed
  split <;> omega
theorem gd_small {d : UInt64} (hf : Jvm.FP.Core.DFin d) (h : 2 * Jvm.FP.Core.zmag Jvm.FP.Core.b64 (Jvm.FP.Core.val64 d) < Jvm.FP.Core.one64) : gd d := by
  have nn := fin_ne hf
  have nb : Jvm.FP.Core.dIsNaN d = false := (Jvm.FP.Core.notNaN_iff d).mpr nn
  have ab := zv_abs (Jvm.FP.Core.val64 d)
  have hh := zv_half
  have op := Jvm.FP.Core.one64_pos
  have hn5 : Jvm.FP.Core.val64 4602678819172646912 ≠ .nan := WK_nan dh_W
  have ew : FP.d2l d = 0 := by
    refine Int64.toInt.inj ?_
    have z := Jvm.FP.Core.d2l_val nn
    rw [Nat.div_eq_of_lt (by omega), Jvm.FP.Core.signed_zero] at z
    exact z.trans (by decide)
  have zR : Jvm.FP.Core.zval Jvm.FP.Core.b64 (Jvm.FP.Core.val64 (rstC d)) = Jvm.FP.Core.zval Jvm.FP.Core.b64 (Jvm.FP.Core.val64 d) := by
    unfold rstC
    rw [ew, l2d_z0]
    have e : Jvm.FP.Core.val64 (FP.dsub d FP.dconst0) = Jvm.FP.Core.round Jvm.FP.Core.b64 (Jvm.FP.Core.exactSum (Jvm.FP.Core.val64 d) (Jvm.FP.Core.negate (Jvm.FP.Core.val64 FP.dconst0))) := Jvm.FP.Core.val64_dsub _ _
    rw [e]
    have f0 : Jvm.FP.Core.DFin FP.dconst0 := (Jvm.FP.Core.fin_bits _).mpr (by decide)
    have y0 : Jvm.FP.Core.zval Jvm.FP.Core.b64 (Jvm.FP.Core.negate (Jvm.FP.Core.val64 FP.dconst0)) = 0 := by rw [Jvm.FP.Core.zval_negate, zv_0]; rfl
    have a := Jvm.FP.Core.sum_le Jvm.FP.Core.good_b64 hf (fin_neg f0) (Jvm.FP.Core.val64_fits d) (Jvm.FP.Core.negate_fits (Jvm.FP.Core.val64_fits _)) (Jvm.FP.Core.val64_fits d) nn (by rw [y0]; omega)
    have b := Jvm.FP.Core.sum_ge Jvm.FP.Core.good_b64 hf (fin_neg f0) (Jvm.FP.Core.val64_fits d) (Jvm.FP.Core.negate_fits (Jvm.FP.Core.val64_fits _)) (Jvm.FP.Core.val64_fits d) nn (by rw [y0]; omega)
    omega
  have nR : Jvm.FP.Core.val64 (rstC d) ≠ .nan := (Jvm.FP.Core.notNaN_iff _).mp (Jvm.FP.Core.dsub_out nb (Jvm.FP.Core.l2d_fin _))
  have n00 : Jvm.FP.Core.val64 FP.dconst0 ≠ .nan := WK_nan (WK_0 d0_W)
  have cr0 : FP.dcmp (rstC d) FP.dconst0 = some (compare (Jvm.FP.Core.zval Jvm.FP.Core.b64 (Jvm.FP.Core.val64 d)) 0) := by
    have y : FP.dcmp (rstC d) FP.dconst0 = some (compare (Jvm.FP.Core.zval Jvm.FP.Core.b64 (Jvm.FP.Core.val64 (rstC d))) (Jvm.FP.Core.zval Jvm.FP.Core.b64 (Jvm.FP.Core.val64 FP.dconst0))) := Jvm.FP.Core.dcmp_zval nR n00
    rw [y, zR, zv_0]
  have c5 : FP.dcmp (rstC d) 4602678819172646912 = some (compare (Jvm.FP.Core.zval Jvm.FP.Core.b64 (Jvm.FP.Core.val64 d)) (Jvm.FP.Core.zval Jvm.FP.Core.b64 (Jvm.FP.Core.val64 4602678819172646912))) := by
    have y : FP.dcmp (rstC d) 4602678819172646912 = some (compare (Jvm.FP.Core.zval Jvm.FP.Core.b64 (Jvm.FP.Core.val64 (rstC d))) (Jvm.FP.Core.zval Jvm.FP.Core.b64 (Jvm.FP.Core.val64 4602678819172646912))) := Jvm.FP.Core.dcmp_zval nR hn5
    rw [y, zR]
  have crw : FP.dcmp (FP.l2d (FP.d2l d)) d = some (compare 0 (Jvm.FP.Core.zval Jvm.FP.Core.b64 (Jvm.FP.Core.val64 d))) := by
    rw [ew, l2d_z0]
    have y : FP.dcmp FP.dconst0 d = some (compare (Jvm.FP.Core.zval Jvm.FP.Core.b64 (Jvm.FP.Core.val64 FP.dconst0)) (Jvm.FP.Core.zval Jvm.FP.Core.b64 (Jvm.FP.Core.val64 d))) := Jvm.FP.Core.dcmp_zval n00 nn
    rw [y, zv_0]
  refine ⟨nb, ?_⟩
  by_cases r0 : 0 ≤ Jvm.FP.Core.zval Jvm.FP.Core.b64 (Jvm.FP.Core.val64 d)
  · have n0 : rndN d = false := by
      unfold rndN
      rw [cr0, decide_eq_true (cvl_ge r0)]; rfl
    have eW : rndW d = FP.d2l d := by
      unfold rndW
      rw [crw, if_pos (cvl_le r0)]
    have eO : rndO d = rstC d := by
      unfold rndO rstC
      rw [eW]
    have eS : rndS d = rstC d := by
      unfold rndS
      rw [n0]; rfl
    rw [rR_lt (by rw [eO, c5, cvl_lt (by omega)]), rC_lt (by rw [eS, c5, cvl_lt (by omega)]), eW]
  · have n1 : rndN d = true := by
      unfold rndN
      rw [cr0, cvl_lt (by omega)]; rfl
    have eW : rndW d = 0 - 1 := by
      unfold rndW
      rw [crw, cvl_gt (by omega), if_neg (by decide), ew]
    have cS : FP.dcmp (rndS d) 4602678819172646912 = some (compare (-Jvm.FP.Core.zval Jvm.FP.Core.b64 (Jvm.FP.Core.val64 d)) (Jvm.FP.Core.zval Jvm.FP.Core.b64 (Jvm.FP.Core.val64 4602678819172646912))) := by
      unfold rndS
      rw [n1, if_pos rfl]
      have e : Jvm.FP.Core.val64 (FP.dneg (rstC d)) = Jvm.FP.Core.negate (Jvm.FP.Core.val64 (rstC d)) := Jvm.FP.val64_dneg _
      have nS : Jvm.FP.Core.val64 (FP.dneg (rstC d)) ≠ .nan := by rw [e]; exact Jvm.FP.Core.negate_ne_nan nR
      have y : FP.dcmp (FP.dneg (rstC d)) 4602678819172646912 = some (compare (Jvm.FP.Core.zval Jvm.FP.Core.b64 (Jvm.FP.Core.val64 (FP.dneg (rstC d)))) (Jvm.FP.Core.zval Jvm.FP.Core.b64 (Jvm.FP.Core.val64 4602678819172646912))) := Jvm.FP.Core.dcmp_zval nS hn5
      rw [y, e, Jvm.FP.Core.zval_negate, zR]
    have zO : Jvm.FP.Core.zval Jvm.FP.Core.b64 (Jvm.FP.Core.val64 4602678819172646912) ≤ Jvm.FP.Core.zval Jvm.FP.Core.b64 (Jvm.FP.Core.val64 (rndO d)) := by
      unfold rndO
      rw [eW]
      have e : Jvm.FP.Core.val64 (FP.dsub d (FP.l2d (0 - 1))) = Jvm.FP.Core.round Jvm.FP.Core.b64 (Jvm.FP.Core.exactSum (Jvm.FP.Core.val64 d) (Jvm.FP.Core.negate (Jvm.FP.Core.val64 (FP.l2d (0 - 1))))) := Jvm.FP.Core.val64_dsub _ _
      rw [e]
      exact Jvm.FP.Core.sum_ge Jvm.FP.Core.good_b64 hf (fin_neg (Jvm.FP.Core.l2d_fin _)) (Jvm.FP.Core.val64_fits d) (Jvm.FP.Core.negate_fits (Jvm.FP.Core.val64_fits _)) (Jvm.FP.Core.val64_fits _) hn5 (by rw [Jvm.FP.Core.zval_negate, zv_m1]; omega)
    have nO : Jvm.FP.Core.val64 (rndO d) ≠ .nan := (Jvm.FP.Core.notNaN_iff _).mp (Jvm.FP.Core.dsub_out nb (Jvm.FP.Core.l2d_fin _))
    have cO : FP.dcmp (rndO d) 4602678819172646912 = some (compare (Jvm.FP.Core.zval Jvm.FP.Core.b64 (Jvm.FP.Core.val64 (rndO d))) (Jvm.FP.Core.zval Jvm.FP.Core.b64 (Jvm.FP.Core.val64 4602678819172646912))) := Jvm.FP.Core.dcmp_zval nO hn5
    rw [rC_lt (by rw [cS, cvl_lt (by omega)]), ew]
    rcases Int.lt_or_eq_of_le zO with x | x
    · rw [rR_gt (by rw [cO, cvl_gt x]), eW]; decide
    · rw [rR_eq (by rw [cO, cvl_eq x.symm]), eW]; decide
theorem gd_bits {d : UInt64} (h : d.toNat % 2 ^ 63 < 1076 * 2 ^ 52) : gd d := by
  obtain ⟨s, c, q, e, hm⟩ := Jvm.FP.Core.mag_bits h (by decide)
  have hfit := Jvm.FP.Core.val64_fits d
  rw [e] at hfit
  obtain ⟨f1, -, -, -⟩ := hfit
  have c53 : c < 2 ^ 53 := f1
  rw [Jvm.FP.Core.qmin_b64] at hm
  have sa : ∀ n : Nat, (Jvm.FP.Core.signed s n).natAbs = n := fun n => by unfold Jvm.FP.Core.signed; split <;> omega
  by_cases q0 : 0 ≤ q
  · have W : WK 0 (Jvm.FP.Core.signed s (c * 2 ^ q.toNat)) (Jvm.FP.Core.val64 d) := by
      rw [e]
      show Jvm.FP.Core.signed s (c * 2 ^ (q + ((0 : Nat) : Int)).toNat) = Jvm.FP.Core.signed s (c * 2 ^ q.toNat) * ((2 ^ (-(q + ((0 : Nat) : Int))).toNat : Nat) : Int)
      rw [show q + ((0 : Nat) : Int) = q by omega, show (-q).toNat = 0 by omega]
      exact (Int.mul_one _).symm
    have W1 := WK_up 1 W
    refine gd_W (by decide) (by decide) W1 ?_
    rw [Int.natAbs_mul, sa]
    have b : c * 2 ^ q.toNat < 2 ^ 53 := by
      rw [show (q - -1074).toNat = q.toNat + 1074 by omega, Nat.pow_add, ← Nat.mul_assoc, show 2 ^ 52 * 2 ^ (1076 - 1) = 2 ^ 53 * 2 ^ 1074 by rw [← Nat.pow_add, ← Nat.pow_add]] at hm
      exact Nat.lt_of_mul_lt_mul_right hm
    show c * 2 ^ q.toNat * 2 < _
    omega
  · by_cases q53 : -53 ≤ q
    · have W : WK (-q).toNat (Jvm.FP.Core.signed s c) (Jvm.FP.Core.val64 d) := by
        rw [e]
        show Jvm.FP.Core.signed s (c * 2 ^ (q + (((-q).toNat : Nat) : Int)).toNat) = Jvm.FP.Core.signed s c * ((2 ^ (-(q + (((-q).toNat : Nat) : Int))).toNat : Nat) : Int)
        rw [show q + (((-q).toNat : Nat) : Int) = 0 by omega, show (0 : Int).toNat = 0 by decide, show (-(0 : Int)).toNat = 0 by decide, Nat.pow_zero, Nat.mul_one]
        exact (Int.mul_one _).symm
      exact gd_W (by omega) (by omega) W (by rw [sa]; omega)
    · refine gd_small ⟨s, c, q, e⟩ ?_
      rw [e]
      show 2 * (c * 2 ^ (q - Jvm.FP.Core.b64.qmin).toNat) < Jvm.FP.Core.one64
      rw [Jvm.FP.Core.qmin_b64]
      have b1 : 2 ^ (q - -1074).toNat ≤ 2 ^ 1020 := Nat.pow_le_pow_right (by decide) (by omega)
      have b2 : c * 2 ^ (q - -1074).toNat ≤ c * 2 ^ 1020 := Nat.mul_le_mul_left _ b1
      have b3 : c * 2 ^ 1020 < 2 ^ 53 * 2 ^ 1020 := Nat.mul_lt_mul_of_pos_right c53 (Nat.two_pow_pos _)
      have b4 : Jvm.FP.Core.one64 = 2 * (2 ^ 53 * 2 ^ 1020) := by
        unfold Jvm.FP.Core.one64
        rw [← Nat.pow_add, ← Nat.pow_succ']
      rw [b4]
      exact Nat.mul_lt_mul_of_pos_left (Nat.lt_of_le_of_lt b2 b3) (by decide)
theorem gd_nv (n : Int32) : gd (nv n) := by
  refine gd_bits ?_
  have h : (FP.dmul (FP.i2d n) 4593671619917905920).toNat % 2 ^ 63 < (1056 + 1021 - 1025 + 3) * 2 ^ 52 := Jvm.FP.Core.dmul_mag (Jvm.FP.Core.i2d_mag n) (b := 4593671619917905920) (Kb := 1021) (by decide) (by decide) (by decide)
  unfold nv
  omega
/-! numbers of texts -/
theorem isD_b {c : Int32} (h : isD c = true) : 0 ≤ (c - 48).toInt ∧ (c - 48).toInt ≤ 9 := by
  unfold isD at h
  rw [Bool.and_eq_true, Bool.not_eq_true', Bool.not_eq_true', decide_eq_false_iff_not, decide_eq_false_iff_not, Int32.lt_iff_toInt_lt, Int32.lt_iff_toInt_lt] at h
  have e1 : (48 : Int32).toInt = 48 := by decide
  have e2 : (57 : Int32).toInt = 57 := by decide
  rw [e1, e2] at h
  rw [Int32.toInt_sub, e1]
  have e3 : (c.toInt - 48).bmod (2 ^ 32) = c.toInt - 48 := Int.bmod_eq_of_le (by omega) (by omega)
  rw [e3]; omega
theorem st_b {v : Int64} {x : Int32} {p : Int64} {P : Int} (hp : p.toInt = P) (hP : 0 ≤ P ∧ P ≤ 16) (h0 : 0 ≤ v.toInt) (h1 : v.toInt < 2 ^ 50) (hx0 : 0 ≤ x.toInt) (hx1 : x.toInt ≤ 16) : (v * p + x.toInt64).toInt = v.toInt * P + x.toInt := by
  have a : 0 ≤ v.toInt * P := Int.mul_nonneg h0 hP.1
  have b : v.toInt * P ≤ v.toInt * 16 := Int.mul_le_mul_of_nonneg_left hP.2 h0
  have e1 : (v * p).toInt = v.toInt * P := by
    rw [Int64.toInt_mul, hp]
    exact Int.bmod_eq_of_le (by omega) (by omega)
  rw [Int64.toInt_add, e1, Int32.toInt_toInt64]
  exact Int.bmod_eq_of_le (by omega) (by omega)
theorem decL_bnd (w : Nat → Int32) : ∀ (m i : Nat) (d : Int64) (k : Nat) (b : Bool) (r : Int64 × Nat) (j : Nat), decL w m i d k b = some r → 0 ≤ d.toInt → d.toInt < ((10 ^ j : Nat) : Int) → j + m ≤ 15 → 0 ≤ r.1.toInt ∧ r.1.toInt < ((10 ^ (j + m) : Nat) : Int)
  | 0, _, _, _, _, _, _, h, h0, h1, _ => by cases h; exact ⟨h0, h1⟩
  | m + 1, i, d, k, b, r, j, h, h0, h1, hj => by
    unfold decL at h
    split at h
    · have z := decL_bnd w m _ _ _ _ r j h h0 h1 (by omega)
      have p : 10 ^ (j + m) ≤ 10 ^ (j + (m + 1)) := Nat.pow_le_pow_right (by decide) (by omega)
      omega
    · split at h
      · rename_i c
        have x := isD_b c
        have p : 10 ^ j ≤ 10 ^ 15 := Nat.pow_le_pow_right (by decide) (by omega)
        have e := st_b (v := d) (x := w i - 48) (p := 10) (P := 10) (by decide) (by decide) h0 (by omega) x.1 (by omega)
        have p1 : 10 ^ (j + 1) = 10 ^ j * 10 := Nat.pow_succ _ _
        have z := decL_bnd w m _ _ _ _ r (j + 1) h (by rw [e]; omega) (by rw [e]; omega) (by omega)
        rw [show j + (m + 1) = j + 1 + m by omega]
        exact z
      · cases h
theorem pw_bits {k : Nat} (h : k < 100) : 1023 * 2 ^ 52 ≤ (pw k).toNat % 2 ^ 63 ∧ (pw k).toNat % 2 ^ 63 < 2047 * 2 ^ 52 :=
  co_dec (N := 100) (P := fun k => 1023 * 2 ^ 52 ≤ (pw k).toNat % 2 ^ 63 ∧ (pw k).toNat % 2 ^ 63 < 2047 * 2 ^ 52) (by decide +kernel) h
theorem dd_ar (j : Nat) : j + 1024 + (1074 - 52 - 1) - 1023 + 3 = j + 1025 := by omega
theorem decR_bits {w : Nat → Int32} {a b : Nat} {v : UInt64} {j : Nat} (hj : 10 ^ (b - a) ≤ 2 ^ j) (hb : b - a ≤ 15) (hj2 : j ≤ 50) (h : decR w a b = some v) : v.toNat % 2 ^ 63 < (j + 1025) * 2 ^ 52 := by
  unfold decR at h
  split at h
  · cases h
  · cases e : decL w (b - a) a 0 0 false with
    | none => rw [e] at h; cases h
    | some p =>
      rw [e] at h
      have hv : v = FP.ddiv (FP.l2d p.1) (pw p.2) := by
        have := Option.some.inj h
        exact this.symm
      have p1 := decL_bnd w (b - a) a 0 0 false p 0 e (by decide) (by decide) (by omega)
      rw [Nat.zero_add] at p1
      have p2 := decL_k w (b - a) a 0 0 false p e
      obtain ⟨q1, q2⟩ := pw_bits (k := p.2) (by omega)
      have l := Jvm.FP.Core.fromInt_mag (Jvm.FP.Core.toNat_l2d p.1) (j := j) (K := j + 1023) (by omega) (by omega) (by omega)
      have l2 : (FP.l2d p.1).toNat % 2 ^ 63 < (j + 1024) * 2 ^ 52 := by
        have z : (FP.l2d p.1).toNat % 2 ^ 63 ≤ (j + 1023) * 2 ^ 52 := l
        omega
      have z := Jvm.FP.Core.ddiv_mag (K := j + 1024) (L := 1023) l2 q1 q2 (by omega) (by decide)
      rw [hv]
      rw [dd_ar] at z
      exact z
theorem dgt_b {c : Int32} (h : 0 ≤ dgt c) : 0 ≤ (dgt c).toInt ∧ (dgt c).toInt ≤ 15 := by
  rw [Int32.le_iff_toInt_le] at h
  refine ⟨h, ?_⟩
  unfold dgt
  split
  · rename_i x; have := isD_b x; omega
  · split
    · rename_i x
      obtain ⟨x1, x2⟩ := x
      rw [Int32.lt_iff_toInt_lt] at x1 x2
      have e1 : (97 : Int32).toInt = 97 := by decide
      have e2 : (102 : Int32).toInt = 102 := by decide
      rw [e1] at x1
      rw [e2] at x2
      have e3 : (c - 97).toInt = c.toInt - 97 := by
        rw [Int32.toInt_sub, e1]; exact Int.bmod_eq_of_le (by omega) (by omega)
      rw [Int32.toInt_add, e3]
      have e4 : (c.toInt - 97 + 10).bmod (2 ^ 32) = c.toInt - 97 + 10 := Int.bmod_eq_of_le (by omega) (by omega)
      show (c.toInt - 97 + 10).bmod (2 ^ 32) ≤ 15
      rw [e4]; omega
    · split
      · rename_i x
        obtain ⟨x1, x2⟩ := x
        rw [Int32.lt_iff_toInt_lt] at x1 x2
        have e1 : (65 : Int32).toInt = 65 := by decide
        have e2 : (70 : Int32).toInt = 70 := by decide
        rw [e1] at x1
        rw [e2] at x2
        have e3 : (c - 65).toInt = c.toInt - 65 := by
          rw [Int32.toInt_sub, e1]; exact Int.bmod_eq_of_le (by omega) (by omega)
        rw [Int32.toInt_add, e3]
        have e4 : (c.toInt - 65 + 10).bmod (2 ^ 32) = c.toInt - 65 + 10 := Int.bmod_eq_of_le (by omega) (by omega)
        show (c.toInt - 65 + 10).bmod (2 ^ 32) ≤ 15
        rw [e4]; omega
      · decide
theorem hexL_bnd (w : Nat → Int32) : ∀ (m i : Nat) (v r : Int64) (j : Nat), hexL w m i v = some r → 0 ≤ v.toInt → v.toInt < ((16 ^ j : Nat) : Int) → j + m ≤ 8 → 0 ≤ r.toInt ∧ r.toInt < 4294967296
  | 0, _, _, _, j, h, h0, h1, hj => by
    cases h
    have p : 16 ^ j ≤ 16 ^ 8 := Nat.pow_le_pow_right (by decide) (by omega)
    omega
  | m + 1, i, v, r, j, h, h0, h1, hj => by
    unfold hexL at h
    split at h
    · rename_i c
      have x := dgt_b c
      have p : 16 ^ j ≤ 16 ^ 8 := Nat.pow_le_pow_right (by decide) (by omega)
      have e := st_b (v := v) (x := dgt (w i)) (p := 16) (P := 16) (by decide) (by decide) h0 (by omega) x.1 (by omega)
      have p1 : 16 ^ (j + 1) = 16 ^ j * 16 := Nat.pow_succ _ _
      exact hexL_bnd w m _ _ r (j + 1) h (by rw [e]; omega) (by rw [e]; omega) (by omega)
    · cases h
theorem hexR_bits {w : Nat → Int32} {a b : Nat} {v : UInt64} (h : hexR w a b = some v) : v.toNat % 2 ^ 63 < 1076 * 2 ^ 52 := by
  unfold hexR at h
  split at h
  · cases h
  · rename_i c
    cases e : hexL w (b - a) a 0 with
    | none => rw [e] at h; cases h
    | some p =>
      rw [e] at h
      have hv : v = FP.l2d p := (Option.some.inj h).symm
      have p1 := hexL_bnd w (b - a) a 0 p 0 e (by decide) (by decide) (by omega)
      have l := Jvm.FP.Core.fromInt_mag (Jvm.FP.Core.toNat_l2d p) (j := 32) (K := 1055) (by omega) (by decide) (by decide)
      have l2 : (FP.l2d p).toNat % 2 ^ 63 ≤ 1055 * 2 ^ 52 := l
      rw [hv]; omega
theorem numR_bits {w : Nat → Int32} {n : Nat} (hn : n ≤ 15) {v : UInt64} (h : numR w n = some v) : v.toNat % 2 ^ 63 < 1076 * 2 ^ 52 := by
  have hb := (bck_le w (skp w n 0) n).1
  unfold numR at h
  split at h
  · rw [← Option.some.inj h]; decide
  · split at h
    · exact hexR_bits h
    · split at h
      · cases e : decR w (skp w n 0 + 1) (bck w (skp w n 0) n) with
        | none => rw [e] at h; cases h
        | some p =>
          rw [e] at h
          have hv : v = FP.dsub FP.dconst0 p := (Option.some.inj h).symm
          have l : (bck w (skp w n 0) n) - (skp w n 0 + 1) ≤ 14 := by omega
          have p1 := decR_bits (j := 47) (Nat.le_trans (Nat.pow_le_pow_right (by decide) l) (by decide)) (by omega) (by decide) e
          have z := Jvm.FP.Core.dsub_mag (a := FP.dconst0) (b := p) (K := 1072) (by decide) p1 (by decide)
          have z2 : (FP.dsub FP.dconst0 p).toNat % 2 ^ 63 < (1072 + 2) * 2 ^ 52 := z
          rw [hv]; omega
      · split at h
        · have l : (bck w (skp w n 0) n) - (skp w n 0 + 1) ≤ 15 := by omega
          have p1 := decR_bits (j := 50) (Nat.le_trans (Nat.pow_le_pow_right (by decide) l) (by decide)) (by omega) (by decide) h
          omega
        · have l : (bck w (skp w n 0) n) - skp w n 0 ≤ 15 := by omega
          have p1 := decR_bits (j := 50) (Nat.le_trans (Nat.pow_le_pow_right (by decide) l) (by decide)) (by omega) (by decide) h
          omega
theorem skp_b (w : Nat → Int32) {i : Nat} (hi : w i ≠ 32) : ∀ m a, a ≤ i → skp w m a ≤ i
  | 0, a, h => h
  | m + 1, a, h => by
    unfold skp
    split
    · rename_i c
      exact skp_b w hi m (a + 1) (by
        rcases Nat.lt_or_eq_of_le h with x | x
        · omega
        · rw [x] at c; exact absurd c hi)
    · exact h
theorem bck_b (w : Nat → Int32) {i a : Nat} (hi : w i ≠ 32) : ∀ b, i < b → i < bck w a b
  | 0, h => absurd h (by omega)
  | b + 1, h => by
    unfold bck
    split
    · rename_i c
      refine bck_b w hi b ?_
      rcases Nat.lt_or_eq_of_le (Nat.le_of_lt_succ h) with x | x
      · exact x
      · rw [← x] at c; exact absurd c.2 hi
    · exact h
theorem decL_44 (w : Nat → Int32) {x : Nat} (hx : w x = 44) : ∀ (m i : Nat) (d : Int64) (k : Nat) (b : Bool), i ≤ x → x < i + m → decL w m i d k b = none
  | 0, i, _, _, _, h1, h2 => absurd h2 (by omega)
  | m + 1, i, d, k, b, h1, h2 => by
    unfold decL
    by_cases e : i = x
    · rw [e, hx, if_neg (fun z => absurd z.1 (by decide)), if_neg (by decide)]
    · split
      · exact decL_44 w hx m _ _ _ _ (by omega) (by omega)
      · split
        · exact decL_44 w hx m _ _ _ _ (by omega) (by omega)
        · rfl
theorem hexL_44 (w : Nat → Int32) {x : Nat} (hx : w x = 44) : ∀ (m i : Nat) (v : Int64), i ≤ x → x < i + m → hexL w m i v = none
  | 0, i, _, h1, h2 => absurd h2 (by omega)
  | m + 1, i, v, h1, h2 => by
    unfold hexL
    by_cases e : i = x
    · rw [e, hx, if_neg (by decide)]
    · split
      · exact hexL_44 w hx m _ _ (by omega) (by omega)
      · rfl
theorem decR_44 {w : Nat → Int32} {x a b : Nat} (hx : w x = 44) (h1 : a ≤ x) (h2 : x < b) : decR w a b = none := by
  unfold decR
  rw [decL_44 w hx (b - a) a 0 0 false h1 (by omega)]
  split <;> rfl
theorem hexR_44 {w : Nat → Int32} {x a b : Nat} (hx : w x = 44) (h1 : a ≤ x) (h2 : x < b) : hexR w a b = none := by
  unfold hexR
  rw [hexL_44 w hx (b - a) a 0 h1 (by omega)]
  split <;> rfl
theorem numR_44 {w : Nat → Int32} {n x : Nat} (hx : w x = 44) (h : x < n) : numR w n = none := by
  have n32 : w x ≠ 32 := by rw [hx]; decide
  have a := skp_b w n32 n 0 (by omega)
  have b := bck_b w (a := skp w n 0) n32 n h
  have ne : ∀ c : Int32, c ≠ 44 → w (skp w n 0) = c → skp w n 0 + 1 ≤ x := fun c hc z => by
    rcases Nat.lt_or_eq_of_le a with y | y
    · exact y
    · rw [y, hx] at z; exact absurd z.symm hc
  unfold numR
  rw [if_neg (show ¬ skp w n 0 = bck w (skp w n 0) n by omega)]
  split
  · rename_i c
    have y1 := ne 48 (by decide) c.1
    refine hexR_44 hx ?_ b
    rcases Nat.lt_or_eq_of_le y1 with y | y
    · exact y
    · have c2 := c.2
      rw [y, hx] at c2; exact absurd c2 (by decide)
  · split
    · rename_i c
      rw [decR_44 hx (ne 45 (by decide) c) b]; rfl
    · split
      · rename_i c
        exact decR_44 hx (ne 43 (by decide) c) b
      · exact decR_44 hx a b
theorem gd_num {L : List Int32} (h : L.length ≤ 15 ∨ 44 ∈ L) : gd ((numT L).getD FP.dconst0) := by
  cases e : numT L with
  | none => exact gd_bits (by decide)
  | some v =>
    rcases h with h | h
    · exact gd_bits (numR_bits h e)
    · obtain ⟨x, hx, e2⟩ := List.mem_iff_getElem.mp h
      have z : numR (fun i => L.getD i 0) L.length = none := numR_44 (x := x) (by show L.getD x 0 = 44; rw [List.getD_eq_getElem?_getD, List.getElem?_eq_getElem hx, e2]; rfl) hx
      unfold numT at e
      rw [z] at e; cases e
