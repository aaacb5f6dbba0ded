/-! a value c / 2^k cut, and its rest -/
theorem WK_tr {k : Nat} {i : Int} {s : Bool} {c : Nat} {q : Int} (h1 : Jvm.FP.Core.Whole i (.fin s c (q + k))) : Jvm.FP.Core.truncate s c q = i.tdiv ((2 ^ k : Nat) : Int) := by
  have h2 := Jvm.FP.Core.whole_natAbs h1
  have e : c * 2 ^ q.toNat / 2 ^ (-q).toNat = i.natAbs / 2 ^ k := by
    have p : 0 < 2 ^ (-(q + (k : Int))).toNat := Nat.two_pow_pos _
    rw [← Nat.mul_div_mul_right i.natAbs (2 ^ k) p, ← h2, ← Nat.pow_add]
    by_cases hq : 0 ≤ q
    · rw [show (-q).toNat = 0 by omega, show k + (-(q + (k : Int))).toNat = k by omega, show (q + (k : Int)).toNat = q.toNat + k by omega, Nat.pow_add, ← Nat.mul_assoc, Nat.mul_div_cancel _ (Nat.two_pow_pos k), Nat.pow_zero, Nat.div_one]
    · by_cases hk : 0 ≤ q + (k : Int)
      · rw [show q.toNat = 0 by omega, show k + (-(q + (k : Int))).toNat = (-q).toNat + (q + (k : Int)).toNat by omega, Nat.pow_zero, Nat.mul_one, Nat.pow_add, Nat.mul_div_mul_right _ _ (Nat.two_pow_pos _)]
      · rw [show q.toNat = 0 by omega, show (q + (k : Int)).toNat = 0 by omega, show k + (-(q + (k : Int))).toNat = (-q).toNat by omega]
  unfold Jvm.FP.Core.truncate
  rw [e]
  have p2 : (0 : Int) < ((2 ^ k : Nat) : Int) := Int.ofNat_lt.mpr (Nat.two_pow_pos k)
  rcases Int.lt_trichotomy i 0 with h | h | h
  · rw [Jvm.FP.Core.whole_sign h1 (by omega), decide_eq_true h]
    show -((i.natAbs / 2 ^ k : Nat) : Int) = _
    have ei : i = -((i.natAbs : Nat) : Int) := by omega
    rw [ei, Int.neg_tdiv, Int.natAbs_neg, Int.natAbs_natCast]
    rfl
  · rw [h]
    show Jvm.FP.Core.signed s (0 / 2 ^ k) = _
    rw [Nat.zero_div, Jvm.FP.Core.signed_zero, Int.zero_tdiv]
  · rw [Jvm.FP.Core.whole_sign h1 (by omega), decide_eq_false (by omega)]
    show ((i.natAbs / 2 ^ k : Nat) : Int) = _
    have ei : i = ((i.natAbs : Nat) : Int) := by omega
    rw [ei, Int.natAbs_natCast]
    rfl
theorem cut_W {k : Nat} {c : Int} {d : UInt64} (h : WK k c (Jvm.FP.Core.val64 d)) (hc : c.natAbs < 2 ^ 62) : (FP.d2l d).toInt = c.tdiv ((2 ^ k : Nat) : Int) := by
  have hb : (c.tdiv ((2 ^ k : Nat) : Int)).natAbs < 2 ^ 62 := by
    rw [Int.natAbs_tdiv]
    exact Nat.lt_of_le_of_lt (Nat.div_le_self _ _) hc
  have e : Jvm.FP.Core.toInt (-2 ^ 63) (2 ^ 63 - 1) (Jvm.FP.Core.val64 d) = c.tdiv ((2 ^ k : Nat) : Int) := by
    revert h
    generalize Jvm.FP.Core.val64 d = x
    intro h
    cases x with
    | nan => exact h.elim
    | inf => exact h.elim
    | fin s c' q =>
      have t := WK_tr h
      show max _ (min _ (Jvm.FP.Core.truncate s c' q)) = _
      rw [t]
      generalize c.tdiv ((2 ^ k : Nat) : Int) = z at hb ⊢
      have e1 : min ((2 : Int) ^ 63 - 1) z = z := Int.min_eq_right (by omega)
      rw [e1]
      exact Int.max_eq_right (by omega)
  show (Int64.ofInt (Jvm.FP.Core.toInt (-2 ^ 63) (2 ^ 63 - 1) (Jvm.FP.Core.val64 d))).toInt = _
  rw [e, Int64.toInt_ofInt_of_le (by omega) (by omega)]
theorem rest_W {k : Nat} (hk : k ≤ 900) {c : Int} {d : UInt64} (h : WK k c (Jvm.FP.Core.val64 d)) {w : Int64} (hw : w.toInt.natAbs ≤ 2 ^ 53) (hr : (c - w.toInt * ((2 ^ k : Nat) : Int)).natAbs ≤ 2 ^ 53) : WK k (c - w.toInt * ((2 ^ k : Nat) : Int)) (Jvm.FP.Core.val64 (FP.dsub d (FP.l2d w))) := by
  have wI : Jvm.FP.Core.DInt w.toInt (FP.l2d w) := Jvm.FP.Core.l2d_int (a := w) (by omega)
  have e1 : Jvm.FP.Core.val64 (FP.dsub d (FP.l2d w)) = Jvm.FP.Core.round Jvm.FP.Core.b64 (Jvm.FP.Core.exactSum (Jvm.FP.Core.val64 d) (Jvm.FP.Core.negate (Jvm.FP.Core.val64 (FP.l2d w)))) := Jvm.FP.Core.val64_dsub _ _
  rw [e1]
  have h2 := WK_sum h (WK_neg (WK_i k wI))
  rw [show c + -(w.toInt * ((2 ^ k : Nat) : Int)) = c - w.toInt * ((2 ^ k : Nat) : Int) by omega] at h2
  exact WK_r hk hr h2
