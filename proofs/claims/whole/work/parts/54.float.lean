/-! values in units of 1 / 2^k -/
def WK (k : Nat) (i : Int) (d : Jvm.FP.Core.Datum) : Prop :=
  match d with
  | .fin s c q => Jvm.FP.Core.Whole i (.fin s c (q + k))
  | _ => False
theorem WK_0 {i : Int} {d : Jvm.FP.Core.Datum} (h : Jvm.FP.Core.Whole i d) : WK 0 i d := by
  cases d with
  | nan => exact h.elim
  | inf => exact h.elim
  | fin s c q =>
    show Jvm.FP.Core.Whole i (.fin s c (q + ((0 : Nat) : Int)))
    rw [show q + ((0 : Nat) : Int) = q by omega]; exact h
theorem WK_mul {k l : Nat} {i j : Int} {x y : Jvm.FP.Core.Datum} (hx : WK k i x) (hy : WK l j y) : WK (k + l) (i * j) (Jvm.FP.Core.exactProduct x y) := by
  cases x with
  | nan => exact hx.elim
  | inf => exact hx.elim
  | fin s c q =>
  cases y with
  | nan => exact hy.elim
  | inf => exact hy.elim
  | fin t d r =>
    have h := Jvm.FP.Core.whole_product (x := .fin s c (q + k)) (y := .fin t d (r + l)) hx hy
    have h2 : Jvm.FP.Core.Whole (i * j) (.fin (s != t) (c * d) (q + k + (r + l))) := h
    show Jvm.FP.Core.Whole (i * j) (.fin (s != t) (c * d) (q + r + ((k + l : Nat) : Int)))
    rw [show q + r + ((k + l : Nat) : Int) = q + k + (r + l) by omega]; exact h2
theorem WK_sum {k : Nat} {i j : Int} {x y : Jvm.FP.Core.Datum} (hx : WK k i x) (hy : WK k j y) : WK k (i + j) (Jvm.FP.Core.exactSum x y) := by
  cases x with
  | nan => exact hx.elim
  | inf => exact hx.elim
  | fin s c q =>
  cases y with
  | nan => exact hy.elim
  | inf => exact hy.elim
  | fin t d r =>
    have h := Jvm.FP.Core.whole_sum (x := .fin s c (q + k)) (y := .fin t d (r + k)) hx hy
    have em : min (q + (k : Int)) (r + (k : Int)) = min q r + k := by omega
    have eu : Jvm.FP.Core.sumUnits s c (q + k) t d (r + k) (min (q + k) (r + k)) = Jvm.FP.Core.sumUnits s c q t d r (min q r) := by
      rw [em]
      unfold Jvm.FP.Core.sumUnits Jvm.FP.Core.inUnits
      rw [show q + (k : Int) - (min q r + k) = q - min q r by omega, show r + (k : Int) - (min q r + k) = r - min q r by omega]
    have h2 : Jvm.FP.Core.Whole (i + j) (.fin (Jvm.FP.Core.sumSign s t (Jvm.FP.Core.sumUnits s c (q + k) t d (r + k) (min (q + k) (r + k)))) (Jvm.FP.Core.sumUnits s c (q + k) t d (r + k) (min (q + k) (r + k))).natAbs (min (q + k) (r + k))) := h
    rw [eu, em] at h2
    exact h2
theorem WK_neg {k : Nat} {i : Int} {x : Jvm.FP.Core.Datum} (hx : WK k i x) : WK k (-i) (Jvm.FP.Core.negate x) := by
  cases x with
  | nan => exact hx.elim
  | inf => exact hx.elim
  | fin s c q => exact Jvm.FP.Core.whole_negate (x := .fin s c (q + k)) hx
theorem WK_cmp {k : Nat} {i j : Int} {x y : Jvm.FP.Core.Datum} (hx : WK k i x) (hy : WK k j y) : Jvm.FP.Core.order x y = some (compare i j) := by
  cases x with
  | nan => exact hx.elim
  | inf => exact hx.elim
  | fin s c q =>
  cases y with
  | nan => exact hy.elim
  | inf => exact hy.elim
  | fin t d r =>
    have h := Jvm.FP.Core.order_whole (x := .fin s c (q + k)) (y := .fin t d (r + k)) hx hy
    rw [← h]
    have em : min (q + (k : Int)) (r + (k : Int)) = min q r + k := by omega
    show some (compare (Jvm.FP.Core.signed s (Jvm.FP.Core.inUnits c q (min q r))) (Jvm.FP.Core.signed t (Jvm.FP.Core.inUnits d r (min q r)))) = some (compare (Jvm.FP.Core.signed s (Jvm.FP.Core.inUnits c (q + k) (min (q + k) (r + k)))) (Jvm.FP.Core.signed t (Jvm.FP.Core.inUnits d (r + k) (min (q + k) (r + k)))))
    rw [em]
    unfold Jvm.FP.Core.inUnits
    rw [show q + (k : Int) - (min q r + k) = q - min q r by omega, show r + (k : Int) - (min q r + k) = r - min q r by omega]
theorem WK_nan {k : Nat} {i : Int} {x : Jvm.FP.Core.Datum} (hx : WK k i x) : x ≠ .nan := fun z => by rw [z] at hx; exact hx
/-- exact when the format has it -/
theorem WK_round {k : Nat} {i : Int} {d : Jvm.FP.Core.Datum} (h : WK k i d) (hf : ∀ s, ∃ c q, Jvm.FP.Core.fits Jvm.FP.Core.b64 (.fin s c q) ∧ i.natAbs * 2 ^ (-(q + k)).toNat = c * 2 ^ (q + k).toNat) : WK k i (Jvm.FP.Core.round Jvm.FP.Core.b64 d) := by
  cases d with
  | nan => exact h.elim
  | inf => exact h.elim
  | fin s c q =>
    have h1 : Jvm.FP.Core.Whole i (.fin s c (q + k)) := h
    have h2 := Jvm.FP.Core.whole_natAbs h1
    obtain ⟨c', q', hfit, hv⟩ := hf s
    have e1 : Jvm.FP.Core.round Jvm.FP.Core.b64 (.fin s c q) = Jvm.FP.Core.roundRatio Jvm.FP.Core.b64 s i.natAbs 1 (-(k : Int)) := by
      refine Jvm.FP.Core.roundRatio_congr (by decide) (by decide) ?_
      rw [show (q - -(k : Int)).toNat = (q + k).toNat by omega, show (-(k : Int) - q).toNat = (-(q + k)).toNat by omega]
      simpa using h2
    rw [e1, Jvm.FP.Core.roundRatio_exact Jvm.FP.Core.good_b64 (by decide) hfit (by
      rw [show (-(k : Int) - q').toNat = (-(q' + k)).toNat by omega, show (q' - -(k : Int)).toNat = (q' + k).toNat by omega, Nat.mul_one]; exact hv)]
    show Jvm.FP.Core.signed s (c' * 2 ^ (q' + k).toNat) = i * ((2 ^ (-(q' + k)).toNat : Nat) : Int)
    rw [← hv, Jvm.FP.Core.signed_mul]
    congr 1
    by_cases hi0 : i = 0
    · rw [hi0]; exact Jvm.FP.Core.signed_zero s
    · rw [Jvm.FP.Core.whole_sign h1 hi0]
      unfold Jvm.FP.Core.signed
      by_cases h : i < 0 <;> simp [h] <;> omega
/-- whole numbers of units of 1 / 2^k up to 2^53 are in the format, for k up to 900 -/
theorem WK_fit {k : Nat} (hk : k ≤ 900) {n : Nat} (hn : n ≤ 2 ^ 53) (s : Bool) : ∃ c q, Jvm.FP.Core.fits Jvm.FP.Core.b64 (.fin s c q) ∧ n * 2 ^ (-(q + k)).toNat = c * 2 ^ (q + k).toNat := by
  have hm : Jvm.FP.Core.b64.qmin = -1074 := by decide
  have hM : Jvm.FP.Core.b64.qmax = 971 := by decide
  have hp : Jvm.FP.Core.b64.p = 53 := by decide
  by_cases h0 : n = 0
  · exact ⟨0, Jvm.FP.Core.b64.qmin, Jvm.FP.Core.zero_fits Jvm.FP.Core.good_b64 s, by rw [h0]; simp⟩
  obtain ⟨c, q, ⟨f1, f2, f3, f4⟩, hv⟩ := Jvm.FP.Core.natFit Jvm.FP.Core.good_b64 Jvm.FP.Core.wide_b64 s (n := n) (by rw [hp]; exact hn)
  rw [hp] at f1
  rw [show (0 - q).toNat = (-q).toNat by omega, show (q - 0).toNat = q.toNat by omega, Nat.mul_one] at hv
  have hq : -53 ≤ q := by
    refine Int.le_of_not_gt (fun z => ?_)
    have q0 : q.toNat = 0 := by omega
    rw [q0, Nat.pow_zero, Nat.mul_one] at hv
    have : 2 ^ 53 ≤ 2 ^ (-q).toNat := Nat.pow_le_pow_right (by decide) (by omega)
    have h3 : 2 ^ (-q).toNat ≤ n * 2 ^ (-q).toNat := Nat.le_mul_of_pos_left _ (by omega)
    omega
  refine ⟨c, q - k, ⟨by rw [hp]; exact f1, by omega, by omega, Or.inr ?_⟩, ?_⟩
  · rcases f4 with f4 | f4
    · omega
    · exact f4
  · rw [show q - (k : Int) + k = q by omega]; exact hv
theorem WK_r {k : Nat} (hk : k ≤ 900) {i : Int} (hi : i.natAbs ≤ 2 ^ 53) {d : Jvm.FP.Core.Datum} (h : WK k i d) : WK k i (Jvm.FP.Core.round Jvm.FP.Core.b64 d) := WK_round h (fun s => WK_fit hk hi s)
/-- the same value in other units -/
theorem WK_up {k : Nat} (l : Nat) {i : Int} {d : Jvm.FP.Core.Datum} (h : WK k i d) : WK (k + l) (i * ((2 ^ l : Nat) : Int)) d := by
  cases d with
  | nan => exact h.elim
  | inf => exact h.elim
  | fin s c q =>
    have h1 : Jvm.FP.Core.Whole ((2 ^ l : Nat) : Int) (.fin false 1 (l : Int)) := by
      show Jvm.FP.Core.signed false (1 * 2 ^ (l : Int).toNat) = _
      rw [show (-(l : Int)).toNat = 0 by omega]
      unfold Jvm.FP.Core.signed
      simp
    have h2 : Jvm.FP.Core.Whole (i * ((2 ^ l : Nat) : Int)) (.fin (s != false) (c * 1) (q + k + l)) := Jvm.FP.Core.whole_product (x := .fin s c (q + k)) (y := .fin false 1 (l : Int)) h h1
    show Jvm.FP.Core.Whole (i * ((2 ^ l : Nat) : Int)) (.fin s c (q + ((k + l : Nat) : Int)))
    rw [show q + ((k + l : Nat) : Int) = q + k + l by omega]
    have e : (s != false) = s := by cases s <;> rfl
    rw [e, Nat.mul_one] at h2
    exact h2
theorem WK_down {k l : Nat} {i : Int} {d : Jvm.FP.Core.Datum} (h : WK (k + l) (i * ((2 ^ l : Nat) : Int)) d) : WK k i d := by
  cases d with
  | nan => exact h.elim
  | inf => exact h.elim
  | fin s c q =>
    have h1 : Jvm.FP.Core.signed s (c * 2 ^ (q + ((k + l : Nat) : Int)).toNat) = i * ((2 ^ l : Nat) : Int) * ((2 ^ (-(q + ((k + l : Nat) : Int))).toNat : Nat) : Int) := h
    show Jvm.FP.Core.signed s (c * 2 ^ (q + (k : Int)).toNat) = i * ((2 ^ (-(q + (k : Int))).toNat : Nat) : Int)
    have p : ((2 ^ ((q + ((k + l : Nat) : Int)).toNat - (q + (k : Int)).toNat) : Nat) : Int) ≠ 0 := by
      have := Nat.two_pow_pos ((q + ((k + l : Nat) : Int)).toNat - (q + (k : Int)).toNat); omega
    refine Int.eq_of_mul_eq_mul_right p ?_
    rw [← Jvm.FP.Core.signed_mul, Nat.mul_assoc, ← Nat.pow_add, show (q + (k : Int)).toNat + ((q + ((k + l : Nat) : Int)).toNat - (q + (k : Int)).toNat) = (q + ((k + l : Nat) : Int)).toNat by omega, h1, Int.mul_assoc, Int.mul_assoc, ← Int.natCast_mul, ← Int.natCast_mul, ← Nat.pow_add, ← Nat.pow_add, show l + (-(q + ((k + l : Nat) : Int))).toNat = (-(q + (k : Int))).toNat + ((q + ((k + l : Nat) : Int)).toNat - (q + (k : Int)).toNat) by omega]
theorem WK_whole {i : Int} {d : Jvm.FP.Core.Datum} (h : WK 0 i d) : Jvm.FP.Core.Whole i d := by
  cases d with
  | nan => exact h.elim
  | inf => exact h.elim
  | fin s c q =>
    have h1 : Jvm.FP.Core.Whole i (.fin s c (q + ((0 : Nat) : Int))) := h
    rw [show q + ((0 : Nat) : Int) = q by omega] at h1; exact h1
/-- cut to a whole number -/
theorem WK_cut {k n : Nat} {d : Jvm.FP.Core.Datum} (h : WK k (n : Int) d) (hn : n < 2 ^ 62) : Jvm.FP.Core.toInt (-2 ^ 63) (2 ^ 63 - 1) d = ((n / 2 ^ k : Nat) : Int) := by
  cases d with
  | nan => exact h.elim
  | inf => exact h.elim
  | fin s c q =>
    have h1 : Jvm.FP.Core.Whole (n : Int) (.fin s c (q + k)) := h
    have h2 := Jvm.FP.Core.whole_natAbs h1
    rw [Int.natAbs_natCast] at h2
    have e : c * 2 ^ q.toNat / 2 ^ (-q).toNat = n / 2 ^ k := by
      have p : 0 < 2 ^ (-(q + (k : Int))).toNat := Nat.two_pow_pos _
      rw [← Nat.mul_div_mul_right n (2 ^ k) p, ← h2, ← Nat.pow_add]
      by_cases hq : 0 ≤ q
      · rw [show (-q).toNat = 0 by omega, show k + (-(q + (k : Int))).toNat = k by omega, show (q + (k : Int)).toNat = q.toNat + k by omega, Nat.pow_add, ← Nat.mul_assoc, Nat.mul_div_cancel _ (Nat.two_pow_pos k), Nat.pow_zero, Nat.div_one]
      · by_cases hk : 0 ≤ q + (k : Int)
        · rw [show q.toNat = 0 by omega, show k + (-(q + (k : Int))).toNat = (-q).toNat + (q + (k : Int)).toNat by omega, Nat.pow_zero, Nat.mul_one, Nat.pow_add, Nat.mul_div_mul_right _ _ (Nat.two_pow_pos _)]
        · rw [show q.toNat = 0 by omega, show (q + (k : Int)).toNat = 0 by omega, show k + (-(q + (k : Int))).toNat = (-q).toNat by omega]
    have hs : Jvm.FP.Core.truncate s c q = ((n / 2 ^ k : Nat) : Int) := by
      unfold Jvm.FP.Core.truncate
      rw [e]
      by_cases h0 : n = 0
      · rw [h0, Nat.zero_div]; exact Jvm.FP.Core.signed_zero s
      · rw [Jvm.FP.Core.whole_sign h1 (by omega), decide_eq_false (by omega)]; rfl
    show max _ (min _ (Jvm.FP.Core.truncate s c q)) = _
    rw [hs]
    have h5 : n / 2 ^ k < 2 ^ 62 := Nat.lt_of_le_of_lt (Nat.div_le_self _ _) hn
    generalize n / 2 ^ k = z at h5 ⊢
    have e1 : min ((2 : Int) ^ 63 - 1) (z : Int) = z := Int.min_eq_right (by omega)
    rw [e1]
    exact Int.max_eq_right (by omega)
