/-- the digits of n below 10^(k+1), from the first that is no 0 on -/
def dgs (n : Nat) : Nat → Bool → List Int32
  | 0, _ => [nI (48 + n % 10)]
  | k + 1, b => if b = true ∨ n / 10 ^ (k + 1) % 10 ≠ 0 then nI (48 + n / 10 ^ (k + 1) % 10) :: dgs n k true else dgs n k false
/-- the digits of m thousandths -/
def ths : Nat → Nat → List Int32
  | 0, _ => []
  | k + 1, m => if m = 0 then [] else nI (48 + m / 100) :: ths k (m % 100 * 10)
theorem lN_neq {a b : Nat} (h : a ≠ b) (ha : a < 2 ^ 63) (hb : b < 2 ^ 63) : lN a ≠ lN b := fun q => h ((pk_lEQ ha hb).mp q)
theorem lN_shr {n : Nat} (h : n < 2 ^ 63) (k : Nat) (hk : k < 64) (s : Int64) (hs : (s.toBitVec.smod 64).toNat = k) : lN n >>> s = lN (n / 2 ^ k) := by
  apply Int64.toInt_inj.mp
  have h2 : n / 2 ^ k ≤ n := Nat.div_le_self _ _
  rw [pk_lT (by omega)]
  show (BitVec.sshiftRight (lN n).toBitVec (s.toBitVec.smod 64).toNat).toInt = _
  rw [hs, BitVec.toInt_sshiftRight]
  show (lN n).toInt >>> k = _
  rw [pk_lT h, Int.shiftRight_eq_div_pow]
  rfl
theorem lN_and {n : Nat} (h : n < 2 ^ 63) {m : Int64} (k : Nat) (hm : m.toBitVec.toNat = 2 ^ k - 1) : lN n &&& m = lN (n % 2 ^ k) := by
  apply Int64.toBitVec_inj.mp
  apply BitVec.eq_of_toNat_eq
  have e : (lN n).toBitVec.toNat = n := Nat.mod_eq_of_lt (by omega)
  rw [Int64.toBitVec_and, BitVec.toNat_and, hm, Nat.and_two_pow_sub_one_eq_mod, e]
  exact (Nat.mod_eq_of_lt (Nat.lt_of_le_of_lt (Nat.mod_le _ _) (by omega))).symm
/-- a digit as a character -/
theorem dig_c {d : Nat} (h : d < 10) : ((((48 : Int64) + lN d).toInt32).toUInt32 % 65536).toInt32 = nI (48 + d) := by
  rw [show (48 : Int64) = lN 48 from rfl, lN_add, lN_i, pk_char, pk_tn (by omega), Nat.mod_eq_of_lt (by omega)]
theorem dig_n {d : Nat} (h : d < 10) : nC (nI (48 + d)) := pk_charN (by omega)
section DIG
variable {G : Nat → Nat → Nat} {T : LY} {M : CM} {I : Nat → Nat → Int32} {J : Nat → Int64} {D : Nat → UInt64} {W : Nat → List Int32} {t : Nat}
theorem s_X7_appendDigits (hS : SA G T M) (hV : VA G M I J D W) (ht : t < 145) {n : Nat} (hn : n < 2 ^ 62) {Q : CM → Prop} (h : ∀ M', zA G M M' → VA G M' I J D (va_up W t (puts (W t) (rm t) (dgs n 9 false))) → Q M') : fc_X7_appendDigits T (G 1 t) (lN n) M Q := by
  have k : ∀ (k : Nat) (b : Bool) (l : List Int32) (N : CM) (r : Int32), k ≤ 9 → (r = 0 ↔ b = false) → zA G M N → VA G N I J D (va_up W t (puts (W t) (rm t) l)) → l ++ dgs n k b = dgs n 9 false → fc_X7_appendDigits_l7 T (G 1 t) Q (k + 2) (lN n) r (lN (10 ^ k)) N := by
    intro k
    induction k with
    | zero =>
      intro b l N r hk hr z v hl
      show fc_X7_appendDigits_c7 T (G 1 t) Q (fc_X7_appendDigits_l7 T (G 1 t) Q 1) _ _ _ N
      have hSN := zA_SA z hS
      have h1 : ∀ (N' : CM) (r' : Int32), zA G M N' → VA G N' I J D (va_up W t (puts (W t) (rm t) (dgs n 9 false))) → fc_X7_appendDigits_b64 T (G 1 t) Q (fc_X7_appendDigits_l7 T (G 1 t) Q 1) (lN n) r' (lN (10 ^ 0)) N' := by
        intro N' r' z' v'
        unfold fc_X7_appendDigits_b64
        refine ⟨by decide, nm_e ?_⟩
        show fc_X7_appendDigits_c7 T (G 1 t) Q (fc_X7_appendDigits_l7 T (G 1 t) Q 0) _ _ _ N'
        unfold fc_X7_appendDigits_c7
        exact br_t (by decide) (h N' z' v')
      have h2 : fc_X7_appendDigits_b42 T (G 1 t) Q (fc_X7_appendDigits_l7 T (G 1 t) Q 1) (lN n) (lN (10 ^ 0)) (lN (n % 10)) N := by
        unfold fc_X7_appendDigits_b42 fc_X7_appendDigits_b47
        refine ⟨fun q => absurd q (by decide), fun _ => ⟨(hS.1 t ht).1, ?_⟩⟩
        rw [dig_c (Nat.mod_lt _ (by decide))]
        refine s_X7_append hSN v ht (dig_n (Nat.mod_lt _ (by decide))) (fun N' z' v' => h1 N' 1 (zA_tr z z') ?_)
        rw [va_ups, va_up2] at v'
        have e : puts (W t) (rm t) (dgs n 9 false) = put (puts (W t) (rm t) l) (rm t) (nI (48 + n % 10)) := by
          rw [← hl, ← puts_puts]; rfl
        rw [e]; exact v'
      unfold fc_X7_appendDigits_c7
      refine br_f (fun q => absurd ((lg_cmp_le _ _).mp q) (by decide)) ⟨by decide, by decide, nm_r (e' := lN (n % 10)) ?_ ⟨fun _ => h2, fun _ => ⟨fun _ => h2, fun _ => ⟨fun q => absurd ((lg_cmp_eq _ _).mpr rfl) q, fun _ => h2⟩⟩⟩⟩
      rw [show (10 : Int64) = lN 10 from rfl, pk_lDiv (by omega) (by decide) (by decide), show n / 10 ^ 0 = n by simp, pk_lRem (by omega) (by decide) (by decide)]
    | succ k ih =>
      intro b l N r hk hr z v hl
      show fc_X7_appendDigits_c7 T (G 1 t) Q (fc_X7_appendDigits_l7 T (G 1 t) Q (k + 2)) _ _ _ N
      have hSN := zA_SA z hS
      have hp1 : 10 ^ (k + 1) ≤ 10 ^ 9 := Nat.pow_le_pow_right (by decide) hk
      have hp2 : 10 ≤ 10 ^ (k + 1) := by
        have := Nat.pow_le_pow_right (n := 10) (by decide) (show 1 ≤ k + 1 by omega)
        simpa using this
      have hp3 : (10 : Nat) ^ 9 < 2 ^ 62 := by decide
      have hb : ∀ (b' : Bool) (l' : List Int32) (N' : CM) (r' : Int32), (r' = 0 ↔ b' = false) → zA G M N' → VA G N' I J D (va_up W t (puts (W t) (rm t) l')) → l' ++ dgs n k b' = dgs n 9 false → fc_X7_appendDigits_b64 T (G 1 t) Q (fc_X7_appendDigits_l7 T (G 1 t) Q (k + 2)) (lN n) r' (lN (10 ^ (k + 1))) N' := by
        intro b' l' N' r' hr' z' v' hl'
        unfold fc_X7_appendDigits_b64
        refine ⟨by decide, nm_r (e' := lN (10 ^ k)) ?_ (ih b' l' N' r' (by omega) hr' z' v' hl')⟩
        rw [show (10 : Int64) = lN 10 from rfl, pk_lDiv (by omega) (by decide) (by decide), Nat.pow_succ, Nat.mul_div_cancel _ (by decide)]
      have h2 : (b = true ∨ n / 10 ^ (k + 1) % 10 ≠ 0) → fc_X7_appendDigits_b42 T (G 1 t) Q (fc_X7_appendDigits_l7 T (G 1 t) Q (k + 2)) (lN n) (lN (10 ^ (k + 1))) (lN (n / 10 ^ (k + 1) % 10)) N := by
        intro hc
        unfold fc_X7_appendDigits_b42 fc_X7_appendDigits_b47
        refine ⟨fun q => absurd q (by decide), fun _ => ⟨(hS.1 t ht).1, ?_⟩⟩
        rw [dig_c (Nat.mod_lt _ (by decide))]
        refine s_X7_append hSN v ht (dig_n (Nat.mod_lt _ (by decide))) (fun N' z' v' => hb true (l ++ [nI (48 + n / 10 ^ (k + 1) % 10)]) N' 1 (by decide) (zA_tr z z') ?_ ?_)
        · rw [va_ups, va_up2] at v'
          rw [← puts_puts]; exact v'
        · rw [← hl, List.append_assoc]
          show l ++ _ = l ++ dgs n (k + 1) b
          rw [dgs, if_pos hc]; rfl
      unfold fc_X7_appendDigits_c7
      have hd : lN n / lN (10 ^ (k + 1)) - lN n / lN (10 ^ (k + 1)) / 10 * 10 = lN (n / 10 ^ (k + 1) % 10) := by
        rw [show (10 : Int64) = lN 10 from rfl, pk_lDiv (by omega) (by omega) (by omega), pk_lRem (Nat.lt_of_le_of_lt (Nat.div_le_self _ _) (by omega)) (by decide) (by decide)]
      have hm : n / 10 ^ (k + 1) % 10 < 10 := Nat.mod_lt _ (by decide)
      refine br_f (fun q => ?_) ⟨lN_neq (b := 0) (by omega) (by omega) (by decide), by decide, nm_r hd ⟨fun q => h2 (Or.inl ?_), fun q => ⟨fun q2 => h2 (Or.inr ?_), fun q2 => ⟨fun _ => ?_, fun q3 => ?_⟩⟩⟩⟩
      · have q1 := (lg_cmp_le _ _).mp q
        rw [show (0 : Int64) = lN 0 from rfl, pk_lLE (by omega) (by decide)] at q1; omega
      · cases b with
        | true => rfl
        | false => exact absurd (hr.mpr rfl) q
      · intro e
        rw [e] at q2; exact q2 ((lg_cmp_eq _ _).mpr rfl)
      · have e := (lg_cmp_eq _ _).mp q2
        rw [show (0 : Int64) = lN 0 from rfl, pk_lEQ (by omega) (by decide)] at e
        have eb := hr.mp q
        unfold fc_X7_appendDigits_b47
        refine ⟨fun _ => hb false l N 0 (by decide) z v ?_, fun q4 => absurd rfl q4⟩
        rw [← hl, dgs, if_neg (fun q5 => q5.elim (fun q6 => by rw [eb] at q6; cases q6) (fun q6 => q6 e))]
      · have e := (lg_cmp_eq _ _).mp q3
        rw [show (1 : Int64) = lN 1 from rfl, pk_lEQ (by omega) (by decide)] at e; omega
  refine ⟨11, k 9 false [] M 0 (by decide) (by decide) (zA_rf G M) ?_ rfl⟩
  rw [show va_up W t (puts (W t) (rm t) []) = W from funext fun u => by unfold va_up; split <;> simp_all [puts]]
  exact hV
/-- the text of a number, from its sign and its eighths -/
def numW (neg : Bool) (e : Nat) : List Int32 := (if neg then [45] else []) ++ (dgs (e / 8) 9 false ++ (if e % 8 = 0 then [] else 46 :: ths 3 (e % 8 * 125)))
theorem s_X7_appendNumber (hS : SA G T M) (hV : VA G M I J D W) (ht : t < 145) (d : UInt64) (neg : Bool) (e : Nat) (he : e < 2 ^ 62) (hneg : (0 ≤ Op.cmpValue (FP.dcmp d FP.dconst0) .g) ↔ neg = false) (hok : vf_n64 (FP.dmul (if neg then FP.dneg d else d) 4620693217682128896)) (hval : FP.d2l (FP.dmul (if neg then FP.dneg d else d) 4620693217682128896) = lN e) {Q : CM → Prop} (h : ∀ M', zA G M M' → VA G M' I J D (va_up W t (puts (W t) (rm t) (numW neg e))) → Q M') : fc_X7_appendNumber T (G 1 t) d M Q := by
  have k3 : ∀ (k m : Nat) (l : List Int32) (N : CM), k ≤ 3 → m < 1000 → zA G M N → VA G N I J D (va_up W t (puts (W t) (rm t) l)) → l ++ ths k m = numW neg e → fc_X7_appendNumber_l64 T (G 1 t) Q (k + 1) (lN m) (nI (3 - k)) N := by
    intro k
    induction k with
    | zero =>
      intro m l N hk hm z v hl
      show fc_X7_appendNumber_c64 T (G 1 t) Q _ _ _ N
      unfold fc_X7_appendNumber_c64 fc_X7_appendNumber_b111
      refine br_t (by decide) (h N z ?_)
      rw [← hl, ths, List.append_nil]; exact v
    | succ k ih =>
      intro m l N hk hm z v hl
      show fc_X7_appendNumber_c64 T (G 1 t) Q (fc_X7_appendNumber_l64 T (G 1 t) Q (k + 1)) _ _ N
      unfold fc_X7_appendNumber_c64 fc_X7_appendNumber_b111
      refine br_f (nI_ge (b := 3) (by omega) (by omega)) ⟨fun q => h N z ?_, fun q => ⟨by decide, (hS.1 t ht).1, ?_⟩⟩
      · have e0 := (lg_cmp_eq _ _).mp q
        rw [show (0 : Int64) = lN 0 from rfl, pk_lEQ (by omega) (by decide)] at e0
        rw [← hl, ths, if_pos e0, List.append_nil]; exact v
      · have e0 : m ≠ 0 := fun q2 => q (by rw [q2]; exact (lg_cmp_eq _ _).mpr rfl)
        rw [show (100 : Int64) = lN 100 from rfl, pk_lDiv (by omega) (by decide) (by decide), dig_c (by omega)]
        refine s_X7_append (zA_SA z hS) v ht (dig_n (by omega)) (fun N' z' v' => ⟨by decide, nm_r (e' := lN (m % 100 * 10)) ?_ (nm_e ?_)⟩)
        · rw [← pk_lDiv (by omega) (by decide) (by decide), pk_lRem (by omega) (by decide) (by decide), show (10 : Int64) = lN 10 from rfl, lN_mul]
        · rw [nI_1, show 3 - (k + 1) + 1 = 3 - k by omega]
          refine ih (m % 100 * 10) (l ++ [nI (48 + m / 100)]) N' (by omega) (by omega) (zA_tr z z') ?_ ?_
          · rw [va_ups, va_up2] at v'
            rw [← puts_puts]; exact v'
          · rw [← hl, List.append_assoc, ths, if_neg e0]; rfl
  have k2 : ∀ (N : CM), zA G M N → VA G N I J D (va_up W t (puts (W t) (rm t) (if neg then [45] else []))) → fc_X7_appendNumber_b24 T (G 1 t) Q (if neg then FP.dneg d else d) N := by
    intro N z v
    unfold fc_X7_appendNumber_b24
    refine ⟨hok, nm_r hval ⟨(hS.1 t ht).1, ?_⟩⟩
    rw [lN_shr (k := 3) (by omega) (by decide) _ (by decide)]
    refine s_X7_appendDigits (zA_SA z hS) v ht (Nat.lt_of_le_of_lt (Nat.div_le_self _ _) he) (fun N1 z1 v1 => nm_r (e' := lN (e % 8 * 125)) ?_ ?_)
    · rw [lN_and (k := 3) (by omega) (by decide), show (125 : Int64) = lN 125 from rfl, lN_mul]
    · rw [va_ups, va_up2, puts_puts] at v1
      have z01 := zA_tr z z1
      have hm : e % 8 < 8 := Nat.mod_lt _ (by decide)
      unfold fc_X7_appendNumber_b61
      refine ⟨fun q => ⟨4, ?_⟩, fun q => ?_⟩
      · have e0 := (lg_cmp_eq _ _).mp q
        rw [show (0 : Int64) = lN 0 from rfl, pk_lEQ (by omega) (by decide)] at e0
        refine k3 3 _ _ N1 (by decide) (by omega) z01 v1 ?_
        rw [numW, if_pos (show e % 8 = 0 by omega), e0, ths, if_pos rfl, List.append_nil, List.append_nil]
      · have e0 : ¬ e % 8 = 0 := fun q2 => q (by rw [q2]; exact (lg_cmp_eq _ _).mpr rfl)
        refine s_X7_append (zA_SA z01 hS) v1 ht (pk_charN (q := 46) (by decide)) (fun N2 z2 v2 => ⟨4, ?_⟩)
        rw [va_ups, va_up2] at v2
        refine k3 3 _ (((if neg then [45] else []) ++ dgs (e / 2 ^ 3) 9 false) ++ [46]) N2 (by decide) (by omega) (zA_tr z01 z2) ?_ ?_
        · rw [← puts_puts]; exact v2
        · rw [numW, if_neg e0, List.append_assoc, List.append_assoc]; rfl
  have k1 : ∀ N, zA G M N → VA G N I J D (va_up W t (puts (W t) (rm t) (if neg then [45] else []))) → fc_X7_appendNumber_b12 T (G 1 t) Q d N := by
    intro N z v
    have := k2 N z v
    unfold fc_X7_appendNumber_b12
    refine ⟨fun q => ?_, fun q => ?_⟩
    · rw [hneg.mp q] at this; exact this
    · cases neg with
      | true => exact this
      | false => exact absurd (hneg.mpr rfl) q
  unfold fc_X7_appendNumber
  refine ⟨fun q => k1 M (zA_rf G M) ?_, fun q => ⟨(hS.1 t ht).1, s_X7_append hS hV ht (pk_charN (q := 45) (by decide)) (fun N z v => k1 N z ?_)⟩⟩
  · rw [hneg.mp q]
    rw [show va_up W t (puts (W t) (rm t) (if false = true then [45] else [])) = W from funext fun u => by unfold va_up; split <;> simp_all [puts]]
    exact hV
  · cases neg with
    | true => exact v
    | false => exact absurd (hneg.mpr rfl) q
end DIG
