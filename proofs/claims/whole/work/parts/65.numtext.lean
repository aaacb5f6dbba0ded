/-! the number of what was said -/
theorem pw_eq : ∀ k, k < 17 → FP.l2d (lN (10 ^ k)) = pw k := by decide +kernel
theorem pw_z : ∀ k, k < 17 → FP.ddiv (FP.l2d (lN 0)) (pw k) = FP.dconst0 := by decide +kernel
theorem z_z : FP.dsub FP.dconst0 FP.dconst0 = FP.dconst0 := by decide +kernel
def pwB (k : Nat) : Bool := match Jvm.FP.Core.val64 (pw k) with
  | .fin _ c r => decide (c ≠ 0) && (decide (c < 2 ^ 53) && decide (r ≤ 2))
  | _ => false
theorem pwB_t : ∀ k, k < 17 → pwB k = true := by decide +kernel
theorem div_pos {d k : Nat} (h1 : 1 ≤ d) (hd : d < 2 ^ 53) (hk : k < 17) : Jvm.FP.Core.zmag Jvm.FP.Core.b64 (Jvm.FP.Core.val64 (FP.ddiv (FP.l2d (lN d)) (pw k))) ≠ 0 := by
  have hm : Jvm.FP.Core.b64.qmin = -1074 := by decide
  have hp : Jvm.FP.Core.b64.p = 53 := by decide
  have hI : Jvm.FP.Core.DInt (d : Int) (FP.l2d (lN d)) := by
    have := Jvm.FP.Core.l2d_int (a := lN d) (by rw [pk_lT (by omega)]; omega)
    rw [pk_lT (by omega)] at this; exact this
  have hW : Jvm.FP.Core.Whole (d : Int) (Jvm.FP.Core.val64 (FP.l2d (lN d))) := hI
  have hf := Jvm.FP.Core.val64_fits (FP.l2d (lN d))
  have hb := pwB_t k hk
  unfold pwB at hb
  have e : Jvm.FP.Core.val64 (FP.ddiv (FP.l2d (lN d)) (pw k)) = Jvm.FP.Core.quotient Jvm.FP.Core.b64 (Jvm.FP.Core.val64 (FP.l2d (lN d))) (Jvm.FP.Core.val64 (pw k)) := Jvm.FP.Core.val64_ddiv _ _
  rw [e]
  cases ha : Jvm.FP.Core.val64 (FP.l2d (lN d)) with
  | nan => rw [ha] at hW; exact hW.elim
  | inf => rw [ha] at hW; exact hW.elim
  | fin s c q =>
    rw [ha] at hW hf
    cases hB : Jvm.FP.Core.val64 (pw k) with
    | nan => rw [hB] at hb; cases hb
    | inf => rw [hB] at hb; cases hb
    | fin t b r =>
      rw [hB] at hb
      dsimp only at hb
      rw [Bool.and_eq_true, Bool.and_eq_true, decide_eq_true_iff, decide_eq_true_iff, decide_eq_true_iff] at hb
      obtain ⟨b0, b53, r2⟩ := hb
      have hn := Jvm.FP.Core.whole_natAbs hW
      rw [Int.natAbs_natCast] at hn
      have c0 : 1 ≤ c := by
        have := (Jvm.FP.Core.whole_zero hW)
        omega
      have c53 := hf.1
      rw [hp] at c53
      have hq : -53 ≤ q := by
        refine Int.le_of_not_gt (fun z => ?_)
        rw [show q.toNat = 0 by omega, Nat.pow_zero, Nat.mul_one] at hn
        have : 2 ^ 53 ≤ 2 ^ (-q).toNat := Nat.pow_le_pow_right (by decide) (by omega)
        have h3 : 2 ^ (-q).toNat ≤ d * 2 ^ (-q).toNat := Nat.le_mul_of_pos_left _ (by omega)
        omega
      show Jvm.FP.Core.zmag Jvm.FP.Core.b64 (if b = 0 then (if c = 0 then Jvm.FP.Core.Datum.nan else .inf (s != t)) else Jvm.FP.Core.roundRatio Jvm.FP.Core.b64 (s != t) c b (q - r)) ≠ 0
      rw [if_neg b0]
      have hV : Jvm.FP.Core.fits Jvm.FP.Core.b64 (.fin false 1 Jvm.FP.Core.b64.qmin) := ⟨by rw [hp]; decide, Int.le_refl _, by decide, Or.inl rfl⟩
      have zV : Jvm.FP.Core.zmag Jvm.FP.Core.b64 (.fin false 1 Jvm.FP.Core.b64.qmin) = 1 := by
        show 1 * 2 ^ (Jvm.FP.Core.b64.qmin - Jvm.FP.Core.b64.qmin).toNat = 1
        rw [Int.sub_self]; rfl
      have g := Jvm.FP.Core.zmag_roundRatio_ge Jvm.FP.Core.good_b64 (s := s != t) (A := c) (B := b) (e := q - r) (e0 := Jvm.FP.Core.b64.qmin) (by omega) hV (Int.le_refl _) (by omega) (by
        rw [zV, Int.sub_self]
        show 1 * 2 ^ 0 * b ≤ c * 2 ^ (q - r - Jvm.FP.Core.b64.qmin).toNat
        have p : 2 ^ 53 ≤ 2 ^ (q - r - Jvm.FP.Core.b64.qmin).toNat := Nat.pow_le_pow_right (by decide) (by omega)
        have h3 : 2 ^ (q - r - Jvm.FP.Core.b64.qmin).toNat ≤ c * 2 ^ (q - r - Jvm.FP.Core.b64.qmin).toNat := Nat.le_mul_of_pos_left _ (by omega)
        omega)
      rw [zV] at g
      omega
theorem sub_neg' {v : UInt64} (hn : Jvm.FP.Core.dIsNaN v = false) (hz : Jvm.FP.Core.zmag Jvm.FP.Core.b64 (Jvm.FP.Core.val64 v) ≠ 0) : FP.dsub FP.dconst0 v = FP.dneg v := by
  have hv : Jvm.FP.Core.val64 v ≠ .nan := (Jvm.FP.Core.notNaN_iff v).mp hn
  have e1 : FP.dsub FP.dconst0 v = Jvm.FP.Core.dadd FP.dconst0 (Jvm.FP.Core.dneg v) := Jvm.FP.Core.dsub_eq _ _
  have hnn : Jvm.FP.Core.val64 (Jvm.FP.Core.dneg v) ≠ .nan := by
    rw [Jvm.FP.Core.val64_dneg]
    cases h : Jvm.FP.Core.val64 v with
    | nan => exact absurd h hv
    | inf s => exact fun z => by cases z
    | fin s c q => exact fun z => by cases z
  rw [e1, Jvm.FP.Core.dadd_comm, Jvm.FP.dneg_core hn]
  refine Jvm.FP.Core.dadd_zero hnn (fun z => hz ?_)
  have h2 : Jvm.FP.Core.zmag Jvm.FP.Core.b64 (Jvm.FP.Core.val64 (Jvm.FP.Core.dneg v)) = 0 := by rw [z]; decide +kernel
  rw [Jvm.FP.Core.val64_dneg] at h2
  cases h : Jvm.FP.Core.val64 v with
  | nan => exact absurd h hv
  | inf s => rw [h] at h2; exact h2
  | fin s c q => rw [h] at h2; exact h2
/-- nothing but what is said and whether it has a number is other -/
def kN (N N' : RM) : Prop := (∀ f, f ≠ 24 → f ≠ 25 → rI N' f = rI N f) ∧ (∀ f, f ≠ 23 → rA N' f = rA N f) ∧ N'.2.2 = N.2.2
theorem kN_rf (N : RM) : kN N N := ⟨fun _ _ _ => rfl, fun _ _ => rfl, rfl⟩
theorem kN_tr {N N1 N2 : RM} (h : kN N N1) (k : kN N1 N2) : kN N N2 := ⟨fun f n m => (k.1 f n m).trans (h.1 f n m), fun f n => (k.2.1 f n).trans (h.2.1 f n), k.2.2.trans h.2.2⟩
theorem kN_25 (N : RM) (v : Int32) : kN N (wI N 25 v) := ⟨fun f _ m => if_neg m, fun _ _ => rfl, rfl⟩
theorem kS_kN {N N' : RM} (h : kS N N') : kN N N' := ⟨fun f n _ => h.1 f n, h.2.1, h.2.2⟩
def dgR (c : Int32) : Int32 := if 0 ≤ dgt c then dgt c else 99
theorem r_digitOf {N : RM} (c : Int32) {Q : Int32 → RM → Prop} (q : Q (dgR c) N) : fm_digitOf c N Q := by
  have e0 : (0 : Int32).toInt = 0 := rfl
  have e48 : (48 : Int32).toInt = 48 := rfl
  have e57 : (57 : Int32).toInt = 57 := rfl
  have e65 : (65 : Int32).toInt = 65 := rfl
  have e70 : (70 : Int32).toInt = 70 := rfl
  have e97 : (97 : Int32).toInt = 97 := rfl
  have e102 : (102 : Int32).toInt = 102 := rfl
  have m1 : ¬ (0 : Int32) ≤ -1 := by decide
  unfold fm_digitOf fm_digitOf_b19 fm_digitOf_b41 fm_digitOf_b63 fm_digitOf_b65
  have sub : ∀ a : Nat, a < 200 → ∀ b : Nat, b < 200 → (nI a).toInt ≤ c.toInt → c.toInt ≤ (nI a).toInt + 30 → 0 ≤ (c - nI a) + nI b := by
    intro a ha b hb h1 h2
    rw [nI_toInt (by omega)] at h1 h2
    have e : c = nI (a + (c.toInt.toNat - a)) := by
      apply Int32.toInt_inj.mp
      rw [nI_toInt (by omega)]; omega
    rw [e, pk_sub (by omega), nI_add]
    exact nI_pos' (by omega)
  have dig : ∀ x, x = dgt c → 0 ≤ x → dgR c = x := fun x e h => by unfold dgR; rw [← e, if_pos h]
  have b41 : ¬ (¬ c < 48 ∧ ¬ 57 < c) → ¬ (¬ c < 97 ∧ ¬ 102 < c) → (c < 65 → Q 99 N) ∧ (¬ c < 65 → (70 < c → Q 99 N) ∧ (¬ 70 < c → Q ((c - 65) + 10) N)) := by
    intro h1 h2
    have nd : isD c = false := by
      unfold isD
      by_cases x : c < 48
      · rw [decide_eq_true x]; rfl
      · by_cases y : 57 < c
        · rw [decide_eq_true y]; simp
        · exact absurd ⟨x, y⟩ h1
    have no : ¬ (¬ c < 65 ∧ ¬ 70 < c) → Q 99 N := by
      intro h3
      have e : dgR c = 99 := by
        unfold dgR dgt
        rw [nd, if_neg (by decide : ¬ false = true), if_neg h2, if_neg h3, if_neg m1]
      rw [← e]; exact q
    refine ⟨fun z => no (fun y => y.1 z), fun z => ⟨fun y => no (fun x => x.2 y), fun y => ?_⟩⟩
    have e : dgR c = (c - 65) + 10 := dig _ (by unfold dgt; rw [nd, if_neg (by decide : ¬ false = true), if_neg h2, if_pos ⟨z, y⟩]) (by
      rw [Int32.lt_iff_toInt_lt] at z y
      exact sub 65 (by decide) 10 (by decide) (by rw [nI_toInt (by decide)]; omega) (by rw [nI_toInt (by decide)]; omega))
    rw [← e]; exact q
  have b19 : ¬ (¬ c < 48 ∧ ¬ 57 < c) → (c < 97 → (c < 65 → Q 99 N) ∧ (¬ c < 65 → (70 < c → Q 99 N) ∧ (¬ 70 < c → Q ((c - 65) + 10) N))) ∧ (¬ c < 97 → (102 < c → (c < 65 → Q 99 N) ∧ (¬ c < 65 → (70 < c → Q 99 N) ∧ (¬ 70 < c → Q ((c - 65) + 10) N))) ∧ (¬ 102 < c → Q ((c - 97) + 10) N)) := by
    intro h1
    refine ⟨fun z => b41 h1 (fun y => y.1 z), fun z => ⟨fun y => b41 h1 (fun x => x.2 y), fun y => ?_⟩⟩
    have nd : isD c = false := by
      unfold isD
      by_cases x : c < 48
      · rw [decide_eq_true x]; rfl
      · by_cases y : 57 < c
        · rw [decide_eq_true y]; simp
        · exact absurd ⟨x, y⟩ h1
    have e : dgR c = (c - 97) + 10 := dig _ (by unfold dgt; rw [nd, if_neg (by decide : ¬ false = true), if_pos ⟨z, y⟩]) (by
      rw [Int32.lt_iff_toInt_lt] at z y
      exact sub 97 (by decide) 10 (by decide) (by rw [nI_toInt (by decide)]; omega) (by rw [nI_toInt (by decide)]; omega))
    rw [← e]; exact q
  refine ⟨fun z => b19 (fun y => y.1 z), fun z => ⟨fun y => b19 (fun x => x.2 y), fun y => ?_⟩⟩
  have d : isD c = true := by unfold isD; rw [decide_eq_false z, decide_eq_false y]; rfl
  have e : dgR c = c - 48 := dig _ (by unfold dgt; rw [d, if_pos rfl]) (by
    rw [Int32.lt_iff_toInt_lt] at z y
    have := sub 48 (by decide) 0 (by decide) (by rw [nI_toInt (by decide)]; omega) (by rw [nI_toInt (by decide)]; omega)
    rw [show (nI 0 : Int32) = 0 from rfl, Int32.add_zero] at this; exact this)
  rw [← e]; exact q
