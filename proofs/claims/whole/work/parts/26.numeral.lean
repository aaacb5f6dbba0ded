/-! the number of a text: places a .. b of the signs w -/
def isD (c : Int32) : Bool := !(decide (c < 48)) && !(decide (57 < c))
/-- the value of a hexadecimal digit, -1 of none -/
def dgt (c : Int32) : Int32 := if isD c then c - 48 else if ¬ c < 97 ∧ ¬ 102 < c then (c - 97) + 10 else if ¬ c < 65 ∧ ¬ 70 < c then (c - 65) + 10 else -1
def pw : Nat → UInt64
  | 0 => FP.dconst1
  | k + 1 => FP.dmul (pw k) 4621819117588971520
def decL (w : Nat → Int32) : Nat → Nat → Int64 → Nat → Bool → Option (Int64 × Nat)
  | 0, _, d, k, _ => some (d, k)
  | m + 1, i, d, k, b => if w i = 46 ∧ b = false then decL w m (i + 1) d k true else if isD (w i) = true then decL w m (i + 1) (d * 10 + (w i - 48).toInt64) (if b = true then k + 1 else k) b else none
def hexL (w : Nat → Int32) : Nat → Nat → Int64 → Option Int64
  | 0, _, v => some v
  | m + 1, i, v => if 0 ≤ dgt (w i) then hexL w m (i + 1) (v * 16 + (dgt (w i)).toInt64) else none
def decR (w : Nat → Int32) (a b : Nat) : Option UInt64 := if b ≤ a ∨ isD (w a) = false ∨ isD (w (b - 1)) = false then none else (decL w (b - a) a 0 0 false).map (fun p => FP.ddiv (FP.l2d p.1) (pw p.2))
def hexR (w : Nat → Int32) (a b : Nat) : Option UInt64 := if b ≤ a ∨ 8 < b - a then none else (hexL w (b - a) a 0).map FP.l2d
/-- the first place from a on that is no blank, at most m on -/
def skp (w : Nat → Int32) : Nat → Nat → Nat
  | 0, a => a
  | m + 1, a => if w a = 32 then skp w m (a + 1) else a
/-- the place behind the last from a on that is no blank -/
def bck (w : Nat → Int32) (a : Nat) : Nat → Nat
  | 0 => 0
  | b + 1 => if a < b + 1 ∧ w b = 32 then bck w a b else b + 1
def numR (w : Nat → Int32) (n : Nat) : Option UInt64 :=
  if skp w n 0 = bck w (skp w n 0) n then some FP.dconst0
  else if w (skp w n 0) = 48 ∧ w (skp w n 0 + 1) = 120 then hexR w (skp w n 0 + 2) (bck w (skp w n 0) n)
  else if w (skp w n 0) = 45 then (decR w (skp w n 0 + 1) (bck w (skp w n 0) n)).map (fun v => FP.dsub FP.dconst0 v)
  else if w (skp w n 0) = 43 then decR w (skp w n 0 + 1) (bck w (skp w n 0) n)
  else decR w (skp w n 0) (bck w (skp w n 0) n)
theorem skp_le (w : Nat → Int32) : ∀ m a, a ≤ skp w m a ∧ skp w m a ≤ a + m
  | 0, a => ⟨Nat.le_refl _, Nat.le_refl _⟩
  | m + 1, a => by
    have h := skp_le w m (a + 1)
    unfold skp
    split <;> omega
theorem bck_le (w : Nat → Int32) (a : Nat) : ∀ b, bck w a b ≤ b ∧ (a ≤ b → a ≤ bck w a b)
  | 0 => ⟨Nat.le_refl _, fun h => h⟩
  | b + 1 => by
    have h := bck_le w a b
    unfold bck
    split
    · rename_i c; exact ⟨by omega, fun _ => h.2 (by omega)⟩
    · exact ⟨Nat.le_refl _, fun h => h⟩
theorem vf_of {a : UInt64} (h : Jvm.FP.Core.dIsNaN a = false) : vf_n64 a := by
  have h1 := (Jvm.FP.Core.ne_nan a).mp ((Jvm.FP.Core.notNaN_iff a).mp h)
  unfold vf_n64
  rw [UInt64.le_iff_toNat_le, Jvm.FP.Core.mask_toNat a]
  exact h1
theorem pw_ok {k : Nat} (h : k < 100) : Jvm.FP.Core.DFin (pw k) ∧ ¬ Jvm.FP.Core.DZero (pw k) := by
  have h1 := co_dec (N := 100) (P := fun k => (pw k).toNat < 9218868437227405312 ∧ 0 < (pw k).toNat) (by decide +kernel) h
  refine ⟨(Jvm.FP.Core.fin_bits _).mpr (by omega), fun z => ?_⟩
  have h2 := (Jvm.FP.Core.zero_bits2 _).mp z
  omega
theorem decL_k (w : Nat → Int32) : ∀ (m i : Nat) (d : Int64) (k : Nat) (b : Bool) (p : Int64 × Nat), decL w m i d k b = some p → p.2 ≤ k + m
  | 0, _, _, _, _, p, h => by cases h; exact Nat.le_refl _
  | m + 1, i, d, k, b, p, h => by
    unfold decL at h
    split at h
    · have := decL_k w m _ _ _ _ p h; omega
    · split at h
      · have := decL_k w m _ _ _ _ p h
        split at this <;> omega
      · cases h
theorem s_X4_isDigit {T : LY} {M : CM} (a : Int32) {Q : Int32 → CM → Prop} (h1 : isD a = true → Q 1 M) (h0 : isD a = false → Q 0 M) : fc_X4_isDigit T a M Q := by
  unfold fc_X4_isDigit fc_X4_isDigit_b16 fc_X4_isDigit_b17
  refine br_c (fun c => ⟨nZ_0, h0 ?_⟩) (fun c => br_c (fun d => ⟨nZ_0, h0 ?_⟩) (fun d => ⟨nZ_1, h1 ?_⟩))
  · unfold isD; rw [decide_eq_true c]; rfl
  · unfold isD; rw [decide_eq_true d, Bool.not_true, Bool.and_false]
  · unfold isD; rw [decide_eq_false c, decide_eq_false d]; rfl
theorem s_X4_digitOf {T : LY} {M : CM} (a : Int32) {Q : Int32 → CM → Prop} (h : Q (dgt a) M) : fc_X4_digitOf T a M Q := by
  unfold fc_X4_digitOf fc_X4_digitOf_b32 fc_X4_digitOf_b54 fc_X4_digitOf_b55
  unfold dgt at h
  have k : isD a = false → (a < 97 ∨ 102 < a) → (a < 65 → Q (-1) M) ∧ (¬ a < 65 → (70 < a → Q (-1) M) ∧ (¬ 70 < a → Q ((a - 65) + 10) M)) := by
    intro c q
    rw [if_neg (by rw [c]; decide), if_neg (fun z => q.elim z.1 z.2)] at h
    refine br_c (fun d => ?_) (fun d => br_c (fun e => ?_) (fun e => ?_))
    · rw [if_neg (fun z => z.1 d)] at h; exact h
    · rw [if_neg (fun z => z.2 e)] at h; exact h
    · rw [if_pos ⟨d, e⟩] at h; exact h
  refine s_X4_isDigit a (fun c => ⟨fun q => absurd q (by decide), fun _ => ?_⟩) (fun c => ⟨fun _ => br_c (fun d => k c (Or.inl d)) (fun d => br_c (fun e => k c (Or.inr e)) (fun e => ?_)), fun q => absurd rfl q⟩)
  · rw [if_pos c] at h; exact h
  · rw [if_neg (by rw [c]; decide), if_pos ⟨d, e⟩] at h; exact h
