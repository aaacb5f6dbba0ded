/-! rounding and numbers, as the reference does them -/
def rndW (d : UInt64) : Int64 := if Op.cmpValue (FP.dcmp (FP.l2d (FP.d2l d)) d) .l ≤ 0 then FP.d2l d else FP.d2l d - 1
def rndO (d : UInt64) : UInt64 := FP.dsub d (FP.l2d (rndW d))
def rndR (d : UInt64) : Int64 := if 0 < Op.cmpValue (FP.dcmp (rndO d) 4602678819172646912) .l then rndW d + 1 else if ¬ Op.cmpValue (FP.dcmp (rndO d) 4602678819172646912) .l = 0 then rndW d else if lg_cmp (rndW d - rndW d / 2 * 2) 0 = 0 then rndW d else rndW d + 1
/-- a number that both round alike -/
def gd (d : UInt64) : Prop := Jvm.FP.Core.dIsNaN d = false ∧ rndR d = rndC d
section MAK
variable {N : RM} {I : Nat → Nat → Int32} {J : Nat → Int64} {D : Nat → UInt64} {W : Nat → List Int32} {v n p t : Nat} {L : List Int32} {τ : Ty}
theorem r_rounded (d : UInt64) (hd : Jvm.FP.Core.dIsNaN d = false) {Q : Int64 → RM → Prop} (q : Q (rndR d) N) : fm_rounded d N Q := by
  have b14 : ∀ w, w = rndW d → fm_rounded_b14 Q d w N := by
    intro w e
    rw [e]
    unfold fm_rounded_b14 fm_rounded_b48 fm_rounded_b54 fm_rounded_b55
    unfold rndR rndO at q
    refine ⟨vf_of (Jvm.FP.Core.dsub_out hd (Jvm.FP.Core.l2d_fin _)), nm_e ⟨fun c => ?_, fun c => ⟨fun c2 => ?_, fun c2 => ⟨by decide, fun c3 => ?_, fun c3 => ?_⟩⟩⟩⟩
    · rw [if_pos c] at q; exact q
    · rw [if_neg c, if_pos c2] at q; exact q
    · rw [if_neg c, if_neg (fun z => z c2), if_pos c3] at q; exact q
    · rw [if_neg c, if_neg (fun z => z c2), if_neg c3] at q; exact q
  unfold fm_rounded
  refine nm_e ⟨fun c => b14 _ ?_, fun c => nm_e (b14 _ ?_)⟩
  · unfold rndW; rw [if_pos c]
  · unfold rndW; rw [if_neg c]
theorem r_lowest {i : Nat} (hi : 1 ≤ i ∧ i ≤ 4) {Q : Int64 → RM → Prop} (q : Q (nLeast i) N) : fm_lowest (nI i) N Q := by
  unfold fm_lowest fm_lowest_b34
  have : i = 1 ∨ i = 2 ∨ i = 3 ∨ i = 4 := by omega
  rcases this with h | h | h | h <;> subst h <;> refine ⟨fun c1 => ⟨fun c2 => ⟨fun c3 => ?_, fun c3 => ?_⟩, fun c2 => ?_⟩, fun c1 => ?_⟩ <;> first | exact q | exact absurd c1 (by decide) | exact absurd c2 (by decide) | exact absurd c3 (by decide)
theorem r_highest {i : Nat} (hi : 1 ≤ i ∧ i ≤ 4) {Q : Int64 → RM → Prop} (q : Q (nMost i) N) : fm_highest (nI i) N Q := by
  unfold fm_highest fm_highest_b36
  have : i = 1 ∨ i = 2 ∨ i = 3 ∨ i = 4 := by omega
  rcases this with h | h | h | h <;> subst h <;> refine ⟨fun c1 => ⟨fun c2 => ⟨fun c3 => ?_, fun c3 => ?_⟩, fun c2 => ?_⟩, fun c1 => ?_⟩ <;> first | exact q | exact absurd c1 (by decide) | exact absurd c2 (by decide) | exact absurd c3 (by decide)
/-- the remainder that is no less than 0, as a mask gives it -/
theorem rem_mask (x : Int64) {k : Nat} (hk : k < 62) : (if 0 ≤ lg_cmp (x - x / lN (2 ^ k) * lN (2 ^ k)) 0 then x - x / lN (2 ^ k) * lN (2 ^ k) else x - x / lN (2 ^ k) * lN (2 ^ k) + lN (2 ^ k)) = x &&& lN (2 ^ k - 1) := by
  have p2 : 2 ^ k < 2 ^ 62 := Nat.pow_lt_pow_right (by decide) hk
  have p0 : 0 < 2 ^ k := Nat.two_pow_pos k
  obtain ⟨P, hP⟩ : ∃ P, P = 2 ^ k := ⟨_, rfl⟩
  have hl := x.le_toInt
  have hh := x.toInt_lt
  have eP : (lN P).toInt = (P : Int) := pk_lT (by omega)
  -- the mask
  have em : (x &&& lN (P - 1)).toInt = x.toInt.emod (P : Int) := by
    obtain ⟨n, en⟩ : ∃ n, n = x.toBitVec.toNat := ⟨_, rfl⟩
    have e1 : x &&& lN (P - 1) = lN (n % P) := by
      apply Int64.toBitVec_inj.mp
      apply BitVec.eq_of_toNat_eq
      have f1 : (lN (P - 1)).toBitVec.toNat = P - 1 := Nat.mod_eq_of_lt (by omega)
      have lt := Nat.mod_lt n (show 0 < P by omega)
      have f2 : (lN (n % P)).toBitVec.toNat = n % P := Nat.mod_eq_of_lt (by omega)
      rw [Int64.toBitVec_and, BitVec.toNat_and, f1, f2, hP, Nat.and_two_pow_sub_one_eq_mod, en]
    have lt := Nat.mod_lt n (show 0 < P by omega)
    rw [e1, pk_lT (by omega)]
    have ex : x.toInt = ((n : Int)).bmod (2 ^ 64) := by rw [en]; exact BitVec.toInt_eq_toNat_bmod x.toBitVec
    rw [ex]
    have hd : ((P : Nat) : Int) ∣ ((2 ^ 64 : Nat) : Int) := by
      rw [hP]; exact Int.natCast_dvd_natCast.mpr (Nat.pow_dvd_pow 2 (by omega))
    show ((n % P : Nat) : Int) = ((n : Int).bmod (2 ^ 64)) % (P : Int)
    have e2 : ((n : Int).bmod (2 ^ 64)) % (P : Int) = (n : Int) % (P : Int) := by
      have h3 : ∃ c : Int, (n : Int).bmod (2 ^ 64) = n + ((2 ^ 64 : Nat) : Int) * c := by
        refine ⟨((n : Int).bmod (2 ^ 64) - n) / ((2 ^ 64 : Nat) : Int), ?_⟩
        rw [Int.mul_ediv_cancel']
        · omega
        · exact Int.dvd_bmod_sub_self
      obtain ⟨c, hc⟩ := h3
      rw [hc]
      obtain ⟨g, hg⟩ := hd
      rw [hg, Int.mul_assoc, Int.add_mul_emod_self_left]
    rw [e2]; omega
  have ed : (x / lN P).toInt = x.toInt.tdiv P := by
    rw [Int64.toInt_div, eP]
    have b1 : (x.toInt.tdiv P).natAbs ≤ x.toInt.natAbs := by rw [Int.natAbs_tdiv]; exact Nat.div_le_self _ _
    by_cases e1 : P = 1
    · rw [e1]
      show (x.toInt.tdiv 1).bmod _ = x.toInt.tdiv 1
      rw [Int.tdiv_one]; exact Int.bmod_eq_of_le (by omega) (by omega)
    · have b2 : (x.toInt.tdiv P).natAbs ≤ x.toInt.natAbs / 2 := by
        rw [Int.natAbs_tdiv]; exact Nat.div_le_div_left (by show 2 ≤ (P : Int).natAbs; omega) (by decide)
      exact Int.bmod_eq_of_le (by omega) (by omega)
  have er : (x - x / lN P * lN P).toInt = x.toInt.tmod P := by
    have h1 : x.toInt.tdiv P * P = x.toInt - x.toInt.tmod P := by
      have := Int.tmod_add_mul_tdiv x.toInt P
      rw [Int.mul_comm] at this; omega
    have h2 : (x.toInt.tmod P).natAbs < P := by
      rw [Int.natAbs_tmod]; exact Nat.mod_lt _ (by show 0 < (P : Int).natAbs; omega)
    have h3 : 0 ≤ x.toInt → 0 ≤ x.toInt.tmod P := fun h => Int.tmod_nonneg _ h
    have h4 : x.toInt ≤ 0 → x.toInt.tmod P ≤ 0 := fun h => by
      have := Int.tmod_nonneg (P : Int) (show 0 ≤ -x.toInt by omega)
      rw [Int.neg_tmod] at this; omega
    have h5 : (x.toInt.tmod P).natAbs ≤ x.toInt.natAbs := by rw [Int.natAbs_tmod]; exact Nat.mod_le _ _
    rw [Int64.toInt_sub, Int64.toInt_mul, ed, eP, h1]
    have h6 : (x.toInt - x.toInt.tmod P).bmod (2 ^ 64) = x.toInt - x.toInt.tmod P := Int.bmod_eq_of_le (by omega) (by omega)
    rw [h6, show x.toInt - (x.toInt - x.toInt.tmod P) = x.toInt.tmod P by omega]
    exact Int.bmod_eq_of_le (by omega) (by omega)
  have he : x.toInt.emod P = if 0 ≤ x.toInt.tmod P then x.toInt.tmod P else x.toInt.tmod P + P := by
    have h2 : (x.toInt.tmod P).natAbs < P := by
      rw [Int.natAbs_tmod]; exact Nat.mod_lt _ (by show 0 < (P : Int).natAbs; omega)
    have h7 : x.toInt = x.toInt.tmod P + P * x.toInt.tdiv P := (Int.tmod_add_mul_tdiv x.toInt P).symm
    show x.toInt % (P : Int) = _
    split
    · rename_i c
      rw [h7, Int.add_mul_emod_self_left, ← h7]
      exact Int.emod_eq_of_lt c (by omega)
    · rename_i c
      have h8 : x.toInt = (x.toInt.tmod P + P) + P * (x.toInt.tdiv P - 1) := by
        rw [Int.mul_sub, Int.mul_one]; omega
      rw [h8, Int.add_mul_emod_self_left, ← h8]
      exact Int.emod_eq_of_lt (by omega) (by omega)
  rw [← hP]
  apply Int64.toInt_inj.mp
  rw [em, he]
  have e0 : (0 : Int64).toInt = 0 := rfl
  by_cases c : 0 ≤ x.toInt.tmod P
  · rw [if_pos c, if_pos ((lg_cmp_ge _ _).mpr (by rw [Int64.le_iff_toInt_le, er, e0]; exact c)), er]
  · have h2 : (x.toInt.tmod P).natAbs < P := by
      rw [Int.natAbs_tmod]; exact Nat.mod_lt _ (by show 0 < (P : Int).natAbs; omega)
    rw [if_neg c, if_neg (fun z => c (by have := (lg_cmp_ge _ _).mp z; rw [Int64.le_iff_toInt_le, er, e0] at this; exact this)), Int64.toInt_add, er, eP]
    exact Int.bmod_eq_of_le (by omega) (by omega)
end MAK
