/-! conversions. A converted value: kind, whole, real, text -/
abbrev Rv : Type := Int32 × Int64 × UInt64 × List Int32
def isRv (I : Nat → Nat → Int32) (J : Nat → Int64) (D : Nat → UInt64) (W : Nat → List Int32) (t : Nat) (r : Rv) : Prop := I 80 t = r.1 ∧ J t = r.2.1 ∧ D t = r.2.2.1 ∧ W t = r.2.2.2
def wrpC (w lo hi : Int64) : Int64 := ((w - lo) &&& (hi - lo)) + lo
def rstC (d : UInt64) : UInt64 := FP.dsub d (FP.l2d (FP.d2l d))
def rndN (d : UInt64) : Bool := !decide (0 ≤ Op.cmpValue (FP.dcmp (rstC d) FP.dconst0) .g)
def rndS (d : UInt64) : UInt64 := if rndN d then FP.dneg (rstC d) else rstC d
def rndC (d : UInt64) : Int64 := if 0 < Op.cmpValue (FP.dcmp (rndS d) 4602678819172646912) .l ∨ (Op.cmpValue (FP.dcmp (rndS d) 4602678819172646912) .l = 0 ∧ ¬ lg_cmp (FP.d2l d &&& 1) 0 = 0) then (if rndN d then FP.d2l d - 1 else FP.d2l d + 1) else FP.d2l d
def clmC (w lo hi : Int64) : Int64 := if (if w < hi then w else hi) < lo then lo else (if w < hi then w else hi)
/-- a value with or without a number as a number's type -/
def cvN (i : Nat) (mode : Int32) (has : Bool) (d : UInt64) : Option Rv :=
  if has = false ∧ (i = 5 ∨ mode = 2) then none
  else if i = 5 then some (4, 0, (if has then d else FP.dconst0), [])
  else if mode = 2 ∧ (FP.d2l (if has then d else FP.dconst0) < nLeast i ∨ nMost i < FP.d2l (if has then d else FP.dconst0)) then none
  else some (3, (if mode = 1 then clmC (rndC (if has then d else FP.dconst0)) (nLeast i) (nMost i) else wrpC (FP.d2l (if has then d else FP.dconst0)) (nLeast i) (nMost i)), FP.dconst0, [])
theorem s_X1_rounded {T : LY} {M : CM} (d : UInt64) (hd : Jvm.FP.Core.dIsNaN d = false) {Q : Int64 → CM → Prop} (h : Q (rndC d) M) : fc_X1_rounded T d M Q := by
  unfold fc_X1_rounded
  refine nm_e ⟨vf_of (Jvm.FP.Core.dsub_out hd (Jvm.FP.Core.l2d_fin _)), nm_e ?_⟩
  have b52 : (0 < Op.cmpValue (FP.dcmp (rndS d) 4602678819172646912) .l ∨ (Op.cmpValue (FP.dcmp (rndS d) 4602678819172646912) .l = 0 ∧ ¬ lg_cmp (FP.d2l d &&& 1) 0 = 0)) → fc_X1_rounded_b52 T Q (FP.d2l d) (rstC d) M := by
    intro c
    unfold rndC at h
    rw [if_pos c] at h
    unfold fc_X1_rounded_b52 fc_X1_rounded_b68
    refine ⟨fun e => ?_, fun e => ?_⟩
    · have : rndN d = false := by unfold rndN; rw [decide_eq_true e]; rfl
      rw [if_neg (by rw [this]; decide)] at h; exact h
    · have : rndN d = true := by unfold rndN; rw [decide_eq_false e]; rfl
      rw [if_pos this] at h; exact h
  have b24 : fc_X1_rounded_b24 T Q (FP.d2l d) (rstC d) (rndS d) M := by
    unfold fc_X1_rounded_b24 fc_X1_rounded_b69
    refine ⟨fun c => b52 (Or.inl c), fun c => ⟨fun e => ?_, fun e => ⟨fun f => ?_, fun f => b52 (Or.inr ⟨e, f⟩)⟩⟩⟩
    · unfold rndC at h
      rw [if_neg (fun z => z.elim c (fun z => e z.1))] at h; exact h
    · unfold rndC at h
      rw [if_neg (fun z => z.elim c (fun z => z.2 f))] at h; exact h
  refine ⟨fun c => ?_, fun c => ?_⟩
  · have e : rndN d = false := by
      show (!decide (0 ≤ Op.cmpValue (FP.dcmp (FP.dsub d (FP.l2d (FP.d2l d))) FP.dconst0) .g)) = false
      rw [decide_eq_true c]; rfl
    unfold rndS at b24
    rw [if_neg (by rw [e]; decide)] at b24
    exact b24
  · have e : rndN d = true := by
      show (!decide (0 ≤ Op.cmpValue (FP.dcmp (FP.dsub d (FP.l2d (FP.d2l d))) FP.dconst0) .g)) = true
      rw [decide_eq_false c]; rfl
    unfold rndS at b24
    rw [if_pos e] at b24
    exact b24
section CNV
variable {nm : Nat → Nat} {T : LY} {M : CM} {G : Nat → Nat → Nat} {I : Nat → Nat → Int32} {J : Nat → Int64} {D : Nat → UInt64} {W : Nat → List Int32} {t u a : Nat} {τ : Ty} {x : Option Nat}
theorem s_X1_number (hnm : ∀ i j, i < 10 → j < 10 → nm i = nm j → i = j) (hS : SA G T M) (hV : VA G M I J D W) (ht : t < 144) (hu : u < 144) (hx : tyc nm T M a τ x) (has : Bool) (hh : I 83 u = bI has) (hd : has = true → Jvm.FP.Core.dIsNaN (D u) = false) {Q : Int32 → CM → Prop} (h1 : ∀ r, cvN τ.1 τ.2.1 has (D u) = some r → ∀ M' I' J' D' W', zA G M M' → VA G M' I' J' D' W' → isRv I' J' D' W' t r → I' 85 t = 0 → (∀ v, v ≠ t → sam I J D W I' J' D' W' v) → Q 1 M') (h0 : cvN τ.1 τ.2.1 has (D u) = none → Q 0 M) : fc_X1_convertNumber nm T (some a) (some (G 0 u)) (some (G 0 t)) M Q := by
  obtain ⟨a1, a2, a3, a4, -⟩ := hx
  have e83 : cI M 83 (G 0 u) = bI has := by rw [(hV.1 u hu).1.2.1, hh]
  have e82 := (hV.1 u hu).2.2.1
  have t9 := (hS.2.1 u hu).1
  have n5 : (some (nm τ.1) = some (nm 5)) ↔ τ.1 = 5 := ⟨fun z => hnm _ _ a2 (by decide) (Option.some.inj z), fun z => by rw [z]⟩
  obtain ⟨d, ed⟩ : ∃ d, d = (if has then D u else FP.dconst0) := ⟨_, rfl⟩
  have hdn : Jvm.FP.Core.dIsNaN d = false := by
    rw [ed]
    cases has with
    | true => exact hd rfl
    | false => exact (by decide +kernel : Jvm.FP.Core.dIsNaN FP.dconst0 = false)
  unfold cvN at h1 h0
  rw [← ed] at h1 h0
  have b44 : ¬ (has = false ∧ (τ.1 = 5 ∨ τ.2.1 = 2)) → fc_X1_convertNumber_b44 nm T Q (some a) (some (G 0 t)) (some (nm τ.1)) d M := by
    intro c
    rw [if_neg c] at h1 h0
    unfold fc_X1_convertNumber_b44 fc_X1_convertNumber_b94
    refine ⟨fun e => nm_e ⟨a, rfl, a1, ?_⟩, fun e => ⟨_, rfl, (hS.2.1 t ht).1, ?_⟩⟩
    · have e5 : τ.1 ≠ 5 := fun z => e (n5.mpr z)
      rw [if_neg e5] at h1 h0
      rw [a4]
      have b96 : ¬ (τ.2.1 = 2 ∧ (FP.d2l d < nLeast τ.1 ∨ nMost τ.1 < FP.d2l d)) → fc_X1_convertNumber_b96 nm T Q (some a) (some (G 0 t)) (some (nm τ.1)) d (FP.d2l d) M := by
        intro c2
        rw [if_neg c2] at h1
        have b139 : ∀ w, w = (if τ.2.1 = 1 then clmC (rndC d) (nLeast τ.1) (nMost τ.1) else wrpC (FP.d2l d) (nLeast τ.1) (nMost τ.1)) → fc_X1_convertNumber_b139 nm T Q (some (G 0 t)) w M := by
          intro w ew
          unfold fc_X1_convertNumber_b139
          refine ⟨_, rfl, (hS.2.1 t ht).1, s_X8_becomeWhole hS hV ht 3 w (fun M' z v => h1 _ rfl M' _ _ _ _ z v ⟨bec_80 _ _ _, ?_, va_ups _ _ _, va_ups _ _ _⟩ (bec_85 _ _ _) (fun v hv => ⟨fun g => bec_n _ _ g hv, va_upn _ _ hv, va_upn _ _ hv, va_upn _ _ hv⟩))⟩
          rw [va_ups]; exact ew
        unfold fc_X1_convertNumber_b96
        refine ⟨a, rfl, a1, ?_⟩
        rw [a4]
        refine ⟨fun f => ⟨τ.1, rfl, a2, ?_⟩, fun f => ⟨τ.1, rfl, a2, s_X1_rounded d hdn (b139 _ ?_)⟩⟩
        · unfold fc_X1_wrapped
          exact b139 _ (by rw [if_neg f]; rfl)
        · rw [if_pos f]; rfl
      refine ⟨fun f => b96 (fun z => f z.1), fun f => ⟨τ.1, rfl, a2, fun g => ?_, fun g => ⟨fun k => b96 (fun z => z.2.elim (fun z2 => g ((lg_cmp_lt _ _).mpr z2)) (fun z2 => ?_)), fun k => ?_⟩⟩⟩
      · rw [if_pos ⟨f, Or.inl ((lg_cmp_lt _ _).mp g)⟩] at h0; exact h0 rfl
      · have k1 := Int64.le_iff_toInt_le.mp ((lg_cmp_le _ _).mp k)
        have k2 := Int64.lt_iff_toInt_lt.mp z2
        omega
      · have k1 : ¬ FP.d2l d ≤ nMost τ.1 := fun z => k ((lg_cmp_le _ _).mpr z)
        rw [Int64.le_iff_toInt_le] at k1
        rw [if_pos ⟨f, Or.inr (Int64.lt_iff_toInt_lt.mpr (by omega))⟩] at h0; exact h0 rfl
    · rw [if_pos (n5.mp e)] at h1
      refine s_X8_becomeDouble hS hV ht d (fun M' z v => h1 _ rfl M' _ _ _ _ z v ⟨?_, va_ups _ _ _, va_ups _ _ _, va_ups _ _ _⟩ ?_ (fun v hv => ⟨fun g => ?_, va_upn _ _ hv, va_upn _ _ hv, va_upn _ _ hv⟩))
      · rw [upI_f _ _ (by decide), bec_80]
      · rw [upI_f _ _ (by decide), bec_85]
      · rw [upI_n _ _ hv, bec_n _ _ _ hv]
  have b29 : ¬ (has = false ∧ (τ.1 = 5 ∨ τ.2.1 = 2)) → fc_X1_convertNumber_b29 nm T Q (some a) (some (G 0 u)) (some (G 0 t)) (some (nm τ.1)) M := by
    intro c
    have k := b44 c
    unfold fc_X1_convertNumber_b29
    refine ⟨_, rfl, t9, ?_⟩
    rw [e83, e82]
    refine ⟨fun e => ?_, fun e => ?_⟩
    · rw [bI_0] at e
      rw [e] at ed
      rw [ed] at k; exact k
    · rw [bI_0] at e
      have e2 : has = true := by
        cases has with
        | true => rfl
        | false => exact absurd rfl e
      rw [e2] at ed
      rw [ed] at k; exact k
  unfold fc_X1_convertNumber fc_X1_convertNumber_b27
  refine ⟨a, rfl, a1, _, rfl, t9, ?_⟩
  rw [e83, a3, a4]
  refine ⟨fun e => b29 (fun z => e (bI_0.mpr z.1)), fun e => ⟨fun f => ?_, fun f => ⟨fun g => b29 (fun z => z.2.elim (fun z => f (n5.mpr z)) g), fun g => ?_⟩⟩⟩
  · rw [if_pos ⟨bI_0.mp e, Or.inl (n5.mp f)⟩] at h0; exact h0 rfl
  · rw [if_pos ⟨bI_0.mp e, Or.inr g⟩] at h0; exact h0 rfl
end CNV
