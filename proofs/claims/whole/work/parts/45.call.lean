/-! X10.call -/
theorem decF_c (gs : List (Nat × List Ag)) : ∀ m i, decF gs m i = -1 ∨ ∃ j, i ≤ j ∧ j < i + m ∧ decF gs m i = nI j
  | 0, _ => Or.inl rfl
  | m + 1, i => by
    unfold decF
    split
    · exact Or.inr ⟨i, Nat.le_refl _, by omega, rfl⟩
    · split
      · rcases decF_c gs m (i + 1) with h | ⟨j, a, b, c⟩
        · exact Or.inl h
        · exact Or.inr ⟨j, by omega, by omega, c⟩
      · exact Or.inl rfl
theorem decN_c (gs : List (Nat × List Ag)) (n : Nat) : decN gs n = -1 ∨ ∃ j, j < n ∧ decN gs n = nI j := by
  unfold decN
  split
  · rcases decF_c gs n 0 with h | ⟨j, a, b, c⟩
    · exact Or.inl h
    · exact Or.inr ⟨j, by omega, c⟩
  · exact Or.inl rfl
theorem mostO_a : ∀ (l : List (Nat × List Ag)), (∀ i, i < l.length → (l.getD i (0, [])).2.length ≤ 5) → ∀ u, u ≤ 8 → ∃ w, w ≤ 8 ∧ l.foldl (fun v p => if v < nI (most p.2) then nI (most p.2) else v) (nI u) = nI w
  | [], _, u, hu => ⟨u, hu, rfl⟩
  | p :: l, h, u, hu => by
    have h0 : most p.2 ≤ 8 := most_le (h 0 (Nat.succ_pos _))
    have hl : ∀ i, i < l.length → (l.getD i (0, [])).2.length ≤ 5 := fun i hi => h (i + 1) (Nat.succ_lt_succ hi)
    show ∃ w, w ≤ 8 ∧ l.foldl _ (if nI u < nI (most p.2) then nI (most p.2) else nI u) = nI w
    split
    · exact mostO_a l hl _ h0
    · exact mostO_a l hl _ hu
theorem mostO_c {fs : List (Nat × List Ag)} (h : ∀ i, i < fs.length → (fs.getD i (0, [])).2.length ≤ 5) (hne : fs ≠ []) : (mostO fs).toNatClampNeg ≤ 8 ∧ mostO fs = nI (mostO fs).toNatClampNeg := by
  cases fs with
  | nil => exact absurd rfl hne
  | cons p l =>
    have h0 : most p.2 ≤ 8 := most_le (h 0 (Nat.succ_pos _))
    have hl : ∀ i, i < l.length → (l.getD i (0, [])).2.length ≤ 5 := fun i hi => h (i + 1) (Nat.succ_lt_succ hi)
    have e : mostO (p :: l) = l.foldl (fun v p => if v < nI (most p.2) then nI (most p.2) else v) (nI (most p.2)) := by
      show l.foldl _ (if (-1 : Int32) < nI (most p.2) then nI (most p.2) else -1) = _
      rw [if_pos (by rw [Int32.lt_iff_toInt_lt, nI_toInt (by omega)]; show (-1 : Int) < _; omega)]
    obtain ⟨w, h1, h2⟩ := mostO_a l hl _ h0
    rw [e, h2, nI_clamp (by omega)]
    exact ⟨h1, rfl⟩
/-- with how many a call is made -/
def usd (fs : List (Nat × List Ag)) (n : Nat) : Nat := if (mostO fs).toNatClampNeg < n then (mostO fs).toNatClampNeg else n
noncomputable def dcN (gs : List (Nat × List Ag)) (u : Nat) : Nat := (decN gs u).toNatClampNeg
theorem kG_SA {O : Nat → Nat} {G : Nat → Nat → Nat} {T : LY} {M M' : CM} (h2 : tg T (O 2) = 26) (h : kG O M M') (hS : SA G T M) : SA G T M' := by
  obtain ⟨h1, h3, h4, h5⟩ := hS
  refine ⟨fun t ht => ?_, fun t ht => ?_, fun t ht m j hj => ?_, h5⟩
  · rw [h.2.2.2.1]; exact h1 t ht
  · rw [h.2.2.2.1, h.2.2.2.1]; exact h3 t ht
  · rw [h.2.2.2.2.2.2 _ _ (fun z => by have := (h3 t ht).2.2.2.1; rw [z, h2] at this; omega)]; exact h4 t ht m j hj
theorem kG_VA {O : Nat → Nat} {G : Nat → Nat → Nat} {M M' : CM} (h : kG O M M') {I : Nat → Nat → Int32} {J : Nat → Int64} {D : Nat → UInt64} {W : Nat → List Int32} (hV : VA G M I J D W) : VA G M' I J D W := by
  refine ⟨fun t ht => ?_, fun t ht => ?_⟩
  · obtain ⟨⟨a, b, c⟩, d, e, f⟩ := hV.1 t ht
    refine ⟨⟨?_, ?_, ?_⟩, ?_, ?_, f⟩
    · rw [h.1 _ _ (fun z => by omega)]; exact a
    · rw [h.1 _ _ (fun z => by omega)]; exact b
    · rw [h.1 _ _ (fun z => by omega)]; exact c
    · rw [h.2.1]; exact d
    · rw [h.2.2.1]; exact e
  · obtain ⟨a, b, c⟩ := hV.2 t ht
    refine ⟨?_, b, fun i hi => ?_⟩
    · rw [h.1 _ _ (fun z => by omega)]; exact a
    · rw [h.2.2.2.2.1]; exact c i hi
theorem kG_SX {O : Nat → Nat} {G : Nat → Nat → Nat} {T : LY} {M M' : CM} {px hN cv : Nat} {RW : Nat → Nat} (h2 : tg T (O 2) = 26) (h : kG O M M') (k : SX G T M px hN RW cv) : SX G T M' px hN RW cv := by
  obtain ⟨a1, a2, a3, a4, a5, a6, a7, a8, a9⟩ := k
  refine ⟨a1, ?_, ?_, ?_, a5, ?_, ?_, a8, fun r hr => ⟨(a9 r hr).1, (a9 r hr).2.1, fun i hi => ?_⟩⟩
  · rw [h.2.2.2.1]; exact a2
  · rw [h.2.2.2.1]; exact a3
  · rw [h.2.2.2.1]; exact a4
  · rw [h.2.2.2.1]; exact a6
  · rw [h.2.2.2.1]; exact a7
  · rw [h.2.2.2.2.2.2 _ _ (fun z => by have := (a9 r hr).1; rw [z, h2] at this; omega)]; exact (a9 r hr).2.2 i hi
/-- a gathering of no forms -/
theorem s_X5_gatherE {nm : Nat → Nat} {T : LY} {M : CM} {O : Nat → Nat} {gs : List (Nat × List Ag)} (hS : SO T M O) (hV : VO nm T M O [] gs) (n : Int32) {Q : CM → Prop} (h : ∀ M', kG O M M' → VO nm T M' O [] [] → Q M') : fc_X5_gather T (O 0) n none M Q := by
  have k0 := kG_sI O M 0
  unfold fc_X5_gather
  refine ⟨hS.1, nm_e ⟨1, ?_⟩⟩
  show fc_X5_gather_c7 T (O 0) Q _ _ _ _ _
  unfold fc_X5_gather_c7
  have e51 : cI (sI M 53 (O 0) 0) 51 (O 0) = nI 0 := by rw [cI_sI, if_neg (fun z => by omega)]; exact hV.2.1
  rw [e51]
  refine ⟨hS.1, br_t (by decide) ?_⟩
  unfold fc_X5_gatherOne fc_X5_gatherOne_b51
  refine ⟨fun _ => h _ k0 ⟨Nat.zero_le _, e51, fun i hi => absurd hi (Nat.not_lt_zero i), Nat.zero_le _, ?_, fun i hi => absurd hi (Nat.not_lt_zero i)⟩, fun q => absurd rfl q⟩
  rw [cI_sI, if_pos ⟨rfl, rfl⟩]; rfl
