section LAW
variable {nm : Nat → Nat} {G : Nat → Nat → Nat} {px hN hr rs rp po L : Nat} {RW : Nat → Nat} {OA : Nat → Nat → Nat} {xs : Nat → Int32}
theorem law_round (hnm : ∀ i j, i < 10 → j < 10 → nm i = nm j → i = j) (hL : L ≤ 3072) {i : Nat} (hi : 6 * i + 6 ≤ L) {k23 : Int32 → LY → CM → RM → Prop} (k : ∀ T' M' N', LI nm G px hN RW OA hr rs rp po T' M' N' → k23 (nI (6 * (i + 1))) T' M' N') {T : LY} {M : CM} {N : RM} (h : LI nm G px hN RW OA hr rs rp po T M N) : fL_c23 nm xs L px po True k23 (nI (6 * i)) T M N := by
  have kk : ∀ T' M' N', LI nm G px hN RW OA hr rs rp po T' M' N' → fL_b935 nm xs L px po True k23 (nI (6 * i)) T' M' N' := fun T' M' N' l => by
    unfold fL_b935
    refine nm_r (e' := nI (6 * (i + 1))) ?_ (k _ _ _ l)
    rw [show (6 : Int32) = nI 6 from rfl, nI_add]; rfl
  have v0 : vp_in (nI (6 * i)) L := vp_in_nI (by omega) (by omega)
  have a1 : nI (6 * i) + 1 = nI (6 * i + 1) := nI_1 _
  have a2 : nI (6 * i) + 2 = nI (6 * i + 2) := nI_add _ 2
  have a3 : nI (6 * i) + 3 = nI (6 * i + 3) := nI_add _ 3
  have a4 : nI (6 * i) + 4 = nI (6 * i + 4) := nI_add _ 4
  have a5 : nI (6 * i) + 5 = nI (6 * i + 5) := nI_add _ 5
  have v1 : vp_in (nI (6 * i) + 1) L := by rw [a1]; exact vp_in_nI (by omega) (by omega)
  have v2 : vp_in (nI (6 * i) + 2) L := by rw [a2]; exact vp_in_nI (by omega) (by omega)
  have v3 : vp_in (nI (6 * i) + 3) L := by rw [a3]; exact vp_in_nI (by omega) (by omega)
  have v4 : vp_in (nI (6 * i) + 4) L := by rw [a4]; exact vp_in_nI (by omega) (by omega)
  have v5 : vp_in (nI (6 * i) + 5) L := by rw [a5]; exact vp_in_nI (by omega) (by omega)
  unfold fL_c23
  refine ⟨fun _ => trivial, fun _ => ⟨v0, fun _ => ⟨v1, v2, v3, v4, v5, ?_⟩, fun _ => ?_, fun _ => ?_, fun _ => ⟨v1, ?_⟩, fun _ => ?_, fun _ => ⟨v1, v2, ?_⟩, fun _ => ⟨v1, v2, ?_⟩, fun _ => ⟨v1, v2, v3, v4, ?_⟩, fun _ => ⟨v1, v2, ?_⟩, fun _ => ⟨v1, v2, ?_⟩, fun _ => ⟨v1, v2, ?_⟩, fun _ => ⟨v1, ?_⟩, fun _ => ⟨v1, v2, ?_⟩, fun _ => ⟨v1, v2, ?_⟩, fun _ => ⟨v1, v2, ?_⟩, fun _ => ⟨v1, v2, v3, ?_⟩, fun _ => kk _ _ _ h⟩⟩
  · exact L_type h kk _ _ _ _ _
  · exact L_erase h kk
  · exact L_define hnm h kk
  · exact L_drop h kk _
  · exact L_place h kk
  · exact L_simple h kk _ _
  · exact L_number h kk _ _
  · exact L_text h kk _ _ _ _
  · exact L_add h kk _ _
  · exact L_call hnm h kk _ _
  · exact L_operation hnm h kk _ _
  · exact L_kind h kk _
  · exact L_item h kk _ _
  · exact L_whole h kk _ _
  · exact L_real h (B := fun T M N => fL_b881 nm xs L px po True (nI (6 * i)) T M N) kk _ _
  · exact L_sign h kk _ _ _
theorem law_loop (hnm : ∀ i j, i < 10 → j < 10 → nm i = nm j → i = j) (hL : L ≤ 3072) : ∀ m i T M N, i ≤ 1000 → L < 6 * i + 6 * m + 6 → LI nm G px hN RW OA hr rs rp po T M N → fL_l23 nm xs L px po True (m + 1) (nI (6 * i)) T M N := by
  have sub6 : (Int32.ofNat L - 6).toInt = (L : Int) - 6 := by
    have e : Int32.ofNat L = nI L := rfl
    rw [e]
    by_cases c : 6 ≤ L
    · rw [show nI L - 6 = nI (L - 6) from pk_sub (b := 6) c, nI_toInt (by omega)]; omega
    · have : ∀ L, L < 6 → (nI L - 6).toInt = (L : Int) - 6 := by decide
      exact this L (by omega)
  intro m
  induction m with
  | zero =>
    intro i T M N hi hm h
    show fL_c23 nm xs L px po True _ _ T M N
    by_cases c : 6 * i + 6 ≤ L
    · omega
    · unfold fL_c23
      refine ⟨fun _ => trivial, fun z => absurd ?_ z⟩
      rw [Int32.lt_iff_toInt_lt, sub6, nI_toInt (by omega)]; omega
  | succ m ih =>
    intro i T M N hi hm h
    show fL_c23 nm xs L px po True (fL_l23 nm xs L px po True (m + 1)) _ T M N
    by_cases c : 6 * i + 6 ≤ L
    · exact law_round hnm hL c (fun T' M' N' l => ih (i + 1) T' M' N' (by omega) (by omega) l) h
    · unfold fL_c23
      refine ⟨fun _ => trivial, fun z => absurd ?_ z⟩
      rw [Int32.lt_iff_toInt_lt, sub6, nI_toInt (by omega)]; omega
end LAW
