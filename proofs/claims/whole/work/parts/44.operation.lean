section CLR
variable {nm : Nat → Nat} {T : LY} {M : CM} {px : Nat} {OA : Nat → Nat → Nat} {F H : Nat → List (Nat × List Ag)}
theorem s_drop (hQ : SQ T M px OA) (hS : ∀ o, o < 6 → SO T M (OA o)) (hV : ∀ o, o < 6 → VO nm T M (OA o) (F o) (H o)) (a : Int32) {X : Nat → CM → Prop} {Q : Int32 → CM → Prop} (h1 : ∀ o, o < 6 → a = nI o → VO nm T (sI M 51 (OA o 0) 0) (OA o) [] (H o) → kT T M (sI M 51 (OA o 0) 0) → Q (nI (F o).length) (sI M 51 (OA o 0) 0)) (h0 : (a < 0 ∨ 6 ≤ a) → X 1 M) : fc_X10_drop T X px a M Q := by
  unfold fc_X10_drop
  refine ⟨hQ.1, s_operationAt hQ a (fun o ho e => ⟨fun _ => ⟨_, rfl, (hS o ho).1, nm_r (hV o ho).2.1 ?_⟩, fun z => by cases z⟩) (fun e => ⟨fun z => absurd rfl z, fun _ => h0 e⟩)⟩
  exact s_X5_clear (hS o ho) (hV o ho) (fun v k => h1 o ho e v k)
theorem s_operation (hnm : ∀ i j, i < 10 → j < 10 → nm i = nm j → i = j) (hQ : SQ T M px OA) (hS : ∀ o, o < 6 → SO T M (OA o)) (hV : ∀ o, o < 6 → VO nm T M (OA o) (F o) (H o)) (a w : Int32) {X : Nat → CM → Prop} {Q : Int32 → CM → Prop}
    (h1 : ∀ o m, o < 6 → m ≤ 11 → a = nI o → w = nI m → ∀ M' gs', kG (OA o) M M' → VO nm T M' (OA o) (F o) gs' → Q (if m = 0 then nI (F o).length else if m = 1 then mostO (F o) else if m = 2 then leastO (F o) else decN (gth (m - 3) (F o)) (m - 3)) M')
    (h0 : (a < 0 ∨ 6 ≤ a ∨ w < 0 ∨ 11 < w) → X 1 M) : fc_X10_operation nm T X px a w M Q := by
  unfold fc_X10_operation fc_X10_operation_b20
  refine ⟨hQ.1, s_operationAt hQ a (fun o ho e => ⟨fun z => (by cases z), fun _ => ⟨fun c => h0 (Or.inr (Or.inr (Or.inl c))), fun c => ?_⟩⟩) (fun e => ⟨fun _ => h0 (e.elim Or.inl (fun z => Or.inr (Or.inl z))), fun z => absurd rfl z⟩)⟩
  obtain ⟨m, hm, rfl⟩ := nI_of c
  have t6 := (hS o ho).1
  refine pk_le m 11 (fun c4 => ?_) (fun c4 => h0 (Or.inr (Or.inr (Or.inr (nI_lt (a := 11) c4 hm)))))
  have q := h1 o m ho c4 e rfl
  refine ⟨fun d0 => ⟨fun d1 => ⟨fun d2 => ⟨_, rfl, t6, ?_⟩, fun d2 => ⟨_, rfl, t6, s_X5_least (hS o ho) (hV o ho) ?_⟩⟩, fun d1 => ⟨_, rfl, t6, s_X5_most (hS o ho) (hV o ho) ?_⟩⟩, fun d0 => ⟨_, rfl, t6, ?_⟩⟩
  · have m0 : m ≠ 0 := fun z => d0 (by rw [z]; rfl)
    have m1 : m ≠ 1 := fun z => d1 (by rw [z]; rfl)
    have m2 : m ≠ 2 := fun z => d2 (by rw [z]; rfl)
    rw [show (3 : Int32) = nI 3 from rfl, pk_sub (by omega)]
    refine s_X5_gather0 (hS o ho) (hV o ho) (by omega) (fun M' k v => s_X5_deciding hnm (kG_SO k (hS o ho)) v (by omega) (fun j hj => gth_ok hj) ?_)
    have q2 := q M' _ k v
    rw [if_neg m0, if_neg m1, if_neg m2] at q2
    exact q2
  · have e2 : m = 2 := (nI_eq (b := 2) (by omega) (by decide)).mp d2
    have q2 := q M _ (kG_rf _ M) (hV o ho)
    rw [if_neg (by omega), if_neg (by omega), if_pos e2] at q2
    exact q2
  · have e1 : m = 1 := (nI_eq (b := 1) (by omega) (by decide)).mp d1
    have q2 := q M _ (kG_rf _ M) (hV o ho)
    rw [if_neg (by omega), if_pos e1] at q2
    exact q2
  · have e0 : m = 0 := (nI_eq (b := 0) (by omega) (by decide)).mp d0
    have q2 := q M _ (kG_rf _ M) (hV o ho)
    rw [if_pos e0] at q2
    rw [(hV o ho).2.1]; exact q2
end CLR
