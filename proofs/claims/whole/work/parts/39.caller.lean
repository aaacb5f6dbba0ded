/-- the text of a list behind one more item -/
def addW (I : Nat → Nat → Int32) (W : Nat → List Int32) (j k n : Nat) : List Int32 := puts (W j) 84 ((if n = 0 then [] else [44]) ++ (if I 80 k = 7 ∨ I 80 k = 8 then [] else W k))
section CLR
variable {T : LY} {M : CM} {G : Nat → Nat → Nat} {I : Nat → Nat → Int32} {J : Nat → Int64} {D : Nat → UInt64} {W : Nat → List Int32} {px hN cv P t u n : Nat} {RW : Nat → Nat}
theorem s_add (hX : SX G T M px hN RW cv) (hS : SA G T M) (hV : VA G M I J D W) (hsz : szOk I cv P) (s f : Int32) {X : Nat → CM → Prop} {Q : Int32 → CM → Prop}
    (h1 : ∀ j k n, j < 8 → k < 8 → n < 5 → s = nI j → f = nI k → I 80 j = 6 → I 80 k ≠ 6 → I 85 j = nI n → ∀ M' I' J' D' W', zX G hN M M' → VA G M' I' J' D' W' → cpd I J D W I' J' D' W' (itm j n) k → I' 85 (itm j n) = 0 → I' 80 j = 6 → I' 83 j = bI (numT (addW I W j k n)).isSome → I' 85 j = nI (n + 1) → J' j = J j → D' j = (numT (addW I W j k n)).getD FP.dconst0 → W' j = addW I W j k n → (∀ v, v ≠ j → v ≠ itm j n → sam I J D W I' J' D' W' v) → Q (nI (n + 1)) M')
    (hx1 : (s < 0 ∨ 8 ≤ s ∨ f < 0 ∨ 8 ≤ f) → X 1 M)
    (hx2 : ∀ j k, j < 8 → k < 8 → s = nI j → f = nI k → (I 80 j ≠ 6 ∨ I 80 k = 6 ∨ ¬ I 85 j < 5) → X 2 M) : fc_X10_add T X px s f M Q := by
  unfold fc_X10_add fc_X10_add_b28 fc_X10_add_b65
  refine ⟨hX.1, ?_⟩
  rw [hX.2.2.1]
  refine s_slotAt hX (r := 0) (by decide) s (fun j hj ej => ?_) (fun e => ?_)
  rotate_left
  · rw [hX.2.2.1]
    exact s_slotAt hX (r := 0) (by decide) f (fun k hk ek => ⟨fun _ => hx1 (e.elim Or.inl (fun z => Or.inr (Or.inl z))), fun z => absurd rfl z⟩) (fun e2 => ⟨fun _ => hx1 (e.elim Or.inl (fun z => Or.inr (Or.inl z))), fun z => absurd rfl z⟩)
  rw [hX.2.2.1]
  refine s_slotAt hX (r := 0) (by decide) f (fun k hk ek => ?_) (fun e => ⟨fun z => (by cases z), fun _ => ⟨fun z => absurd rfl z, fun _ => hx1 (e.elim (fun z => Or.inr (Or.inr (Or.inl z))) (fun z => Or.inr (Or.inr (Or.inr z))))⟩⟩)
  rw [show 48 * 0 + j = j by omega, show 48 * 0 + k = k by omega]
  have hj144 : j < 144 := by omega
  have hk144 : k < 144 := by omega
  have tj := (hS.2.1 j hj144).1
  have tk := (hS.2.1 k hk144).1
  refine ⟨fun z => (by cases z), fun _ => ⟨fun _ => ⟨_, rfl, tj, ?_⟩, fun z => by cases z⟩⟩
  rw [(hV.1 j hj144).1.1]
  refine ⟨fun c => hx2 j k hj hk ej ek (Or.inl c), fun c => ⟨_, rfl, tk, ?_⟩⟩
  rw [(hV.1 k hk144).1.1, (hV.1 j hj144).1.2.2]
  refine ⟨fun d => hx2 j k hj hk ej ek (Or.inr (Or.inl d)), fun d => ⟨fun g => ?_, fun g => hx2 j k hj hk ej ek (Or.inr (Or.inr g))⟩⟩
  obtain ⟨n, n5, en⟩ := hsz.1 j hj
  rw [en] at g
  have gn : n < 5 := (nI_ltI (b := 5) (by omega) (by omega)).mp g
  have hjk : k ≠ j := fun z => d (by rw [z]; exact c)
  have hit : itm j n ≠ j := itm_top hj144 (by omega) (by omega) gn
  refine s_appendItem hS hV hj144 hk144 (by omega) (by omega) hjk en gn (fun M1 I1 J1 D1 W1 z1 v1 q1 q2 q3 q4 q5 q6 q7 q8 q9 => ?_)
  refine s_findNumber (zA_SX z1 hX) (zA_SA z1 hS) v1 hj144 (fun M2 z2 v2 => ?_)
  have ew : W1 j = addW I W j k n := q8
  rw [ew] at v2
  rw [(v2.1 j hj144).1.2.2, upI_f _ _ (by decide), q5]
  obtain ⟨d2, z2⟩ := z2
  refine h1 j k n hj hk gn ej ek c d en M2 _ _ _ _ ⟨d2, zA_tr (zA_sD40 z1 d2) z2⟩ v2 ⟨(upI_n _ _ hit).trans q1.1, (upI_n _ _ hit).trans q1.2.1, q1.2.2.1, (va_upn _ _ hit).trans q1.2.2.2.1, q1.2.2.2.2⟩ ((upI_n _ _ hit).trans q2) ?_ (upI_s _ _ _ _) ?_ q6 (va_ups _ _ _) ew (fun v hv hv2 => ?_)
  · rw [upI_f _ _ (by decide), q3]; exact c
  · rw [upI_f _ _ (by decide), q5]
  · have a := q9 v hv hv2
    exact ⟨fun g => (upI_n _ _ hv).trans (a.1 g), a.2.1, (va_upn _ _ hv).trans a.2.2.1, a.2.2.2⟩
theorem s_whole (hX : SX G T M px hN RW cv) (hS : SA G T M) (hV : VA G M I J D W) (hsz : szOk I cv P) (hP : P ≤ 8) (hp : cI M 107 px = nI P) (k i : Int32) {Q : Int64 → CM → Prop} (h1 : ∀ v, ptI I cv P k i = some v → Q (if I 80 v = 2 ∨ I 80 v = 3 then J v else if I 80 v = 5 then (nI (W v).length).toInt64 else if I 80 v = 6 then (I 85 v).toInt64 else 0) M) (h0 : ptI I cv P k i = none → Q 0 M) : fc_X10_whole T px k i M Q := by
  unfold fc_X10_whole fc_X10_whole_b29 fc_X10_whole_b69
  refine ⟨hX.1, s_partAt hX hS hV hsz hP hp k i ?_⟩
  cases e : ptI I cv P k i with
  | none => exact ⟨fun z => absurd rfl z, fun _ => h0 e⟩
  | some v =>
    have hv := ptI_lt hsz hX.2.2.2.2.2.2.2.1 hP e
    have q := h1 v e
    have tv := (hS.2.1 v hv).1
    refine ⟨fun _ => ⟨_, rfl, tv, ?_⟩, fun z => by cases z⟩
    rw [(hV.1 v hv).1.1, (hV.1 v hv).1.2.2]
    have fin : (I 80 v = 2 ∨ I 80 v = 3) → ∃ p1 : Nat, Option.map (G 0) (some v) = some p1 ∧ (tg T p1 = 9 ∧ Q (cJ M 81 p1) M) := by
      intro c
      rw [if_pos c] at q
      refine ⟨_, rfl, tv, ?_⟩
      rw [(hV.1 v hv).2.1]; exact q
    refine ⟨fun c => fin (Or.inl c), fun c => ⟨fun d => ?_, fun d => fin (Or.inr d)⟩⟩
    rw [if_neg (fun z => z.elim c d)] at q
    refine ⟨fun f => ⟨fun g => ?_, fun g => ?_⟩, fun f => ⟨_, (hS.2.1 v hv).2.1, (hS.1 v (by omega)).1, ?_⟩⟩
    · rw [if_neg f, if_neg g] at q; exact q
    · rw [if_neg f, if_pos g] at q; exact q
    · rw [(hV.2 v (by omega)).1]
      rw [if_pos f] at q; exact q
end CLR
