/-! the object: px itself, hN its numeral, RW 0 the row of slots, RW 1 and RW 2 the two rows of converted things, of which cv is the last call's; P places -/
def SX (G : Nat → Nat → Nat) (T : LY) (M : CM) (px hN : Nat) (RW : Nat → Nat) (cv : Nat) : Prop :=
  tg T px = 11 ∧ cR M 100 px = some (G 1 144) ∧ cR M 103 px = some (RW 0) ∧ cR M 104 px = some hN ∧ tg T hN = 5 ∧ cR M 105 px = some (RW cv) ∧ cR M 106 px = some (RW (3 - cv)) ∧ (cv = 1 ∨ cv = 2) ∧ ∀ r, r < 3 → tg T (RW r) = 28 ∧ ln T (RW r) = 8 ∧ ∀ i, i < 8 → xR M (RW r) i = some (G 0 (48 * r + i))
theorem zA_SX {G : Nat → Nat → Nat} {T : LY} {M M' : CM} {px hN : Nat} {RW : Nat → Nat} {cv : Nat} (h : zA G M M') (k : SX G T M px hN RW cv) : SX G T M' px hN RW cv := by
  obtain ⟨a1, a2, a3, a4, a5, a6, a7, a8, a9⟩ := k
  refine ⟨a1, ?_, ?_, ?_, a5, ?_, ?_, a8, fun r hr => ⟨(a9 r hr).1, (a9 r hr).2.1, fun i hi => ?_⟩⟩
  · rw [h.2.2.2.1]; exact a2
  · rw [h.2.2.2.1]; exact a3
  · rw [h.2.2.2.1]; exact a4
  · rw [h.2.2.2.1]; exact a6
  · rw [h.2.2.2.1]; exact a7
  · rw [h.2.2.2.2.2.2]; exact (a9 r hr).2.2 i hi
/-- the thing at place k, or item i of the list there -/
def ptI (I : Nat → Nat → Int32) (cv P : Nat) (k i : Int32) : Option Nat :=
  if k < 0 ∨ nI P ≤ k then none
  else if i = -1 then some (48 * cv + k.toNatClampNeg)
  else if i < 0 ∨ I 85 (48 * cv + k.toNatClampNeg) ≤ i then none
  else some (itm (48 * cv + k.toNatClampNeg) i.toNatClampNeg)
/-- every list has at most five items -/
def szOk (I : Nat → Nat → Int32) (cv P : Nat) : Prop := (∀ j, j < 8 → ∃ n, n ≤ 5 ∧ I 85 j = nI n) ∧ ∀ k, k < P → ∃ n, n ≤ 5 ∧ I 85 (48 * cv + k) = nI n
section CLR
variable {T : LY} {M : CM} {G : Nat → Nat → Nat} {I : Nat → Nat → Int32} {J : Nat → Int64} {D : Nat → UInt64} {W : Nat → List Int32} {px hN cv P : Nat} {RW : Nat → Nat}
theorem s_slotAt (hX : SX G T M px hN RW cv) {r : Nat} (hr : r < 3) (a : Int32) {Q : Option Nat → CM → Prop} (h1 : ∀ j, j < 8 → a = nI j → Q (some (G 0 (48 * r + j))) M) (h0 : (a < 0 ∨ 8 ≤ a) → Q none M) : fc_X10_thingAt T (some (RW r)) a M Q := by
  obtain ⟨b1, b2, b3⟩ := hX.2.2.2.2.2.2.2.2 r hr
  exact s_thingAt b1 b2 (by decide) a (fun j hj e => by rw [b3 j hj]; exact h1 j hj e) h0
theorem ptI_lt (hsz : szOk I cv P) (hcv : cv = 1 ∨ cv = 2) (hP : P ≤ 8) {k i : Int32} {v : Nat} (h : ptI I cv P k i = some v) : v < 144 := by
  unfold ptI at h
  split at h
  · cases h
  · rename_i c
    have c1 : ¬ k < 0 := fun z => c (Or.inl z)
    obtain ⟨j, hj, rfl⟩ := nI_of c1
    have c2 : ¬ nI P ≤ nI j := fun z => c (Or.inr z)
    rw [nI_leI (by omega) hj] at c2
    rw [nI_clamp hj] at h
    split at h
    · cases h; omega
    · split at h
      · cases h
      · rename_i d
        have d1 : ¬ i < 0 := fun z => d (Or.inl z)
        obtain ⟨m, hm, rfl⟩ := nI_of d1
        obtain ⟨n, n5, en⟩ := hsz.2 j (by omega)
        have d2 : ¬ I 85 (48 * cv + j) ≤ nI m := fun z => d (Or.inr z)
        rw [en, nI_leI (by omega) hm] at d2
        rw [nI_clamp hm] at h
        cases h
        exact (itm_lt (by omega) (by omega) (by omega)).1
theorem s_partAt (hX : SX G T M px hN RW cv) (hS : SA G T M) (hV : VA G M I J D W) (hsz : szOk I cv P) (hP : P ≤ 8) (hp : cI M 107 px = nI P) (k i : Int32) {Q : Option Nat → CM → Prop} (h : Q ((ptI I cv P k i).map (G 0)) M) : fc_X10_partAt T px k i M Q := by
  have hcv := hX.2.2.2.2.2.2.2.1
  unfold fc_X10_partAt fc_X10_partAt_b20 fc_X10_partAt_b30 fc_X10_partAt_b39
  rw [hp, hX.2.2.2.2.2.1]
  refine ⟨hX.1, fun c => ⟨fun _ => ?_, fun z => absurd rfl z⟩, fun c => s_slotAt hX (by omega) k (fun j hj e => ?_) (fun e => ⟨fun _ => ?_, fun z => absurd rfl z⟩)⟩
  · rw [show ptI I cv P k i = none from if_pos (Or.inr c)] at h; exact h
  · subst e
    have c2 : ¬ (nI j < 0 ∨ nI P ≤ nI j) := fun z => z.elim (nI_pos (by omega)) c
    unfold ptI at h
    rw [if_neg c2, nI_clamp (by omega)] at h
    refine ⟨fun z => (by cases z), fun _ => ⟨fun d => ?_, fun d => ?_⟩⟩
    · rw [if_neg d] at h
      obtain ⟨n, n5, en⟩ := hsz.2 j (Nat.lt_of_not_le (fun z => c (nI_le z (by omega))))
      rw [en] at h
      refine ⟨_, rfl, (hS.2.1 _ (by omega)).1, s_X8_itemAt hS hV (by omega) (by omega) en n5 i (fun m hm e => ?_) (fun e => ?_)⟩
      · subst e
        rw [if_neg (fun z => z.elim (nI_pos (by omega)) (fun z => by rw [nI_leI (by omega) (by omega)] at z; omega)), nI_clamp (by omega)] at h
        exact h
      · rw [if_pos e] at h; exact h
    · rw [if_pos d] at h; exact h
  · rw [show ptI I cv P k i = none from if_pos (e.elim (fun z => Or.inl z) (fun z => by
      by_cases q : k < 0
      · exact Or.inl q
      · obtain ⟨j, hj, rfl⟩ := nI_of q
        rw [show (8 : Int32) = nI 8 from rfl, nI_leI (by omega) hj] at z
        exact Or.inr (nI_le (by omega) hj)))] at h
    exact h
theorem s_kind (hX : SX G T M px hN RW cv) (hS : SA G T M) (hV : VA G M I J D W) (hsz : szOk I cv P) (hP : P ≤ 8) (hp : cI M 107 px = nI P) (k : Int32) {Q : Int32 → CM → Prop} (h1 : ∀ v, ptI I cv P k (-1) = some v → Q (I 80 v) M) (h0 : ptI I cv P k (-1) = none → Q (-1) M) : fc_X10_kind T px k M Q := by
  unfold fc_X10_kind fc_X10_kind_b19
  refine ⟨hX.1, s_partAt hX hS hV hsz hP hp k (-1) ?_⟩
  cases e : ptI I cv P k (-1) with
  | none => exact ⟨fun z => absurd rfl z, fun _ => h0 e⟩
  | some v =>
    have hv := ptI_lt hsz hX.2.2.2.2.2.2.2.1 hP e
    refine ⟨fun _ => ⟨_, rfl, (hS.2.1 v hv).1, ?_⟩, fun z => by cases z⟩
    rw [(hV.1 v hv).1.1]; exact h1 v e
theorem s_item (hX : SX G T M px hN RW cv) (hS : SA G T M) (hV : VA G M I J D W) (hsz : szOk I cv P) (hP : P ≤ 8) (hp : cI M 107 px = nI P) (k i : Int32) {Q : Int32 → CM → Prop} (h1 : 0 ≤ i → ∀ v, ptI I cv P k i = some v → Q (I 80 v) M) (h0 : (0 ≤ i → ptI I cv P k i = none) → Q (-1) M) : fc_X10_item T px k i M Q := by
  unfold fc_X10_item fc_X10_item_b14 fc_X10_item_b27
  refine ⟨fun c => ⟨hX.1, s_partAt hX hS hV hsz hP hp k i ?_⟩, fun c => ⟨fun z => absurd rfl z, fun _ => h0 (fun z => absurd z c)⟩⟩
  cases e : ptI I cv P k i with
  | none => exact ⟨fun z => absurd rfl z, fun _ => h0 (fun _ => e)⟩
  | some v =>
    have hv := ptI_lt hsz hX.2.2.2.2.2.2.2.1 hP e
    refine ⟨fun _ => ⟨_, rfl, (hS.2.1 v hv).1, ?_⟩, fun z => by cases z⟩
    rw [(hV.1 v hv).1.1]; exact h1 c v e
theorem s_real (hX : SX G T M px hN RW cv) (hS : SA G T M) (hV : VA G M I J D W) (hsz : szOk I cv P) (hP : P ≤ 8) (hp : cI M 107 px = nI P) (k i : Int32) {Q : UInt64 → CM → Prop} (h1 : ∀ v, ptI I cv P k i = some v → Q (if I 80 v = 4 then D v else FP.dconst0) M) (h0 : ptI I cv P k i = none → Q FP.dconst0 M) : fc_X10_real T px k i M Q := by
  unfold fc_X10_real fc_X10_real_b19 fc_X10_real_b27
  refine ⟨hX.1, s_partAt hX hS hV hsz hP hp k i ?_⟩
  cases e : ptI I cv P k i with
  | none => exact ⟨fun _ => h0 e, fun z => absurd rfl z⟩
  | some v =>
    have hv := ptI_lt hsz hX.2.2.2.2.2.2.2.1 hP e
    have q := h1 v e
    refine ⟨fun z => (by cases z), fun _ => ⟨_, rfl, (hS.2.1 v hv).1, ?_⟩⟩
    rw [(hV.1 v hv).1.1, (hV.1 v hv).2.2.1]
    exact ⟨fun c => by rw [if_pos c] at q; exact q, fun c => by rw [if_neg c] at q; exact q⟩
theorem s_sign (hX : SX G T M px hN RW cv) (hS : SA G T M) (hV : VA G M I J D W) (hsz : szOk I cv P) (hP : P ≤ 8) (hp : cI M 107 px = nI P) (k i c : Int32) {Q : Int32 → CM → Prop} (h1 : ∀ v, ptI I cv P k i = some v → Q (if I 80 v = 5 ∧ ¬ lat (W v) c = 0 then lat (W v) c else 32) M) (h0 : ptI I cv P k i = none → Q 32 M) : fc_X10_sign T px k i c M Q := by
  have n32 : nC 32 := pk_charN (q := 32) (by decide)
  unfold fc_X10_sign fc_X10_sign_b22 fc_X10_sign_b48
  refine ⟨hX.1, s_partAt hX hS hV hsz hP hp k i ?_⟩
  cases e : ptI I cv P k i with
  | none => exact ⟨fun _ => ⟨n32, h0 e⟩, fun z => absurd rfl z⟩
  | some v =>
    have hv := ptI_lt hsz hX.2.2.2.2.2.2.2.1 hP e
    have q := h1 v e
    refine ⟨fun z => (by cases z), fun _ => ⟨_, rfl, (hS.2.1 v hv).1, ?_⟩⟩
    rw [(hV.1 v hv).1.1]
    refine ⟨fun c5 => ⟨_, (hS.2.1 v hv).2.1, (hS.1 v (by omega)).1, s_X7_at hS hV (by omega) c ⟨fun d => ⟨?_, ?_⟩, fun d => ⟨n32, ?_⟩⟩⟩, fun c5 => ⟨n32, ?_⟩⟩
    · unfold lat at d ⊢
      split at d
      · exact absurd rfl d
      · rename_i y
        rw [if_neg y]
        by_cases y2 : c.toNatClampNeg < (W v).length
        · exact ((hV.2 v (by omega)).2.2 _ y2).2
        · rw [List.getD_eq_getElem?_getD, List.getElem?_eq_none (by omega)]; exact nC_0
    · rw [if_pos ⟨c5, d⟩] at q; exact q
    · rw [if_neg (fun z => z.2 d)] at q; exact q
    · rw [if_neg (fun z => c5 z.1)] at q; exact q
/-- five ints' signs behind the line -/
theorem s_type (hX : SX G T M px hN RW cv) (hS : SA G T M) (hV : VA G M I J D W) (a b c d e : Int32) {X : Nat → CM → Prop} {Q : Int32 → CM → Prop} (h1 : ((W 144) ++ (sg4 a ++ (sg4 b ++ (sg4 c ++ (sg4 d ++ sg4 e))))).length ≤ 100 → ∀ M', zA G M M' → VA G M' I J D (va_up W 144 (W 144 ++ (sg4 a ++ (sg4 b ++ (sg4 c ++ (sg4 d ++ sg4 e)))))) → Q (nI ((W 144) ++ (sg4 a ++ (sg4 b ++ (sg4 c ++ (sg4 d ++ sg4 e))))).length) M') (h0 : 100 < ((W 144) ++ (sg4 a ++ (sg4 b ++ (sg4 c ++ (sg4 d ++ sg4 e))))).length → X 2 M) : fc_X10_type T X px a b c d e M Q := by
  have sl : ∀ a, (sg4 a).length ≤ 4 := fun a => by
    have s1 : ∀ c, (sg1 c).length ≤ 1 := fun c => by unfold sg1; split <;> simp
    have := s1 (by8 a 24); have := s1 (by8 a 16); have := s1 (by8 a 8); have := s1 (by8 a 0)
    unfold sg4; simp only [List.length_append]; omega
  have ha := sl a; have hb := sl b; have hc := sl c; have hd := sl d; have he := sl e
  have h144 := (hV.2 144 (by decide)).2.1
  have r144 : rm 144 = 100 := rfl
  have L : ((W 144) ++ (sg4 a ++ (sg4 b ++ (sg4 c ++ (sg4 d ++ sg4 e))))).length = (W 144).length + ((sg4 a).length + (sg4 b).length + (sg4 c).length + (sg4 d).length + (sg4 e).length) := by
    simp only [List.length_append]; omega
  have hL : ∀ N, SX G T N px hN RW cv → cR N 100 px = some (G 1 144) := fun N z => z.2.1
  have t8 := (hS.1 144 (by decide)).1
  unfold fc_X10_type
  refine s_X7_signsIn a (s_X7_signsIn b (s_X7_signsIn c (s_X7_signsIn d (s_X7_signsIn e (nm_r (e' := nI ((sg4 a).length + (sg4 b).length + (sg4 c).length + (sg4 d).length + (sg4 e).length)) (by rw [nI_add, nI_add, nI_add, nI_add]) ⟨hX.1, _, hX.2.1, t8, ?_⟩)))))
  rw [(hV.2 144 (by decide)).1, nI_add]
  refine pk_le _ 100 (fun q => ?_) (fun q => h0 (by rw [L]; omega))
  refine s_X7_appendSigns hS hV (by decide) a (fun M1 z1 v1 => ⟨_, (zA_SX z1 hX).2.1, t8, ?_⟩)
  refine s_X7_appendSigns (zA_SA z1 hS) v1 (by decide) b (fun M2 z2 v2 => ⟨_, (zA_SX (zA_tr z1 z2) hX).2.1, t8, ?_⟩)
  have z12 := zA_tr z1 z2
  refine s_X7_appendSigns (zA_SA z12 hS) v2 (by decide) c (fun M3 z3 v3 => ⟨_, (zA_SX (zA_tr z12 z3) hX).2.1, t8, ?_⟩)
  have z13 := zA_tr z12 z3
  refine s_X7_appendSigns (zA_SA z13 hS) v3 (by decide) d (fun M4 z4 v4 => ⟨_, (zA_SX (zA_tr z13 z4) hX).2.1, t8, ?_⟩)
  have z14 := zA_tr z13 z4
  refine s_X7_appendSigns (zA_SA z14 hS) v4 (by decide) e (fun M5 z5 v5 => ⟨_, (zA_SX (zA_tr z14 z5) hX).2.1, t8, ?_⟩)
  simp only [va_up2, va_ups, puts_puts] at v5
  rw [puts_app _ _ _ (by rw [r144]; simp only [List.length_append]; omega)] at v5
  simp only [List.append_assoc] at v5
  rw [(v5.2 144 (by decide)).1, va_ups]
  exact h1 (by rw [L]; omega) M5 (zA_tr z14 z5) v5
end CLR
