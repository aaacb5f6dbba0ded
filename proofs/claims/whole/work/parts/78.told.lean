/-! what is told to a slot, in the reference -/
/-- value v stands -/
def kP (v : Nat) (N N' : RM) : Prop := rA N' 13 v = rA N 13 v ∧ rA N' 14 v = rA N 14 v ∧ rA N' 16 v = rA N 16 v ∧ rD N' 15 v = rD N 15 v ∧ ∀ i, i < 12 → rA N' 17 (12 * v + i) = rA N 17 (12 * v + i)
/-- nothing but values of S, and the refusal, is other -/
def kSl (S : Nat → Prop) (N N' : RM) : Prop := (∀ f, f ≠ 0 → rI N' f = rI N f) ∧ (∀ f, f ≠ 13 → f ≠ 14 → f ≠ 16 → f ≠ 17 → rA N' f = rA N f) ∧ N'.2.2.1 = N.2.2.1 ∧ (∀ f, f ≠ 15 → rD N' f = rD N f) ∧ ∀ v, ¬ S v → kP v N N'
theorem kP_rf (v : Nat) (N : RM) : kP v N N := ⟨rfl, rfl, rfl, rfl, fun _ _ => rfl⟩
theorem kP_tr {v : Nat} {N N1 N2 : RM} (h : kP v N N1) (k : kP v N1 N2) : kP v N N2 := ⟨k.1.trans h.1, k.2.1.trans h.2.1, k.2.2.1.trans h.2.2.1, k.2.2.2.1.trans h.2.2.2.1, fun i hi => (k.2.2.2.2 i hi).trans (h.2.2.2.2 i hi)⟩
theorem kSl_rf (S : Nat → Prop) (N : RM) : kSl S N N := ⟨fun _ _ => rfl, fun _ _ _ _ _ => rfl, rfl, fun _ _ => rfl, fun v _ => kP_rf v N⟩
theorem kSl_tr {S : Nat → Prop} {N N1 N2 : RM} (h : kSl S N N1) (k : kSl S N1 N2) : kSl S N N2 := ⟨fun f a => (k.1 f a).trans (h.1 f a), fun f a b c d => (k.2.1 f a b c d).trans (h.2.1 f a b c d), k.2.2.1.trans h.2.2.1, fun f a => (k.2.2.2.1 f a).trans (h.2.2.2.1 f a), fun v hv => kP_tr (h.2.2.2.2 v hv) (k.2.2.2.2 v hv)⟩
theorem kSl_0 (S : Nat → Prop) (N : RM) (x : Int32) : kSl S N (wI N 0 x) := ⟨fun f a => if_neg a, fun _ _ _ _ _ => rfl, rfl, fun _ _ => rfl, fun v _ => ⟨rfl, rfl, rfl, rfl, fun _ _ => rfl⟩⟩
theorem kSl_A {S : Nat → Prop} (N : RM) {f i : Nat} (x : Int32) (hf : f = 13 ∨ f = 14 ∨ f = 16) (hi : S i) : kSl S N (wA N f i x) := by
  refine ⟨fun _ _ => rfl, fun g a b c d => ?_, rfl, fun _ _ => rfl, fun v hv => ?_⟩
  · funext y; rw [rA_wA, if_neg (fun z => by omega)]
  · have ne : v ≠ i := fun e => hv (e ▸ hi)
    refine ⟨?_, ?_, ?_, rfl, fun x hx => ?_⟩
    · rw [rA_wA, if_neg (fun z => ne z.2)]
    · rw [rA_wA, if_neg (fun z => ne z.2)]
    · rw [rA_wA, if_neg (fun z => ne z.2)]
    · rw [rA_wA, if_neg (fun z => by omega)]
theorem kSl_T {S : Nat → Prop} (N : RM) {j i : Nat} (x : Int32) (hi : i < 12) (hj : S j) : kSl S N (wA N 17 (12 * j + i) x) := by
  refine ⟨fun _ _ => rfl, fun g a b c d => ?_, rfl, fun _ _ => rfl, fun v hv => ?_⟩
  · funext y; rw [rA_wA, if_neg (fun z => d z.1)]
  · have ne : v ≠ j := fun e => hv (e ▸ hj)
    refine ⟨?_, ?_, ?_, rfl, fun x hx => ?_⟩
    · rw [rA_wA, if_neg (fun z => absurd z.1 (by decide))]
    · rw [rA_wA, if_neg (fun z => absurd z.1 (by decide))]
    · rw [rA_wA, if_neg (fun z => absurd z.1 (by decide))]
    · rw [rA_wA, if_neg (fun z => by omega)]
theorem kSl_D {S : Nat → Prop} (N : RM) {i : Nat} (x : UInt64) (hi : S i) : kSl S N (wD N 15 i x) := by
  refine ⟨fun _ _ => rfl, fun g a b c d => rfl, rfl, fun f a => ?_, fun v hv => ?_⟩
  · funext y; rw [rD_wD, if_neg (fun z => a z.1)]
  · have ne : v ≠ i := fun e => hv (e ▸ hi)
    exact ⟨rfl, rfl, rfl, by rw [rD_wD, if_neg (fun z => ne z.2)], fun x hx => rfl⟩
section TLD
variable {N : RM} {I I' : Nat → Nat → Int32} {J J' : Nat → Int64} {D D' : Nat → UInt64} {W W' : Nat → List Int32} {v n j k : Nat} {L : List Int32}
theorem vT_pt {N' : RM} (k : kP v N N') (s : sam I J D W I' J' D' W' v) (h : vT N I J D W v) : vT N' I' J' D' W' v := by
  obtain ⟨k1, k2, k3, k4, k5⟩ := k
  obtain ⟨s1, s2, s3, s4⟩ := s
  unfold vT at h ⊢
  rw [k1, k2, k3, k4, s1 80, s1 83, s2, s3, s4]
  refine h.imp id (fun h => h.imp id (fun h => h.imp id (fun h => h.imp id (fun ⟨a, b, ⟨c, d, e⟩, f⟩ => ⟨a, b, ⟨c, d, fun i hi => ?_⟩, f⟩))))
  rw [k5 i (by omega)]; exact e i hi
theorem r_isSlot {a : Int32} {Q : Int32 → RM → Prop} (q1 : ∀ j, j < 8 → a = nI j → Q 1 N) (q0 : (a < 0 ∨ 8 ≤ a) → Q 0 N) : fm_isSlot a N Q := by
  unfold fm_isSlot fm_isSlot_b14 fm_isSlot_b15
  refine ⟨fun c => ⟨nZ_0, q0 (Or.inl c)⟩, fun c => ⟨fun d => ⟨nZ_0, q0 (Or.inr d)⟩, fun d => ⟨nZ_1, ?_⟩⟩⟩
  obtain ⟨j, hj, e⟩ := nI_of c
  rw [e] at d
  exact q1 j (Nat.lt_of_not_le (fun z => d (nI_le (a := 8) z hj))) e
def smK : Nat → Int32
  | 0 => 0
  | 1 => 1
  | 2 => 2
  | 3 => 2
  | _ => 5
theorem r_simple {s w : Int32} {Q : RM → Prop} (q1 : ∀ j m, j < 8 → m ≤ 4 → s = nI j → w = nI m → ∀ N', kSl (fun v => v = j) N N' → rI N' 0 = 0 → rA N' 13 j = smK m → rA N' 14 j = bI (decide (m = 3)) → rA N' 16 j = 0 → Q N') (q0 : (s < 0 ∨ 8 ≤ s ∨ w < 0 ∨ 4 < w) → Q (wI N 0 1)) : fm_simple s w N Q := by
  have bad : (s < 0 ∨ 8 ≤ s ∨ w < 0 ∨ 4 < w) → fm_simple_b21 Q s w N := by
    intro c
    unfold fm_simple_b21 fm_simple_b22
    exact r_refused ⟨fun z => absurd z (by decide), fun _ => q0 c⟩
  unfold fm_simple
  refine r_isSlot (fun j hj ej => ⟨fun z => absurd z (by decide), fun _ => r_isIn (a := 0) (b := 4) (by decide) (fun m hm em => ⟨fun z => absurd z (by decide), fun _ => ?_⟩) (fun c => ⟨fun _ => bad (Or.inr (Or.inr c)), fun z => absurd rfl z⟩)⟩) (fun c => ⟨fun _ => bad (c.elim Or.inl (fun z => Or.inr (Or.inl z))), fun z => absurd rfl z⟩)
  unfold fm_simple_b22
  refine r_refused ⟨fun _ => ?_, fun z => absurd rfl z⟩
  have fin : ∀ k, k = smK m → fm_simple_b61 Q s w k s (wI N 0 0) := by
    intro k ek
    rw [ej, em]
    have ij := vp_in_nI (n := j) (N := 48) (by omega) (by omega)
    have go : ∀ b : Bool, b = decide (m = 3) → fm_simple_b77 Q (nI j) (bI b) (nI j) (wA (wI N 0 0) 13 j k) := by
      intro b eb
      unfold fm_simple_b77
      rw [nI_clamp (by omega)]
      have vb : vp_nar .boolean (bI b) = bI b := by cases b <;> rfl
      rw [vb]
      refine ⟨ij, nm_e ⟨ij, nm_e (q1 j m hj hm ej em _ (kSl_tr (kSl_0 _ N 0) (kSl_tr (kSl_A _ k (Or.inl rfl) rfl) (kSl_tr (kSl_A _ (bI b) (Or.inr (Or.inl rfl)) rfl) (kSl_A _ 0 (Or.inr (Or.inr rfl)) rfl)))) rfl ?_ ?_ ?_)⟩⟩
      · rw [rA_wA, if_neg (fun z => absurd z.1 (by decide)), rA_wA, if_neg (fun z => absurd z.1 (by decide)), rA_wA, if_pos ⟨rfl, rfl⟩]; exact ek
      · rw [rA_wA, if_neg (fun z => absurd z.1 (by decide)), rA_wA, if_pos ⟨rfl, rfl⟩, eb]
      · rw [rA_wA, if_pos ⟨rfl, rfl⟩]
    unfold fm_simple_b61
    rw [nI_clamp (by omega)]
    refine ⟨ij, nm_e (And.symm (pk_eq m 3 (fun c => go true (by rw [decide_eq_true c])) (fun c => go false (by rw [decide_eq_false c]))))⟩
  have hm5 : m = 0 ∨ m = 1 ∨ m = 2 ∨ m = 3 ∨ m = 4 := by omega
  rw [em] at fin ⊢
  rcases hm5 with e | e | e | e | e
  · rw [e] at fin ⊢; exact ⟨fun z => absurd rfl z, fun _ => fin 0 rfl⟩
  · rw [e] at fin ⊢; exact ⟨fun _ => ⟨fun z => absurd rfl z, fun _ => fin 1 rfl⟩, fun z => absurd z (by decide)⟩
  · rw [e] at fin ⊢; exact ⟨fun _ => ⟨fun _ => ⟨fun z => absurd z (by decide), fun _ => fin 2 rfl⟩, fun z => absurd z (by decide)⟩, fun z => absurd z (by decide)⟩
  · rw [e] at fin ⊢; exact ⟨fun _ => ⟨fun _ => ⟨fun z => absurd z (by decide), fun _ => fin 2 rfl⟩, fun z => absurd z (by decide)⟩, fun z => absurd z (by decide)⟩
  · rw [e] at fin ⊢; exact ⟨fun _ => ⟨fun _ => ⟨fun _ => fin 5 rfl, fun z => absurd (by decide) z⟩, fun z => absurd z (by decide)⟩, fun z => absurd z (by decide)⟩
theorem r_number {s : Int32} (n : Int32) {Q : RM → Prop} (q1 : ∀ j, j < 8 → s = nI j → ∀ N', kSl (fun v => v = j) N N' → rI N' 0 = 0 → rA N' 13 j = 3 → rD N' 15 j = nv n → rA N' 16 j = 0 → Q N') (q0 : (s < 0 ∨ 8 ≤ s) → Q (wI N 0 1)) : fm_number s (nv n) N Q := by
  have ec : FP.dneg 4746794007248502784 = 13970166044103278592 := by decide +kernel
  unfold fm_number fm_number_b31 fm_number_b32 fm_number_b60 fm_number_b61
  rw [ec, nv_lo, nv_hi, nv_told]
  refine r_isSlot (fun j hj ej => ⟨fun z => absurd z (by decide), fun _ => ⟨fun z => absurd z (by decide), fun _ => ⟨fun z => absurd z (by decide), fun _ => ⟨fun z => absurd z (by decide), fun _ => ⟨vf_of (dI_nn (nv_8 n)), vf_of (dI_nn (nv_8 n)), fun z => absurd rfl z, fun _ => r_refused ⟨fun _ => ?_, fun z => absurd rfl z⟩⟩⟩⟩⟩⟩) (fun c => ⟨fun _ => ⟨fun _ => r_refused ⟨fun z => absurd z (by decide), fun _ => q0 c⟩, fun z => absurd rfl z⟩, fun z => absurd rfl z⟩)
  have ij := vp_in_nI (n := j) (N := 48) (by omega) (by omega)
  rw [ej, nI_clamp (by omega)]
  refine ⟨ij, nm_e ⟨ij, nm_e ⟨ij, nm_e (q1 j hj ej _ (kSl_tr (kSl_0 _ N 0) (kSl_tr (kSl_A _ 3 (Or.inl rfl) rfl) (kSl_tr (kSl_D _ (nv n) rfl) (kSl_A _ 0 (Or.inr (Or.inr rfl)) rfl)))) rfl ?_ ?_ ?_)⟩⟩⟩
  · rw [rA_wA, if_neg (fun z => absurd z.1 (by decide)), rA_wD, rA_wA, if_pos ⟨rfl, rfl⟩]
  · show rD (wD _ 15 j (nv n)) 15 j = _
    rw [rD_wD, if_pos ⟨rfl, rfl⟩]
  · rw [rA_wA, if_pos ⟨rfl, rfl⟩]
/-- the text so far -/
def TX (N : RM) (j : Nat) (L : List Int32) : Prop := rA N 16 j = nI L.length ∧ ∀ i, i < L.length → rA N 17 (12 * j + i) = L.getD i 0
theorem r_tx (hj : j < 8) (h : TX N j L) (hl : L.length < 12) {cell v2 v3 v4 kk x s : Int32} {Q : Int32 → RM → Prop} {k38 : Int32 → Int32 → Int32 → Int32 → Int32 → RM → Prop} (ex : (24 : Int32) - (8 * (kk - kk / 4 * 4)) = x) (e : (cell >>> (x &&& 31)) &&& 255 = by8 cell s) {kk' : Int32} (ek : kk + 1 = kk')
    (q : ∀ N', kSl (fun v => v = j) N N' → rI N' 0 = rI N 0 → rA N' 13 j = rA N 13 j → TX N' j (L ++ sg1 (by8 cell s)) → k38 (nI j) v2 v3 v4 kk' N') : fm_text_b68 Q k38 (nI j) v2 v3 v4 kk cell N := by
  have ij := vp_in_nI (n := j) (N := 48) (by omega) (by omega)
  obtain ⟨k, hk, ek2⟩ := by8_k cell s
  have hc := by8_c cell s
  have hn := by8_n cell s
  unfold fm_text_b68 fm_text_b123
  rw [ex]
  refine ⟨by decide, nm_r e ?_⟩
  rw [hc, nC_nar hn, ek2]
  rw [ek2] at q
  rw [nI_clamp (by omega), h.1, show (12 : Int32) = nI 12 from rfl, pk_mul, nI_add]
  refine pk_le k 0 (fun c => nm_r ek ?_) (fun c => ⟨ij, vp_in_nI (by omega) (by omega), nm_e ⟨ij, ij, nm_r (e' := wA (wA N 17 (12 * j + L.length) (nI k)) 16 j (nI (L.length + 1))) ?_ (nm_r ek ?_)⟩⟩)
  · have k0 : k = 0 := by omega
    have := q N (kSl_rf _ N) rfl rfl
    unfold sg1 at this
    rw [if_pos (by rw [k0]; rfl), List.append_nil] at this
    exact this h
  · rw [nI_clamp (by omega), rA_wA, if_neg (fun z => absurd z.1 (by decide)), h.1, nI_1]
  · have ne : ¬ nI k = 0 := nI_ne0 (by omega) (by omega)
    unfold sg1 at q
    rw [if_neg ne] at q
    refine q _ (kSl_tr (kSl_T N _ hl rfl) (kSl_A _ _ (Or.inr (Or.inr rfl)) rfl)) rfl ?_ ⟨?_, fun i hi => ?_⟩
    · rw [rA_wA, if_neg (fun z => absurd z.1 (by decide)), rA_wA, if_neg (fun z => absurd z.1 (by decide))]
    · rw [rA_wA, if_pos ⟨rfl, rfl⟩, List.length_append]; rfl
    · rw [List.length_append, List.length_singleton] at hi
      rw [rA_wA, if_neg (fun z => absurd z.1 (by decide)), rA_wA, snocI]
      by_cases y : i = L.length
      · rw [if_pos ⟨rfl, by omega⟩, if_pos y]
      · rw [if_neg (fun z => by omega), if_neg y]; exact h.2 i (by omega)
theorem sg1_len (c : Int32) : (sg1 c).length ≤ 1 := by unfold sg1; split <;> simp
theorem r_text {s : Int32} (a b c : Int32) {Q : Int32 → RM → Prop} (q1 : ∀ j, j < 8 → s = nI j → ∀ N', kSl (fun v => v = j) N N' → rI N' 0 = 0 → rA N' 13 j = 4 → TX N' j (sg4 a ++ (sg4 b ++ sg4 c)) → Q (nI (sg4 a ++ (sg4 b ++ sg4 c)).length) N') (q0 : (s < 0 ∨ 8 ≤ s) → Q 0 (wI N 0 1)) : fm_text s a b c N Q := by
  unfold fm_text fm_text_b13
  refine r_isSlot (fun j hj ej => ⟨fun z => absurd z (by decide), fun _ => r_refused ⟨fun _ => ?_, fun z => absurd rfl z⟩⟩) (fun c => ⟨fun _ => r_refused ⟨fun z => absurd z (by decide), fun _ => q0 c⟩, fun z => absurd rfl z⟩)
  have ij := vp_in_nI (n := j) (N := 48) (by omega) (by omega)
  obtain ⟨a1, a2, a3, a4⟩ := by8_r a
  obtain ⟨b1, b2, b3, b4⟩ := by8_r b
  obtain ⟨c1, c2, c3, c4⟩ := by8_r c
  have la24 := sg1_len (by8 a 24)
  have la16 := sg1_len (by8 a 16)
  have la8 := sg1_len (by8 a 8)
  have la0 := sg1_len (by8 a 0)
  have lb24 := sg1_len (by8 b 24)
  have lb16 := sg1_len (by8 b 16)
  have lb8 := sg1_len (by8 b 8)
  have lb0 := sg1_len (by8 b 0)
  have lc24 := sg1_len (by8 c 24)
  have lc16 := sg1_len (by8 c 16)
  have lc8 := sg1_len (by8 c 8)
  have lc0 := sg1_len (by8 c 0)
  rw [ej, nI_clamp (by omega)]
  refine ⟨ij, nm_e ⟨ij, nm_e ⟨13, ?_⟩⟩⟩
  have h0 : TX (wA (wA (wI N 0 0) 13 j 4) 16 j 0) j [] := ⟨by rw [rA_wA, if_pos ⟨rfl, rfl⟩]; rfl, fun i hi => absurd hi (Nat.not_lt_zero i)⟩
  have k0 : kSl (fun v => v = j) N (wA (wA (wI N 0 0) 13 j 4) 16 j 0) := kSl_tr (kSl_0 _ N 0) (kSl_tr (kSl_A _ 4 (Or.inl rfl) rfl) (kSl_A _ 0 (Or.inr (Or.inr rfl)) rfl))
  have t0 : rA (wA (wA (wI N 0 0) 13 j 4) 16 j 0) 13 j = 4 := by rw [rA_wA, if_neg (fun z => absurd z.1 (by decide)), rA_wA, if_pos ⟨rfl, rfl⟩]
  have z0 : rI (wA (wA (wI N 0 0) 13 j 4) 16 j 0) 0 = 0 := rfl
  show fm_text_c38 Q (fm_text_l38 Q 12) (nI j) a b c 0 (wA (wA (wI N 0 0) 13 j 4) 16 j 0)
  unfold fm_text_c38
  refine br_f (by decide) ⟨fun z => absurd z (by decide), fun _ => r_tx hj h0 (by simp only [List.length_append, List.length_nil]; omega) (x := 24) (by decide) a1 (kk' := 1) (by decide) (fun N1 k1 z1 t1 h1 => ?_)⟩
  show fm_text_c38 Q (fm_text_l38 Q 11) (nI j) a b c 1 N1
  unfold fm_text_c38
  refine br_f (by decide) ⟨fun z => absurd z (by decide), fun _ => r_tx hj h1 (by simp only [List.length_append, List.length_nil]; omega) (x := 16) (by decide) a2 (kk' := 2) (by decide) (fun N2 k2 z2 t2 h2 => ?_)⟩
  show fm_text_c38 Q (fm_text_l38 Q 10) (nI j) a b c 2 N2
  unfold fm_text_c38
  refine br_f (by decide) ⟨fun z => absurd z (by decide), fun _ => r_tx hj h2 (by simp only [List.length_append, List.length_nil]; omega) (x := 8) (by decide) a3 (kk' := 3) (by decide) (fun N3 k3 z3 t3 h3 => ?_)⟩
  show fm_text_c38 Q (fm_text_l38 Q 9) (nI j) a b c 3 N3
  unfold fm_text_c38
  refine br_f (by decide) ⟨fun z => absurd z (by decide), fun _ => r_tx hj h3 (by simp only [List.length_append, List.length_nil]; omega) (x := 0) (by decide) a4 (kk' := 4) (by decide) (fun N4 k4 z4 t4 h4 => ?_)⟩
  show fm_text_c38 Q (fm_text_l38 Q 8) (nI j) a b c 4 N4
  unfold fm_text_c38
  refine br_f (by decide) ⟨fun _ => ⟨fun z => absurd z (by decide), fun _ => r_tx hj h4 (by simp only [List.length_append, List.length_nil]; omega) (x := 24) (by decide) b1 (kk' := 5) (by decide) (fun N5 k5 z5 t5 h5 => ?_)⟩, fun z => absurd (by decide) z⟩
  show fm_text_c38 Q (fm_text_l38 Q 7) (nI j) a b c 5 N5
  unfold fm_text_c38
  refine br_f (by decide) ⟨fun _ => ⟨fun z => absurd z (by decide), fun _ => r_tx hj h5 (by simp only [List.length_append, List.length_nil]; omega) (x := 16) (by decide) b2 (kk' := 6) (by decide) (fun N6 k6 z6 t6 h6 => ?_)⟩, fun z => absurd (by decide) z⟩
  show fm_text_c38 Q (fm_text_l38 Q 6) (nI j) a b c 6 N6
  unfold fm_text_c38
  refine br_f (by decide) ⟨fun _ => ⟨fun z => absurd z (by decide), fun _ => r_tx hj h6 (by simp only [List.length_append, List.length_nil]; omega) (x := 8) (by decide) b3 (kk' := 7) (by decide) (fun N7 k7 z7 t7 h7 => ?_)⟩, fun z => absurd (by decide) z⟩
  show fm_text_c38 Q (fm_text_l38 Q 5) (nI j) a b c 7 N7
  unfold fm_text_c38
  refine br_f (by decide) ⟨fun _ => ⟨fun z => absurd z (by decide), fun _ => r_tx hj h7 (by simp only [List.length_append, List.length_nil]; omega) (x := 0) (by decide) b4 (kk' := 8) (by decide) (fun N8 k8 z8 t8 h8 => ?_)⟩, fun z => absurd (by decide) z⟩
  show fm_text_c38 Q (fm_text_l38 Q 4) (nI j) a b c 8 N8
  unfold fm_text_c38
  refine br_f (by decide) ⟨fun _ => ⟨fun _ => r_tx hj h8 (by simp only [List.length_append, List.length_nil]; omega) (x := 24) (by decide) c1 (kk' := 9) (by decide) (fun N9 k9 z9 t9 h9 => ?_), fun z => absurd (by decide) z⟩, fun z => absurd (by decide) z⟩
  show fm_text_c38 Q (fm_text_l38 Q 3) (nI j) a b c 9 N9
  unfold fm_text_c38
  refine br_f (by decide) ⟨fun _ => ⟨fun _ => r_tx hj h9 (by simp only [List.length_append, List.length_nil]; omega) (x := 16) (by decide) c2 (kk' := 10) (by decide) (fun N10 k10 z10 t10 h10 => ?_), fun z => absurd (by decide) z⟩, fun z => absurd (by decide) z⟩
  show fm_text_c38 Q (fm_text_l38 Q 2) (nI j) a b c 10 N10
  unfold fm_text_c38
  refine br_f (by decide) ⟨fun _ => ⟨fun _ => r_tx hj h10 (by simp only [List.length_append, List.length_nil]; omega) (x := 8) (by decide) c3 (kk' := 11) (by decide) (fun N11 k11 z11 t11 h11 => ?_), fun z => absurd (by decide) z⟩, fun z => absurd (by decide) z⟩
  show fm_text_c38 Q (fm_text_l38 Q 1) (nI j) a b c 11 N11
  unfold fm_text_c38
  refine br_f (by decide) ⟨fun _ => ⟨fun _ => r_tx hj h11 (by simp only [List.length_append, List.length_nil]; omega) (x := 0) (by decide) c4 (kk' := 12) (by decide) (fun N12 k12 z12 t12 h12 => ?_), fun z => absurd (by decide) z⟩, fun z => absurd (by decide) z⟩
  show fm_text_c38 Q _ (nI j) a b c 12 N12
  unfold fm_text_c38
  have ht : TX N12 j (sg4 a ++ (sg4 b ++ sg4 c)) := by
    unfold sg4
    simp only [List.append_assoc, List.nil_append] at h12 ⊢
    exact h12
  refine br_t (by decide) ⟨ij, ?_⟩
  rw [nI_clamp (by omega), ht.1]
  refine q1 j hj ej N12 (kSl_tr k0 (kSl_tr k1 (kSl_tr k2 (kSl_tr k3 (kSl_tr k4 (kSl_tr k5 (kSl_tr k6 (kSl_tr k7 (kSl_tr k8 (kSl_tr k9 (kSl_tr k10 (kSl_tr k11 k12)))))))))))) (z12.trans (z11.trans (z10.trans (z9.trans (z8.trans (z7.trans (z6.trans (z5.trans (z4.trans (z3.trans (z2.trans (z1.trans z0)))))))))))) (t12.trans (t11.trans (t10.trans (t9.trans (t8.trans (t7.trans (t6.trans (t5.trans (t4.trans (t3.trans (t2.trans (t1.trans t0)))))))))))) ht
theorem r_add {s f : Int32} {Q : Int32 → RM → Prop} (h13 : ∀ j, j < 8 → ∃ x, x ≤ 5 ∧ rA N 13 j = nI x) (h16 : ∀ j, j < 8 → rA N 13 j = 5 → ∃ n, n ≤ 5 ∧ rA N 16 j = nI n)
    (q1 : ∀ j k n, j < 8 → k < 8 → n < 5 → s = nI j → f = nI k → rA N 13 j = 5 → rA N 13 k ≠ 5 → rA N 16 j = nI n → ∀ N', kSl (fun v => v = j ∨ v = itm j n) N N' → rI N' 0 = 0 → rA N' 13 j = rA N 13 j → rA N' 16 j = nI (n + 1) → rA N' 13 (itm j n) = rA N 13 k → (nZ (rA N 14 k) → rA N' 14 (itm j n) = rA N 14 k) → rD N' 15 (itm j n) = rD N 15 k → rA N' 16 (itm j n) = rA N 16 k → (∀ i, i < 12 → nC (rA N 17 (12 * k + i)) → rA N' 17 (12 * itm j n + i) = rA N 17 (12 * k + i)) → Q (nI (n + 1)) N')
    (qx1 : (s < 0 ∨ 8 ≤ s ∨ f < 0 ∨ 8 ≤ f) → Q 0 (wI N 0 1))
    (qx2 : ∀ j k, j < 8 → k < 8 → s = nI j → f = nI k → (rA N 13 j ≠ 5 ∨ rA N 13 k = 5 ∨ rA N 16 j = 5) → Q 0 (wI N 0 2)) : fm_add s f N Q := by
  have bad1 : (s < 0 ∨ 8 ≤ s ∨ f < 0 ∨ 8 ≤ f) → fm_add_b18 Q s f N := by
    intro c
    unfold fm_add_b18 fm_add_b19 fm_add_b64
    exact ⟨fun z => absurd rfl z, fun _ => r_refused ⟨fun z => absurd z (by decide), fun _ => qx1 c⟩⟩
  unfold fm_add
  refine r_isSlot (fun j hj ej => ⟨fun z => absurd z (by decide), fun _ => r_isSlot (fun k hk ek => ⟨fun z => absurd z (by decide), fun _ => ?_⟩) (fun c => ⟨fun _ => bad1 (Or.inr (Or.inr c)), fun z => absurd rfl z⟩)⟩) (fun c => ⟨fun _ => bad1 (c.elim Or.inl (fun z => Or.inr (Or.inl z))), fun z => absurd rfl z⟩)
  have ij := vp_in_nI (n := j) (N := 48) (by omega) (by omega)
  have ik := vp_in_nI (n := k) (N := 48) (by omega) (by omega)
  have bad2 : (rA N 13 j ≠ 5 ∨ rA N 13 k = 5 ∨ rA N 16 j = 5) → fm_add_b59 Q s f N := by
    intro c
    unfold fm_add_b59 fm_add_b64
    exact r_refused ⟨fun z => absurd z (by decide), fun _ => qx2 j k hj hk ej ek c⟩
  rw [ej, ek] at bad2
  unfold fm_add_b19
  rw [ej, ek]
  rw [nI_clamp (by omega), nI_clamp (by omega)]
  refine ⟨fun _ => ⟨ij, fun c => bad2 (Or.inl c), fun c => ⟨ij, fun c2 => bad2 (Or.inr (Or.inr c2)), fun c2 => ⟨ik, fun c3 => ?_, fun c3 => bad2 (Or.inr (Or.inl c3))⟩⟩⟩, fun z => absurd z (by decide)⟩
  obtain ⟨n, n5, en⟩ := h16 j hj c
  have n4 : n < 5 := by
    have : n ≠ 5 := fun z => c2 (by rw [en, z]; rfl)
    omega
  have ei := itm_v (j := n) hj
  obtain ⟨v, hv⟩ : ∃ v, v = itm j n := ⟨_, rfl⟩
  have iv := vp_in_nI (n := v) (N := 48) (by omega) (by omega)
  have vj : v ≠ j := by omega
  have vk : v ≠ k := by omega
  have jk : k ≠ j := fun z => c3 (by rw [z]; exact c)
  have S : Nat → Prop := fun x => x = j ∨ x = v
  unfold fm_add_b64 fm_itemOf
  refine r_refused ⟨fun _ => ⟨ij, ?_⟩, fun z => absurd rfl z⟩
  obtain ⟨N1, hN1⟩ : ∃ N1, N1 = wI N 0 0 := ⟨_, rfl⟩
  have e1 : ∀ g, rA N1 g = rA N g := fun g => by rw [hN1]; rfl
  have d1 : ∀ g, rD N1 g = rD N g := fun g => by rw [hN1]; rfl
  have k1 : kSl (fun x => x = j ∨ x = v) N N1 := by rw [hN1]; exact kSl_0 _ N 0
  have z1 : rI N1 0 = 0 := by rw [hN1]; rfl
  rw [← hN1]
  rw [nI_clamp (by omega), e1, en, m5, show (8 : Int32) = nI 8 from rfl, nI_add, nI_add, show 8 + 5 * j + n = v by omega]
  refine ⟨ij, ij, nm_r (e' := wA N1 16 j (nI (n + 1))) (by rw [nI_1]) ?_⟩
  obtain ⟨N2, hN2⟩ : ∃ N2, N2 = wA N1 16 j (nI (n + 1)) := ⟨_, rfl⟩
  rw [← hN2]
  have k2 : kSl (fun x => x = j ∨ x = v) N1 N2 := by rw [hN2]; exact kSl_A _ _ (Or.inr (Or.inr rfl)) (Or.inl rfl)
  refine ⟨ik, iv, nm_e ?_⟩
  rw [nI_clamp (by omega), nI_clamp (by omega)]
  obtain ⟨N3, hN3⟩ : ∃ N3, N3 = wA N2 13 v (rA N2 13 k) := ⟨_, rfl⟩
  rw [← hN3]
  have k3 : kSl (fun x => x = j ∨ x = v) N2 N3 := by rw [hN3]; exact kSl_A _ _ (Or.inl rfl) (Or.inr rfl)
  refine ⟨ik, iv, nm_e ?_⟩
  obtain ⟨N4, hN4⟩ : ∃ N4, N4 = wA N3 14 v (vp_nar .boolean (rA N3 14 k)) := ⟨_, rfl⟩
  rw [← hN4]
  have k4 : kSl (fun x => x = j ∨ x = v) N3 N4 := by rw [hN4]; exact kSl_A _ _ (Or.inr (Or.inl rfl)) (Or.inr rfl)
  refine ⟨ik, iv, nm_e ?_⟩
  obtain ⟨N5, hN5⟩ : ∃ N5, N5 = wD N4 15 v (rD N4 15 k) := ⟨_, rfl⟩
  rw [← hN5]
  have k5 : kSl (fun x => x = j ∨ x = v) N4 N5 := by rw [hN5]; exact kSl_D _ _ (Or.inr rfl)
  refine ⟨ik, iv, nm_e ?_⟩
  obtain ⟨N6, hN6⟩ : ∃ N6, N6 = wA N5 16 v (rA N5 16 k) := ⟨_, rfl⟩
  rw [← hN6]
  have k6 : kSl (fun x => x = j ∨ x = v) N5 N6 := by rw [hN6]; exact kSl_A _ _ (Or.inr (Or.inr rfl)) (Or.inr rfl)
  have kk := kSl_tr k1 (kSl_tr k2 (kSl_tr k3 (kSl_tr k4 (kSl_tr k5 k6))))
  have pk := kk.2.2.2.2 k (fun z => by rcases z with z | z; exact jk z; exact vk z.symm)
  have zz : rI N6 0 = 0 := by rw [hN6, rI_wA, hN5, rI_wD, hN4, rI_wA, hN3, rI_wA, hN2, rI_wA]; exact z1
  have p2 := (kSl_tr k1 k2).2.2.2.2 k (fun z => by rcases z with z | z; exact jk z; exact vk z.symm)
  have p3 := (kSl_tr k1 (kSl_tr k2 k3)).2.2.2.2 k (fun z => by rcases z with z | z; exact jk z; exact vk z.symm)
  have p4 := (kSl_tr k1 (kSl_tr k2 (kSl_tr k3 k4))).2.2.2.2 k (fun z => by rcases z with z | z; exact jk z; exact vk z.symm)
  have p5 := (kSl_tr k1 (kSl_tr k2 (kSl_tr k3 (kSl_tr k4 k5)))).2.2.2.2 k (fun z => by rcases z with z | z; exact jk z; exact vk z.symm)
  have a13 : rA N6 13 v = rA N 13 k := by
    rw [hN6, rA_wA, if_neg (fun z => absurd z.1 (by decide)), hN5, rA_wD, hN4, rA_wA, if_neg (fun z => absurd z.1 (by decide)), hN3, rA_wA, if_pos ⟨rfl, rfl⟩]; exact p2.1
  have a14 : nZ (rA N 14 k) → rA N6 14 v = rA N 14 k := fun hz => by
    rw [hN6, rA_wA, if_neg (fun z => absurd z.1 (by decide)), hN5, rA_wD, hN4, rA_wA, if_pos ⟨rfl, rfl⟩, p3.2.1]
    unfold vp_nar; rw [hz.1]
  have a15 : rD N6 15 v = rD N 15 k := by
    rw [hN6]
    show rD N5 15 v = _
    rw [hN5, rD_wD, if_pos ⟨rfl, rfl⟩]; exact p4.2.2.2.1
  have a16 : rA N6 16 v = rA N 16 k := by rw [hN6, rA_wA, if_pos ⟨rfl, rfl⟩]; exact p5.2.2.1
  have j13 : rA N6 13 j = rA N 13 j := by
    rw [hN6, rA_wA, if_neg (fun z => absurd z.1 (by decide)), hN5, rA_wD, hN4, rA_wA, if_neg (fun z => absurd z.1 (by decide)), hN3, rA_wA, if_neg (fun z => vj z.2.symm), hN2, rA_wA, if_neg (fun z => absurd z.1 (by decide)), e1]
  have j16 : rA N6 16 j = nI (n + 1) := by
    rw [hN6, rA_wA, if_neg (fun z => vj z.2.symm), hN5, rA_wD, hN4, rA_wA, if_neg (fun z => absurd z.1 (by decide)), hN3, rA_wA, if_neg (fun z => absurd z.1 (by decide)), hN2, rA_wA, if_pos ⟨rfl, rfl⟩]
  have lp : ∀ m i N7, i + m = 12 → kSl (fun x => x = j ∨ x = v) N N7 → rI N7 0 = 0 → (∀ g x, g ≠ 17 → rA N7 g x = rA N6 g x) → rD N7 15 v = rD N 15 k → (∀ x, x < i → nC (rA N 17 (12 * k + x)) → rA N7 17 (12 * v + x) = rA N 17 (12 * k + x)) → fm_add_l149 Q (m + 1) (nI j) (nI k) (nI v) (nI i) N7 := by
    intro m
    induction m with
    | zero =>
      intro i N7 hi b1 b2 b3 b4 b5
      show fm_add_c149 Q _ _ _ _ _ N7
      unfold fm_add_c149
      rw [nI_clamp (by omega), b3 16 j (by decide), j16]
      rw [hv] at *
      refine br_t (nI_le (a := 12) (by omega) (by omega)) ⟨ij, q1 j k n hj hk n4 ej ek c c3 en N7 b1 b2 ((b3 13 j (by decide)).trans j13) ((b3 16 j (by decide)).trans j16) ((b3 13 _ (by decide)).trans a13) (fun hz => (b3 14 _ (by decide)).trans (a14 hz)) b4 ((b3 16 _ (by decide)).trans a16) (fun x hx => b5 x (by omega))⟩
    | succ m ih =>
      intro i N7 hi b1 b2 b3 b4 b5
      show fm_add_c149 Q (fm_add_l149 Q (m + 1)) _ _ _ _ N7
      unfold fm_add_c149
      rw [show (12 : Int32) * nI k = nI (12 * k) from pk_mul 12 k, show (12 : Int32) * nI v = nI (12 * v) from pk_mul 12 v, nI_add, nI_add]
      refine br_f (nI_ge (b := 12) (by omega) (by omega)) ⟨vp_in_nI (by omega) (by omega), vp_in_nI (by omega) (by omega), nm_e (nm_r (nI_1 i) ?_)⟩
      rw [nI_clamp (by omega), nI_clamp (by omega)]
      refine ih (i + 1) _ (by omega) (kSl_tr b1 (kSl_T N7 _ (by omega) (Or.inr rfl))) b2 (fun g x hg => by rw [rA_wA, if_neg (fun z => hg z.1)]; exact b3 g x hg) b4 (fun x hx hn => ?_)
      rw [rA_wA]
      by_cases y : x = i
      · rw [if_pos ⟨rfl, by rw [y]⟩, y]
        have p7 := b1.2.2.2.2 k (fun z => by rcases z with z | z; exact jk z; exact vk z.symm)
        rw [p7.2.2.2.2 i (by omega), nC_nar (by rw [← y]; exact hn)]
      · rw [if_neg (fun z => by omega)]; exact b5 x (by omega) hn
  exact ⟨13, lp 12 0 N6 rfl kk zz (fun _ _ _ => rfl) a15 (fun x hx => absurd hx (Nat.not_lt_zero x))⟩
end TLD
