/-! what is seen of the reference -/
def vis (N : RM) (I : Nat → Nat → Int32) (J : Nat → Int64) (D : Nat → UInt64) (W : Nat → List Int32) (cv k : Nat) : Prop :=
  mR N k (I 80 (48 * cv + k)) (J (48 * cv + k)) (D (48 * cv + k)) (W (48 * cv + k)) (I 85 (48 * cv + k)) ∧ (I 80 (48 * cv + k) = 5 → nz (W (48 * cv + k))) ∧ ((I 80 (48 * cv + k) ≠ 6 ∧ I 85 (48 * cv + k) = 0) ∨
  (I 80 (48 * cv + k) = 6 ∧ ∃ n, n ≤ 5 ∧ I 85 (48 * cv + k) = nI n ∧ ∀ j, j < n → mR N (itm k j) (I 80 (itm (48 * cv + k) j)) (J (itm (48 * cv + k) j)) (D (itm (48 * cv + k) j)) (W (itm (48 * cv + k) j)) (I 85 (itm (48 * cv + k) j)) ∧ (I 80 (itm (48 * cv + k) j) = 5 → nz (W (itm (48 * cv + k) j)))))
section SEEN
variable {N : RM} {I : Nat → Nat → Int32} {J : Nat → Int64} {D : Nat → UInt64} {W : Nat → List Int32} {cv P : Nat} {F : Nat → List (Nat × List Ag)}
theorem r_inn {P : Nat} (hP : P ≤ 8) {x : Int32} {Q : Int32 → RM → Prop} (q1 : ∀ k, k < P → x = nI k → Q 1 N) (q0 : (x < 0 ∨ nI P ≤ x) → Q 0 N) : fm_isIn x 0 (nI P - 1) N Q := by
  unfold fm_isIn fm_isIn_b14 fm_isIn_b15
  refine ⟨fun c => ⟨nZ_0, q0 (Or.inl c)⟩, fun c => ?_⟩
  obtain ⟨k, hk, rfl⟩ := nI_of c
  by_cases h0 : P = 0
  · subst h0
    have l : nI 0 - 1 < nI k := by
      rw [Int32.lt_iff_toInt_lt, nI_toInt hk]
      have : (nI 0 - 1).toInt = -1 := by decide
      omega
    exact ⟨fun _ => ⟨nZ_0, q0 (Or.inr (nI_le (by omega) hk))⟩, fun d => absurd l d⟩
  · rw [show nI P - 1 = nI (P - 1) from pk_sub (b := 1) (by omega)]
    refine pk_lt (P - 1) k (fun d => ⟨nZ_0, q0 (Or.inr (nI_le (by omega) hk))⟩) (fun d => ⟨nZ_1, q1 k (by omega) rfl⟩)
theorem r_rowOf (hP : P ≤ 8) (h18 : rI N 18 = nI P) (hv : ∀ k, k < P → vis N I J D W cv k) (k i : Int32) {Q : Int32 → RM → Prop}
    (q1 : ∀ v r, ptI I cv P k i = some v → r < 48 → mR N r (I 80 v) (J v) (D v) (W v) (I 85 v) → (I 80 v = 5 → nz (W v)) → Q (nI r) N)
    (q0 : ptI I cv P k i = none → Q (-1) N) : fm_rowOf k i N Q := by
  unfold fm_rowOf fm_rowOf_b58 fm_rowOf_b59
  rw [h18]
  refine r_inn hP (fun j hj e => ⟨fun _ => ?_, fun z => absurd z (by decide)⟩) (fun c => ⟨fun z => absurd rfl z, fun _ => q0 (by unfold ptI; rw [if_pos c])⟩)
  subst e
  obtain ⟨m0, z0, h⟩ := hv j hj
  have nk : ¬ (nI j < 0 ∨ nI P ≤ nI j) := fun z => z.elim (fun y => nI_pos (by omega) y) (fun y => by rw [nI_leI (by omega) (by omega)] at y; omega)
  have ij := vp_in_nI (n := j) (N := 96) (by omega) (by omega)
  have cj : (nI j).toNatClampNeg = j := nI_clamp (by omega)
  refine ⟨fun c => ⟨ij, ?_⟩, fun c => q1 (48 * cv + j) j (by unfold ptI; rw [if_neg nk, if_pos c, cj]) (by omega) m0 z0⟩
  have pt : ptI I cv P (nI j) i = if i < 0 ∨ I 85 (48 * cv + j) ≤ i then none else some (itm (48 * cv + j) i.toNatClampNeg) := by
    unfold ptI; rw [if_neg nk, if_neg c, cj]
  rw [cj, m0.1]
  rcases h with ⟨h6, h85⟩ | ⟨h6, n, n5, e85, hi⟩
  · refine ⟨fun _ => q0 ?_, fun z => absurd z h6⟩
    rw [pt, h85]
    by_cases y : i < 0
    · exact if_pos (Or.inl y)
    · exact if_pos (Or.inr (Int32.not_lt.mp y))
  · refine ⟨fun z => absurd h6 z, fun _ => ⟨fun y => q0 (by rw [pt]; exact if_pos (Or.inl y)), fun y => ⟨ij, ?_⟩⟩⟩
    obtain ⟨m, hm, rfl⟩ := nI_of y
    have e20 : rJ N 20 j = lN n := by
      rw [m0.2.1]; unfold whl
      rw [h6, if_neg (by decide), if_neg (by decide), if_pos rfl, e85, nI_l (by omega)]
    rw [e20, nI_l hm, lg_cmp_ge, pk_lLE (by omega) (by omega)]
    refine ⟨fun d => q0 ?_, fun d => ?_⟩
    · rw [pt, e85]; exact if_pos (Or.inr ((nI_leI (by omega) hm).mpr d))
    · have g := hi m (by omega)
      unfold fm_itemOf
      rw [show (5 : Int32) * nI j = nI (5 * j) from pk_mul 5 j, show (8 : Int32) = nI 8 from rfl, nI_add, nI_add]
      have er : itm j m = 8 + 5 * j + m := by unfold itm; omega
      rw [er] at g
      refine q1 (itm (48 * cv + j) m) _ ?_ (by omega) g.1 g.2
      rw [pt, e85, if_neg (fun z => z.elim (fun z => y z) (fun z => by rw [nI_leI (by omega) hm] at z; omega)), nI_clamp hm]
theorem r_kind (hP : P ≤ 8) (h18 : rI N 18 = nI P) (hv : ∀ k, k < P → vis N I J D W cv k) (k : Int32) {Q : Int32 → RM → Prop} (q1 : ∀ v, ptI I cv P k (-1) = some v → Q (I 80 v) (wI N 0 0)) (q0 : ptI I cv P k (-1) = none → Q (-1) (wI N 0 0)) : fm_kind k N Q := by
  unfold fm_kind fm_kind_b26
  refine nm_e (r_rowOf (N := wI N 0 0) hP h18 hv k (-1) (fun v r e hr m _ => ?_) (fun e => ⟨fun z => absurd z (by decide), fun _ => q0 e⟩))
  refine ⟨fun _ => ⟨vp_in_nI (by omega) (by omega), ?_⟩, fun z => absurd (nI_le (a := 0) (Nat.zero_le _) (by omega)) z⟩
  rw [nI_clamp (by omega), m.1]
  exact q1 v e
theorem r_item (hP : P ≤ 8) (h18 : rI N 18 = nI P) (hv : ∀ k, k < P → vis N I J D W cv k) (k i : Int32) {Q : Int32 → RM → Prop} (q1 : 0 ≤ i → ∀ v, ptI I cv P k i = some v → Q (I 80 v) (wI N 0 0)) (q0 : (0 ≤ i → ptI I cv P k i = none) → Q (-1) (wI N 0 0)) : fm_item k i N Q := by
  unfold fm_item fm_item_b19 fm_item_b34
  refine nm_e ⟨fun c => r_rowOf (N := wI N 0 0) hP h18 hv k i (fun v r e hr m _ => ?_) (fun e => ⟨fun z => absurd z (by decide), fun _ => q0 (fun _ => e)⟩), fun c => ⟨fun z => absurd z (by decide), fun _ => q0 (fun z => absurd z c)⟩⟩
  refine ⟨fun _ => ⟨vp_in_nI (by omega) (by omega), ?_⟩, fun z => absurd (nI_le (a := 0) (Nat.zero_le _) (by omega)) z⟩
  rw [nI_clamp (by omega), m.1]
  exact q1 c v e
theorem r_whole (hP : P ≤ 8) (h18 : rI N 18 = nI P) (hv : ∀ k, k < P → vis N I J D W cv k) (k i : Int32) {Q : Int64 → RM → Prop} (q1 : ∀ v, ptI I cv P k i = some v → Q (whl (I 80 v) (J v) (W v) (I 85 v)) (wI N 0 0)) (q0 : ptI I cv P k i = none → Q 0 (wI N 0 0)) : fm_whole k i N Q := by
  unfold fm_whole fm_whole_b26
  refine nm_e (r_rowOf (N := wI N 0 0) hP h18 hv k i (fun v r e hr m _ => ?_) (fun e => ⟨fun z => absurd z (by decide), fun _ => q0 e⟩))
  refine ⟨fun _ => ⟨vp_in_nI (by omega) (by omega), ?_⟩, fun z => absurd (nI_le (a := 0) (Nat.zero_le _) (by omega)) z⟩
  rw [nI_clamp (by omega), m.2.1]
  exact q1 v e
theorem r_real (hP : P ≤ 8) (h18 : rI N 18 = nI P) (hv : ∀ k, k < P → vis N I J D W cv k) (k i : Int32) {Q : UInt64 → RM → Prop} (q1 : ∀ v, ptI I cv P k i = some v → Q (if I 80 v = 4 then D v else FP.dconst0) (wI N 0 0)) (q0 : ptI I cv P k i = none → Q FP.dconst0 (wI N 0 0)) : fm_real k i N Q := by
  unfold fm_real fm_real_b26
  refine nm_e (r_rowOf (N := wI N 0 0) hP h18 hv k i (fun v r e hr m _ => ?_) (fun e => ⟨fun z => absurd z (by decide), fun _ => q0 e⟩))
  refine ⟨fun _ => ⟨vp_in_nI (by omega) (by omega), ?_⟩, fun z => absurd (nI_le (a := 0) (Nat.zero_le _) (by omega)) z⟩
  rw [nI_clamp (by omega), m.2.2.1]
  exact q1 v e
theorem r_sign (hP : P ≤ 8) (h18 : rI N 18 = nI P) (hv : ∀ k, k < P → vis N I J D W cv k) (k i c : Int32) {Q : Int32 → RM → Prop} (q1 : ∀ v, ptI I cv P k i = some v → Q (if I 80 v = 5 ∧ ¬ lat (W v) c = 0 then lat (W v) c else 32) (wI N 0 0)) (q0 : ptI I cv P k i = none → Q 32 (wI N 0 0)) : fm_sign k i c N Q := by
  have n32 : nC 32 := pk_charN (q := 32) (by decide)
  unfold fm_sign fm_sign_b61 fm_sign_b63
  refine nm_e (r_rowOf (N := wI N 0 0) hP h18 hv k i (fun v r e hr m hz => ?_) (fun e => ⟨fun _ => ⟨n32, q0 e⟩, fun z => absurd (by decide) z⟩))
  have q := q1 v e
  have ir := vp_in_nI (n := r) (N := 96) (by omega) (by omega)
  refine br_f (nI_pos (by omega)) ⟨ir, ?_⟩
  rw [nI_clamp (by omega), m.1]
  refine ⟨fun d => ⟨n32, ?_⟩, fun d => ⟨fun y => ⟨n32, ?_⟩, fun y => ⟨ir, ?_⟩⟩⟩
  · rw [if_neg (fun z => d z.1)] at q; exact q
  · rw [if_neg (fun z => z.2 (by unfold lat; rw [if_pos y]))] at q; exact q
  · obtain ⟨x, hx, rfl⟩ := nI_of y
    obtain ⟨l80, hl⟩ := m.2.2.2 d
    have la : lat (W v) (nI x) = (W v).getD x 0 := by unfold lat; rw [if_neg y, nI_clamp hx]
    have e20 : rJ (wI N 0 0) 20 r = lN (W v).length := by
      rw [m.2.1]; unfold whl
      rw [d, if_neg (by decide), if_pos rfl, nI_l (by omega)]
    rw [e20, nI_l hx, lg_cmp_ge, pk_lLE (by omega) (by omega)]
    refine ⟨fun f => ⟨n32, ?_⟩, fun f => ?_⟩
    · rw [la, if_neg (fun z => z.2 (by rw [List.getD_eq_getElem?_getD, List.getElem?_eq_none (by omega)]; rfl))] at q; exact q
    · have hg := hl x (by omega)
      have nz0 : (W v).getD x 0 ≠ 0 := by
        rw [List.getD_eq_getElem?_getD, List.getElem?_eq_getElem (by omega)]
        exact hz d _ (List.getElem_mem (by omega))
      rw [show (80 : Int32) * nI r = nI (80 * r) from pk_mul 80 r, nI_add]
      refine ⟨vp_in_nI (by omega) (by omega), ?_⟩
      rw [nI_clamp (by omega), hg.1]
      rw [la, if_pos ⟨d, nz0⟩] at q
      exact ⟨hg.2, q⟩
theorem r_place {Q : Int32 → RM → Prop} (q : Q (rI N 3) (wI N 0 0)) : fm_place N Q := nm_e q
theorem r_drop (a : Int32) {Q : Int32 → RM → Prop} (q1 : ∀ o, o < 6 → a = nI o → Q (rA N 4 o) (wA (wI N 0 0) 4 o 0)) (q0 : (a < 0 ∨ 6 ≤ a) → Q 0 (wI N 0 1)) : fm_drop a N Q := by
  unfold fm_drop fm_drop_b15
  refine r_isIn (a := 0) (b := 5) (by decide) (fun k hk e => ⟨fun z => absurd z (by decide), fun _ => r_refused ⟨fun _ => ?_, fun z => absurd rfl z⟩⟩) (fun c => ⟨fun _ => r_refused ⟨fun z => absurd z (by decide), fun _ => q0 ?_⟩, fun z => absurd rfl z⟩)
  · subst e
    have ik := vp_in_nI (n := k) (N := 6) (by omega) (by omega)
    rw [nI_clamp (by omega)]
    exact ⟨ik, nm_e ⟨ik, nm_e (q1 k (by omega) rfl)⟩⟩
  · rcases c with c | c
    · exact Or.inl c
    · refine Or.inr ?_
      rw [Int32.lt_iff_toInt_lt] at c
      rw [Int32.le_iff_toInt_le]
      have e5 : (nI 5).toInt = 5 := rfl
      have e6 : (6 : Int32).toInt = 6 := rfl
      omega
theorem r_operation (hO : ∀ o, o < 6 → rOp N o ((F o).map Prod.snd)) (ht : ∀ o, o < 6 → ∀ n, n ≤ 8 → told (F o) n) (a w : Int32) {Q : Int32 → RM → Prop}
    (q1 : ∀ o m, o < 6 → m ≤ 11 → a = nI o → w = nI m → Q (if m = 0 then nI (F o).length else if m = 1 then mostO (F o) else if m = 2 then leastO (F o) else decN (gth (m - 3) (F o)) (m - 3)) (wI N 0 0))
    (q0 : (a < 0 ∨ 6 ≤ a ∨ w < 0 ∨ 11 < w) → Q 0 (wI N 0 1)) : fm_operation a w N Q := by
  have bad : (a < 0 ∨ 6 ≤ a ∨ w < 0 ∨ 11 < w) → fm_operation_b24 Q a w N := by
    intro c
    unfold fm_operation_b24 fm_operation_b25
    exact r_refused ⟨fun z => absurd z (by decide), fun _ => q0 c⟩
  unfold fm_operation
  refine r_isIn (a := 0) (b := 5) (by decide) (fun o ho e => ⟨fun z => absurd z (by decide), fun _ => ?_⟩) (fun c => ⟨fun _ => bad ?_, fun z => absurd rfl z⟩)
  · refine r_isIn (a := 0) (b := 11) (by decide) (fun m hm ew => ⟨fun z => absurd z (by decide), fun _ => ?_⟩) (fun c => ⟨fun _ => bad (Or.inr (Or.inr c)), fun z => absurd rfl z⟩)
    subst e
    subst ew
    have hO1 : rOp (wI N 0 0) o ((F o).map Prod.snd) := hO o (by omega)
    have q := q1 o m (by omega) hm rfl rfl
    unfold fm_operation_b25 fm_operation_b61
    refine r_refused ⟨fun _ => ⟨fun d0 => ?_, fun d0 => ⟨vp_in_nI (by omega) (by omega), ?_⟩⟩, fun z => absurd rfl z⟩
    · have m0 : m ≠ 0 := fun z => d0 (by rw [z]; rfl)
      rw [if_neg m0] at q
      refine pk_le 3 m (fun c3 => ?_) (fun c3 => ⟨fun d1 => ?_, fun d1 => ?_⟩)
      · rw [if_neg (by omega), if_neg (by omega)] at q
        rw [show nI m - 3 = nI (m - 3) from pk_sub (b := 3) c3]
        exact r_dec0 (by omega) hO1 (by omega) (ht o (by omega) _ (by omega)) q
      · have m1 : m ≠ 1 := fun z => d1 (by rw [z]; rfl)
        rw [if_neg m1, if_pos (by omega)] at q
        exact r_boundL (by omega) hO1 q
      · have m1 : m = 1 := (nI_eq (b := 1) (by omega) (by decide)).mp d1
        rw [if_pos m1] at q
        exact r_boundM (by omega) hO1 q
    · have m0 : m = 0 := (nI_eq (b := 0) (by omega) (by decide)).mp d0
      rw [if_pos m0] at q
      rw [nI_clamp (by omega), hO1.2.1, List.length_map]
      exact q
  · rcases c with c | c
    · exact Or.inl c
    · refine Or.inr (Or.inl ?_)
      rw [Int32.lt_iff_toInt_lt] at c
      rw [Int32.le_iff_toInt_le]
      have e5 : (nI 5).toInt = 5 := rfl
      have e6 : (6 : Int32).toInt = 6 := rfl
      omega
end SEEN
