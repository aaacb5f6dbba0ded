section CALL
variable {nm : Nat → Nat} {T : LY} {M : CM} {G : Nat → Nat → Nat} {I : Nat → Nat → Int32} {J : Nat → Int64} {D : Nat → UInt64} {W : Nat → List Int32} {px hN cv : Nat} {RW : Nat → Nat} {OA : Nat → Nat → Nat} {F H : Nat → List (Nat × List Ag)}
def okA (g : Ag) (I : Nat → Nat → Int32) (J : Nat → Int64) (D : Nat → UInt64) (W : Nat → List Int32) (n i : Nat) : Prop := ∃ I' J' D' W' t, cvOk g I J D W n i I' J' D' W' t
def pck (gs : List (Nat × List Ag)) (u : Nat) (I : Nat → Nat → Int32) (j : Nat) : Prop := (decN gs u = -1 ∧ j = 0) ∨ (decN gs u ≠ -1 ∧ chz gs (dcN gs u) (I 80 (dcN gs u)) = some j)
def fmA (gs : List (Nat × List Ag)) (j i : Nat) : Ag := aOf (gs.getD j (0, [])).2 i
/-- a call that is refused at v -/
def rfs (gs : List (Nat × List Ag)) (u n : Nat) (I : Nat → Nat → Int32) (J : Nat → Int64) (D : Nat → UInt64) (W : Nat → List Int32) (nn : Nat → Nat) (v : Nat) : Prop :=
  (gs = [] ∧ v = n) ∨ (gs ≠ [] ∧ v < dcN gs u ∧ (∀ i, i < v → okA (fmA gs 0 i) I J D W (nn i) i) ∧ cvNo (fmA gs 0 v) I J D W (nn v) v) ∨
  (gs ≠ [] ∧ decN gs u ≠ -1 ∧ (∀ i, i < dcN gs u → okA (fmA gs 0 i) I J D W (nn i) i) ∧ chz gs (dcN gs u) (I 80 (dcN gs u)) = none ∧ v = dcN gs u) ∨
  (gs ≠ [] ∧ (∀ i, i < dcN gs u → okA (fmA gs 0 i) I J D W (nn i) i) ∧ ∃ j, j < gs.length ∧ pck gs u I j ∧ dcN gs u ≤ v ∧ v < u ∧ (∀ i, dcN gs u ≤ i → i < v → okA (fmA gs j i) I J D W (nn i) i) ∧ cvNo (fmA gs j v) I J D W (nn v) v)
theorem fstI_c {P : Nat → Bool} : ∀ {m i j}, fstI P m i = some j → i ≤ j ∧ j < i + m ∧ P j = true
  | 0, _, _, h => by cases h
  | m + 1, i, j, h => by
    unfold fstI at h
    split at h
    · rename_i c
      cases h; exact ⟨Nat.le_refl _, by omega, c⟩
    · obtain ⟨a, b, c⟩ := fstI_c h
      exact ⟨by omega, by omega, c⟩
theorem orE_c {a b : Option Nat} {j n : Nat} (h : orE a b = some j) (ha : ∀ x, a = some x → x < n) (hb : ∀ x, b = some x → x < n) : j < n := by
  cases a with
  | none => exact hb j h
  | some x => exact ha j h
theorem chz_lt {gs : List (Nat × List Ag)} {k : Nat} {kd : Int32} {j : Nat} (h : chz gs k kd = some j) : j < gs.length := by
  have f : ∀ {P : Nat → Bool} {x}, fstI P gs.length 0 = some x → x < gs.length := fun e => by have := (fstI_c e).2.1; omega
  unfold chz at h
  refine orE_c h (fun x e => ?_) (fun x e => orE_c e (fun x e => ?_) (fun x e => orE_c e (fun x e => f e) (fun x e => orE_c e (fun x e => f e) (fun x e => orE_c e (fun x e => f e) (fun x e => f e)))))
  · split at e
    · exact f e
    · cases e
  · split at e
    · exact f e
    · cases e
theorem s_refuseAt (h : tg T px = 11) (v : Int32) {Q : Int32 → CM → Prop} (k : Q (-5) (sI M 108 px v)) : fc_X10_refuseAt T px v M Q := ⟨h, nm_e k⟩
theorem s_call (hnm : ∀ i j, i < 10 → j < 10 → nm i = nm j → i = j) (hX : SX G T M px hN RW cv) (hS : SA G T M) (hV : VA G M I J D W) (hQ : SQ T M px OA) (hO : ∀ o, o < 6 → SO T M (OA o)) (hF : ∀ o, o < 6 → VO nm T M (OA o) (F o) (H o)) (nn : Nat → Nat)
    (hh : ∀ v, v < 48 → I 83 v = bI (hasB (I 83 v))) (hd : ∀ v, v < 48 → hasB (I 83 v) = true → Jvm.FP.Core.dIsNaN (D v) = false) (hn : ∀ i, i < 8 → I 85 i = nI (nn i) ∧ nn i ≤ 5 ∧ ∀ j, j < nn i → I 85 (itm i j) = 0) (a n : Int32) {X : Nat → CM → Prop} {Q : Int32 → CM → Prop}
    (hx : (a < 0 ∨ 6 ≤ a ∨ n < 0 ∨ 8 < n) → X 1 M)
    (hr : ∀ o m v, o < 6 → m ≤ 8 → v ≤ 8 → a = nI o → n = nI m → rfs (gth (usd (F o) m) (F o)) (usd (F o) m) m I J D W nn v → ∀ M1 M2 gs' I' J' D' W', kG (OA o) M M1 → VO nm T M1 (OA o) (F o) gs' → zA G M1 M2 → VA G M2 I' J' D' W' → (∀ v, v / 48 ≠ 3 - cv → sam I J D W I' J' D' W' v) → Q (-5) (sI M2 108 px (nI v)))
    (hg : ∀ o m u gs j φ, o < 6 → m ≤ 8 → a = nI o → n = nI m → u = usd (F o) m → gs = gth u (F o) → j < gs.length → pck gs u I j → φ = (gs.getD j (0, [])).2 → (∀ i, i < dcN gs u → okA (fmA gs 0 i) I J D W (nn i) i) → (∀ i, dcN gs u ≤ i → i < u → okA (fmA gs j i) I J D W (nn i) i) →
      ∀ M1 M2 M' gs' I' J' D' W', kG (OA o) M M1 → VO nm T M1 (OA o) (F o) gs' → zA G M1 M2 → M' = sI (sI (sR (sR M2 105 px (some (RW (3 - cv)))) 106 px (some (RW cv))) 107 px (nI (if u < φ.length then φ.length else u))) 108 px (-1) → VA G M' I' J' D' W' →
      (∀ i, i < dcN gs u → cvOk (fmA gs 0 i) I J D W (nn i) i I' J' D' W' (48 * (3 - cv) + i)) → (∀ i, dcN gs u ≤ i → i < u → cvOk (fmA gs j i) I J D W (nn i) i I' J' D' W' (48 * (3 - cv) + i)) → (∀ i, u ≤ i → i < φ.length → isRv I' J' D' W' (48 * (3 - cv) + i) (0, 0, FP.dconst0, []) ∧ I' 85 (48 * (3 - cv) + i) = 0) → (∀ v, v / 48 ≠ 3 - cv → sam I J D W I' J' D' W' v) → Q (cI M 21 (gs.getD j (0, [])).1) M') : fc_X10_call nm T X px a n M Q := by
  have hcv := hX.2.2.2.2.2.2.2.1
  unfold fc_X10_call fc_X10_call_b20
  refine ⟨hX.1, s_operationAt hQ a (fun o ho e => ⟨fun z => (by cases z), fun _ => ⟨fun c => hx (Or.inr (Or.inr (Or.inl c))), fun c => ?_⟩⟩) (fun e => ⟨fun _ => hx (e.elim Or.inl (fun z => Or.inr (Or.inl z))), fun z => absurd rfl z⟩)⟩
  obtain ⟨m, hm, rfl⟩ := nI_of c
  have hSO := hO o ho
  have hVO := hF o ho
  have t26 := hSO.2.2.2.2.2.1
  refine pk_le m 8 (fun c8 => ⟨_, rfl, hSO.1, s_X5_most hSO hVO ?_⟩) (fun c8 => hx (Or.inr (Or.inr (Or.inr (nI_lt (a := 8) c8 hm)))))
  have hr' := fun (v : Nat) (hv : v ≤ 8) => hr o m v ho c8 hv e rfl
  by_cases hne : F o = []
  · -- no forms at all
    rw [hne] at hVO
    refine nm_e (s_X5_gatherE hSO hVO _ (fun M1 k1 v1 => ?_))
    refine s_X5_ableAt (i := 0) (kG_SO k1 hSO) v1 (by decide) (fun c => absurd c (Nat.not_lt_zero 0)) (fun _ => ⟨fun z => absurd rfl z, fun _ => ?_⟩)
    refine s_refuseAt hX.1 _ (hr' m c8 (Or.inl ⟨by rw [hne]; rfl, rfl⟩) M1 M1 [] I J D W k1 (by rw [hne]; exact v1) (zA_rf G M1) (kG_VA k1 hV) (fun v _ => sam_rf))
  have h5 : ∀ i, i < (F o).length → ((F o).getD i (0, [])).2.length ≤ 5 := fun i hi => (hVO.2.2.1 i hi).2.2.1
  obtain ⟨t8, et⟩ := mostO_c h5 hne
  obtain ⟨u, hu⟩ : ∃ u, u = usd (F o) m := ⟨_, rfl⟩
  have hu8 : u ≤ 8 := by rw [hu]; unfold usd; split <;> omega
  have eu : (if mostO (F o) < nI m then mostO (F o) else nI m) = nI u := by
    rw [hu]; unfold usd
    by_cases q : (mostO (F o)).toNatClampNeg < m
    · rw [if_pos q, if_pos (by rw [et]; exact (nI_ltI (by omega) (by omega)).mpr q)]; exact et
    · rw [if_neg q, if_neg (by rw [et]; exact fun z => q ((nI_ltI (by omega) (by omega)).mp z))]
  rw [← hu] at hr'
  rw [eu]
  obtain ⟨gs, hgs⟩ : ∃ gs, gs = gth u (F o) := ⟨_, rfl⟩
  have hg' := fun (j : Nat) (φ : List Ag) => hg o m u gs j φ ho c8 e rfl hu hgs
  rw [← hgs] at hr'
  refine nm_e (s_X5_gather0 hSO hVO (by omega) (fun M1 k1 v1 => ?_))
  rw [← hgs] at v1
  have S1 := kG_SO k1 hSO
  have X1 := kG_SX t26 k1 hX
  have A1 := kG_SA t26 k1 hS
  have V1 := kG_VA k1 hV
  have gok : ∀ k, k < u → gOk gs k := fun k hk => by rw [hgs]; exact gth_ok hk
  refine s_X5_ableAt (i := 0) S1 v1 (by decide) (fun c0 => ⟨fun _ => ?_, fun z => (by cases z)⟩) (fun c0 => ⟨fun z => absurd rfl z, fun _ => ?_⟩)
  rotate_left
  · have e0 : gs = [] := List.eq_nil_of_length_eq_zero (by omega)
    exact s_refuseAt hX.1 _ (hr' m c8 (Or.inl ⟨e0, rfl⟩) M1 M1 gs I J D W k1 v1 (zA_rf G M1) V1 (fun v _ => sam_rf))
  have gne : gs ≠ [] := fun z => by rw [z] at c0; exact absurd c0 (Nat.not_lt_zero 0)
  refine s_X5_deciding hnm S1 v1 (by omega) (fun j hj => gok j hj) ?_
  obtain ⟨dc, hdc⟩ : ∃ dc, dc = dcN gs u := ⟨_, rfl⟩
  have ex : (if decN gs u < 0 then (0 : Int32) else decN gs u) = nI dc ∧ dc ≤ u ∧ (decN gs u = -1 ∧ dc = 0 ∨ decN gs u = nI dc ∧ dc < u) := by
    rcases decN_c gs u with h | ⟨j, hj, h⟩
    · have : dc = 0 := by rw [hdc]; unfold dcN; rw [h]; rfl
      rw [h, this]; exact ⟨rfl, Nat.zero_le _, Or.inl ⟨rfl, rfl⟩⟩
    · have : dc = j := by rw [hdc]; unfold dcN; rw [h]; exact nI_clamp (by omega)
      rw [h, this, if_neg (nI_pos (by omega))]; exact ⟨rfl, by omega, Or.inr ⟨rfl, hj⟩⟩
  obtain ⟨ex1, ex2, ex3⟩ := ex
  rw [ex1]
  have f0 := (v1.2.2.2.2.2 0 c0).2
  have k0lt : ∀ j, j < gs.length → ∀ k, k < u → argI (gs.getD j (0, [])).2 k < (gs.getD j (0, [])).2.length := fun j hj k hk => gok k hk j hj
  refine nm_e (s_convertSlots (x := 0) (y := dc) hnm X1 A1 V1 f0 nn hh hd hn (Nat.zero_le _) (by omega) (fun k hk => k0lt 0 c0 k (by omega)) (fun M2 I2 J2 D2 W2 z2 w2 q2 s2 _ => ⟨fun _ => ?_, fun z => absurd rfl z⟩) (fun i _ a2 a3 a4 M2 I2 J2 D2 W2 z2 w2 s2 => ⟨fun z => ?_, fun _ => ?_⟩))
  rotate_left
  · exact absurd z (fun z => by have := congrArg Int32.toInt z; rw [nI_toInt (by omega)] at this; have e : (-1 : Int32).toInt = -1 := rfl; omega)
  · exact s_refuseAt hX.1 _ (hr' i (by omega) (Or.inr (Or.inl ⟨gne, by rw [← hdc]; exact a2, fun i' b => by obtain ⟨p1, p2, p3, p4, p5⟩ := a3 i' (Nat.zero_le _) b; exact ⟨p1, p2, p3, p4, _, p5⟩, a4⟩)) M1 M2 gs I2 J2 D2 W2 k1 v1 z2 w2 s2)
  -- the first part converted
  have ok0 : ∀ i, i < dc → okA (fmA gs 0 i) I J D W (nn i) i := fun i hi => ⟨I2, J2, D2, W2, _, q2 i (Nat.zero_le _) hi⟩
  have sl : ∀ v, v < 48 → sam I J D W I2 J2 D2 W2 v := fun v hv => s2 v (by omega)
  have it48 : ∀ i j, i < 8 → j < 5 → itm i j < 48 := fun i j hi hj => by have := itm_div (t := i) (j := j) (by omega) hj; omega
  have X2 := zA_SX z2 X1
  have A2 := zA_SA z2 A1
  have S2 : SO T M2 (OA o) := by
    obtain ⟨b1, b2, b3, b4, b5, b6, b7, b8⟩ := S1
    exact ⟨b1, by rw [z2.2.2.2.1]; exact b2, b3, b4, by rw [z2.2.2.2.1]; exact b5, b6, b7, b8⟩
  have kt2 : kT T M1 M2 := zA_kT z2
  have v2 : VO nm T M2 (OA o) (F o) gs := by
    obtain ⟨b1, b2, b3, b4, b5, b6⟩ := v1
    refine ⟨b1, by rw [z2.1 _ _ (by decide) (by decide)]; exact b2, fun i hi => ⟨by rw [z2.2.2.2.2.2.2]; exact (b3 i hi).1, kT_fmc kt2 (b3 i hi).2⟩, b4, by rw [z2.1 _ _ (by decide) (by decide)]; exact b5, fun i hi => ⟨by rw [z2.2.2.2.2.2.2]; exact (b6 i hi).1, kT_fmc kt2 (b6 i hi).2⟩⟩
  have last : ∀ j, j < gs.length → pck gs u I j → fc_X10_call_b128 nm T X px Q (nI u) (some (gs.getD j (0, [])).1) (decN gs u) (nI dc) M2 := by
    intro j hj hp
    have fj := (v2.2.2.2.2.2 j hj).2
    obtain ⟨φ, hφ⟩ : ∃ φ, φ = (gs.getD j (0, [])).2 := ⟨_, rfl⟩
    have hgj := hg' j φ hj hp hφ (by rw [← hdc]; exact ok0)
    unfold fc_X10_call_b128 fc_X10_call_b175
    refine ⟨fun _ => ⟨hX.1, ?_⟩, fun z => by cases z⟩
    refine s_convertSlots (x := dc) (y := u) hnm X2 A2 w2 fj nn (fun v hv => by rw [(sl v hv).1 83]; exact hh v hv) (fun v hv c => by rw [(sl v hv).1 83] at c; rw [(sl v hv).2.2.1]; exact hd v hv c) (fun i hi => ⟨((sl i (by omega)).1 85).trans (hn i hi).1, (hn i hi).2.1, fun j2 hj2 => ((sl _ (it48 i j2 hi (by have := (hn i hi).2.1; omega))).1 85).trans ((hn i hi).2.2 j2 hj2)⟩) ex2 hu8 (fun k hk => k0lt j hj k hk) (fun M3 I3 J3 D3 W3 z3 w3 q3 s3 r3 => ⟨fun _ => ?_, fun z => absurd rfl z⟩) (fun i a1 a2 a3 a4 M3 I3 J3 D3 W3 z3 w3 s3 => ⟨fun z => ?_, fun _ => ?_⟩)
    rotate_left
    · exact absurd z (fun z => by have := congrArg Int32.toInt z; rw [nI_toInt (by omega)] at this; have e : (-1 : Int32).toInt = -1 := rfl; omega)
    · refine s_refuseAt hX.1 _ (hr' i (by omega) (Or.inr (Or.inr (Or.inr ⟨gne, by rw [← hdc]; exact ok0, j, hj, hp, by rw [← hdc]; exact a1, a2, fun i' b1 b2 => ?_, ?_⟩))) M1 M3 gs I3 J3 D3 W3 k1 v1 (zA_tr z2 z3) w3 (fun v hv => sam_tr (s2 v hv) (s3 v hv)))
      · obtain ⟨p1, p2, p3, p4, p5⟩ := a3 i' (by omega) b2
        have n5 := (hn i' (by omega)).2.1
        exact ⟨p1, p2, p3, p4, _, cvOk_src p5 (sl i' (by omega)) (fun j2 hj2 => sl _ (it48 i' j2 (by omega) (by omega)))⟩
      · have n5 := (hn i (by omega)).2.1
        exact cvNo_src a4 (sl i (by omega)) (fun j2 hj2 => sl _ (it48 i j2 (by omega) (by omega)))
    have q3' : ∀ i, dc ≤ i → i < u → cvOk (fmA gs j i) I J D W (nn i) i I3 J3 D3 W3 (48 * (3 - cv) + i) := fun i b1 b2 => by
      have n5 := (hn i (by omega)).2.1
      exact cvOk_src (q3 i b1 b2) (sl i (by omega)) (fun j2 hj2 => sl _ (it48 i j2 (by omega) (by omega)))
    have q2' : ∀ i, i < dc → cvOk (fmA gs 0 i) I J D W (nn i) i I3 J3 D3 W3 (48 * (3 - cv) + i) := fun i b2 => by
      have n5 := (hn i (by omega)).2.1
      have r := r3 i (by omega) (Or.inl b2)
      exact cvOk_dst (q2 i (Nat.zero_le _) b2) r.1 (fun j2 hj2 => r.2 j2 (by omega))
    have fj3 := kT_fmc (zA_kT z3) fj
    refine s_finish (zA_SX z3 X2) (zA_SA z3 A2) w3 fj3 hu8 (fun M' N I' J' D' W' z4 e4 w4 m4 s4 => ?_)
    have ef : cI M3 21 (gs.getD j (0, [])).1 = cI M 21 (gs.getD j (0, [])).1 := by
      rw [z3.1 _ _ (by decide) (by decide), z2.1 _ _ (by decide) (by decide), k1.1 _ _ (fun z => by omega)]
    rw [ef]
    rw [← hφ] at e4 m4 s4
    have l5 : φ.length ≤ 5 := by rw [hφ]; exact fj.2.1
    have t4 : ∀ i, i < u → sam I3 J3 D3 W3 I' J' D' W' (48 * (3 - cv) + i) ∧ ∀ j2, j2 < 5 → sam I3 J3 D3 W3 I' J' D' W' (itm (48 * (3 - cv) + i) j2) := fun i hi => ⟨s4 _ (fun i' b1 b2 z => by omega), fun j2 hj2 => s4 _ (fun i' b1 b2 z => itm_top (t := 48 * (3 - cv) + i) (j := j2) (by omega) (by omega) (by omega) hj2 z)⟩
    refine hgj (fun i b1 b2 => ?_) M1 N M' gs I' J' D' W' k1 v1 (zA_tr z2 (zA_tr z3 z4)) e4 w4 (fun i b => ?_) (fun i b1 b2 => ?_) m4 (fun v hv => sam_tr (s2 v hv) (sam_tr (s3 v hv) (s4 v (fun i' b1 b2 z => by omega))))
    · rw [← hdc] at b1; exact ⟨I3, J3, D3, W3, _, q3' i b1 b2⟩
    · rw [← hdc] at b
      have n5 := (hn i (by omega)).2.1
      exact cvOk_dst (q2' i b) (t4 i (by omega)).1 (fun j2 hj2 => (t4 i (by omega)).2 j2 (by omega))
    · rw [← hdc] at b1
      have n5 := (hn i (by omega)).2.1
      exact cvOk_dst (q3' i b1 b2) (t4 i b2).1 (fun j2 hj2 => (t4 i b2).2 j2 (by omega))
  rcases ex3 with ⟨d1, d2⟩ | ⟨d1, d2⟩
  · refine br_t d1 (last 0 c0 (Or.inl ⟨d1, rfl⟩))
  · have dne : decN gs u ≠ -1 := fun z => by rw [d1] at z; have := congrArg Int32.toInt z; rw [nI_toInt (by omega)] at this; have e : (-1 : Int32).toInt = -1 := rfl; omega
    refine br_f dne ?_
    rw [X2.2.2.1]
    have last' := last
    rw [d1] at last' ⊢
    refine s_slotAt X2 (r := 0) (by decide) (nI dc) (fun j hj ej => ?_) (fun ej => ?_)
    rotate_left
    · rcases ej with ej | ej
      · exact absurd ej (nI_pos (by omega))
      · rw [show (8 : Int32) = nI 8 from rfl, nI_leI (by omega) (by omega)] at ej; omega
    rw [nI_eq (by omega) (by omega)] at ej
    subst ej
    rw [show 48 * 0 + dc = dc by omega]
    refine s_X5_choose hnm S2 v2 (by omega) (gok dc d2) A2 w2 (by omega) ?_
    rw [(sl dc (by omega)).1 80]
    cases ec : chz gs dc (I 80 dc) with
    | none =>
      show fc_X10_call_b128 nm T X px Q (nI u) none (nI dc) (nI dc) M2
      unfold fc_X10_call_b128
      refine ⟨fun z => absurd rfl z, fun _ => ⟨hX.1, s_refuseAt hX.1 _ (hr' dc (by omega) (Or.inr (Or.inr (Or.inl ⟨gne, dne, by rw [← hdc]; exact ok0, by rw [← hdc]; exact ec, hdc⟩))) M1 M2 gs I2 J2 D2 W2 k1 v1 z2 w2 s2)⟩⟩
    | some j => exact last' j (chz_lt ec) (Or.inr ⟨dne, by rw [← hdc]; exact ec⟩)
end CALL
