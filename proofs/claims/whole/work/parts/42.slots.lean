section CLR
variable {nm : Nat → Nat} {T : LY} {M : CM} {G : Nat → Nat → Nat} {I : Nat → Nat → Int32} {J : Nat → Int64} {D : Nat → UInt64} {W : Nat → List Int32} {px hN cv a : Nat} {RW : Nat → Nat} {φ : List Ag}
/-- the argument of a form that value k goes to -/
def aOf (φ : List Ag) (k : Nat) : Ag := φ.getD (argI φ k) dA
theorem s_convertSlots (hnm : ∀ i j, i < 10 → j < 10 → nm i = nm j → i = j) (hX : SX G T M px hN RW cv) (hS : SA G T M) (hV : VA G M I J D W) (hf : fmc nm T M a φ) (nn : Nat → Nat)
    (hh : ∀ v, v < 48 → I 83 v = bI (hasB (I 83 v))) (hd : ∀ v, v < 48 → hasB (I 83 v) = true → Jvm.FP.Core.dIsNaN (D v) = false) (hn : ∀ i, i < 8 → I 85 i = nI (nn i) ∧ nn i ≤ 5 ∧ ∀ j, j < nn i → I 85 (itm i j) = 0) {x y : Nat} (hxy : x ≤ y) (hy : y ≤ 8) (hk : ∀ k, k < y → argI φ k < φ.length) {Q : Int32 → CM → Prop}
    (h1 : ∀ M' I' J' D' W', zA G M M' → VA G M' I' J' D' W' → (∀ i, x ≤ i → i < y → cvOk (aOf φ i) I J D W (nn i) i I' J' D' W' (48 * (3 - cv) + i)) → (∀ v, v / 48 ≠ 3 - cv → sam I J D W I' J' D' W' v) → (∀ i, i < 8 → (i < x ∨ y ≤ i) → sam I J D W I' J' D' W' (48 * (3 - cv) + i) ∧ ∀ j, j < 5 → sam I J D W I' J' D' W' (itm (48 * (3 - cv) + i) j)) → Q (-1) M')
    (h0 : ∀ i, x ≤ i → i < y → (∀ i', x ≤ i' → i' < i → ∃ I' J' D' W', cvOk (aOf φ i') I J D W (nn i') i' I' J' D' W' (48 * (3 - cv) + i')) → cvNo (aOf φ i) I J D W (nn i) i → ∀ M' I' J' D' W', zA G M M' → VA G M' I' J' D' W' → (∀ v, v / 48 ≠ 3 - cv → sam I J D W I' J' D' W' v) → Q (nI i) M') : fc_X10_convertSlots nm T px (some a) (nI x) (nI y) M Q := by
  have hcv := hX.2.2.2.2.2.2.2.1
  obtain ⟨sp, hsp⟩ : ∃ sp, sp = 3 - cv := ⟨_, rfl⟩
  have hsp2 : sp = 1 ∨ sp = 2 := by omega
  rw [← hsp] at h1 h0
  have k : ∀ m i N I' J' D' W', i + m = y → x ≤ i → zA G M N → VA G N I' J' D' W' → (∀ i', x ≤ i' → i' < i → cvOk (aOf φ i') I J D W (nn i') i' I' J' D' W' (48 * sp + i')) → (∀ v, v / 48 ≠ sp → sam I J D W I' J' D' W' v) → (∀ i', i' < 8 → (i' < x ∨ i ≤ i') → sam I J D W I' J' D' W' (48 * sp + i') ∧ ∀ j, j < 5 → sam I J D W I' J' D' W' (itm (48 * sp + i') j)) → fc_X10_convertSlots_l3 nm T px Q (m + 1) (some a) (nI y) (nI i) N := by
    intro m
    induction m with
    | zero =>
      intro i N I' J' D' W' hi hxi z v q1 q2 q3
      show fc_X10_convertSlots_c3 nm T px Q _ _ _ _ N
      unfold fc_X10_convertSlots_c3
      have e : i = y := by omega
      subst e
      exact br_t (nI_le (by omega) (by omega)) (h1 N I' J' D' W' z v q1 q2 q3)
    | succ m ih =>
      intro i N I' J' D' W' hi hxi z v q1 q2 q3
      show fc_X10_convertSlots_c3 nm T px Q (fc_X10_convertSlots_l3 nm T px Q (m + 1)) _ _ _ N
      have hXN := zA_SX z hX
      have hSN := zA_SA z hS
      have hfN := kT_fmc (zA_kT z) hf
      obtain ⟨n1, n2, n3⟩ := hn i (by omega)
      unfold fc_X10_convertSlots_c3 fc_X10_convertSlots_b66
      refine br_f (nI_ge (by omega) (by omega)) ⟨a, rfl, hf.1, s_X2_argumentAt hfN (by omega) (fun q _ hq => ⟨hX.1, ?_⟩) (fun c => absurd (hk i (by omega)) c)⟩
      rw [hXN.2.2.1]
      refine s_slotAt hXN (r := 0) (by decide) (nI i) (fun j hj e => ?_) (fun e => ?_)
      rotate_left
      · rcases e with e | e
        · exact absurd e (nI_pos (by omega))
        · rw [show (8 : Int32) = nI 8 from rfl, nI_leI (by omega) (by omega)] at e; omega
      rw [nI_eq (by omega) (by omega)] at e
      subst e
      rw [hXN.2.2.2.2.2.2.1, ← hsp]
      refine s_slotAt hXN (r := sp) (by omega) (nI i) (fun j2 hj2 e => ?_) (fun e => ?_)
      rotate_left
      · rcases e with e | e
        · exact absurd e (nI_pos (by omega))
        · rw [show (8 : Int32) = nI 8 from rfl, nI_leI (by omega) (by omega)] at e; omega
      rw [nI_eq (by omega) (by omega)] at e
      subst e
      rw [show 48 * 0 + i = i by omega]
      refine ⟨fun c => (by cases c), fun _ => ⟨fun c => (by cases c), fun _ => ⟨fun c => (by cases c), fun _ => ?_⟩⟩⟩
      have dI : ∀ w, w / 48 = 0 → sam I J D W I' J' D' W' w := fun w hw => q2 w (by omega)
      have di : i / 48 = 0 := by omega
      have dt : ∀ j, j < 5 → itm i j / 48 = 0 := fun j hj => by rw [itm_div (by omega) hj]; omega
      have lt48 : ∀ j, j < 5 → itm i j < 48 := fun j hj => by have := dt j hj; omega
      refine s_X1_convert (n := nn i) hnm hSN v (by omega) (by omega) (by omega) (by omega) (by omega) hq (fun w hw hw2 => ?_) (fun w hw hw2 c => ?_) ((dI i di).1 85 |>.trans n1) n2 (fun j hj => (dI _ (dt j (by omega))).1 85 |>.trans (n3 j hj)) (fun M2 I2 J2 D2 W2 z2 v2 c2 s2 => ⟨fun _ => nm_e ?_, fun c => absurd c (by decide)⟩) (fun c2 M2 I2 J2 D2 W2 z2 v2 s2 => ⟨fun c => absurd rfl c, fun _ => ?_⟩)
      · rw [(dI w (by omega)).1 83]; exact hh w (by omega)
      · rw [(dI w (by omega)).1 83] at c
        rw [(dI w (by omega)).2.2.1]; exact hd w (by omega) c
      · rw [nI_1]
        have c3 : cvOk (aOf φ i) I J D W (nn i) i I2 J2 D2 W2 (48 * sp + i) := cvOk_src c2 (dI i di) (fun j hj => dI _ (dt j (by omega)))
        have ne1 : ∀ i', i' < 8 → i' ≠ i → 48 * sp + i' ≠ 48 * sp + i ∧ (∀ j, j < 5 → 48 * sp + i' ≠ itm (48 * sp + i) j) ∧ ∀ j, j < 5 → itm (48 * sp + i') j ≠ 48 * sp + i ∧ ∀ j2, j2 < 5 → itm (48 * sp + i') j ≠ itm (48 * sp + i) j2 := by
          intro i' hi' hne
          refine ⟨by omega, fun j hj e => itm_top (by omega) (by omega) (by omega) hj e.symm, fun j hj => ⟨itm_top (by omega) (by omega) (by omega) hj, fun j2 hj2 e => ?_⟩⟩
          have := (itm_inj (by omega) (by omega) hj hj2 e).1
          omega
        refine ih (i + 1) M2 I2 J2 D2 W2 (by omega) (by omega) (zA_tr z z2) v2 (fun i' a1 a2 => ?_) (fun w hw => ?_) (fun i' a1 a2 => ?_)
        · by_cases e : i' = i
          · rw [e]; exact c3
          · obtain ⟨b1, b2, b3⟩ := ne1 i' (by omega) e
            have n5 := (hn i' (by omega)).2.1
            exact cvOk_dst (q1 i' a1 (by omega)) (s2 _ b1 b2) (fun j hj => s2 _ (b3 j (by omega)).1 (b3 j (by omega)).2)
        · refine sam_tr (q2 w hw) (s2 w (fun e => ?_) (fun j hj e => ?_))
          · omega
          · have := itm_div (t := 48 * sp + i) (j := j) (by omega) hj
            rw [← e] at this; omega
        · obtain ⟨b1, b2, b3⟩ := ne1 i' a1 (by omega)
          have q := q3 i' a1 (by omega)
          exact ⟨sam_tr q.1 (s2 _ b1 b2), fun j hj => sam_tr (q.2 j hj) (s2 _ (b3 j hj).1 (b3 j hj).2)⟩
      · refine h0 i hxi (by omega) (fun i' a1 a2 => ⟨I', J', D', W', q1 i' a1 a2⟩) (cvNo_src c2 (dI i di) (fun j hj => dI _ (dt j (by omega)))) M2 I2 J2 D2 W2 (zA_tr z z2) v2 (fun w hw => sam_tr (q2 w hw) (s2 w (fun e => ?_) (fun j hj e => ?_)))
        · omega
        · have := itm_div (t := 48 * sp + i) (j := j) (by omega) hj
          rw [← e] at this; omega
  unfold fc_X10_convertSlots
  refine ⟨y - x + 1, k (y - x) x M I J D W (by omega) (Nat.le_refl _) (zA_rf G M) hV (fun i' a1 a2 => by omega) (fun v _ => sam_rf) (fun i' _ _ => ⟨sam_rf, fun j _ => sam_rf⟩)⟩
end CLR
