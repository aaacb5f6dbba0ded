section CLR
variable {nm : Nat → Nat} {T : LY} {M : CM} {G : Nat → Nat → Nat} {I : Nat → Nat → Int32} {J : Nat → Int64} {D : Nat → UInt64} {W : Nat → List Int32} {px hN cv a n : Nat} {RW : Nat → Nat} {φ : List Ag}
theorem s_finish (hX : SX G T M px hN RW cv) (hS : SA G T M) (hV : VA G M I J D W) (hf : fmc nm T M a φ) (hn : n ≤ 8) {Q : Int32 → CM → Prop}
    (h : ∀ M' N I' J' D' W', zA G M N → M' = sI (sI (sR (sR N 105 px (some (RW (3 - cv)))) 106 px (some (RW cv))) 107 px (nI (if n < φ.length then φ.length else n))) 108 px (-1) → VA G M' I' J' D' W' → (∀ i, n ≤ i → i < φ.length → isRv I' J' D' W' (48 * (3 - cv) + i) (0, 0, FP.dconst0, []) ∧ I' 85 (48 * (3 - cv) + i) = 0) → (∀ v, (∀ i, n ≤ i → i < φ.length → v ≠ 48 * (3 - cv) + i) → sam I J D W I' J' D' W' v) → Q (cI M 21 a) M') : fc_X10_finish T px (some a) (nI n) M Q := by
  have h5 := hf.2.1
  have hcv := hX.2.2.2.2.2.2.2.1
  have k : ∀ m i N I' J' D' W', (φ.length - i) + 1 = m → n ≤ i → zA G M N → VA G N I' J' D' W' → (∀ i', n ≤ i' → i' < i → i' < φ.length → isRv I' J' D' W' (48 * (3 - cv) + i') (0, 0, FP.dconst0, []) ∧ I' 85 (48 * (3 - cv) + i') = 0) → (∀ v, (∀ i', n ≤ i' → i' < i → i' < φ.length → v ≠ 48 * (3 - cv) + i') → sam I J D W I' J' D' W' v) → i ≤ 8 → fc_X10_finish_l2 T px Q m (some a) (nI n) (nI i) N := by
    intro m
    induction m with
    | zero => intro i N I' J' D' W' hm; omega
    | succ m ih =>
      intro i N I' J' D' W' hm hni z v q1 q2 hi8
      show fc_X10_finish_c2 T px Q (fc_X10_finish_l2 T px Q m) _ _ _ N
      have hXN := zA_SX z hX
      have hSN := zA_SA z hS
      have hfN := kT_fmc (zA_kT z) hf
      unfold fc_X10_finish_c2 fc_X10_finish_b31
      refine ⟨a, rfl, hf.1, ?_⟩
      rw [hfN.2.2.1]
      refine pk_le φ.length i (fun c => ⟨hX.1, ?_⟩) (fun c => ⟨hX.1, ?_⟩)
      · rw [hXN.2.2.2.2.2.2.1]
        refine nm_e ?_
        have e105 : cR N 105 px = some (RW cv) := hXN.2.2.2.2.2.1
        rw [e105]
        refine nm_e (nm_r (e' := sI (sR (sR N 105 px (some (RW (3 - cv)))) 106 px (some (RW cv))) 107 px (nI (if n < φ.length then φ.length else n))) ?_ (nm_e ?_))
        · have e23 : cI (sR (sR N 105 px (some (RW (3 - cv)))) 106 px (some (RW cv))) 23 a = nI φ.length := hfN.2.2.1
          rw [e23]
          by_cases d : n < φ.length
          · rw [if_pos ((nI_ltI (by omega) (by omega)).mpr d), if_pos d]
          · rw [if_neg (fun y => d ((nI_ltI (by omega) (by omega)).mp y)), if_neg d]
        · obtain ⟨M', hM'⟩ : ∃ M', M' = sI (sI (sR (sR N 105 px (some (RW (3 - cv)))) 106 px (some (RW cv))) 107 px (nI (if n < φ.length then φ.length else n))) 108 px (-1) := ⟨_, rfl⟩
          rw [← hM']
          have ci : ∀ f b, f ≠ 107 → f ≠ 108 → cI M' f b = cI N f b := fun f b n1 n2 => by
            rw [hM', cI_sI, if_neg (fun y => n2 y.1), cI_sI, if_neg (fun y => n1 y.1)]; rfl
          have e21 : cI M' 21 a = cI M 21 a := by rw [ci 21 a (by decide) (by decide), z.1 21 a (by decide) (by decide)]
          rw [e21]
          refine h M' N I' J' D' W' z hM' ⟨fun u hu => ?_, fun u hu => ?_⟩ (fun i' a1 a2 => q1 i' a1 (by omega) a2) (fun v hv => q2 v (fun i' a1 _ a2 => hv i' a1 a2))
          · obtain ⟨⟨b1, b2, b3⟩, b4, b5, b6⟩ := v.1 u hu
            refine ⟨⟨?_, ?_, ?_⟩, ?_, ?_, b6⟩
            · rw [ci _ _ (by decide) (by decide)]; exact b1
            · rw [ci _ _ (by decide) (by decide)]; exact b2
            · rw [ci _ _ (by decide) (by decide)]; exact b3
            · rw [hM']; exact b4
            · rw [hM']; exact b5
          · obtain ⟨b1, b2, b3⟩ := v.2 u hu
            refine ⟨?_, b2, fun j hj => ?_⟩
            · rw [ci _ _ (by decide) (by decide)]; exact b1
            · rw [hM']; exact b3 j hj
      · rw [hXN.2.2.2.2.2.2.1]
        refine s_slotAt hXN (r := 3 - cv) (by omega) (nI i) (fun j hj e => ?_) (fun e => ?_)
        · rw [nI_eq (by omega) (by omega)] at e
          subst e
          refine ⟨fun y => (by cases y), fun _ => ⟨_, rfl, (hSN.2.1 _ (by omega)).1, s_X8_become hSN v (by omega) 0 (fun N2 z2 v2 => nm_e ?_)⟩⟩
          rw [nI_1]
          refine ih (i + 1) N2 _ _ _ _ (by omega) (by omega) (zA_tr z z2) v2 (fun i' a1 a2 a3 => ?_) (fun w hw => ?_) (by omega)
          · by_cases e : i' = i
            · rw [e]; exact ⟨⟨bec_80 _ _ _, va_ups _ _ _, va_ups _ _ _, va_ups _ _ _⟩, bec_85 _ _ _⟩
            · have ne : 48 * (3 - cv) + i' ≠ 48 * (3 - cv) + i := by omega
              have q := q1 i' a1 (by omega) a3
              exact ⟨⟨(bec_n _ _ _ ne).trans q.1.1, (va_upn _ _ ne).trans q.1.2.1, (va_upn _ _ ne).trans q.1.2.2.1, (va_upn _ _ ne).trans q.1.2.2.2⟩, (bec_n _ _ _ ne).trans q.2⟩
          · have ne := hw i hni (by omega) c
            have q := q2 w (fun i' a1 a2 a3 => hw i' a1 (by omega) a3)
            exact ⟨fun g => (bec_n _ _ g ne).trans (q.1 g), (va_upn _ _ ne).trans q.2.1, (va_upn _ _ ne).trans q.2.2.1, (va_upn _ _ ne).trans q.2.2.2⟩
        · rcases e with e | e
          · exact absurd e (nI_pos (by omega))
          · rw [show (8 : Int32) = nI 8 from rfl, nI_leI (by omega) (by omega)] at e; omega
  exact ⟨_, k _ n M I J D W rfl (Nat.le_refl _) (zA_rf G M) hV (fun i' a1 a2 _ => by omega) (fun v _ => sam_rf) hn⟩
end CLR
