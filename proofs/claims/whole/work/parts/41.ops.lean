section OPR
variable {nm : Nat → Nat} {T : LY} {M : CM} {O : Nat → Nat} {fs gs : List (Nat × List Ag)}
theorem s_X5_clear (hS : SO T M O) (hV : VO nm T M O fs gs) {Q : CM → Prop} (h : VO nm T (sI M 51 (O 0) 0) O [] gs → kT T M (sI M 51 (O 0) 0) → Q (sI M 51 (O 0) 0)) : fc_X5_clear T (O 0) M Q := by
  have kt : kT T M (sI M 51 (O 0) 0) := ⟨fun f a _ q => by rw [cI_sI, if_neg (fun z => by omega)], fun _ _ _ => rfl, fun _ _ => rfl, fun _ _ _ => rfl⟩
  unfold fc_X5_clear
  refine ⟨hS.1, nm_e (h ⟨Nat.zero_le _, ?_, fun i hi => absurd hi (Nat.not_lt_zero i), hV.2.2.2.1, ?_, fun i hi => ⟨(hV.2.2.2.2.2 i hi).1, kT_fmc kt (hV.2.2.2.2.2 i hi).2⟩⟩ kt)⟩
  · rw [cI_sI, if_pos ⟨rfl, rfl⟩]; rfl
  · rw [cI_sI, if_neg (fun z => by omega)]; exact hV.2.2.2.2.1
theorem s_X5_append (hS : SO T M O) (hV : VO nm T M O fs gs) {p : Nat × List Ag} (hp : fmc nm T M p.1 p.2) {Q : Int32 → CM → Prop} (hfull : ¬ fs.length < 6 → Q (-4) M)
    (h : fs.length < 6 → ∀ M', M' = sI (yR (sI M 21 p.1 (nI fs.length)) (O 1) fs.length (some p.1)) 51 (O 0) (nI (fs.length + 1)) → VO nm T M' O (fs ++ [p]) gs → kT T M M' → cI M' 21 p.1 = nI fs.length → Q (nI fs.length) M') : fc_X5_append T (O 0) (some p.1) M Q := by
  obtain ⟨s1, s2, s3, s4, s5, s6, s7, s8⟩ := hS
  obtain ⟨v1, v2, v3, v4, v5, v6⟩ := hV
  unfold fc_X5_append fc_X5_append_b19
  rw [v2]
  refine ⟨s1, br_f (nI_pos (by omega)) ⟨O 1, s2, s3, ?_⟩⟩
  rw [s4]
  refine pk_lt fs.length 6 (fun c => ⟨_, rfl, hp.1, nm_e ⟨O 1, s2, s3, ?_⟩⟩) (fun c => hfull (by omega))
  have e51 : cI (sI M 21 p.1 (nI fs.length)) 51 (O 0) = nI fs.length := by
    rw [cI_sI, if_neg (fun z => by omega)]; exact v2
  rw [e51, s4]
  refine ⟨vp_in_nI c (by decide), nm_e (nm_e ?_)⟩
  rw [nI_clamp (by omega)]
  have e51' : cI (yR (sI M 21 p.1 (nI fs.length)) (O 1) fs.length (some p.1)) 51 (O 0) = nI fs.length := e51
  rw [e51', nI_1]
  obtain ⟨N, hN⟩ : ∃ N, N = sI (yR (sI M 21 p.1 (nI fs.length)) (O 1) fs.length (some p.1)) 51 (O 0) (nI (fs.length + 1)) := ⟨_, rfl⟩
  rw [← hN]
  have e21 : cI N 21 p.1 = nI fs.length := by
    rw [hN, cI_sI, if_neg (fun z => by omega)]
    show cI (sI M 21 p.1 (nI fs.length)) 21 p.1 = _
    rw [cI_sI, if_pos ⟨rfl, rfl⟩]
  have kt : kT T M N := by
    refine ⟨fun f a n q => ?_, fun f a _ => by rw [hN]; rfl, fun a i => by rw [hN]; rfl, fun a i q => ?_⟩
    · rw [hN, cI_sI, if_neg (fun z => by omega)]
      show cI (sI M 21 p.1 (nI fs.length)) f a = _
      rw [cI_sI, if_neg (fun z => n z.1)]
    · rw [hN]
      show xR (yR (sI M 21 p.1 (nI fs.length)) (O 1) fs.length (some p.1)) a i = _
      rw [xR_yR, if_neg (fun z => by rw [z.1, s3] at q; omega)]
      rfl
  rw [e21]
  refine h c N hN ⟨?_, ?_, fun i hi => ?_, v4, ?_, fun i hi => ⟨?_, kT_fmc kt (v6 i hi).2⟩⟩ kt e21
  · rw [List.length_append, List.length_singleton]; omega
  · rw [hN, cI_sI, if_pos ⟨rfl, rfl⟩, List.length_append]; rfl
  · rw [List.length_append, List.length_singleton] at hi
    have ex : xR N (O 1) i = if O 1 = O 1 ∧ i = fs.length then some p.1 else xR M (O 1) i := by
      rw [hN]
      show xR (yR (sI M 21 p.1 (nI fs.length)) (O 1) fs.length (some p.1)) (O 1) i = _
      rw [xR_yR]; rfl
    by_cases y : i = fs.length
    · subst y
      have e : (fs ++ [p]).getD fs.length (0, []) = p := by simp
      rw [ex, if_pos ⟨rfl, rfl⟩, e]
      exact ⟨rfl, kT_fmc kt hp⟩
    · have e : (fs ++ [p]).getD i (0, []) = fs.getD i (0, []) := by
        rw [List.getD_eq_getElem?_getD, List.getD_eq_getElem?_getD, List.getElem?_append_left (by omega)]
      rw [ex, if_neg (fun z => y z.2), e]
      exact ⟨(v3 i (by omega)).1, kT_fmc kt (v3 i (by omega)).2⟩
  · rw [hN, cI_sI, if_neg (fun z => by omega)]
    show cI (sI M 21 p.1 (nI fs.length)) 53 (O 0) = _
    rw [cI_sI, if_neg (fun z => by omega)]; exact v5
  · rw [hN]
    show xR (yR (sI M 21 p.1 (nI fs.length)) (O 1) fs.length (some p.1)) (O 2) i = _
    rw [xR_yR, if_neg (fun z => s8 z.1.symm)]
    exact (v6 i hi).1
end OPR
