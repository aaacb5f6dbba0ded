/-- what 'simple' makes of a slot, and whether it has a number then -/
def smpV : Nat → Rv × Int32
  | 0 => ((7, 0, FP.dconst0, sText 12), 0)
  | 1 => ((8, 0, FP.dconst0, sText 13), 1)
  | 2 => ((2, 0, FP.i2d 0, sText 14), 1)
  | 3 => ((2, 1, FP.i2d 1, sText 15), 1)
  | _ => ((6, 0, FP.dconst0, []), 1)
theorem numT_nil : numT [] = some FP.dconst0 := by
  unfold numT numR
  exact if_pos rfl
section CLR
variable {T : LY} {M : CM} {G : Nat → Nat → Nat} {I : Nat → Nat → Int32} {J : Nat → Int64} {D : Nat → UInt64} {W : Nat → List Int32} {px hN cv P t u n : Nat} {RW : Nat → Nat}
theorem s_simple (hX : SX G T M px hN RW cv) (hS : SA G T M) (hV : VA G M I J D W) (s w : Int32) {X : Nat → CM → Prop} {Q : CM → Prop}
    (h1 : ∀ j m, j < 8 → m ≤ 4 → s = nI j → w = nI m → ∀ M' I' J' D' W', zX G hN M M' → VA G M' I' J' D' W' → isRv I' J' D' W' j (smpV m).1 → I' 83 j = (smpV m).2 → I' 85 j = 0 → (∀ v, v ≠ j → sam I J D W I' J' D' W' v) → Q M')
    (h0 : (s < 0 ∨ 8 ≤ s ∨ w < 0 ∨ 4 < w) → X 1 M) : fc_X10_simple T X px s w M Q := by
  have zx : ∀ {N}, zA G M N → zX G hN M N := fun {N} z => ⟨cD M 40 hN, ⟨z.1, z.2.1, fun f a n => by
    rw [cD_sD]
    split
    · rename_i c; rw [z.2.2.1 f a n, c.1, c.2]
    · exact z.2.2.1 f a n, z.2.2.2.1, z.2.2.2.2.1, z.2.2.2.2.2.1, z.2.2.2.2.2.2⟩⟩
  unfold fc_X10_simple fc_X10_simple_b22
  refine ⟨hX.1, ?_⟩
  rw [hX.2.2.1]
  refine s_slotAt hX (r := 0) (by decide) s (fun j hj e => ⟨fun z => (by cases z), fun _ => ⟨fun c => h0 (Or.inr (Or.inr (Or.inl c))), fun c => ?_⟩⟩) (fun e => ⟨fun _ => h0 (e.elim Or.inl (fun z => Or.inr (Or.inl z))), fun z => absurd rfl z⟩)
  rw [show 48 * 0 + j = j by omega]
  obtain ⟨m, hm, rfl⟩ := nI_of c
  have t9 := (hS.2.1 j (by omega)).1
  have t8 := (hS.1 j (by omega)).1
  have hj144 : j < 144 := by omega
  have r84 := rm_top hj144 (show j % 48 < 8 by omega)
  unfold fc_X10_simple_b125
  refine pk_le m 4 (fun c4 => ?_) (fun c4 => h0 (Or.inr (Or.inr (Or.inr (nI_lt (a := 4) c4 hm)))))
  have b99 : ∀ N (i : Nat) (sn : Nat) (wd : Int64), zA G M N → (i = 2 ∧ sn = 14 ∧ wd = 0 ∨ i = 3 ∧ sn = 15 ∧ wd = 1) → m = i → VA G N (bec I j 2) (va_up J j wd) (va_up D j FP.dconst0) (va_up W j []) → fc_X10_simple_b99 T X px Q (nI i) (some (G 0 j)) sn (cR N 84 (G 0 j)) N := by
    intro N i sn wd z hc hi v
    unfold fc_X10_simple_b99 fc_X10_simple_b125
    have hsn : sn < 16 := by omega
    refine ⟨_, ((zA_SA z hS).2.1 j hj144).2.1, t8, s_X7_appendLetters (zA_SA z hS) v (by omega) hsn (fun N2 z2 v2 => ⟨_, rfl, t9, s_X8_knowNumber (zA_SA (zA_tr z z2) hS) v2 hj144 nZ_1 _ (fun N3 z3 v3 => ?_)⟩)⟩
    have hlen := sLen_le hsn
    have hlen2 : (sText sn).length ≤ 9 := hlen
    rw [va_up2, va_ups, va_up2, puts_app _ _ _ (by rw [r84, List.length_nil]; omega)] at v3
    refine h1 j m hj c4 e rfl N3 _ _ _ _ (zx (zA_tr (zA_tr z z2) z3)) v3 ?_ ?_ ?_ (fun v hv => ⟨fun g => ?_, va_upn _ _ hv, va_upn _ _ hv, va_upn _ _ hv⟩)
    · rcases hc with ⟨ea, eb, ec⟩ | ⟨ea, eb, ec⟩
      · subst hi ea eb ec
        exact ⟨by rw [upI_f _ _ (by decide), bec_80]; rfl, va_ups _ _ _, by rw [va_ups]; rfl, va_ups _ _ _⟩
      · subst hi ea eb ec
        exact ⟨by rw [upI_f _ _ (by decide), bec_80]; rfl, va_ups _ _ _, by rw [va_ups]; rfl, va_ups _ _ _⟩
    · rw [upI_s]
      rcases hc with ⟨ea, -, -⟩ | ⟨ea, -, -⟩
      · subst hi ea; rfl
      · subst hi ea; rfl
    · rw [upI_f _ _ (by decide), bec_85]
    · rw [upI_n _ _ hv, bec_n _ _ _ hv]
  have hm5 : m = 0 ∨ m = 1 ∨ m = 2 ∨ m = 3 ∨ m = 4 := by omega
  rcases hm5 with q | q | q | q | q
  · subst q
    refine ⟨fun z => absurd rfl z, fun _ => ⟨_, rfl, t9, s_X8_becomeNamed hS hV hj144 7 (by decide) (fun N z v => h1 j 0 hj c4 e rfl N _ _ _ _ (zx z) v ⟨bec_80 _ _ _, va_ups _ _ _, va_ups _ _ _, va_ups _ _ _⟩ (bec_83 _ _ _) (bec_85 _ _ _) (fun v hv => ⟨fun g => bec_n _ _ g hv, va_upn _ _ hv, va_upn _ _ hv, va_upn _ _ hv⟩))⟩⟩
  · subst q
    refine ⟨fun _ => ⟨fun z => absurd rfl z, fun _ => ⟨_, rfl, t9, s_X8_becomeNamed hS hV hj144 8 (by decide) (fun N z v => s_X8_knowNumber (zA_SA z hS) v hj144 nZ_1 _ (fun N2 z2 v2 => ?_))⟩⟩, fun z => absurd z (by decide)⟩
    rw [va_up2] at v2
    refine h1 j 1 hj c4 e rfl N2 _ _ _ _ (zx (zA_tr z z2)) v2 ⟨?_, va_ups _ _ _, va_ups _ _ _, va_ups _ _ _⟩ (upI_s _ _ _ _) ?_ (fun v hv => ⟨fun g => ?_, va_upn _ _ hv, va_upn _ _ hv, va_upn _ _ hv⟩)
    · rw [upI_f _ _ (by decide), bec_80]; rfl
    · rw [upI_f _ _ (by decide), bec_85]
    · rw [upI_n _ _ hv, bec_n _ _ _ hv]
  · subst q
    refine ⟨fun _ => ⟨fun _ => ⟨fun z => absurd z (by decide), fun _ => ⟨_, rfl, t9, s_X8_becomeWhole hS hV hj144 2 _ (fun N z v => ⟨fun z2 => absurd rfl z2, fun _ => b99 N 2 14 0 z (Or.inl ⟨rfl, rfl, rfl⟩) rfl v⟩)⟩⟩, fun z => absurd z (by decide)⟩, fun z => absurd z (by decide)⟩
  · subst q
    refine ⟨fun _ => ⟨fun _ => ⟨fun z => absurd z (by decide), fun _ => ⟨_, rfl, t9, s_X8_becomeWhole hS hV hj144 2 _ (fun N z v => ⟨fun _ => b99 N 3 15 1 z (Or.inr ⟨rfl, rfl, rfl⟩) rfl v, fun z2 => absurd z2 (by decide)⟩)⟩⟩, fun z => absurd z (by decide)⟩, fun z => absurd z (by decide)⟩
  · subst q
    refine ⟨fun _ => ⟨fun _ => ⟨fun _ => ⟨_, rfl, t9, s_X8_become hS hV hj144 6 (fun N z v => s_findNumber (zA_SX z hX) (zA_SA z hS) v hj144 (fun N2 z2 v2 => ?_))⟩, fun z => absurd (by decide) z⟩, fun z => absurd z (by decide)⟩, fun z => absurd z (by decide)⟩
    rw [va_ups, va_up2, numT_nil] at v2
    obtain ⟨d, z2⟩ := z2
    refine h1 j 4 hj c4 e rfl N2 _ _ _ _ ⟨d, zA_tr (zA_sD40 z d) z2⟩ v2 ⟨?_, va_ups _ _ _, va_ups _ _ _, va_ups _ _ _⟩ (upI_s _ _ _ _) ?_ (fun v hv => ⟨fun g => ?_, va_upn _ _ hv, va_upn _ _ hv, va_upn _ _ hv⟩)
    · rw [upI_f _ _ (by decide), bec_80]; rfl
    · rw [upI_f _ _ (by decide), bec_85]
    · rw [upI_n _ _ hv, bec_n _ _ _ hv]
end CLR
