/-- zone A and the numeral's last number may be other -/
def zX (G : Nat → Nat → Nat) (hN : Nat) (M M' : CM) : Prop := ∃ d, zA G (sD M 40 hN d) M'
theorem zX_SX {G : Nat → Nat → Nat} {T : LY} {M M' : CM} {px hN : Nat} {RW : Nat → Nat} {cv h2 : Nat} (h : zX G h2 M M') (k : SX G T M px hN RW cv) : SX G T M' px hN RW cv := by
  obtain ⟨d, h⟩ := h
  exact zA_SX h (show SX G T (sD M 40 h2 d) px hN RW cv from k)
theorem zX_SA {G : Nat → Nat → Nat} {T : LY} {M M' : CM} {h2 : Nat} (h : zX G h2 M M') (k : SA G T M) : SA G T M' := by
  obtain ⟨d, h⟩ := h
  exact zA_SA h (show SA G T (sD M 40 h2 d) from k)
theorem zX_kT {G : Nat → Nat → Nat} {T : LY} {M M' : CM} {h2 : Nat} (h : zX G h2 M M') : kT T M M' := by
  obtain ⟨d, h⟩ := h
  exact (show kT T (sD M 40 h2 d) M' from zA_kT h)
theorem zA_sD40 {G : Nat → Nat → Nat} {M M' : CM} {h2 : Nat} (h : zA G M M') (d : UInt64) : zA G (sD M 40 h2 d) (sD M' 40 h2 d) := by
  refine ⟨h.1, h.2.1, fun f a n => ?_, h.2.2.2.1, h.2.2.2.2.1, h.2.2.2.2.2.1, h.2.2.2.2.2.2⟩
  rw [cD_sD, cD_sD]
  split
  · rfl
  · exact h.2.2.1 f a n
def numT (w : List Int32) : Option UInt64 := numR (fun i => w.getD i 0) w.length
section CLR
variable {T : LY} {M : CM} {G : Nat → Nat → Nat} {I : Nat → Nat → Int32} {J : Nat → Int64} {D : Nat → UInt64} {W : Nat → List Int32} {px hN cv P t u n : Nat} {RW : Nat → Nat}
theorem s_findNumber (hX : SX G T M px hN RW cv) (hS : SA G T M) (hV : VA G M I J D W) (ht : t < 144) {Q : CM → Prop} (h : ∀ M', zX G hN M M' → VA G M' (upI I 83 t (bI (numT (W t)).isSome)) J (va_up D t ((numT (W t)).getD FP.dconst0)) W → Q M') : fc_X10_findNumber T px (some (G 0 t)) M Q := by
  have hl : (W t).length < 100 := by
    have h1 := (hV.2 t (by omega)).2.1
    have : rm t ≤ 84 := by unfold rm; rw [if_neg (by omega)]; split <;> omega
    omega
  have hN5 := hX.2.2.2.2.1
  have e104 := hX.2.2.2.1
  have k : ∀ b d, nZ b → (∀ M', zA G (sD M 40 hN d) M' → VA G M' (upI I 83 t b) J (va_up D t d) W → Q M') → ∃ p9 : Nat, cR (sD M 40 hN d) 104 px = some p9 ∧ (tg T p9 = 5 ∧ fc_X8_knowNumber T (G 0 t) b (cD (sD M 40 hN d) 40 p9) (sD M 40 hN d) (fun M11 => Q M11)) := by
    intro b d hb q
    refine ⟨hN, e104, hN5, ?_⟩
    rw [cD_sD, if_pos ⟨rfl, rfl⟩]
    exact s_X8_knowNumber (show SA G T (sD M 40 hN d) from hS) (VA_sD40 hV d) ht hb d (fun M' z v => q M' z v)
  unfold fc_X10_findNumber
  refine ⟨hX.1, _, rfl, (hS.2.1 t ht).1, hN, e104, hN5, ?_⟩
  rw [(hS.2.1 t ht).2.1]
  refine s_X4_read hS hV (by omega) hl hN5 (fun v e => k 1 v nZ_1 (fun M' z w => h M' ⟨v, z⟩ ?_)) (fun e => k 0 FP.dconst0 nZ_0 (fun M' z w => h M' ⟨_, z⟩ ?_))
  · rw [show numT (W t) = some v from e]; exact w
  · rw [show numT (W t) = none from e]; exact w
/-- a text told -/
theorem s_text (hX : SX G T M px hN RW cv) (hS : SA G T M) (hV : VA G M I J D W) (s a b c : Int32) {X : Nat → CM → Prop} {Q : Int32 → CM → Prop}
    (h1 : ∀ j, j < 8 → s = nI j → ∀ M', zX G hN M M' → VA G M' (upI (bec I j 5) 83 j (bI (numT (sg4 a ++ (sg4 b ++ sg4 c))).isSome)) (va_up J j 0) (va_up D j ((numT (sg4 a ++ (sg4 b ++ sg4 c))).getD FP.dconst0)) (va_up W j (sg4 a ++ (sg4 b ++ sg4 c))) → Q (nI (sg4 a ++ (sg4 b ++ sg4 c)).length) M')
    (h0 : (s < 0 ∨ 8 ≤ s) → X 1 M) : fc_X10_text T X px s a b c M Q := by
  have sl : ∀ a, (sg4 a).length ≤ 4 := fun a => by
    have s1 : ∀ c, (sg1 c).length ≤ 1 := fun c => by unfold sg1; split <;> simp
    have := s1 (by8 a 24); have := s1 (by8 a 16); have := s1 (by8 a 8); have := s1 (by8 a 0)
    unfold sg4; simp only [List.length_append]; omega
  have ha := sl a; have hb := sl b; have hc := sl c
  unfold fc_X10_text
  refine ⟨hX.1, ?_⟩
  rw [hX.2.2.1]
  refine s_slotAt hX (r := 0) (by decide) s (fun j hj e => ⟨fun _ => ?_, fun z => by cases z⟩) (fun e => ⟨fun z => absurd rfl z, fun _ => h0 e⟩)
  rw [show 48 * 0 + j = j by omega]
  have t8 := (hS.1 j (by omega)).1
  refine ⟨_, rfl, (hS.2.1 j (by omega)).1, s_X8_become hS hV (by omega) 5 (fun M1 z1 v1 => ⟨_, ((zA_SA z1 hS).2.1 j (by omega)).2.1, t8, ?_⟩)⟩
  refine s_X7_appendSigns (zA_SA z1 hS) v1 (by omega) a (fun M2 z2 v2 => ?_)
  have z12 := zA_tr z1 z2
  refine ⟨_, ((zA_SA z12 hS).2.1 j (by omega)).2.1, t8, s_X7_appendSigns (zA_SA z12 hS) v2 (by omega) b (fun M3 z3 v3 => ?_)⟩
  have z13 := zA_tr z12 z3
  refine ⟨_, ((zA_SA z13 hS).2.1 j (by omega)).2.1, t8, s_X7_appendSigns (zA_SA z13 hS) v3 (by omega) c (fun M4 z4 v4 => ?_)⟩
  have z14 := zA_tr z13 z4
  simp only [va_up2, va_ups, puts_puts] at v4
  rw [puts_app _ _ _ (by rw [rm_top (by omega) (by omega)]; simp only [List.length_append, List.length_nil]; omega)] at v4
  simp only [List.append_assoc, List.nil_append] at v4
  refine s_findNumber (zA_SX z14 hX) (zA_SA z14 hS) v4 (by omega) (fun M5 z5 v5 => ?_)
  have hS5 := zX_SA z5 (zA_SA z14 hS)
  rw [va_ups, va_up2] at v5
  refine ⟨_, (hS5.2.1 j (by omega)).2.1, t8, ?_⟩
  rw [(v5.2 j (by omega)).1, va_ups]
  obtain ⟨d, z5⟩ := z5
  exact h1 j hj e M5 ⟨d, zA_tr (zA_sD40 z14 d) z5⟩ v5
theorem s_erase (hX : SX G T M px hN RW cv) (hS : SA G T M) (hV : VA G M I J D W) {Q : Int32 → CM → Prop} (h : ∀ M', zA G M M' → VA G M' I J D (va_up W 144 []) → Q (nI (W 144).length) M') : fc_X10_erase T px M Q := by
  unfold fc_X10_erase
  exact ⟨hX.1, _, hX.2.1, (hS.1 144 (by decide)).1, nm_r (hV.2 144 (by decide)).1 (nm_e (h _ (zA_sI G M 71 _ _ (Or.inl rfl)) (VA_cut hS hV (by decide))))⟩
end CLR
