section MK
variable {E : Nat → Prop} {T T' T0 : LY} {M M' M0 : CM}
theorem xE_GP {g : Nat → Nat → Nat} {v0 : Nat} (k : xE E T M T' M') (h1 : ∀ a, E a → tg T a ≠ 9 ∧ tg T a ≠ 8 ∧ tg T a ≠ 20) (h2 : ¬ E (g 3 0)) (h : GP T M g v0) : GP T' M' g v0 := by
  obtain ⟨a, b, c, d, e⟩ := h
  have nu : ∀ {h x y n : Nat} {it : Option Nat} {L : List Int32}, NU T M h x y n it L → NU T' M' h x y n it L := fun u => xE_NU k (fun z => (h1 _ z).1 u.1.1) (fun z => (h1 _ z).2.1 u.1.2.1) (fun z => (h1 _ z).2.2 u.1.2.2.1) u
  have kb := k (g 3 0) (by rw [b.1]; decide)
  have kc := k v0 (by rw [c.1]; decide)
  have sb := kb.2 h2
  exact ⟨nu a, ⟨kb.1.1.trans b.1, kb.1.2.trans b.2⟩, ⟨kc.1.1.trans c.1, kc.1.2.trans c.2⟩, fun j hj => ⟨nu (d j hj).1, (sb.2.2.2.2.2.2 j).trans (d j hj).2⟩, e⟩
theorem GP_tg {g : Nat → Nat → Nat} {v0 : Nat} (h : GP T M g v0) {k i : Nat} (hk : k < 3) (hi : i < 6) : tg T (g k i) ≠ 0 := by
  have t : ∀ {h x y n : Nat} {it : Option Nat} {L : List Int32}, NU T M h x y n it L → tg T h ≠ 0 ∧ tg T x ≠ 0 ∧ tg T y ≠ 0 := fun u => NU_tg u
  by_cases c : i = 0
  · subst c
    have u := t h.1
    match k, hk with
    | 0, _ => exact u.1
    | 1, _ => exact u.2.1
    | 2, _ => exact u.2.2
  · have u := t (h.2.2.2.1 (i - 1) (by omega)).1
    rw [show 1 + (i - 1) = i by omega] at u
    match k, hk with
    | 0, _ => exact u.1
    | 1, _ => exact u.2.1
    | 2, _ => exact u.2.2
/-- the first n of a row of things -/
def RO (T : LY) (M : CM) (r : Nat) (gs : Nat → Nat → Nat → Nat) (e : Nat → Nat) (n : Nat) : Prop := (tg T r = 28 ∧ ln T r = 8) ∧ (∀ s, s < n → xR M r s = some (gs s 0 0) ∧ GP T M (gs s) (e s) ∧ gs s 3 0 ≠ r) ∧ ∀ s, s < n → ∀ s', s' < n → s ≠ s' → ∀ k, k < 3 → ∀ i, i < 6 → ∀ i', i' < 6 → gs s k i ≠ gs s' k i'
def FR (T : LY) (gs : Nat → Nat → Nat → Nat) (n : Nat) : Prop := ∀ s, s < n → (∀ k, k < 3 → ∀ i, i < 6 → tg T (gs s k i) = 0) ∧ tg T (gs s 3 0) = 0
theorem xE_RO {r n : Nat} {gs : Nat → Nat → Nat → Nat} {e : Nat → Nat} (k : xE E T M T' M') (h1 : ∀ a, E a → tg T a ≠ 9 ∧ tg T a ≠ 8 ∧ tg T a ≠ 20 ∧ tg T a ≠ 28) (h : RO T M r gs e n) : RO T' M' r gs e n := by
  obtain ⟨a, b, c⟩ := h
  have kr := k r (by rw [a.1]; decide)
  have sr := kr.2 (fun z => (h1 _ z).2.2.2 a.1)
  exact ⟨⟨kr.1.1.trans a.1, kr.1.2.trans a.2⟩, fun s hs => ⟨(sr.2.2.2.2.2.2 s).trans (b s hs).1, xE_GP k (fun a z => ⟨(h1 a z).1, (h1 a z).2.1, (h1 a z).2.2.1⟩) (fun z => (h1 _ z).2.2.2 (b s hs).2.1.2.1.1) (b s hs).2.1, (b s hs).2.2⟩, c⟩
theorem s_row {Q : Option Nat → LY → CM → Prop} (k : ∀ T' M' r gs e, xE (fun _ => False) T0 M0 T' M' → tg T0 r = 0 → RO T' M' r gs e 8 → FR T0 gs 8 → Q (some r) T' M') : fc_X10_rowOfThings 161 1792 T0 M0 Q := by
  unfold fc_X10_rowOfThings
  rw [show (8 : Int32).toNatClampNeg = 8 from rfl]
  refine ⟨by decide, by decide, by decide, by decide, fun r T1 M1 hr eT eM => ⟨9, ?_⟩⟩
  have x1 : xE (fun _ => False) T0 M0 T1 M1 := by rw [eT, eM]; exact xE_mk M0 28 8 hr
  have w1 : RO T1 M1 r (fun _ _ _ => 0) (fun _ => 0) 0 := ⟨⟨by rw [eT, tg_mk, if_pos rfl], by rw [eT, ln_mk, if_pos rfl]⟩, fun s hs => absurd hs (Nat.not_lt_zero s), fun s hs => absurd hs (Nat.not_lt_zero s)⟩
  have lp : ∀ m i T M gs e, i + m = 8 → xE (fun _ => False) T0 M0 T M → RO T M r gs e i → FR T0 gs i → fc_X10_rowOfThings_l8 161 1792 Q (m + 1) r (nI i) T M (1 + 20 * i) (8 + 223 * i) := by
    intro m
    induction m with
    | zero =>
      intro i T M gs e hi x w f
      have ei : i = 8 := by omega
      subst ei
      show fc_X10_rowOfThings_c8 161 1792 Q _ r _ T M _ _
      unfold fc_X10_rowOfThings_c8
      rw [w.1.2]
      exact ⟨w.1.1, br_t (nI_le (by omega) (by omega)) ⟨by decide, by decide, k T M r gs e x hr w f⟩⟩
    | succ m ih =>
      intro i T M gs e hi x w f
      show fc_X10_rowOfThings_c8 161 1792 Q (fc_X10_rowOfThings_l8 161 1792 Q (m + 1)) r _ T M _ _
      unfold fc_X10_rowOfThings_c8
      rw [w.1.2]
      refine ⟨w.1.1, br_f (nI_ge (by omega) (by omega)) ⟨20, 223, by omega, by omega, s_withItems (fun T5 M3 g v0 x5 gp fr fr3 => ?_)⟩⟩
      have kr := x5 r (by rw [w.1.1]; decide)
      have sr := kr.2 (fun z => z)
      have r28 : tg T5 r = 28 := kr.1.1.trans w.1.1
      have r8 : ln T5 r = 8 := kr.1.2.trans w.1.2
      refine ⟨r28, _, rfl, gp.1.1.1, ?_, nm_e (nm_r (nI_1 i) ?_)⟩
      · rw [r8]; exact vp_in_nI (by omega) (by omega)
      rw [nI_clamp (by omega), show 1 + 20 * i + 20 = 1 + 20 * (i + 1) by omega, show 8 + 223 * i + 223 = 8 + 223 * (i + 1) by omega]
      have x9 : xE (fun a => a = r) T5 M3 T5 (yR M3 r i (some (g 0 0))) := xE_yR i _ rfl
      have g3 : g 3 0 ≠ r := fun z => by rw [z, w.1.1] at fr3; exact absurd fr3 (by decide)
      have up : ∀ {g' : Nat → Nat → Nat} {v : Nat}, g' 3 0 ≠ r → GP T5 M3 g' v → GP T5 (yR M3 r i (some (g 0 0))) g' v := fun n q => xE_GP x9 (fun a z => by rw [z, r28]; exact ⟨by decide, by decide, by decide⟩) n q
      refine ih (i + 1) T5 _ (fun s => if s = i then g else gs s) (fun s => if s = i then v0 else e s) (by omega) (xE_dr (E := fun a => a = r) (xE_tr (xE_dr x (fun e he => he.elim)) (xE_tr (xE_dr x5 (fun e he => he.elim)) x9)) (fun e he => Or.inl (by rw [he]; exact hr))) ⟨⟨r28, r8⟩, fun s hs => ?_, fun s hs s' hs' ns k hk j hj j' hj' e2 => ?_⟩ (fun s hs => ?_)
      · by_cases c : s = i
        · subst c
          simp only [if_pos]
          exact ⟨by rw [xR_yR, if_pos ⟨rfl, rfl⟩], up g3 gp, g3⟩
        · simp only [if_neg c]
          obtain ⟨q1, q2, q3⟩ := w.2.1 s (by omega)
          exact ⟨by rw [xR_yR, if_neg (fun z => c z.2)]; exact (sr.2.2.2.2.2.2 s).trans q1, up q3 (xE_GP x5 (fun a z => z.elim) (fun z => z) q2), q3⟩
      · by_cases c : s = i
        · by_cases c' : s' = i
          · omega
          · simp only [if_pos c, if_neg c'] at e2
            have := GP_tg (w.2.1 s' (by omega)).2.1 hk hj'
            rw [← e2] at this
            exact this (fr k hk j hj)
        · by_cases c' : s' = i
          · simp only [if_neg c, if_pos c'] at e2
            have := GP_tg (w.2.1 s (by omega)).2.1 hk hj
            rw [e2] at this
            exact this (fr k hk j' hj')
          · simp only [if_neg c, if_neg c'] at e2
            exact w.2.2 s (by omega) s' (by omega) ns k hk j hj j' hj' e2
      · by_cases c : s = i
        · subst c
          simp only [if_pos]
          exact ⟨fun k hk j hj => new_of x (fr k hk j hj), new_of x fr3⟩
        · simp only [if_neg c]
          exact f s (by omega)
  exact lp 8 0 T1 M1 _ _ rfl x1 w1 (fun s hs => absurd hs (Nat.not_lt_zero s))
end MK
