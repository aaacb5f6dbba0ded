section MK
variable {T T0 : LY} {M M0 : CM}
theorem new_of {E : Nat → Prop} {T T' : LY} {M M' : CM} (x : xE E T M T' M') {a : Nat} (h : tg T' a = 0) : tg T a = 0 := by
  apply Decidable.byContradiction
  intro z
  rw [(x a z).1.1] at h
  exact z h
/-- a thing with its five items -/
def GP (T : LY) (M : CM) (g : Nat → Nat → Nat) (v0 : Nat) : Prop := NU T M (g 0 0) (g 1 0) (g 2 0) 84 (some (g 3 0)) (sText 11) ∧ (tg T (g 3 0) = 28 ∧ ln T (g 3 0) = 5) ∧ (tg T v0 = 28 ∧ ln T v0 = 0) ∧ (∀ j, j < 5 → NU T M (g 0 (1 + j)) (g 1 (1 + j)) (g 2 (1 + j)) 16 (some v0) [] ∧ xR M (g 3 0) j = some (g 0 (1 + j))) ∧ ∀ k, k < 3 → ∀ i, i < 6 → ∀ i', i' < 6 → g k i = g k i' → i = i'
def mk3 (g : Nat → Nat → Nat) (m a b c : Nat) : Nat → Nat → Nat := fun k m' => if m' = m then (if k = 0 then a else if k = 1 then b else c) else g k m'
/-- the items so far -/
def WI (T0 T : LY) (M : CM) (v0 v1 : Nat) (g : Nat → Nat → Nat) (i : Nat) : Prop := (tg T v0 = 28 ∧ ln T v0 = 0) ∧ (tg T v1 = 28 ∧ ln T v1 = 5) ∧ (∀ j, j < i → NU T M (g 0 (1 + j)) (g 1 (1 + j)) (g 2 (1 + j)) 16 (some v0) [] ∧ xR M v1 j = some (g 0 (1 + j)) ∧ ∀ k, k < 3 → tg T0 (g k (1 + j)) = 0) ∧ ∀ k, k < 3 → ∀ j, j < i → ∀ j', j' < i → g k (1 + j) = g k (1 + j') → j = j'
theorem NU_tg {h x y n : Nat} {it : Option Nat} {L : List Int32} (t : NU T M h x y n it L) : tg T h ≠ 0 ∧ tg T x ≠ 0 ∧ tg T y ≠ 0 := ⟨by rw [t.1.1]; decide, by rw [t.1.2.1]; decide, by rw [t.1.2.2.1]; decide⟩
theorem WI_tg {v0 v1 : Nat} {g : Nat → Nat → Nat} {i : Nat} (w : WI T0 T M v0 v1 g i) {j k : Nat} (hj : j < i) (hk : k < 3) : tg T (g k (1 + j)) ≠ 0 := by
  have t := NU_tg (w.2.2.1 j hj).1
  match k, hk with
  | 0, _ => exact t.1
  | 1, _ => exact t.2.1
  | 2, _ => exact t.2.2
theorem s_withItems {Q : Option Nat → LY → CM → Prop} (k : ∀ T' M' g v0, xE (fun _ => False) T0 M0 T' M' → GP T' M' g v0 → (∀ k, k < 3 → ∀ i, i < 6 → tg T0 (g k i) = 0) → tg T0 (g 3 0) = 0 → Q (some (g 0 0)) T' M') : fc_X8_withItems 20 223 T0 M0 Q := by
  unfold fc_X8_withItems
  rw [show (0 : Int32).toNatClampNeg = 0 from rfl, show (5 : Int32).toNatClampNeg = 5 from rfl]
  refine ⟨by decide, by decide, by decide, by decide, fun v0 T1 M1 h0 eT eM => ⟨by decide, by decide, by decide, by decide, fun v1 T2 M2 h1 eT2 eM2 => ⟨6, ?_⟩⟩⟩
  have x2 : xE (fun _ => False) T0 M0 T2 M2 := by
    rw [eT2, eM2, eT, eM]
    rw [eT] at h1
    exact xE_tr (xE_mk M0 28 0 h0) (xE_mk _ 28 5 h1)
  have ne : v0 ≠ v1 := fun z => by rw [← z, eT, tg_mk, if_pos rfl] at h1; exact absurd h1 (by decide)
  have w2 : WI T0 T2 M2 v0 v1 (fun _ _ => 0) 0 := by
    refine ⟨⟨?_, ?_⟩, ⟨?_, ?_⟩, fun j hj => absurd hj (Nat.not_lt_zero j), fun k hk j hj => absurd hj (Nat.not_lt_zero j)⟩
    · rw [eT2, tg_mk, if_neg ne, eT, tg_mk, if_pos rfl]
    · rw [eT2, ln_mk, if_neg ne, eT, ln_mk, if_pos rfl]
    · rw [eT2, tg_mk, if_pos rfl]
    · rw [eT2, ln_mk, if_pos rfl]
  have new0 : ∀ {T : LY} {M : CM}, xE (fun _ => False) T0 M0 T M → ∀ a, tg T a = 0 → tg T0 a = 0 := fun {T M} x a h => by
    apply Decidable.byContradiction
    intro z
    rw [(x a z).1.1] at h
    exact z h
  have hv10 : tg T0 v1 = 0 := by
    have := new0 (T := T1) (M := M1) (by rw [eT, eM]; exact xE_mk M0 28 0 h0) v1 h1
    exact this
  have lp : ∀ m i T M g, i + m = 5 → xE (fun _ => False) T0 M0 T M → WI T0 T M v0 v1 g i → fc_X8_withItems_l12 20 223 Q (m + 1) v0 v1 (nI i) T M (2 + 3 * i) (5 + 25 * i) := by
    intro m
    induction m with
    | zero =>
      intro i T M g hi x w
      have ei : i = 5 := by omega
      subst ei
      show fc_X8_withItems_c12 20 223 Q _ v0 v1 _ T M _ _
      unfold fc_X8_withItems_c12
      rw [w.2.1.2]
      refine ⟨w.2.1.1, br_t (nI_le (by omega) (by omega)) ⟨by decide, by decide, fun t T4 M5 ht e4 e5 => ?_⟩⟩
      have x4 : xE (fun _ => False) T M T4 M5 := by rw [e4, e5]; exact xE_mk M 9 0 ht
      have tt : tg T4 t = 9 := by rw [e4, tg_mk, if_pos rfl]
      refine ⟨tt, 2, 86, by decide, by decide, s_X8_init (n := 84) tt (by decide) (some v1) (fun T6 M6 tx ty x6 hx hy nt => ⟨nt.1.1, by decide, by decide, s_named (NT_NU nt) (by decide) (by decide) (fun M7 x7 nu => ⟨by decide, by decide, ?_⟩)⟩)⟩
      have hx0 : tg T tx = 0 := new_of x4 hx
      have hy0 : tg T ty = 0 := new_of x4 hy
      -- all that was in T stands
      have xa : xE (fun a => a = t ∨ a = tx ∨ a = ty) T M T6 M7 := xE_tr (xE_dr x4 (fun e he => he.elim)) (xE_tr (xE_dr x6 (fun e he => Or.inr (Or.inl he))) x7)
      have xb : xE (fun _ => False) T M T6 M7 := xE_dr xa (fun e he => Or.inl (by rcases he with he | he | he <;> rw [he] <;> assumption))
      have xc : xE (fun _ => False) T0 M0 T6 M7 := xE_tr x xb
      have k3 : ∀ k, k < 3 → tg T (if k = 0 then t else if k = 1 then tx else ty) = 0 := fun k hk => by
        match k, hk with
        | 0, _ => exact ht
        | 1, _ => exact hx0
        | 2, _ => exact hy0
      refine k T6 M7 (fun k m => if k = 3 then (if m = 0 then v1 else v0) else mk3 g 0 t tx ty k m) v0 xc ⟨nu, ?_, ?_, fun j hj => ⟨?_, ?_⟩, fun k hk i hi i' hi' e => ?_⟩ (fun k hk i hi => ?_) hv10
      · exact ⟨((xb v1 (by rw [w.2.1.1]; decide)).1.1).trans w.2.1.1, ((xb v1 (by rw [w.2.1.1]; decide)).1.2).trans w.2.1.2⟩
      · exact ⟨((xb v0 (by rw [w.1.1]; decide)).1.1).trans w.1.1, ((xb v0 (by rw [w.1.1]; decide)).1.2).trans w.1.2⟩
      · have nj := xE_NU xb (fun z => z) (fun z => z) (fun z => z) (w.2.2.1 j hj).1
        simp only [mk3, if_neg (show ¬ 1 + j = 0 by omega), if_neg (show ¬ (0 : Nat) = 3 by decide), if_neg (show ¬ (1 : Nat) = 3 by decide), if_neg (show ¬ (2 : Nat) = 3 by decide)]
        exact nj
      · have sv := (xb v1 (by rw [w.2.1.1]; decide)).2 (fun z => z)
        simp only [mk3, if_neg (show ¬ 1 + j = 0 by omega), if_neg (show ¬ (0 : Nat) = 3 by decide)]
        exact (sv.2.2.2.2.2.2 j).trans (w.2.2.1 j hj).2.1
      · have n3 : k ≠ 3 := by omega
        simp only [if_neg n3, mk3] at e
        by_cases c : i = 0
        · by_cases c' : i' = 0
          · omega
          · exfalso
            rw [if_pos c, if_neg c'] at e
            have := WI_tg w (j := i' - 1) (by omega) hk
            rw [show 1 + (i' - 1) = i' by omega, ← e, k3 k hk] at this
            exact this rfl
        · by_cases c' : i' = 0
          · exfalso
            rw [if_neg c, if_pos c'] at e
            have := WI_tg w (j := i - 1) (by omega) hk
            rw [show 1 + (i - 1) = i by omega, e, k3 k hk] at this
            exact this rfl
          · rw [if_neg c, if_neg c'] at e
            have := w.2.2.2 k hk (i - 1) (by omega) (i' - 1) (by omega) (by rw [show 1 + (i - 1) = i by omega, show 1 + (i' - 1) = i' by omega]; exact e)
            omega
      · have n3 : k ≠ 3 := by omega
        simp only [if_neg n3, mk3]
        by_cases c : i = 0
        · rw [if_pos c]; exact new0 x _ (k3 k hk)
        · rw [if_neg c]
          have := (w.2.2.1 (i - 1) (by omega)).2.2 k hk
          rw [show 1 + (i - 1) = i by omega] at this
          exact this
    | succ m ih =>
      intro i T M g hi x w
      show fc_X8_withItems_c12 20 223 Q (fc_X8_withItems_l12 20 223 Q (m + 1)) v0 v1 _ T M _ _
      unfold fc_X8_withItems_c12
      rw [w.2.1.2]
      refine ⟨w.2.1.1, br_f (nI_ge (by omega) (by omega)) ⟨by omega, by omega, fun t T4 M5 ht e4 e5 => ?_⟩⟩
      have x4 : xE (fun _ => False) T M T4 M5 := by rw [e4, e5]; exact xE_mk M 9 0 ht
      have tt : tg T4 t = 9 := by rw [e4, tg_mk, if_pos rfl]
      refine ⟨tt, 2, 18, by omega, by omega, s_X8_init (n := 16) tt (by decide) (some v0) (fun T6 M6 tx ty x6 hx hy nt => ?_)⟩
      have hx0 : tg T tx = 0 := new_of x4 hx
      have hy0 : tg T ty = 0 := new_of x4 hy
      have xb : xE (fun _ => False) T M T6 M6 := xE_dr (E := fun a => a = t) (xE_tr (xE_dr x4 (fun e he => he.elim)) x6) (fun e he => Or.inl (by rw [he]; exact ht))
      have kv := xb v1 (by rw [w.2.1.1]; decide)
      have kv0 := xb v0 (by rw [w.1.1]; decide)
      have sv := kv.2 (fun z => z)
      refine ⟨kv.1.1.trans w.2.1.1, nt.1.1, ?_, nm_e (nm_r (nI_1 i) ?_)⟩
      · rw [kv.1.2, w.2.1.2]; exact vp_in_nI (by omega) (by omega)
      rw [nI_clamp (by omega), show 2 + 3 * i + 1 + 2 = 2 + 3 * (i + 1) by omega, show 5 + 25 * i + 7 + 18 = 5 + 25 * (i + 1) by omega]
      have x9 : xE (fun a => a = v1) T6 M6 T6 (yR M6 v1 i (some t)) := xE_yR i (some t) rfl
      have k3 : ∀ k, k < 3 → tg T (if k = 0 then t else if k = 1 then tx else ty) = 0 := fun k hk => by
        match k, hk with
        | 0, _ => exact ht
        | 1, _ => exact hx0
        | 2, _ => exact hy0
      have v28 : tg T6 v1 = 28 := kv.1.1.trans w.2.1.1
      have nv : ∀ {h x y n : Nat} {it : Option Nat} {L : List Int32}, NU T6 M6 h x y n it L → NU T6 (yR M6 v1 i (some t)) h x y n it L := fun u => xE_NU x9 (fun z => by rw [← z, u.1.1] at v28; exact absurd v28 (by decide)) (fun z => by rw [← z, u.1.2.1] at v28; exact absurd v28 (by decide)) (fun z => by rw [← z, u.1.2.2.1] at v28; exact absurd v28 (by decide)) u
      refine ih (i + 1) T6 (yR M6 v1 i (some t)) (mk3 g (1 + i) t tx ty) (by omega) (xE_dr (E := fun a => a = v1) (xE_tr (xE_dr x (fun e he => he.elim)) (xE_tr (xE_dr xb (fun e he => he.elim)) x9)) (fun e he => Or.inl (by rw [he]; exact hv10))) ⟨⟨kv0.1.1.trans w.1.1, kv0.1.2.trans w.1.2⟩, ⟨v28, kv.1.2.trans w.2.1.2⟩, fun j hj => ?_, fun k hk j hj j' hj' e => ?_⟩
      · by_cases c : j = i
        · subst c
          simp only [mk3, if_pos]
          exact ⟨nv (NT_NU nt), by rw [xR_yR, if_pos ⟨rfl, rfl⟩], fun k hk => new0 x _ (k3 k hk)⟩
        · simp only [mk3, if_neg (show ¬ 1 + j = 1 + i by omega)]
          obtain ⟨q1, q2, q3⟩ := w.2.2.1 j (by omega)
          exact ⟨nv (xE_NU xb (fun z => z) (fun z => z) (fun z => z) q1), by rw [xR_yR, if_neg (fun z => c z.2)]; exact (sv.2.2.2.2.2.2 j).trans q2, q3⟩
      · simp only [mk3] at e
        by_cases c : j = i
        · by_cases c' : j' = i
          · omega
          · exfalso
            rw [if_pos (show 1 + j = 1 + i by omega), if_neg (show ¬ 1 + j' = 1 + i by omega)] at e
            have := WI_tg w (j := j') (by omega) hk
            rw [← e, k3 k hk] at this
            exact this rfl
        · by_cases c' : j' = i
          · exfalso
            rw [if_neg (show ¬ 1 + j = 1 + i by omega), if_pos (show 1 + j' = 1 + i by omega)] at e
            have := WI_tg w (j := j) (by omega) hk
            rw [e, k3 k hk] at this
            exact this rfl
          · rw [if_neg (show ¬ 1 + j = 1 + i by omega), if_neg (show ¬ 1 + j' = 1 + i by omega)] at e
            exact w.2.2.2 k hk j (by omega) j' (by omega) e
  exact lp 5 0 T2 M2 (fun _ _ => 0) rfl x2 w2
end MK
