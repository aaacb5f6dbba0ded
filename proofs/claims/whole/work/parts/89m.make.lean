section MK
variable {E : Nat → Prop} {T T' T0 : LY} {M M' M0 : CM}
def OP (T : LY) (M : CM) (O : Nat → Nat) : Prop := SO T M O ∧ cI M 51 (O 0) = 0 ∧ cI M 53 (O 0) = 0
theorem xE_OP {O : Nat → Nat} (k : xE E T M T' M') (h1 : ¬ E (O 0)) (h : OP T M O) : OP T' M' O := by
  obtain ⟨⟨s1, s2, s3, s4, s5, s6, s7, s8⟩, a, b⟩ := h
  have k0 := k (O 0) (by rw [s1]; decide)
  have k1 := k (O 1) (by rw [s3]; decide)
  have k2 := k (O 2) (by rw [s6]; decide)
  have m := k0.2 h1
  exact ⟨⟨k0.1.1.trans s1, (m.2.2.2.1 _).trans s2, k1.1.1.trans s3, k1.1.2.trans s4, (m.2.2.2.1 _).trans s5, k2.1.1.trans s6, k2.1.2.trans s7, s8⟩, (m.1 _).trans a, (m.1 _).trans b⟩
theorem s_X5_init {h : Nat} (th : tg T h = 6) {Q : LY → CM → Prop} (k : ∀ T' M' q1 q2, xE (fun a => a = h) T M T' M' → tg T q1 = 0 → tg T q2 = 0 → q1 ≠ q2 → OP T' M' (fun i => if i = 0 then h else if i = 1 then q1 else q2) → Q T' M') : fc_X5_init 2 13 h T M Q := by
  unfold fc_X5_init
  rw [show (6 : Int32).toNatClampNeg = 6 from rfl, show (7 : Int32).toNatClampNeg = 7 from rfl]
  refine ⟨by decide, by decide, by decide, by decide, fun q1 T2 M3 h1 e2 e3 => ?_⟩
  have n1 : h ≠ q1 := fun z => by rw [z, h1] at th; exact absurd th (by decide)
  have t2 : tg T2 h = 6 := by rw [e2, tg_mk, if_neg n1]; exact th
  have x2 : xE (fun a => a = h) T M T2 M3 := by rw [e2, e3]; exact xE_mk M 26 6 h1
  refine ⟨t2, nm_e (nm_e ⟨by decide, by decide, by decide, by decide, fun q2 T12 M13 h2 e12 e13 => ?_⟩)⟩
  have n2 : h ≠ q2 := fun z => by rw [z, h2] at t2; exact absurd t2 (by decide)
  have t12 : tg T12 h = 6 := by rw [e12, tg_mk, if_neg n2]; exact t2
  have h20 : tg T q2 = 0 := new_of x2 h2
  have q12 : q1 ≠ q2 := fun z => by rw [e2, ← z, tg_mk, if_pos rfl] at h2; exact absurd h2 (by decide)
  have x12 : xE (fun a => a = h) T2 (sI (sR M3 50 h (some q1)) 51 h 0) T12 M13 := by rw [e12, e13]; exact xE_mk _ 26 7 h2
  refine ⟨t12, nm_e (nm_e ⟨by decide, by decide, k _ _ q1 q2 (xE_tr x2 (xE_tr (xE_sR 50 (some q1) rfl) (xE_tr (xE_sI 51 0 rfl) (xE_tr x12 (xE_tr (xE_sR 52 (some q2) rfl) (xE_sI 53 0 rfl)))))) h1 h20 q12 ⟨⟨t12, ?_, ?_, ?_, ?_, ?_, ?_, q12⟩, ?_, ?_⟩⟩)⟩
  · show cR (sR M13 52 h (some q2)) 50 h = some q1
    rw [cR_sR, if_neg (fun z => absurd z.1 (by decide)), e13, cR_mkM, if_neg n2]
    show cR (sR M3 50 h (some q1)) 50 h = _
    rw [cR_sR, if_pos ⟨rfl, rfl⟩]
  · show tg T12 q1 = 26
    rw [e12, tg_mk, if_neg q12, e2, tg_mk, if_pos rfl]
  · show ln T12 q1 = 6
    rw [e12, ln_mk, if_neg q12, e2, ln_mk, if_pos rfl]
  · show cR (sR M13 52 h (some q2)) 52 h = some q2
    rw [cR_sR, if_pos ⟨rfl, rfl⟩]
  · show tg T12 q2 = 26
    rw [e12, tg_mk, if_pos rfl]
  · show ln T12 q2 = 7
    rw [e12, ln_mk, if_pos rfl]
  · show cI (sI (sR M13 52 h (some q2)) 53 h 0) 51 h = 0
    rw [cI_sI, if_neg (fun z => absurd z.1 (by decide))]
    show cI M13 51 h = 0
    rw [e13, cI_mkM, if_neg n2, cI_sI, if_pos ⟨rfl, rfl⟩]
  · show cI (sI (sR M13 52 h (some q2)) 53 h 0) 53 h = 0
    rw [cI_sI, if_pos ⟨rfl, rfl⟩]
/-- a reader newly made -/
def RN (T : LY) (M : CM) (hr rs rp : Nat) : Prop := tg T hr = 7 ∧ cR M 60 hr = some rs ∧ tg T rs = 20 ∧ ln T rs = 100 ∧ cR M 61 hr = some rp ∧ tg T rp = 22 ∧ ln T rp = 100
theorem xE_RN {a b c : Nat} (k : xE E T M T' M') (h1 : ¬ E a) (h : RN T M a b c) : RN T' M' a b c := by
  obtain ⟨a1, a2, a3, a4, a5, a6, a7⟩ := h
  have k0 := k a (by rw [a1]; decide)
  have k1 := k b (by rw [a3]; decide)
  have k2 := k c (by rw [a6]; decide)
  have m := k0.2 h1
  exact ⟨k0.1.1.trans a1, (m.2.2.2.1 _).trans a2, k1.1.1.trans a3, k1.1.2.trans a4, (m.2.2.2.1 _).trans a5, k2.1.1.trans a6, k2.1.2.trans a7⟩
theorem s_X6_init {h : Nat} (th : tg T h = 7) {Q : LY → CM → Prop} (k : ∀ T' M' q1 q2, xE (fun a => a = h) T M T' M' → tg T q1 = 0 → tg T q2 = 0 → RN T' M' h q1 q2 → Q T' M') : fc_X6_init 2 200 h T M Q := by
  unfold fc_X6_init
  rw [show (100 : Int32).toNatClampNeg = 100 from rfl]
  refine ⟨by decide, by decide, by decide, by decide, fun q1 T2 M3 h1 e2 e3 => ?_⟩
  have n1 : h ≠ q1 := fun z => by rw [z, h1] at th; exact absurd th (by decide)
  have t2 : tg T2 h = 7 := by rw [e2, tg_mk, if_neg n1]; exact th
  have x2 : xE (fun a => a = h) T M T2 M3 := by rw [e2, e3]; exact xE_mk M 20 100 h1
  refine ⟨t2, nm_e ⟨by decide, by decide, by decide, by decide, fun q2 T12 M13 h2 e12 e13 => ?_⟩⟩
  have n2 : h ≠ q2 := fun z => by rw [z, h2] at t2; exact absurd t2 (by decide)
  have t12 : tg T12 h = 7 := by rw [e12, tg_mk, if_neg n2]; exact t2
  have h20 : tg T q2 = 0 := new_of x2 h2
  have q12 : q1 ≠ q2 := fun z => by rw [e2, ← z, tg_mk, if_pos rfl] at h2; exact absurd h2 (by decide)
  have x12 : xE (fun a => a = h) T2 (sR M3 60 h (some q1)) T12 M13 := by rw [e12, e13]; exact xE_mk _ 22 100 h2
  refine ⟨t12, nm_e (nm_e (nm_e (nm_e (nm_e (nm_e ⟨by decide, by decide, k _ _ q1 q2 (xE_tr x2 (xE_tr (xE_sR 60 (some q1) rfl) (xE_tr x12 (xE_tr (xE_sR 61 (some q2) rfl) (xE_tr (xE_sI 62 0 rfl) (xE_tr (xE_sI 63 0 rfl) (xE_tr (xE_sI 64 0 rfl) (xE_tr (xE_sI 65 0 rfl) (xE_sI 66 (-1) rfl))))))))) h1 h20 ⟨t12, ?_, ?_, ?_, ?_, ?_, ?_⟩⟩)))))⟩
  · show cR (sR M13 61 h (some q2)) 60 h = some q1
    rw [cR_sR, if_neg (fun z => absurd z.1 (by decide)), e13, cR_mkM, if_neg n2, cR_sR, if_pos ⟨rfl, rfl⟩]
  · rw [e12, tg_mk, if_neg q12, e2, tg_mk, if_pos rfl]
  · rw [e12, ln_mk, if_neg q12, e2, ln_mk, if_pos rfl]
  · show cR (sR M13 61 h (some q2)) 61 h = some q2
    rw [cR_sR, if_pos ⟨rfl, rfl⟩]
  · rw [e12, tg_mk, if_pos rfl]
  · rw [e12, ln_mk, if_pos rfl]
/-- the operations so far -/
def OS (T : LY) (M : CM) (px r : Nat) (OA : Nat → Nat → Nat) (n : Nat) : Prop := (tg T px = 11 ∧ cR M 102 px = some r ∧ tg T r = 27 ∧ ln T r = 6) ∧ (∀ o, o < n → xR M r o = some (OA o 0) ∧ OP T M (OA o)) ∧ ∀ o, o < n → ∀ o', o' < n → o ≠ o' → ∀ i, i < 3 → ∀ i', i' < 3 → OA o i ≠ OA o' i'
theorem s_opLoop {px : Nat} {mc ms K0 N0 : Nat} (hK : K0 + 18 ≤ mc) (hN : N0 + 102 ≤ ms) {Q : LY → CM → Prop} {r : Nat} (h0 : OS T0 M0 px r (fun _ _ => 0) 0) (k : ∀ T' M' OA, xE (fun a => a = r) T0 M0 T' M' → OS T' M' px r OA 6 → Q T' M') : ∃ nn : Nat, fc_X10_init_l81 mc ms px Q nn 0 T0 M0 K0 N0 := by
  have lp : ∀ m i T M OA, i + m = 6 → xE (fun a => a = r) T0 M0 T M → OS T M px r OA i → fc_X10_init_l81 mc ms px Q (m + 1) (nI i) T M (K0 + 3 * i) (N0 + 17 * i) := by
    intro m
    induction m with
    | zero =>
      intro i T M OA hi x w
      have ei : i = 6 := by omega
      subst ei
      show fc_X10_init_c81 mc ms px Q _ _ T M _ _
      unfold fc_X10_init_c81
      refine ⟨w.1.1, r, w.1.2.1, w.1.2.2.1, ?_⟩
      rw [w.1.2.2.2]
      exact br_t (nI_le (by omega) (by omega)) ⟨by omega, by omega, k T M OA x w⟩
    | succ m ih =>
      intro i T M OA hi x w
      show fc_X10_init_c81 mc ms px Q (fc_X10_init_l81 mc ms px Q (m + 1)) _ T M _ _
      unfold fc_X10_init_c81
      refine ⟨w.1.1, r, w.1.2.1, w.1.2.2.1, ?_⟩
      rw [w.1.2.2.2]
      refine br_f (nI_ge (by omega) (by omega)) ⟨by omega, by omega, fun q T6 M7 hq e6 e7 => ?_⟩
      have x6 : xE (fun _ => False) T M T6 M7 := by rw [e6, e7]; exact xE_mk M 6 0 hq
      have tq : tg T6 q = 6 := by rw [e6, tg_mk, if_pos rfl]
      refine ⟨tq, 2, 13, by omega, by omega, s_X5_init tq (fun T8 M8 q1 q2 x8 h1 h2 q12 op => ?_)⟩
      have h10 : tg T q1 = 0 := new_of x6 h1
      have h20 : tg T q2 = 0 := new_of x6 h2
      have xb : xE (fun _ => False) T M T8 M8 := xE_dr (E := fun a => a = q) (xE_tr (xE_dr x6 (fun e he => he.elim)) x8) (fun e he => Or.inl (by rw [he]; exact hq))
      have kr := xb r (by rw [w.1.2.2.1]; decide)
      have kp := xb px (by rw [w.1.1]; decide)
      have r27 : tg T8 r = 27 := kr.1.1.trans w.1.2.2.1
      have r6 : ln T8 r = 6 := kr.1.2.trans w.1.2.2.2
      have p11 : tg T8 px = 11 := kp.1.1.trans w.1.1
      have x9 : xE (fun a => a = r) T8 M8 T8 (yR M8 r i (some q)) := xE_yR i _ rfl
      have up : ∀ {O : Nat → Nat}, OP T8 M8 O → OP T8 (yR M8 r i (some q)) O := fun u => xE_OP x9 (fun z => by rw [← z, u.1.1] at r27; exact absurd r27 (by decide)) u
      refine ⟨r27, op.1.1, ?_, nm_e (nm_r (nI_1 i) ?_)⟩
      · rw [r6]; exact vp_in_nI (by omega) (by omega)
      rw [nI_clamp (by omega), show K0 + 3 * i + 1 + 2 = K0 + 3 * (i + 1) by omega, show N0 + 17 * i + 4 + 13 = N0 + 17 * (i + 1) by omega]
      have nw : ∀ j, j < 3 → tg T ((fun i => if i = 0 then q else if i = 1 then q1 else q2) j) = 0 := fun j hj => by
        match j, hj with
        | 0, _ => exact hq
        | 1, _ => exact h10
        | 2, _ => exact h20
      have ol : ∀ o, o < i → ∀ j, j < 3 → tg T (OA o j) ≠ 0 := fun o ho j hj => by
        have u := (w.2.1 o ho).2.1
        match j, hj with
        | 0, _ => rw [u.1]; decide
        | 1, _ => rw [u.2.2.1]; decide
        | 2, _ => rw [u.2.2.2.2.2.1]; decide
      refine ih (i + 1) T8 _ (fun o => if o = i then (fun i => if i = 0 then q else if i = 1 then q1 else q2) else OA o) (by omega) (xE_tr x (xE_tr (xE_dr xb (fun e he => he.elim)) x9)) ⟨⟨p11, (((kp.2 (fun z => z)).2.2.2.1 102).trans w.1.2.1), r27, r6⟩, fun o ho => ?_, fun o ho o' ho' ne j hj j' hj' e => ?_⟩
      · by_cases c : o = i
        · subst c
          simp only [if_pos]
          exact ⟨by rw [xR_yR, if_pos ⟨rfl, rfl⟩], up op⟩
        · simp only [if_neg c]
          obtain ⟨u1, u2⟩ := w.2.1 o (by omega)
          exact ⟨by rw [xR_yR, if_neg (fun z => c z.2)]; exact ((kr.2 (fun z => z)).2.2.2.2.2.2 o).trans u1, up (xE_OP xb (fun z => z) u2)⟩
      · dsimp only at e
        by_cases c : o = i
        · by_cases c' : o' = i
          · omega
          · rw [if_pos c, if_neg c'] at e
            have := ol o' (by omega) j' hj'
            rw [← e] at this
            exact this (nw j hj)
        · by_cases c' : o' = i
          · rw [if_neg c, if_pos c'] at e
            have := ol o (by omega) j hj
            rw [e] at this
            exact this (nw j' hj')
          · rw [if_neg c, if_neg c'] at e
            exact w.2.2 o (by omega) o' (by omega) ne j hj j' hj' e
  exact ⟨7, lp 6 0 T0 M0 _ rfl (xE_rf _ T0 M0) h0⟩
end MK
