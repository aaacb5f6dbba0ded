section MK
variable {E : Nat → Prop} {T T' T0 : LY} {M M' M0 : CM}
def TL (T : LY) (M : CM) (x y : Nat) : Prop := tg T x = 8 ∧ tg T y = 20 ∧ ln T y = 100 ∧ cR M 70 x = some y ∧ cI M 71 x = 0
theorem xE_TL {x y : Nat} (k : xE E T M T' M') (h1 : ¬ E x) (h : TL T M x y) : TL T' M' x y := by
  obtain ⟨a, b, c, d, e⟩ := h
  have k0 := k x (by rw [a]; decide)
  have k1 := k y (by rw [b]; decide)
  have m := k0.2 h1
  exact ⟨k0.1.1.trans a, k1.1.1.trans b, k1.1.2.trans c, (m.2.2.2.1 _).trans d, (m.1 _).trans e⟩
theorem xE_p {px : Nat} (k : xE (fun _ => False) T M T' M') (h : tg T px = 11) : tg T' px = 11 ∧ ∀ f, cR M' f px = cR M f px := by
  have kp := k px (by rw [h]; decide)
  exact ⟨kp.1.1.trans h, (kp.2 (fun z => z)).2.2.2.1⟩
def dj (gs gs' : Nat → Nat → Nat → Nat) : Prop := ∀ s, s < 8 → ∀ s', s' < 8 → ∀ k, k < 3 → ∀ i, i < 6 → ∀ i', i' < 6 → gs s k i ≠ gs' s' k i'
def nf (a : Nat) (gs : Nat → Nat → Nat → Nat) : Prop := ∀ s, s < 8 → ∀ k, k < 3 → ∀ i, i < 6 → gs s k i ≠ a
theorem FR_nf {gs : Nat → Nat → Nat → Nat} {a : Nat} (f : FR T gs 8) (h : tg T a ≠ 0) : nf a gs := fun s hs k hk i hi z => h (by rw [← z]; exact (f s hs).1 k hk i hi)
theorem FR_dj {gs gs' : Nat → Nat → Nat → Nat} {r : Nat} {e : Nat → Nat} (f : FR T gs' 8) (h : RO T M r gs e 8) : dj gs gs' := fun s hs s' hs' k hk i hi i' hi' z => by
  have := GP_tg (h.2.1 s hs).2.1 hk hi
  rw [z] at this
  exact this ((f s' hs').1 k hk i' hi')
theorem xE_px {px : Nat} (hp : tg T px = 11) : ∀ a, (fun a => a = px) a → tg T a ≠ 9 ∧ tg T a ≠ 8 ∧ tg T a ≠ 20 ∧ tg T a ≠ 28 := fun a z => by
  have e : a = px := z
  rw [e, hp]; exact ⟨by decide, by decide, by decide, by decide⟩
theorem s_X10_init {px : Nat} (hp : tg T0 px = 11) {Q : LY → CM → Prop}
    (k : ∀ T' M' x y hr rs rp r0 r1 r2 hN ro gs0 e0 gs1 e1 gs2 e2 OA, xE (fun a => a = px) T0 M0 T' M' → (cR M' 100 px = some x ∧ cR M' 101 px = some hr ∧ cR M' 103 px = some r0 ∧ cR M' 104 px = some hN ∧ cR M' 105 px = some r1 ∧ cR M' 106 px = some r2 ∧ cI M' 107 px = 0 ∧ cI M' 108 px = -1) → TL T' M' x y → RN T' M' hr rs rp → RO T' M' r0 gs0 e0 8 → RO T' M' r1 gs1 e1 8 → RO T' M' r2 gs2 e2 8 → tg T' hN = 5 → OS T' M' px ro OA 6 → (dj gs0 gs1 ∧ dj gs0 gs2 ∧ dj gs1 gs2) → (nf x gs0 ∧ nf x gs1 ∧ nf x gs2) → (nf y gs0 ∧ nf y gs1 ∧ nf y gs2) → (nf rs gs0 ∧ nf rs gs1 ∧ nf rs gs2 ∧ rs ≠ y) → Q T' M') : fc_X10_init 508 5794 px T0 M0 Q := by
  unfold fc_X10_init
  rw [show (6 : Int32).toNatClampNeg = 6 from rfl]
  refine ⟨by decide, by decide, fun x T1 M1 hx e1 f1 => ?_⟩
  have x1 : xE (fun _ => False) T0 M0 T1 M1 := by rw [e1, f1]; exact xE_mk M0 8 0 hx
  have tx : tg T1 x = 8 := by rw [e1, tg_mk, if_pos rfl]
  refine ⟨tx, 1, 100, by decide, by decide, s_X7_init (n := 100) tx (by decide) (fun T2 M2 y x2 hy ty ly c70 c71 => ?_)⟩
  have xa : xE (fun _ => False) T0 M0 T2 M2 := xE_dr (E := fun a => a = x) (xE_tr (xE_dr x1 (fun e he => he.elim)) x2) (fun e he => Or.inl (by rw [he]; exact hx))
  have p2 := (xE_p xa hp).1
  have tl2 : TL T2 M2 x y := ⟨((x2 x (by rw [tx]; decide)).1.1).trans tx, ty, ly, c70, c71⟩
  refine ⟨p2, nm_e ⟨by decide, by decide, fun hr T3 M3 hh e3 f3 => ?_⟩⟩
  have xs3 : xE (fun a => a = px) T2 M2 T2 (sR M2 100 px (some x)) := xE_sR 100 (some x) rfl
  have tl3 : TL T2 (sR M2 100 px (some x)) x y := xE_TL xs3 (fun z => by have := tl2.1; rw [z, p2] at this; exact absurd this (by decide)) tl2
  have x3 : xE (fun _ => False) T2 (sR M2 100 px (some x)) T3 M3 := by rw [e3, f3]; exact xE_mk _ 7 0 hh
  have th : tg T3 hr = 7 := by rw [e3, tg_mk, if_pos rfl]
  refine ⟨th, 2, 200, by decide, by decide, s_X6_init th (fun T4 M4 rs rp x4 h1 h2 rn4 => ?_)⟩
  have xb : xE (fun _ => False) T2 (sR M2 100 px (some x)) T4 M4 := xE_dr (E := fun a => a = hr) (xE_tr (xE_dr x3 (fun e he => he.elim)) x4) (fun e he => Or.inl (by rw [he]; exact hh))
  obtain ⟨p4, q4⟩ := xE_p xb p2
  have tl4 := xE_TL xb (fun z => z) tl3
  have rsy : rs ≠ y := fun z => by
    have := new_of x3 h1
    rw [z, ty] at this; exact absurd this (by decide)
  refine ⟨p4, nm_e ⟨by decide, by decide, by decide, by decide, fun ro T5 M5 ho e5 f5 => ?_⟩⟩
  have xs5 : xE (fun a => a = px) T4 M4 T4 (sR M4 101 px (some hr)) := xE_sR 101 (some hr) rfl
  have nx : ∀ {T : LY} {M : CM}, tg T px = 11 → TL T M x y → ¬ x = px := fun p t z => by have := t.1; rw [z, p] at this; exact absurd this (by decide)
  have nh : ∀ {T : LY} {M : CM}, tg T px = 11 → RN T M hr rs rp → ¬ hr = px := fun p t z => by have := t.1; rw [z, p] at this; exact absurd this (by decide)
  have x5 : xE (fun _ => False) T4 (sR M4 101 px (some hr)) T5 M5 := by rw [e5, f5]; exact xE_mk _ 27 6 ho
  have tl5 := xE_TL x5 (fun z => z) (xE_TL xs5 (nx p4 tl4) tl4)
  have rn5 := xE_RN x5 (fun z => z) (xE_RN xs5 (nh p4 rn4) rn4)
  obtain ⟨p5, q5⟩ := xE_p x5 p4
  have r5 : tg T5 ro = 27 ∧ ln T5 ro = 6 := ⟨by rw [e5, tg_mk, if_pos rfl], by rw [e5, ln_mk, if_pos rfl]⟩
  refine ⟨p5, nm_e ⟨161, 1792, by decide, by decide, s_row (fun T6 M6 r0 gs0 e0 x6 hr0 w0 f0 => ?_)⟩⟩
  have xs6 : xE (fun a => a = px) T5 M5 T5 (sR M5 102 px (some ro)) := xE_sR 102 (some ro) rfl
  have tl6 := xE_TL x6 (fun z => z) (xE_TL xs6 (nx p5 tl5) tl5)
  have rn6 := xE_RN x6 (fun z => z) (xE_RN xs6 (nh p5 rn5) rn5)
  obtain ⟨p6, q6⟩ := xE_p x6 p5
  have o6 : tg T6 ro = 27 ∧ ln T6 ro = 6 := ⟨((x6 ro (by rw [r5.1]; decide)).1.1).trans r5.1, ((x6 ro (by rw [r5.1]; decide)).1.2).trans r5.2⟩
  refine ⟨p6, nm_e ⟨by decide, by decide, fun hN T7 M7 hn e7 f7 => ?_⟩⟩
  have xs7 : xE (fun a => a = px) T6 M6 T6 (sR M6 103 px (some r0)) := xE_sR 103 (some r0) rfl
  have x7 : xE (fun _ => False) T6 (sR M6 103 px (some r0)) T7 M7 := by rw [e7, f7]; exact xE_mk _ 5 0 hn
  have t7 : tg T7 hN = 5 := by rw [e7, tg_mk, if_pos rfl]
  have xd : xE (fun a => a = hN) T7 M7 T7 (sD M7 40 hN FP.dconst0) := xE_sD 40 FP.dconst0 rfl
  have x8 : xE (fun _ => False) T6 (sR M6 103 px (some r0)) T7 (sD M7 40 hN FP.dconst0) := xE_dr (E := fun a => a = hN) (xE_tr (xE_dr x7 (fun e he => he.elim)) xd) (fun e he => Or.inl (by rw [he]; exact hn))
  obtain ⟨p7, q7⟩ := xE_p x8 p6
  have tl7 := xE_TL x8 (fun z => z) (xE_TL xs7 (nx p6 tl6) tl6)
  have rn7 := xE_RN x8 (fun z => z) (xE_RN xs7 (nh p6 rn6) rn6)
  have w07 := xE_RO x8 (fun a z => z.elim) (xE_RO xs7 (xE_px p6) w0)
  have o7 : tg T7 ro = 27 ∧ ln T7 ro = 6 := ⟨((x8 ro (by rw [o6.1]; decide)).1.1).trans o6.1, ((x8 ro (by rw [o6.1]; decide)).1.2).trans o6.2⟩
  unfold fc_X4_init
  refine ⟨t7, by decide, by decide, t7, nm_e ⟨p7, nm_e ⟨161, 1792, by decide, by decide, s_row (fun T9 M9 r1 gs1 e1' x9 hr1 w1 f1' => ?_)⟩⟩⟩
  have xs9 : xE (fun a => a = px) T7 (sD M7 40 hN FP.dconst0) T7 (sR (sD M7 40 hN FP.dconst0) 104 px (some hN)) := xE_sR 104 (some hN) rfl
  obtain ⟨p9, q9⟩ := xE_p x9 p7
  have tl9 := xE_TL x9 (fun z => z) (xE_TL xs9 (nx p7 tl7) tl7)
  have rn9 := xE_RN x9 (fun z => z) (xE_RN xs9 (nh p7 rn7) rn7)
  have w09 := xE_RO x9 (fun a z => z.elim) (xE_RO xs9 (xE_px p7) w07)
  have o9 : tg T9 ro = 27 ∧ ln T9 ro = 6 := ⟨((x9 ro (by rw [o7.1]; decide)).1.1).trans o7.1, ((x9 ro (by rw [o7.1]; decide)).1.2).trans o7.2⟩
  have n9 : tg T9 hN = 5 := ((x9 hN (by rw [t7]; decide)).1.1).trans t7
  refine ⟨p9, nm_e ⟨161, 1792, by decide, by decide, s_row (fun TA MA r2 gs2 e2 xA hr2 w2 f2' => ?_)⟩⟩
  have xsA : xE (fun a => a = px) T9 M9 T9 (sR M9 105 px (some r1)) := xE_sR 105 (some r1) rfl
  obtain ⟨pA, qA⟩ := xE_p xA p9
  have tlA := xE_TL xA (fun z => z) (xE_TL xsA (nx p9 tl9) tl9)
  have rnA := xE_RN xA (fun z => z) (xE_RN xsA (nh p9 rn9) rn9)
  have w0A := xE_RO xA (fun a z => z.elim) (xE_RO xsA (xE_px p9) w09)
  have w1A := xE_RO xA (fun a z => z.elim) (xE_RO xsA (xE_px p9) w1)
  have oA : tg TA ro = 27 ∧ ln TA ro = 6 := ⟨((xA ro (by rw [o9.1]; decide)).1.1).trans o9.1, ((xA ro (by rw [o9.1]; decide)).1.2).trans o9.2⟩
  have nA : tg TA hN = 5 := ((xA hN (by rw [n9]; decide)).1.1).trans n9
  obtain ⟨MB, hMB⟩ : ∃ MB, MB = sI (sI (sR MA 106 px (some r2)) 107 px 0) 108 px (-1) := ⟨_, rfl⟩
  have xsB : xE (fun a => a = px) TA MA TA MB := by rw [hMB]; exact xE_tr (xE_sR 106 (some r2) rfl) (xE_tr (xE_sI 107 0 rfl) (xE_sI 108 (-1) rfl))
  have cB : ∀ f, f ≠ 106 → cR MB f px = cR MA f px := fun f n => by
    rw [hMB]
    show cR (sR MA 106 px (some r2)) f px = _
    rw [cR_sR, if_neg (fun z => n z.1)]
  have g105 : cR MA 105 px = some r1 := by rw [qA, cR_sR, if_pos ⟨rfl, rfl⟩]
  have hA : ∀ f, f ≠ 105 → cR MA f px = cR M9 f px := fun f n => by rw [qA, cR_sR, if_neg (fun z => n z.1)]
  have h9 : ∀ f, f ≠ 104 → cR M9 f px = cR (sD M7 40 hN FP.dconst0) f px := fun f n => by rw [q9, cR_sR, if_neg (fun z => n z.1)]
  have g104 : cR M9 104 px = some hN := by rw [q9, cR_sR, if_pos ⟨rfl, rfl⟩]
  have h7 : ∀ f, f ≠ 103 → cR (sD M7 40 hN FP.dconst0) f px = cR M6 f px := fun f n => by rw [q7, cR_sR, if_neg (fun z => n z.1)]
  have g103 : cR (sD M7 40 hN FP.dconst0) 103 px = some r0 := by rw [q7, cR_sR, if_pos ⟨rfl, rfl⟩]
  have h6 : ∀ f, f ≠ 102 → cR M6 f px = cR M5 f px := fun f n => by rw [q6, cR_sR, if_neg (fun z => n z.1)]
  have g102 : cR M6 102 px = some ro := by rw [q6, cR_sR, if_pos ⟨rfl, rfl⟩]
  have h5 : ∀ f, f ≠ 101 → cR M5 f px = cR M4 f px := fun f n => by rw [q5, cR_sR, if_neg (fun z => n z.1)]
  have g101 : cR M5 101 px = some hr := by rw [q5, cR_sR, if_pos ⟨rfl, rfl⟩]
  have g100 : cR M4 100 px = some x := by rw [q4, cR_sR, if_pos ⟨rfl, rfl⟩]
  refine ⟨pA, nm_e (nm_e (nm_r hMB.symm (s_opLoop (r := ro) (by decide) (by decide) ⟨⟨pA, ?_, oA.1, oA.2⟩, fun o ho => absurd ho (Nat.not_lt_zero o), fun o ho => absurd ho (Nat.not_lt_zero o)⟩ (fun TC MC OA xC wC => ?_))))⟩
  · rw [cB 102 (by decide), hA 102 (by decide), h9 102 (by decide), h7 102 (by decide)]; exact g102
  have ne27 : ∀ {a : Nat}, tg TA a ≠ 27 → ¬ a = ro := fun n z => n (by rw [z]; exact oA.1)
  have kp := xC px (by rw [pA]; decide)
  have sp := kp.2 (ne27 (by rw [pA]; decide))
  have e27 : ∀ a, (fun a => a = ro) a → tg TA a ≠ 9 ∧ tg TA a ≠ 8 ∧ tg TA a ≠ 20 ∧ tg TA a ≠ 28 := fun a z => by
    have e : a = ro := z
    rw [e, oA.1]; exact ⟨by decide, by decide, by decide, by decide⟩
  have xAll : xE (fun a => a = px) T0 M0 TC MC := by
    have F : ∀ {T T' : LY} {M M' : CM}, xE (fun _ => False) T M T' M' → xE (fun a => a = px ∨ a = ro) T M T' M' := fun h => xE_dr h (fun e he => he.elim)
    have Pp : ∀ {T T' : LY} {M M' : CM}, xE (fun a => a = px) T M T' M' → xE (fun a => a = px ∨ a = ro) T M T' M' := fun h => xE_dr h (fun e he => Or.inr (Or.inl he))
    have R : xE (fun a => a = px ∨ a = ro) TA MB TC MC := xE_dr xC (fun e he => Or.inr (Or.inr he))
    have c4 : xE (fun a => a = px ∨ a = ro) T0 M0 T4 M4 := xE_tr (F xa) (xE_tr (Pp xs3) (F xb))
    have ro0 : tg T0 ro = 0 := new_of c4 ho
    have c7 : xE (fun a => a = px ∨ a = ro) T0 M0 T6 M6 := xE_tr c4 (xE_tr (Pp xs5) (xE_tr (F x5) (xE_tr (Pp xs6) (F x6))))
    have c9 : xE (fun a => a = px ∨ a = ro) T0 M0 T9 M9 := xE_tr c7 (xE_tr (Pp xs7) (xE_tr (F x8) (xE_tr (Pp xs9) (F x9))))
    have cC : xE (fun a => a = px ∨ a = ro) T0 M0 TC MC := xE_tr c9 (xE_tr (Pp xsA) (xE_tr (F xA) (xE_tr (Pp xsB) R)))
    exact xE_dr cC (fun e he => he.elim Or.inr (fun z => Or.inl (by rw [z]; exact ro0)))
  refine k TC MC x y hr rs rp r0 r1 r2 hN ro gs0 e0 gs1 e1' gs2 e2 OA xAll ⟨?_, ?_, ?_, ?_, ?_, ?_, ?_, ?_⟩ (xE_TL xC (ne27 (by rw [tlA.1]; decide)) (xE_TL xsB (nx pA tlA) tlA)) (xE_RN xC (ne27 (by rw [rnA.1]; decide)) (xE_RN xsB (nh pA rnA) rnA)) (xE_RO xC e27 (xE_RO xsB (xE_px pA) w0A)) (xE_RO xC e27 (xE_RO xsB (xE_px pA) w1A)) (xE_RO xC e27 (xE_RO xsB (xE_px pA) w2)) (((xC hN (by rw [nA]; decide)).1.1).trans nA) wC ⟨FR_dj f1' w07, FR_dj f2' w09, FR_dj f2' w1⟩ ⟨FR_nf f0 (by rw [tl5.1]; decide), FR_nf f1' (by rw [tl7.1]; decide), FR_nf f2' (by rw [tl9.1]; decide)⟩ ⟨FR_nf f0 (by rw [tl5.2.1]; decide), FR_nf f1' (by rw [tl7.2.1]; decide), FR_nf f2' (by rw [tl9.2.1]; decide)⟩ ⟨FR_nf f0 (by rw [rn5.2.2.1]; decide), FR_nf f1' (by rw [rn7.2.2.1]; decide), FR_nf f2' (by rw [rn9.2.2.1]; decide), rsy⟩
  · rw [sp.2.2.2.1, cB 100 (by decide), hA 100 (by decide), h9 100 (by decide), h7 100 (by decide), h6 100 (by decide), h5 100 (by decide)]; exact g100
  · rw [sp.2.2.2.1, cB 101 (by decide), hA 101 (by decide), h9 101 (by decide), h7 101 (by decide), h6 101 (by decide)]; exact g101
  · rw [sp.2.2.2.1, cB 103 (by decide), hA 103 (by decide), h9 103 (by decide)]; exact g103
  · rw [sp.2.2.2.1, cB 104 (by decide), hA 104 (by decide)]; exact g104
  · rw [sp.2.2.2.1, cB 105 (by decide)]; exact g105
  · rw [sp.2.2.2.1, hMB]
    show cR (sR MA 106 px (some r2)) 106 px = _
    rw [cR_sR, if_pos ⟨rfl, rfl⟩]
  · rw [sp.1, hMB, cI_sI, if_neg (fun z => absurd z.1 (by decide)), cI_sI, if_pos ⟨rfl, rfl⟩]
  · rw [sp.1, hMB, cI_sI, if_pos ⟨rfl, rfl⟩]
end MK
