/-! the name of a type -/
def zPre (w : List Int32) (a : Nat) : Nat ⊕ (Int32 × Nat) := if zsg w a = 91 then (if (if zsg w (a + 1) = 67 then (1 : Int32) else if zsg w (a + 1) = 69 then 2 else 0) = 0 then .inl (zst w (a + 1)) else if zsg w (a + 2) = 93 then .inr ((if zsg w (a + 1) = 67 then (1 : Int32) else if zsg w (a + 1) = 69 then 2 else 0), a + 3) else .inl (zst w (a + 2))) else .inr (0, a)
def zNm1 (w : List Int32) (lt : Bool) (m : Int32) (a : Nat) : Nat ⊕ (Nat × Int32 × Nat) :=
  match nmO (zC w a) with
  | none => .inl (zst w a)
  | some i => if (m ≠ 0 ∧ bnd i = false) ∨ (i = 9 ∧ lt = false) then .inl (zst w a) else .inr (i, m, zE w a)
def zNm (w : List Int32) (lt : Bool) (a : Nat) : Nat ⊕ (Nat × Int32 × Nat) :=
  match zPre w a with
  | .inl f => .inl f
  | .inr p => zNm1 w lt p.1 p.2
section RDR
variable {nm : Nat → Nat} {T : LY} {M : CM} {hr rs rp a : Nat} {w : List Int32}
theorem nmO_lt {c : Int64} {i : Nat} (h : nmO c = some i) : i < 10 := by have := (fstI_c h).2.1; omega
theorem s_fail66 (h : RD T M hr rs rp w a) {j : Nat} (hj : j < 1000) {Q : Int32 → CM → Prop} (k : ∀ M', kR hr M M' → cI M' 66 hr = nI (zst w j) → Q 0 M') : fc_X6_failAt T hr (nI j) M Q :=
  s_failAt h hj (k _ (kR_sI hr M _ (by omega)) (by rw [cI_sI, if_pos ⟨rfl, rfl⟩]))
theorem s_nm1 (hnm : ∀ i j, i < 10 → j < 10 → nm i = nm j → i = j) (h : RD T M hr rs rp w a) (lt : Bool) {m : Int32} (hm : cI M 65 hr = m) {Q : Option Nat → CM → Prop}
    (k1 : ∀ i e, zNm1 w lt m a = .inr (i, m, e) → ∀ M', kR hr M M' → RD T M' hr rs rp w e → cI M' 65 hr = m → i < 10 → Q (some (nm i)) M')
    (k0 : ∀ f, zNm1 w lt m a = .inl f → ∀ M', kR hr M M' → cI M' 66 hr = nI f → Q none M') : fc_X6_readName_b72 nm T hr Q (bI lt) M := by
  have hl := zcn_le w
  have ha := h.2.2.2.2.1
  have h8 := h.2.1
  unfold fc_X6_readName_b72 fc_X6_readName_b114 fc_X6_readName_b103 fc_X6_readName_b122
  refine ⟨h.1.1, nm_r ha.1 (s_readWord h (fun M1 q1 r1 m1 => s_nameOf _ ?_))⟩
  unfold zNm1 at k1 k0
  have bad : ∀ f, (match nmO (zC w a) with | none => Sum.inl (zst w a) | some i => if (m ≠ 0 ∧ bnd i = false) ∨ (i = 9 ∧ lt = false) then .inl (zst w a) else .inr (i, m, zE w a)) = (Sum.inl f : Nat ⊕ (Nat × Int32 × Nat)) → f = zst w a → (tg T hr = 7 ∧ fc_X6_failAt T hr (nI a) M1 fun r3 M2 => Q none M2) := by
    intro f e ef
    refine ⟨h.1.1, s_fail66 r1 (by omega) (fun M2 q2 e2 => k0 f e M2 (kR_tr q1 q2) (by rw [ef]; exact e2))⟩
  cases en : nmO (zC w a) with
  | none => exact ⟨fun _ => bad (zst w a) (by rw [en]) rfl, fun z => absurd rfl z⟩
  | some i =>
    have hi := nmO_lt en
    rw [en] at k1 bad
    dsimp only at k1 bad
    rw [m1, hm]
    have fin : ¬ (m ≠ 0 ∧ bnd i = false) → ((¬ some (nm i) = some (nm 9) → Q (some (nm i)) M1) ∧ (some (nm i) = some (nm 9) → ((¬ bI lt = 0 → Q (some (nm i)) M1) ∧ (bI lt = 0 → (tg T hr = 7 ∧ fc_X6_failAt T hr (nI a) M1 fun r3 M2 => Q none M2))))) := by
      intro c
      have good : ¬ (i = 9 ∧ lt = false) → Q (some (nm i)) M1 := fun d => k1 i _ (if_neg (fun z => z.elim c d)) M1 q1 r1 (m1.trans hm) hi
      refine ⟨fun d => good (fun z => d (by rw [z.1])), fun d => ⟨fun f => good (fun z => f (by rw [z.2]; rfl)), fun f => bad (zst w a) (if_pos (Or.inr ⟨?_, bI_0.mp f⟩)) rfl⟩⟩
      exact hnm _ _ hi (by decide) (Option.some.inj d)
    refine ⟨fun z => (by cases z), fun _ => ⟨fun c => fin (fun z => z.1 c), fun c => ⟨i, rfl, hi, s_hasBounds hi (fun d => ⟨fun z => absurd z (by decide), fun _ => fin (fun z => by rw [d] at z; exact absurd z.2 (by decide))⟩) (fun d => ⟨fun _ => bad (zst w a) (if_pos (Or.inl ⟨c, d⟩)) rfl, fun z => absurd rfl z⟩)⟩⟩⟩
theorem s_readName (hnm : ∀ i j, i < 10 → j < 10 → nm i = nm j → i = j) (h : RD T M hr rs rp w a) (lt : Bool) {Q : Option Nat → CM → Prop}
    (k1 : ∀ i m e, zNm w lt a = .inr (i, m, e) → ∀ M', kR hr M M' → RD T M' hr rs rp w e → cI M' 65 hr = m → i < 10 → Q (some (nm i)) M')
    (k0 : ∀ f, zNm w lt a = .inl f → ∀ M', kR hr M M' → cI M' 66 hr = nI f → Q none M') : fc_X6_readName nm T hr (bI lt) M Q := by
  have hl := zcn_le w
  have ha := h.2.2.2.2.1
  have h8 := h.2.1
  unfold zNm zPre at k1 k0
  have q0 := kR_sI hr M (f := 65) 0 (by omega)
  have r0 : RD T (sI M 65 hr 0) hr rs rp w a := kR_RD q0 h (by rw [cI_sI, if_neg (fun z => by omega)]; exact ha.1) ha.2
  have m0 : cI (sI M 65 hr 0) 65 hr = 0 := by rw [cI_sI, if_pos ⟨rfl, rfl⟩]
  unfold fc_X6_readName
  refine ⟨h.1.1, nm_e (s_rtake r0 91 (by decide) (fun e1 M1 q1 r1 m1 => ⟨fun z => absurd z (by decide), fun _ => ?_⟩) (fun e1 => ⟨fun _ => ?_, fun z => absurd rfl z⟩))⟩
  · rw [if_pos e1] at k1 k0
    have kk1 := kR_tr q0 q1
    have b42 : ∀ (s : Int32) M2 b, b ≤ a + 2 → kR hr M M2 → RD T M2 hr rs rp w b → (if zsg w (a + 1) = 67 then (1 : Int32) else if zsg w (a + 1) = 69 then 2 else 0) = s → (s = 0 → b = a + 1) → (s ≠ 0 → b = a + 2) → fc_X6_readName_b42 nm T hr Q (bI lt) s M2 := by
      intro s M2 b hb kk2 r2 es b0 b1
      rw [es] at k1 k0
      have q3 := kR_sI hr M2 (f := 65) s (by omega)
      have r3 : RD T (sI M2 65 hr s) hr rs rp w b := kR_RD q3 r2 (by rw [cI_sI, if_neg (fun z => by omega)]; exact r2.2.2.2.2.1.1) r2.2.2.2.2.1.2
      have m3 : cI (sI M2 65 hr s) 65 hr = s := by rw [cI_sI, if_pos ⟨rfl, rfl⟩]
      have kk3 := kR_tr kk2 q3
      unfold fc_X6_readName_b42 fc_X6_readName_b61
      refine ⟨h.1.1, nm_e ?_⟩
      rw [m3, r3.2.2.2.2.1.1]
      refine ⟨fun c => ⟨h.1.1, s_fail66 r3 (by omega) (fun M4 q4 e4 => k0 (zst w (a + 1)) (by rw [if_pos c]) M4 (kR_tr kk3 q4) (by rw [e4, b0 c]))⟩, fun c => s_rtake r3 93 (by decide) (fun e4 M4 q4 r4 m4 => ⟨fun _ => ?_, fun z => absurd z (by decide)⟩) (fun e4 => ⟨fun z => absurd rfl z, fun _ => ⟨h.1.1, ?_⟩⟩)⟩
      · rw [b1 c] at e4
        rw [if_neg c, if_pos e4] at k1 k0
        rw [b1 c] at r4
        exact s_nm1 hnm r4 lt (m4.trans m3) (fun i e ee M5 q5 => k1 i s e ee M5 (kR_tr (kR_tr kk3 q4) q5)) (fun f ee M5 q5 => k0 f ee M5 (kR_tr (kR_tr kk3 q4) q5))
      · rw [b1 c] at e4
        rw [if_neg c, if_neg e4] at k0
        rw [r3.2.2.2.2.1.1]
        exact s_fail66 r3 (by omega) (fun M5 q5 e5 => k0 (zst w (a + 2)) rfl M5 (kR_tr kk3 q5) (by rw [e5, b1 c]))
    refine s_rtake r1 67 (by decide) (fun e2 M2 q2 r2 m2 => ⟨fun z => absurd z (by decide), fun _ => b42 1 M2 (a + 2) (by omega) (kR_tr kk1 q2) r2 (by rw [if_pos e2]) (fun z => absurd z (by decide)) (fun _ => rfl)⟩) (fun e2 => ⟨fun _ => ?_, fun z => absurd rfl z⟩)
    refine s_rtake r1 69 (by decide) (fun e3 M2 q2 r2 m2 => ⟨fun z => absurd z (by decide), fun _ => b42 2 M2 (a + 2) (by omega) (kR_tr kk1 q2) r2 (by rw [if_neg e2, if_pos e3]) (fun z => absurd z (by decide)) (fun _ => rfl)⟩) (fun e3 => ⟨fun _ => ?_, fun z => absurd rfl z⟩)
    exact b42 0 M1 (a + 1) (by omega) kk1 r1 (by rw [if_neg e2, if_neg e3]) (fun _ => rfl) (fun z => absurd rfl z)
  · rw [if_neg e1] at k1 k0
    exact s_nm1 hnm r0 lt m0 (fun i e ee M5 q5 => k1 i 0 e ee M5 (kR_tr q0 q5)) (fun f ee M5 q5 => k0 f ee M5 (kR_tr q0 q5))
theorem s_hasCode {p : Nat} (ht : tg T p = 23) (hl : ln T p = 5) (c : Int64) {Q : Int32 → CM → Prop} (k1 : (∃ i, i < 5 ∧ xJ M p i = c) → Q 1 M) (k0 : (¬ ∃ i, i < 5 ∧ xJ M p i = c) → Q 0 M) : fc_X6_hasCode T (some p) c M Q := by
  have lp : ∀ m i, i + m = 5 → (∀ j, j < i → xJ M p j ≠ c) → fc_X6_hasCode_l9 T Q (m + 1) c (some p) (nI 5) (nI i) M := by
    intro m
    induction m with
    | zero =>
      intro i hi e
      show fc_X6_hasCode_c9 T Q _ _ _ _ _ M
      unfold fc_X6_hasCode_c9
      exact br_t (nI_le (by omega) (by omega)) (k0 (fun ⟨j, hj, z⟩ => e j (by omega) z))
    | succ m ih =>
      intro i hi e
      show fc_X6_hasCode_c9 T Q (fc_X6_hasCode_l9 T Q (m + 1)) _ _ _ _ M
      unfold fc_X6_hasCode_c9
      refine br_f (nI_ge (by omega) (by omega)) ⟨p, rfl, ht, ?_⟩
      rw [hl]
      refine ⟨vp_in_nI (by omega) (by omega), nm_e ?_⟩
      rw [nI_clamp (by omega)]
      refine ⟨fun d => nm_e ?_, fun d => k1 ⟨i, by omega, (lg_cmp_eq _ _).mp d⟩⟩
      rw [nI_1]
      refine ih (i + 1) (by omega) (fun j hj => ?_)
      by_cases z : j = i
      · rw [z]; exact fun y => d ((lg_cmp_eq _ _).mpr y)
      · exact e j (by omega)
  unfold fc_X6_hasCode
  refine ⟨p, rfl, ht, ?_⟩
  rw [hl]
  exact nm_e ⟨6, lp 5 0 rfl (fun j hj => absurd hj (Nat.not_lt_zero j))⟩
end RDR
/-! more objects than before: what stood is the same, but for the reader's place, mode and fault -/
def xT (hr : Nat) (T : LY) (M : CM) (T' : LY) (M' : CM) : Prop :=
  (∀ a, tg T a ≠ 0 → tg T' a = tg T a ∧ ln T' a = ln T a) ∧ (∀ f a, tg T a ≠ 0 → ¬ (a = hr ∧ 64 ≤ f ∧ f ≤ 66) → cI M' f a = cI M f a) ∧ (∀ f a, tg T a ≠ 0 → cJ M' f a = cJ M f a) ∧ (∀ f a, tg T a ≠ 0 → cD M' f a = cD M f a) ∧ (∀ f a, tg T a ≠ 0 → cR M' f a = cR M f a) ∧ (∀ a i, tg T a ≠ 0 → xI M' a i = xI M a i) ∧ (∀ a i, tg T a ≠ 0 → xJ M' a i = xJ M a i) ∧ (∀ a i, tg T a ≠ 0 → xR M' a i = xR M a i)
theorem xT_rf (hr : Nat) (T : LY) (M : CM) : xT hr T M T M := ⟨fun _ _ => ⟨rfl, rfl⟩, fun _ _ _ _ => rfl, fun _ _ _ => rfl, fun _ _ _ => rfl, fun _ _ _ => rfl, fun _ _ _ => rfl, fun _ _ _ => rfl, fun _ _ _ => rfl⟩
theorem xT_tr {hr : Nat} {T T1 T2 : LY} {M M1 M2 : CM} (h : xT hr T M T1 M1) (k : xT hr T1 M1 T2 M2) : xT hr T M T2 M2 := by
  have n : ∀ a, tg T a ≠ 0 → tg T1 a ≠ 0 := fun a q => by rw [(h.1 a q).1]; exact q
  refine ⟨fun a q => ⟨((k.1 a (n a q)).1).trans (h.1 a q).1, ((k.1 a (n a q)).2).trans (h.1 a q).2⟩, fun f a q z => (k.2.1 f a (n a q) z).trans (h.2.1 f a q z), fun f a q => (k.2.2.1 f a (n a q)).trans (h.2.2.1 f a q), fun f a q => (k.2.2.2.1 f a (n a q)).trans (h.2.2.2.1 f a q), fun f a q => (k.2.2.2.2.1 f a (n a q)).trans (h.2.2.2.2.1 f a q), fun a i q => (k.2.2.2.2.2.1 a i (n a q)).trans (h.2.2.2.2.2.1 a i q), fun a i q => (k.2.2.2.2.2.2.1 a i (n a q)).trans (h.2.2.2.2.2.2.1 a i q), fun a i q => (k.2.2.2.2.2.2.2 a i (n a q)).trans (h.2.2.2.2.2.2.2 a i q)⟩
theorem kR_xT {hr : Nat} {M M' : CM} (T : LY) (h : kR hr M M') : xT hr T M T M' := by
  refine ⟨fun _ _ => ⟨rfl, rfl⟩, fun f a _ n => h.1 f a n, fun f a _ => ?_, fun f a _ => ?_, fun f a _ => ?_, fun f a _ => ?_, fun f a _ => ?_, fun f a _ => ?_⟩
  · show M'.2.1 f a = M.2.1 f a; rw [h.2]
  · show M'.2.2.1 f a = M.2.2.1 f a; rw [h.2]
  · exact kR_cR h f a
  · exact kR_xI h f a
  · show M'.2.2.2.2.2.1 f a = M.2.2.2.2.2.1 f a; rw [h.2]
  · show M'.2.2.2.2.2.2 f a = M.2.2.2.2.2.2 f a; rw [h.2]
theorem xT_mk {hr : Nat} {T : LY} (M : CM) {q : Nat} (k n : Nat) (h : tg T q = 0) : xT hr T M (mkT T k n q) (mkM M q) := by
  have ne : ∀ a, tg T a ≠ 0 → a ≠ q := fun a z e => z (e ▸ h)
  refine ⟨fun a z => ⟨by rw [tg_mk, if_neg (ne a z)], by rw [ln_mk, if_neg (ne a z)]⟩, fun f a z _ => by rw [cI_mkM, if_neg (ne a z)], fun f a z => by rw [cJ_mkM, if_neg (ne a z)], fun f a z => by rw [cD_mkM, if_neg (ne a z)], fun f a z => by rw [cR_mkM, if_neg (ne a z)], fun a i z => by rw [xI_mkM, if_neg (ne a z)], fun a i z => by rw [xJ_mkM, if_neg (ne a z)], fun a i z => by rw [xR_mkM, if_neg (ne a z)]⟩
section XT
variable {hr : Nat} {T T' : LY} {M M' : CM} {q : Nat}
theorem xT_sI (h : xT hr T M T' M') (hq : tg T q = 0) (f : Nat) (v : Int32) : xT hr T M T' (sI M' f q v) :=
  ⟨h.1, fun g a z n => by rw [cI_sI, if_neg (fun (y : _ ∧ _) => (fun (e : a = q) => z (by rw [e]; exact hq)) y.2)]; exact h.2.1 g a z n, h.2.2⟩
theorem xT_sR (h : xT hr T M T' M') (hq : tg T q = 0) (f : Nat) (v : Option Nat) : xT hr T M T' (sR M' f q v) :=
  ⟨h.1, h.2.1, h.2.2.1, h.2.2.2.1, fun g a z => by rw [cR_sR, if_neg (fun (y : _ ∧ _) => (fun (e : a = q) => z (by rw [e]; exact hq)) y.2)]; exact h.2.2.2.2.1 g a z, h.2.2.2.2.2⟩
theorem xT_yJ (h : xT hr T M T' M') (hq : tg T q = 0) (i : Nat) (v : Int64) : xT hr T M T' (yJ M' q i v) :=
  ⟨h.1, h.2.1, h.2.2.1, h.2.2.2.1, h.2.2.2.2.1, h.2.2.2.2.2.1, fun a j z => by rw [xJ_yJ, if_neg (fun (y : _ ∧ _) => (fun (e : a = q) => z (by rw [e]; exact hq)) y.1)]; exact h.2.2.2.2.2.2.1 a j z, h.2.2.2.2.2.2.2⟩
theorem xT_yR (h : xT hr T M T' M') (hq : tg T q = 0) (i : Nat) (v : Option Nat) : xT hr T M T' (yR M' q i v) :=
  ⟨h.1, h.2.1, h.2.2.1, h.2.2.2.1, h.2.2.2.2.1, h.2.2.2.2.2.1, h.2.2.2.2.2.2.1, fun a j z => by rw [xR_yR, if_neg (fun (y : _ ∧ _) => (fun (e : a = q) => z (by rw [e]; exact hq)) y.1)]; exact h.2.2.2.2.2.2.2 a j z⟩
theorem xT_RD {rs rp a b : Nat} {w : List Int32} (k : xT hr T M T' M') (h : RD T M hr rs rp w a) (e : cI M' 64 hr = nI b) (hb : b ≤ zcn w) : RD T' M' hr rs rp w b := by
  obtain ⟨⟨a1, a2, a3, a4, a5, a6, a7⟩, a8, a9, a10, a11, a12⟩ := h
  have n1 : tg T hr ≠ 0 := by rw [a1]; decide
  have n2 : tg T rs ≠ 0 := by rw [a3]; decide
  have n3 : tg T rp ≠ 0 := by rw [a6]; decide
  refine ⟨⟨(k.1 _ n1).1.trans a1, (k.2.2.2.2.1 _ _ n1).trans a2, (k.1 _ n2).1.trans a3, (k.1 _ n2).2.trans a4, (k.2.2.2.2.1 _ _ n1).trans a5, (k.1 _ n3).1.trans a6, (k.1 _ n3).2.trans a7⟩, a8, (k.2.1 _ _ n1 (by omega)).trans a9, (k.2.1 _ _ n1 (by omega)).trans a10, ⟨e, hb⟩, fun j hj => ?_⟩
  rw [k.2.2.2.2.2.1 _ _ n2, k.2.2.2.2.2.1 _ _ n3]; exact a12 j hj
theorem xT_wds {r : Option Nat} {l : List Int64} (k : xT hr T M T' M') (h : wds T M r l) : wds T' M' r l := by
  rcases h with h | ⟨h, p, a, b, c, d, e⟩
  · exact Or.inl h
  · have n : tg T p ≠ 0 := by rw [b]; decide
    exact Or.inr ⟨h, p, a, (k.1 _ n).1.trans b, (k.1 _ n).2.trans c, d, fun i hi => (k.2.2.2.2.2.2.1 p i n).trans (e i hi)⟩
theorem xT_tyc {nm : Nat → Nat} {a : Nat} {τ : Ty} {e : Option Nat} (k : xT hr T M T' M') (h : tyc nm T M a τ e) : tyc nm T' M' a τ e := by
  obtain ⟨a1, a2, a3, a4, a5, a6, a7⟩ := h
  have n : tg T a ≠ 0 := by rw [a1]; decide
  refine ⟨(k.1 _ n).1.trans a1, a2, (k.2.2.2.2.1 _ _ n).trans a3, (k.2.1 _ _ n (by omega)).trans a4, (k.2.1 _ _ n (by omega)).trans a5, ?_, (k.2.2.2.2.1 _ _ n).trans a7⟩
  rw [k.2.2.2.2.1 _ _ n]; exact xT_wds k a6
theorem xT_arc {nm : Nat → Nat} {a : Nat} {g : Ag} (k : xT hr T M T' M') (h : arc nm T M a g) : arc nm T' M' a g := by
  obtain ⟨a1, a2, a3, ta, a4, a5⟩ := h
  have n : tg T a ≠ 0 := by rw [a1]; decide
  refine ⟨(k.1 _ n).1.trans a1, (k.2.1 _ _ n (by omega)).trans a2, (k.2.1 _ _ n (by omega)).trans a3, ta, (k.2.2.2.2.1 _ _ n).trans a4, ?_⟩
  rcases a5 with ⟨b1, b2⟩ | ⟨e, s, b1, b2, b3⟩
  · exact Or.inl ⟨b1, xT_tyc k b2⟩
  · exact Or.inr ⟨e, s, b1, xT_tyc k b2, xT_tyc k b3⟩
theorem xT_fmc {nm : Nat → Nat} {a : Nat} {φ : List Ag} (k : xT hr T M T' M') (h : fmc nm T M a φ) : fmc nm T' M' a φ := by
  obtain ⟨a1, a2, a3, a4, r, a5, a6, a7, a8⟩ := h
  have n : tg T a ≠ 0 := by rw [a1]; decide
  have n2 : tg T r ≠ 0 := by rw [a6]; decide
  refine ⟨(k.1 _ n).1.trans a1, a2, (k.2.1 _ _ n (by omega)).trans a3, (k.2.1 _ _ n (by omega)).trans a4, r, (k.2.2.2.2.1 _ _ n).trans a5, (k.1 _ n2).1.trans a6, (k.1 _ n2).2.trans a7, fun i hi => ?_⟩
  obtain ⟨p, b1, b2⟩ := a8 i hi
  exact ⟨p, (k.2.2.2.2.2.2.2 _ _ n2).trans b1, xT_arc k b2⟩
end XT
