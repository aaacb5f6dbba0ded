/-! the words of an enum, types, arguments -/
def pad (l : List Int64) : List Int64 := l ++ List.replicate (5 - l.length) 0
def zWs (w : List Int32) : Nat → Nat → List Int64 → Nat ⊕ (List Int64 × Nat)
  | 0, a, _ => .inl a
  | n + 1, a, acc => if zC w a = 0 ∨ zC w a ∈ acc then .inl (zst w a) else if n = 0 ∨ zsg w (zE w a) ≠ 44 then (if zsg w (zE w a) = 41 then .inr (acc ++ [zC w a], zE w a + 1) else .inl (zst w (zE w a))) else zWs w n (zE w a + 1) (acc ++ [zC w a])
def zWords (w : List Int32) (a : Nat) : Nat ⊕ (List Int64 × Nat) := if zsg w a = 40 then zWs w 5 (a + 1) [] else .inl (zst w a)
def zRest (w : List Int32) (j : Nat) (m : Int32) (e : Nat) : Nat ⊕ (Ty × Nat) :=
  match (if j = 8 then zWords w e else .inr ([], e) : Nat ⊕ (List Int64 × Nat)) with
  | .inl f => .inl f
  | .inr p => if j ≠ 7 ∧ zsg w p.2 = 63 then .inr ((j, m, true, if j = 8 then pad p.1 else []), p.2 + 1) else .inr ((j, m, false, if j = 8 then pad p.1 else []), p.2)
def zEnd (w : List Int32) (lst : Bool) (τ : Ty) (e : Nat) : Nat ⊕ (Ty × Option Ty × Nat) := if lst = true then (if zsg w e = 62 then (if zsg w (e + 1) = 63 then .inr ((9, 0, true, []), some τ, e + 2) else .inr ((9, 0, false, []), some τ, e + 1)) else .inl (zst w e)) else .inr (τ, none, e)
def zTail (w : List Int32) (lst : Bool) (j : Nat) (m : Int32) (e : Nat) : Nat ⊕ (Ty × Option Ty × Nat) :=
  match zRest w j m e with
  | .inl f => .inl f
  | .inr p => zEnd w lst p.1 p.2
def zTy (w : List Int32) (a : Nat) : Nat ⊕ (Ty × Option Ty × Nat) :=
  match zNm w true a with
  | .inl f => .inl f
  | .inr p => if p.1 = 9 then (if zsg w p.2.2 = 60 then (match zNm w false (p.2.2 + 1) with
    | .inl f => .inl f
    | .inr q => zTail w true q.1 q.2.1 q.2.2) else .inl (zst w p.2.2)) else zTail w false p.1 p.2.1 p.2.2
def zDots (w : List Int32) (opt : Bool) (e : Nat) : Nat ⊕ (Bool × Nat) := if opt = false ∧ zsg w e = 46 then (if zsg w (e + 1) = 46 then (if zsg w (e + 2) = 46 then .inr (true, e + 3) else .inl (zst w (e + 2))) else .inl (zst w (e + 1))) else .inr (false, e)
def zAr2 (w : List Int32) (b opt : Bool) (a : Nat) : Nat ⊕ (Ag × Nat) :=
  match zTy w a with
  | .inl f => .inl f
  | .inr p => match zDots w opt p.2.2 with
    | .inl f => .inl f
    | .inr q => if b = true ∧ opt = false ∧ q.1 = false then .inl (zst w q.2) else .inr ((opt, q.1, p.1, p.2.1), q.2)
def zOpt (w : List Int32) (a : Nat) : Bool := decide (zC w a = wcode (sText 10))
def zAr (w : List Int32) (b : Bool) (a : Nat) : Nat ⊕ (Ag × Nat) := zAr2 w b (zOpt w a) (if zOpt w a = true then zE w a else a)
theorem padD (l : List Int64) (j : Nat) : (pad l).getD j 0 = l.getD j 0 := by
  unfold pad
  by_cases h : j < l.length
  · rw [List.getD_eq_getElem?_getD, List.getD_eq_getElem?_getD, List.getElem?_append_left h]
  · rw [List.getD_eq_getElem?_getD, List.getD_eq_getElem?_getD, List.getElem?_append_right (by omega), List.getElem?_eq_none (l := l) (by omega)]
    by_cases k : j - l.length < 5 - l.length
    · rw [List.getElem?_replicate, if_pos k]; rfl
    · rw [List.getElem?_replicate, if_neg k]
theorem pad_len {l : List Int64} (h : l.length ≤ 5) : (pad l).length = 5 := by unfold pad; rw [List.length_append, List.length_replicate]; omega
theorem snocD (l : List Int64) (c : Int64) (j : Nat) : (l ++ [c]).getD j 0 = if j = l.length then c else l.getD j 0 := by
  by_cases h : j = l.length
  · rw [if_pos h, h]; simp
  · rw [if_neg h]
    by_cases k : j < l.length
    · rw [List.getD_eq_getElem?_getD, List.getD_eq_getElem?_getD, List.getElem?_append_left k]
    · rw [List.getD_eq_getElem?_getD, List.getD_eq_getElem?_getD, List.getElem?_eq_none (by rw [List.length_append, List.length_singleton]; omega), List.getElem?_eq_none (by omega)]
theorem mem_getD {l : List Int64} {c : Int64} : c ∈ l ↔ ∃ i, i < l.length ∧ l.getD i 0 = c := by
  constructor
  · intro h
    obtain ⟨i, hi, e⟩ := List.mem_iff_getElem.mp h
    exact ⟨i, hi, by rw [List.getD_eq_getElem?_getD, List.getElem?_eq_getElem hi]; exact e⟩
  · rintro ⟨i, hi, e⟩
    rw [List.getD_eq_getElem?_getD, List.getElem?_eq_getElem hi] at e
    exact e ▸ List.getElem_mem hi
section RDR
variable {nm : Nat → Nat} {T : LY} {M : CM} {hr rs rp a : Nat} {w : List Int32}
theorem s_readWords (h : RD T M hr rs rp w a) {Q : Option Nat → LY → CM → Prop}
    (k1 : ∀ l e, zWords w a = .inr (l, e) → ∀ T' M' p, xT hr T M T' M' → RD T' M' hr rs rp w e → wds T' M' (some p) (pad l) → Q (some p) T' M')
    (k0 : ∀ f, zWords w a = .inl f → ∀ T' M', xT hr T M T' M' → cI M' 66 hr = nI f → Q none T' M') : fc_X6_readWords 1 5 hr T M Q := by
  have hl := zcn_le w
  have h8 := h.2.1
  unfold zWords at k1 k0
  unfold fc_X6_readWords
  refine ⟨h.1.1, by decide, by decide, s_need h 40 (by decide) (fun e0 M1 q1 r1 m1 => ⟨fun _ => ⟨by decide, by decide, by decide, by decide, fun p T2 M2 hp eT eM => ⟨6, ?_⟩⟩, fun z => absurd z (by decide)⟩) (fun e0 M1 q1 r1 m1 => ⟨fun z => absurd rfl z, fun _ => ⟨by decide, by decide, ?_⟩⟩)⟩
  rotate_left
  · rw [if_neg e0] at k0
    exact k0 _ rfl T M1 (kR_xT T q1) m1
  rw [if_pos e0] at k1 k0
  have eT' : T2 = mkT T 23 5 p := eT
  have x2 : xT hr T M T2 M2 := by rw [eT', eM]; exact xT_tr (kR_xT T q1) (xT_mk M1 23 5 hp)
  have hne : hr ≠ p := fun z => by have := h.1.1; rw [z, hp] at this; exact absurd this (by decide)
  have r2 : RD T2 M2 hr rs rp w (a + 1) := xT_RD x2 h (by rw [eM, cI_mkM, if_neg hne]; exact r1.2.2.2.2.1.1) r1.2.2.2.2.1.2
  have tp : tg T2 p = 23 := by rw [eT', tg_mk, if_pos rfl]
  have lp : ln T2 p = 5 := by rw [eT', ln_mk, if_pos rfl]
  have z2 : ∀ j, j < 5 → xJ M2 p j = ([] : List Int64).getD j 0 := fun j _ => by rw [eM, xJ_mkM, if_pos rfl]; rfl
  have hR2 : tg T2 hr = 7 := r2.1.1
  have lpR : ∀ n i b (acc : List Int64) N, i + n = 5 → acc.length = i → xT hr T M T2 N → RD T2 N hr rs rp w b → (∀ j, j < 5 → xJ N p j = acc.getD j 0) → zWs w n b acc = zWs w 5 (a + 1) [] → n ≠ 0 → fc_X6_readWords_l17 1 5 hr Q (n + 1) p (nI i) T2 N 1 5 := by
    intro n
    induction n with
    | zero => intro i b acc N hi _ _ _ _ _ n0; exact absurd rfl n0
    | succ n ih =>
      intro i b acc N hi hacc xN rN zN e _
      show fc_X6_readWords_c17 1 5 hr Q (fc_X6_readWords_l17 1 5 hr Q (n + 1)) _ _ _ _ _ _
      have hb := rN.2.2.2.2.1
      rw [← e] at k1 k0
      unfold zWs at k1 k0
      have close : ∀ N2 b2 (acc2 : List Int64), acc2.length ≤ 5 → (∀ j, j < 5 → xJ N2 p j = acc2.getD j 0) → xT hr T M T2 N2 → RD T2 N2 hr rs rp w b2 → (∀ l e, (if zsg w b2 = 41 then .inr (acc2, b2 + 1) else .inl (zst w b2) : Nat ⊕ (List Int64 × Nat)) = .inr (l, e) → ∀ T' M' p, xT hr T M T' M' → RD T' M' hr rs rp w e → wds T' M' (some p) (pad l) → Q (some p) T' M') → (∀ f, (if zsg w b2 = 41 then .inr (acc2, b2 + 1) else .inl (zst w b2) : Nat ⊕ (List Int64 × Nat)) = .inl f → ∀ T' M', xT hr T M T' M' → cI M' 66 hr = nI f → Q none T' M') → fc_X6_readWords_b89 1 5 hr Q p T2 N2 1 5 := by
        intro N2 b2 acc2 la za x2' r2' g1 g0
        unfold fc_X6_readWords_b89 fc_X6_readWords_b103
        refine ⟨hR2, by decide, by decide, s_need r2' 41 (by decide) (fun e4 M4 q4 r4 m4 => ⟨fun z => absurd z (by decide), fun _ => ⟨by decide, by decide, ?_⟩⟩) (fun e4 M4 q4 r4 m4 => ⟨fun _ => ⟨by decide, by decide, ?_⟩, fun z => absurd rfl z⟩)⟩
        · rw [if_pos e4] at g1
          refine g1 acc2 _ rfl T2 M4 p (xT_tr x2' (kR_xT T2 q4)) r4 (Or.inr ⟨fun z => ?_, p, rfl, tp, by rw [lp, pad_len la], pad_len la, fun j hj => ?_⟩)
          · have := pad_len la; rw [z] at this; exact absurd this (by decide)
          · rw [pad_len la] at hj
            rw [padD, ← za j hj, (kR_xT T2 q4).2.2.2.2.2.2.1 p j (by rw [tp]; decide)]
        · rw [if_neg e4] at g0
          exact g0 _ rfl T2 M4 (xT_tr x2' (kR_xT T2 q4)) m4
      unfold fc_X6_readWords_c17
      rw [lp, hb.1]
      refine ⟨tp, br_f (nI_ge (by omega) (by omega)) ⟨hR2, nm_e ⟨by decide, by decide, s_readWord rN (fun N1 q1' r1' m1' => ?_)⟩⟩⟩
      have x1' := xT_tr xN (kR_xT T2 q1')
      have zN1 : ∀ j, j < 5 → xJ N1 p j = acc.getD j 0 := fun j hj => ((kR_xT T2 q1').2.2.2.2.2.2.1 p j (by rw [tp]; decide)).trans (zN j hj)
      have bad : (zC w b = 0 ∨ zC w b ∈ acc) → fc_X6_readWords_b50 1 5 hr Q (nI b) T2 N1 1 5 := by
        intro c
        rw [if_pos c] at k0
        unfold fc_X6_readWords_b50
        exact ⟨hR2, by decide, by decide, s_fail66 r1' (by omega) (fun M4 q4 m4 => ⟨by decide, by decide, k0 _ rfl T2 M4 (xT_tr x1' (kR_xT T2 q4)) m4⟩)⟩
      refine ⟨fun c => bad (Or.inl ((lg_cmp_eq _ _).mp c)), fun c => ⟨by decide, by decide, s_hasCode tp lp _ (fun d => ⟨fun z => absurd z (by decide), fun _ => bad (Or.inr ?_)⟩) (fun d => ⟨fun _ => ?_, fun z => absurd rfl z⟩)⟩⟩
      · obtain ⟨j, hj, ej⟩ := d
        rw [zN1 j hj] at ej
        refine mem_getD.mpr ⟨j, Nat.lt_of_not_le (fun z => c ((lg_cmp_eq _ _).mpr ?_)), ej⟩
        rw [← ej, List.getD_eq_getElem?_getD, List.getElem?_eq_none z]; rfl
      · have ok : ¬ (zC w b = 0 ∨ zC w b ∈ acc) := fun z => z.elim (fun z => c ((lg_cmp_eq _ _).mpr z)) (fun z => by
          obtain ⟨j, hj, ej⟩ := mem_getD.mp z
          exact d ⟨j, by omega, (zN1 j (by omega)).trans ej⟩)
        rw [if_neg ok] at k1 k0
        refine ⟨vp_in_nI (by omega) (by omega), nm_e ?_⟩
        rw [nI_clamp (by omega)]
        obtain ⟨N3, hN3⟩ : ∃ N3, N3 = yJ N1 p i (zC w b) := ⟨_, rfl⟩
        rw [← hN3]
        have x3 : xT hr T M T2 N3 := by rw [hN3]; exact xT_yJ x1' hp _ _
        have r3 : RD T2 N3 hr rs rp w (zE w b) := xT_RD x3 h (by rw [hN3]; exact r1'.2.2.2.2.1.1) r1'.2.2.2.2.1.2
        have zN3 : ∀ j, j < 5 → xJ N3 p j = (acc ++ [zC w b]).getD j 0 := fun j hj => by
          rw [hN3, xJ_yJ, snocD, hacc]
          by_cases y : j = i
          · rw [if_pos ⟨rfl, y⟩, if_pos y]
          · rw [if_neg (fun z => y z.2), if_neg y]; exact zN1 j hj
        have la : (acc ++ [zC w b]).length ≤ 5 := by rw [List.length_append, List.length_singleton]; omega
        rw [show nI 5 - 1 = nI 4 from rfl]
        refine pk_eq i 4 (fun y => ?_) (fun y => ⟨by decide, by decide, s_rtake r3 44 (by decide) (fun e4 M4 q4 r4 m4 => ⟨fun _ => nm_e ?_, fun z => absurd z (by decide)⟩) (fun e4 => ⟨fun z => absurd rfl z, fun _ => ?_⟩)⟩)
        · rw [if_pos (Or.inl (show n = 0 by omega))] at k1 k0
          exact close N3 _ _ la zN3 x3 r3 k1 k0
        · rw [nI_1]
          refine ih (i + 1) _ (acc ++ [zC w b]) M4 (by omega) (by rw [List.length_append, List.length_singleton, hacc]) (xT_tr x3 (kR_xT T2 q4)) r4 (fun j hj => ((kR_xT T2 q4).2.2.2.2.2.2.1 p j (by rw [tp]; decide)).trans (zN3 j hj)) ?_ (by omega)
          rw [← e]
          show _ = (if _ then _ else _)
          rw [if_neg ok, if_neg (fun z => z.elim (fun z => y (by omega)) (fun z => z e4))]
        · rw [if_pos (Or.inr e4)] at k1 k0
          exact close N3 _ _ la zN3 x3 r3 k1 k0
  exact lpR 5 0 (a + 1) [] M2 rfl rfl x2 r2 z2 rfl (by decide)
/-- a new type -/
theorem s_newType {T' : LY} {M0 : CM} {q : Nat} {j : Nat} {m : Int32} {b : Bool} {cs : List Int64} {wo e : Option Nat} (x0 : xT hr T M T' M0) (tq : tg T' q = 10) (hq : tg T q = 0) (hj : j < 10) (hw : wds T M wo cs) {Q : CM → Prop} (k : ∀ M', xT hr T M T' M' → (∀ f c, c ≠ q → cI M' f c = cI M0 f c) → tyc nm T' M' q (j, m, b, cs) e → Q M') : fc_X9_init T' q (some (nm j)) m (bI b) wo e M0 Q := by
  unfold fc_X9_init
  refine ⟨tq, nm_e (nm_e ⟨bI_z b, nm_e (nm_e (nm_e (k _ (xT_sR (xT_sR (xT_sI (xT_sI (xT_sR x0 hq _ _) hq _ _) hq _ _) hq _ _) hq _ _) (fun f c hc => ?_) ?_)))⟩)⟩
  · rw [cI_sR, cI_sR, cI_sI, if_neg (fun z => hc z.2), cI_sI, if_neg (fun z => hc z.2), cI_sR]
  · have hw' := xT_wds (xT_sR (xT_sR (xT_sI (xT_sI (xT_sR x0 hq 90 (some (nm j))) hq 91 m) hq 92 (bI b)) hq 93 wo) hq 94 e) hw
    refine ⟨tq, hj, ?_, ?_, ?_, ?_, ?_⟩
    · simp [cR_sR, cR_sI]
    · simp [cI_sR, cI_sI]
    · simp [cI_sR, cI_sI]
    · have e93 : cR (sR (sR (sI (sI (sR M0 90 q (some (nm j))) 91 q m) 92 q (bI b)) 93 q wo) 94 q e) 93 q = wo := by simp [cR_sR, cR_sI]
      rw [e93]; exact hw'
    · simp [cR_sR]
end RDR
