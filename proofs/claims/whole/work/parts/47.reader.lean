/-! the line without its blanks, and what the reader has of it -/
def psn (w : List Int32) : Nat → List Nat
  | 0 => []
  | n + 1 => if w.getD n 0 = 32 then psn w n else psn w n ++ [n]
def zps (w : List Int32) : List Nat := psn w w.length
def zcn (w : List Int32) : Nat := (zps w).length
def zst (w : List Int32) (j : Nat) : Nat := (zps w).getD j w.length
def zsg (w : List Int32) (j : Nat) : Int32 := if j < zcn w then w.getD (zst w j) 0 else 0
theorem getD_l {l : List Nat} {x d : Nat} {i : Nat} (h : i < l.length) : (l ++ [x]).getD i d = l.getD i d := by
  rw [List.getD_eq_getElem?_getD, List.getD_eq_getElem?_getD, List.getElem?_append_left h]
theorem getD_r {l : List Nat} {x d : Nat} : (l ++ [x]).getD l.length d = x := by simp
theorem psn_len (w : List Int32) : ∀ n, (psn w n).length ≤ n
  | 0 => Nat.le_refl _
  | n + 1 => by
    have := psn_len w n
    unfold psn
    split
    · omega
    · rw [List.length_append, List.length_singleton]; omega
theorem psn_bd (w : List Int32) (d : Nat) : ∀ n i, i < (psn w n).length → (psn w n).getD i d < n ∧ w.getD ((psn w n).getD i d) 0 ≠ 32
  | 0, i, h => absurd h (Nat.not_lt_zero i)
  | n + 1, i, h => by
    have ih := psn_bd w d n
    unfold psn at h ⊢
    split at h
    · rename_i c
      rw [if_pos c]
      exact ⟨Nat.lt_succ_of_lt (ih i h).1, (ih i h).2⟩
    · rename_i c
      rw [if_neg c]
      rw [List.length_append, List.length_singleton] at h
      by_cases e : i = (psn w n).length
      · rw [e, getD_r]; exact ⟨Nat.lt_succ_self n, c⟩
      · rw [getD_l (by omega)]
        exact ⟨Nat.lt_succ_of_lt (ih i (by omega)).1, (ih i (by omega)).2⟩
theorem psn_mono (w : List Int32) (d : Nat) : ∀ n i j, i < j → j < (psn w n).length → (psn w n).getD i d < (psn w n).getD j d
  | 0, _, j, _, h => absurd h (Nat.not_lt_zero j)
  | n + 1, i, j, hij, h => by
    have ih := psn_mono w d n
    unfold psn at h ⊢
    split at h
    · rename_i c
      rw [if_pos c]; exact ih i j hij h
    · rename_i c
      rw [if_neg c]
      rw [List.length_append, List.length_singleton] at h
      by_cases e : j = (psn w n).length
      · rw [e, getD_r, getD_l (by omega)]; exact (psn_bd w d n i (by omega)).1
      · rw [getD_l (by omega), getD_l (by omega)]; exact ih i j hij (by omega)
theorem psn_all (w : List Int32) (d : Nat) : ∀ n p, p < n → w.getD p 0 ≠ 32 → ∃ i, i < (psn w n).length ∧ (psn w n).getD i d = p
  | 0, p, h, _ => absurd h (Nat.not_lt_zero p)
  | n + 1, p, h, hp => by
    unfold psn
    by_cases e : p = n
    · subst e
      rw [if_neg hp]
      exact ⟨(psn w p).length, by simp, getD_r⟩
    · obtain ⟨i, h1, h2⟩ := psn_all w d n p (by omega) hp
      split
      · exact ⟨i, h1, h2⟩
      · exact ⟨i, by simp; omega, by rw [getD_l h1]; exact h2⟩
theorem zcn_le (w : List Int32) : zcn w ≤ w.length := psn_len w _
theorem zst_lt {w : List Int32} {j : Nat} (h : j < zcn w) : zst w j < w.length ∧ w.getD (zst w j) 0 ≠ 32 := psn_bd w _ _ j h
theorem zst_mono {w : List Int32} {i j : Nat} (h : i < j) (hj : j < zcn w) : zst w i < zst w j := psn_mono w _ _ i j h hj
theorem zst_end {w : List Int32} {j : Nat} (h : zcn w ≤ j) : zst w j = w.length := by
  unfold zst; rw [List.getD_eq_getElem?_getD, List.getElem?_eq_none h]; rfl
theorem zst_le (w : List Int32) (j : Nat) : zst w j ≤ w.length := by
  by_cases h : j < zcn w
  · exact Nat.le_of_lt (zst_lt h).1
  · rw [zst_end (by omega)]; exact Nat.le_refl _
theorem zst_mle {w : List Int32} {i j : Nat} (h : i ≤ j) : zst w i ≤ zst w j := by
  by_cases hj : j < zcn w
  · by_cases e : i = j
    · rw [e]; exact Nat.le_refl _
    · exact Nat.le_of_lt (zst_mono (by omega) hj)
  · rw [zst_end (j := j) (by omega)]; exact zst_le w i
/-- the reader at hr, its rows rs (signs) and rp (where they stood), at place a of the line w -/
def RD (T : LY) (M : CM) (hr rs rp : Nat) (w : List Int32) (a : Nat) : Prop := (tg T hr = 7 ∧ cR M 60 hr = some rs ∧ tg T rs = 20 ∧ ln T rs = 100 ∧ cR M 61 hr = some rp ∧ tg T rp = 22 ∧ ln T rp = 100) ∧ w.length ≤ 100 ∧ cI M 62 hr = nI (zcn w) ∧ cI M 63 hr = nI w.length ∧ (cI M 64 hr = nI a ∧ a ≤ zcn w) ∧ ∀ j, j < zcn w → xI M rs j = zsg w j ∧ nC (zsg w j) ∧ xI M rp j = nI (zst w j)
/-- nothing but the reader's place, mode and fault is other -/
def kR (hr : Nat) (M M' : CM) : Prop := (∀ f b, ¬ (b = hr ∧ 64 ≤ f ∧ f ≤ 66) → cI M' f b = cI M f b) ∧ M'.2 = M.2
theorem kR_rf (hr : Nat) (M : CM) : kR hr M M := ⟨fun _ _ _ => rfl, rfl⟩
theorem kR_tr {hr : Nat} {M M1 M2 : CM} (h : kR hr M M1) (k : kR hr M1 M2) : kR hr M M2 := ⟨fun f b n => (k.1 f b n).trans (h.1 f b n), k.2.trans h.2⟩
theorem kR_sI (hr : Nat) (M : CM) {f : Nat} (v : Int32) (hf : 64 ≤ f ∧ f ≤ 66) : kR hr M (sI M f hr v) := ⟨fun g b n => by rw [cI_sI, if_neg (fun z => n ⟨z.2, by omega, by omega⟩)], rfl⟩
theorem kR_cR {hr : Nat} {M M' : CM} (h : kR hr M M') (f a : Nat) : cR M' f a = cR M f a := by
  show M'.2.2.2.1 f a = M.2.2.2.1 f a; rw [h.2]
theorem kR_xI {hr : Nat} {M M' : CM} (h : kR hr M M') (f a : Nat) : xI M' f a = xI M f a := by
  show M'.2.2.2.2.1 f a = M.2.2.2.2.1 f a; rw [h.2]
section RDR
variable {T : LY} {M : CM} {hr rs rp a : Nat} {w : List Int32}
theorem kR_RD {M' : CM} (k : kR hr M M') (h : RD T M hr rs rp w a) {b : Nat} (e : cI M' 64 hr = nI b) (hb : b ≤ zcn w) : RD T M' hr rs rp w b := by
  obtain ⟨⟨a1, a2, a3, a4, a5, a6, a7⟩, a8, a9, a10, a11, a12⟩ := h
  refine ⟨⟨a1, ?_, a3, a4, ?_, a6, a7⟩, a8, ?_, ?_, ⟨e, hb⟩, fun j hj => ?_⟩
  · rw [kR_cR k]; exact a2
  · rw [kR_cR k]; exact a5
  · rw [k.1 _ _ (fun z => by omega)]; exact a9
  · rw [k.1 _ _ (fun z => by omega)]; exact a10
  · rw [kR_xI k, kR_xI k]; exact a12 j hj
theorem s_signAt (h : RD T M hr rs rp w a) {j : Nat} (hj : j < 1000) {Q : Int32 → CM → Prop} (k : Q (zsg w j) M) : fc_X6_signAt T hr (nI j) M Q := by
  obtain ⟨⟨a1, a2, a3, a4, a5, a6, a7⟩, a8, a9, a10, a11, a12⟩ := h
  have := zcn_le w
  unfold fc_X6_signAt fc_X6_signAt_b30 fc_X6_signAt_b31
  rw [a9]
  refine br_f (nI_pos (by omega)) ⟨a1, pk_le (zcn w) j (fun c => ?_) (fun c => ⟨rs, a2, a3, ?_⟩)⟩
  · unfold zsg at k; rw [if_neg (by omega)] at k; exact ⟨nC_0, k⟩
  · rw [a4]
    refine br_f (nI_ge (by omega) (by omega)) ⟨vp_in_nI (by omega) (by omega), ?_⟩
    rw [nI_clamp (by omega), (a12 j c).1]
    exact ⟨(a12 j c).2.1, k⟩
theorem s_stoodAt (h : RD T M hr rs rp w a) {j : Nat} (hj : j < 1000) {Q : Int32 → CM → Prop} (k : Q (nI (zst w j)) M) : fc_X6_stoodAt T hr (nI j) M Q := by
  obtain ⟨⟨a1, a2, a3, a4, a5, a6, a7⟩, a8, a9, a10, a11, a12⟩ := h
  have := zcn_le w
  unfold fc_X6_stoodAt fc_X6_stoodAt_b30 fc_X6_stoodAt_b34
  rw [a9, a10]
  refine br_f (nI_pos (by omega)) ⟨a1, pk_le (zcn w) j (fun c => ⟨a1, ?_⟩) (fun c => ⟨rp, a5, a6, ?_⟩)⟩
  · rw [zst_end c] at k; exact k
  · rw [a7]
    refine br_f (nI_ge (by omega) (by omega)) ⟨vp_in_nI (by omega) (by omega), ?_⟩
    rw [nI_clamp (by omega), (a12 j c).2.2]
    exact k
theorem s_failAt (h : RD T M hr rs rp w a) {j : Nat} (hj : j < 1000) {Q : Int32 → CM → Prop} (k : Q 0 (sI M 66 hr (nI (zst w j)))) : fc_X6_failAt T hr (nI j) M Q := ⟨h.1.1, s_stoodAt h hj (nm_e k)⟩
theorem s_rtake (h : RD T M hr rs rp w a) (c : Int32) (hc : c ≠ 0) {Q : Int32 → CM → Prop} (k1 : zsg w a = c → ∀ M', kR hr M M' → RD T M' hr rs rp w (a + 1) → cI M' 65 hr = cI M 65 hr → Q 1 M') (k0 : zsg w a ≠ c → Q 0 M) : fc_X6_take T hr c M Q := by
  have h' := h
  obtain ⟨a1, a8, a9, a10, ⟨a11, a13⟩, a12⟩ := h'
  have := zcn_le w
  unfold fc_X6_take
  rw [a11]
  refine ⟨h.1.1, s_signAt h (by omega) ⟨fun e => nm_e ?_, fun e => k0 e⟩⟩
  rw [a11, nI_1]
  have hl : a < zcn w := Nat.lt_of_not_le (fun z => hc (by rw [← e]; unfold zsg; rw [if_neg (by omega)]))
  have k := kR_sI hr M (f := 64) (nI (a + 1)) (by omega)
  exact k1 e _ k (kR_RD k h (by rw [cI_sI, if_pos ⟨rfl, rfl⟩]) (by omega)) (by rw [cI_sI, if_neg (fun z => by omega)])
theorem s_need (h : RD T M hr rs rp w a) (c : Int32) (hc : c ≠ 0) {Q : Int32 → CM → Prop} (k1 : zsg w a = c → ∀ M', kR hr M M' → RD T M' hr rs rp w (a + 1) → cI M' 65 hr = cI M 65 hr → Q 1 M') (k0 : zsg w a ≠ c → ∀ M', kR hr M M' → RD T M' hr rs rp w a → cI M' 66 hr = nI (zst w a) → Q 0 M') : fc_X6_need T hr c M Q := by
  have hl := zcn_le w
  have ha := h.2.2.2.2.1
  have h8 := h.2.1
  unfold fc_X6_need fc_X6_need_b19 fc_X6_need_b24
  refine ⟨h.1.1, s_rtake h c hc (fun e M' k r m => ⟨fun _ => ⟨nZ_1, k1 e M' k r m⟩, fun z => absurd z (by decide)⟩) (fun e => ⟨fun z => absurd rfl z, fun _ => ?_⟩)⟩
  rw [ha.1]
  have k := kR_sI hr M (f := 66) (nI (zst w a)) (by omega)
  refine s_failAt h (by omega) ⟨fun _ => ⟨nZ_0, k0 e _ k (kR_RD k h (by rw [cI_sI, if_neg (fun z => by omega)]; exact ha.1) ha.2) (by rw [cI_sI, if_pos ⟨rfl, rfl⟩])⟩, fun z => absurd rfl z⟩
end RDR
/-- the end of the letters that stand together from s on -/
def zwE (w : List Int32) (s : Nat) : Nat → Nat → Nat
  | 0, a => a
  | n + 1, a => if a < zcn w ∧ zst w a + s = zst w s + a ∧ isL (zsg w a) = true then zwE w s n (a + 1) else a
def zwL (w : List Int32) (s n : Nat) : List Int32 := (List.range n).map (fun i => zsg w (s + i))
theorem zwL_s (w : List Int32) (s n : Nat) : zwL w s (n + 1) = zwL w s n ++ [zsg w (s + n)] := by
  unfold zwL; rw [List.range_succ, List.map_append]; rfl
theorem zwE_le (w : List Int32) (s : Nat) : ∀ n a, a ≤ zwE w s n a ∧ (a ≤ zcn w → zwE w s n a ≤ zcn w)
  | 0, a => ⟨Nat.le_refl _, id⟩
  | n + 1, a => by
    unfold zwE
    split
    · rename_i c
      have := zwE_le w s n (a + 1)
      exact ⟨by omega, fun _ => this.2 (by omega)⟩
    · exact ⟨Nat.le_refl _, id⟩
def zE (w : List Int32) (a : Nat) : Nat := zwE w a (zcn w - a) a
def zC (w : List Int32) (a : Nat) : Int64 := if zE w a - a ≤ 8 then wcode (zwL w a (zE w a - a)) else 0
theorem zE_le {w : List Int32} {a : Nat} (h : a ≤ zcn w) : a ≤ zE w a ∧ zE w a ≤ zcn w := ⟨(zwE_le w a _ a).1, (zwE_le w a _ a).2 h⟩
section RDR
variable {nm : Nat → Nat} {T : LY} {M : CM} {hr rs rp a : Nat} {w : List Int32}
theorem s_readWord (h : RD T M hr rs rp w a) {Q : Int64 → CM → Prop} (k : ∀ M', kR hr M M' → RD T M' hr rs rp w (zE w a) → cI M' 65 hr = cI M 65 hr → Q (zC w a) M') : fc_X6_readWord T hr M Q := by
  have hl := zcn_le w
  have ha := h.2.2.2.2.1
  have h8 := h.2.1
  have lp : ∀ n b N, zcn w - b = n → a ≤ b → kR hr M N → RD T N hr rs rp w b → cI N 65 hr = cI M 65 hr → zwE w a n b = zE w a → fc_X6_readWord_l16 T hr Q (n + 1) (nI a) (nI (zst w a)) (wcode (zwL w a (b - a))) N := by
    intro n
    induction n with
    | zero =>
      intro b N hn hab kk hN m e
      show fc_X6_readWord_c16 T hr Q _ _ _ _ N
      unfold fc_X6_readWord_c16 fc_X6_readWord_b86 fc_X6_readWord_b102
      have hb := hN.2.2.2.2.1
      have eb : b = zE w a := e
      rw [hN.2.2.1, hb.1]
      refine ⟨hN.1.1, br_t (nI_le (by omega) (by omega)) ⟨hN.1.1, ?_⟩⟩
      rw [pk_sub hab]
      have q := k N kk (eb ▸ hN) m
      unfold zC at q
      rw [← eb] at q
      exact pk_le (b - a) 8 (fun c => by rw [if_pos c] at q; exact q) (fun c => by rw [if_neg (by omega)] at q; exact q)
    | succ n ih =>
      intro b N hn hab kk hN m e
      show fc_X6_readWord_c16 T hr Q (fc_X6_readWord_l16 T hr Q (n + 1)) _ _ _ N
      have hb := hN.2.2.2.2.1
      have stop : (¬ (b < zcn w ∧ zst w b + a = zst w a + b ∧ isL (zsg w b) = true)) → fc_X6_readWord_b86 T hr Q (nI a) (wcode (zwL w a (b - a))) N := by
        intro c
        have eb : b = zE w a := by rw [← e]; unfold zwE; rw [if_neg c]
        unfold fc_X6_readWord_b86 fc_X6_readWord_b102
        refine ⟨hN.1.1, ?_⟩
        rw [hb.1, pk_sub hab]
        have q := k N kk (eb ▸ hN) m
        unfold zC at q
        rw [← eb] at q
        exact pk_le (b - a) 8 (fun c => by rw [if_pos c] at q; exact q) (fun c => by rw [if_neg (by omega)] at q; exact q)
      have mono := zst_mle (w := w) hab
      have sle := zst_le w b
      unfold fc_X6_readWord_c16
      rw [hN.2.2.1, hb.1]
      refine ⟨hN.1.1, br_f (nI_ge (by omega) (by omega)) (s_stoodAt hN (by omega) ?_)⟩
      rw [pk_sub mono, hb.1, pk_sub hab]
      refine ⟨fun c => stop (fun z => c (by rw [show zst w b - zst w a = b - a by omega])), fun c => s_signAt hN (by omega) (s_X7_isLetter _ (fun d => ⟨fun z => absurd z (by decide), fun _ => ?_⟩) (fun d => ⟨fun _ => stop (fun z => by rw [d] at z; exact absurd z.2.2 (by decide)), fun z => absurd rfl z⟩))⟩
      rw [hb.1]
      refine s_signAt hN (by omega) ?_
      unfold fc_X7_withLetter
      dsimp only
      rw [hb.1, nI_1]
      have c' : b < zcn w ∧ zst w b + a = zst w a + b ∧ isL (zsg w b) = true := ⟨by omega, by have := (nI_eq (by omega) (by omega)).mp c; omega, d⟩
      have k2 := kR_sI hr N (f := 64) (nI (b + 1)) (by omega)
      refine nm_e ?_
      have ec : wcode (zwL w a (b - a)) * 32 + (((zsg w b - 97) + 1).toInt64) = wcode (zwL w a (b + 1 - a)) := by
        rw [show b + 1 - a = (b - a) + 1 by omega, zwL_s, wcode, wcode, List.foldl_append, show a + (b - a) = b by omega]; rfl
      rw [ec]
      refine ih (b + 1) _ (by omega) (by omega) (kR_tr kk k2) (kR_RD k2 hN (by rw [cI_sI, if_pos ⟨rfl, rfl⟩]) (by omega)) (by rw [cI_sI, if_neg (fun z => by omega)]; exact m) ?_
      rw [← e]
      show _ = if _ then _ else _
      rw [if_pos c']
  unfold fc_X6_readWord
  refine ⟨h.1.1, nm_r ha.1 ?_⟩
  rw [ha.1]
  refine s_stoodAt h (by omega) ⟨zcn w - a + 1, ?_⟩
  have := lp (zcn w - a) a M rfl (Nat.le_refl _) (kR_rf hr M) h rfl rfl
  rw [Nat.sub_self] at this
  exact this
/-- the name of a type by its code -/
def nmO (c : Int64) : Option Nat := fstI (fun i => decide (wcode (sText i) = c)) 10 0
theorem s_nameOf (c : Int64) {Q : Option Nat → CM → Prop} (k : Q ((nmO c).map nm) M) : fc_X6_nameOf nm T c M Q := by
  have lp : ∀ m i, i + m = 10 → fstI (fun i => decide (wcode (sText i) = c)) m i = nmO c → fc_X6_nameOf_l10 nm T Q (m + 1) c 10 (nI i) M := by
    intro m
    induction m with
    | zero =>
      intro i hi e
      show fc_X6_nameOf_c10 nm T Q _ _ _ _ M
      unfold fc_X6_nameOf_c10
      rw [← e] at k
      exact br_t (nI_le (a := 10) (by omega) (by omega)) k
    | succ m ih =>
      intro i hi e
      show fc_X6_nameOf_c10 nm T Q (fc_X6_nameOf_l10 nm T Q (m + 1)) _ _ _ M
      rw [fstI] at e
      unfold fc_X6_nameOf_c10 fc_X6_nameOf_b43
      refine br_f (nI_ge (b := 10) (by omega) (by omega)) ⟨vp_in_nI (by omega) (by omega), i, ?_, by omega, s_X7_codeOf (by omega) ⟨fun d => nm_e ?_, fun d => ?_⟩⟩
      · rw [nI_clamp (by omega)]
      · rw [nI_1]
        rw [if_neg (by rw [decide_eq_true_iff]; exact fun z => d ((lg_cmp_eq _ _).mpr z))] at e
        exact ih (i + 1) (by omega) e
      · rw [if_pos (by rw [decide_eq_true_iff]; exact (lg_cmp_eq _ _).mp d)] at e
        rw [← e] at k
        rw [nI_clamp (by omega)]; exact k
  exact ⟨11, lp 10 0 rfl rfl⟩
def bnd (i : Nat) : Bool := decide (1 ≤ i ∧ i ≤ 4)
theorem bnd_c : ∀ i, i < 10 → (0 ≤ lg_cmp (nLeast i) (nMost i) ↔ bnd i = false) := by decide +kernel
theorem s_hasBounds {i : Nat} (hi : i < 10) {Q : Int32 → CM → Prop} (k1 : bnd i = true → Q 1 M) (k0 : bnd i = false → Q 0 M) : fc_X3_hasBounds T i M Q := by
  unfold fc_X3_hasBounds fc_X3_hasBounds_b17
  refine ⟨hi, fun c => ⟨nZ_0, k0 ((bnd_c i hi).mp c)⟩, fun c => ⟨nZ_1, k1 ?_⟩⟩
  cases e : bnd i with
  | true => rfl
  | false => exact absurd ((bnd_c i hi).mpr e) c
end RDR
