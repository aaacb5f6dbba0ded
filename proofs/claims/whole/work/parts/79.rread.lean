/-! the reference's reader -/
theorem zst_bl {w : List Int32} {j x : Nat} (h : j < zcn w) (h1 : zst w j < x) (h2 : x < zst w (j + 1)) : w.getD x 0 = 32 := by
  apply Decidable.byContradiction
  intro c
  have hx : x < w.length := Nat.lt_of_lt_of_le h2 (zst_le w _)
  obtain ⟨i, hi, e⟩ := psn_all w w.length w.length x hx c
  have hi' : i < zcn w := hi
  have e' : zst w i = x := e
  rcases Nat.lt_or_ge i (j + 1) with z | z
  · have := zst_mle (w := w) (show i ≤ j by omega); omega
  · have := zst_mle (w := w) z; omega
theorem zst_bl0 {w : List Int32} {x : Nat} (h2 : x < zst w 0) : w.getD x 0 = 32 := by
  apply Decidable.byContradiction
  intro c
  have hx : x < w.length := Nat.lt_of_lt_of_le h2 (zst_le w _)
  obtain ⟨i, hi, e⟩ := psn_all w w.length w.length x hx c
  have e' : zst w i = x := e
  have := zst_mle (w := w) (Nat.zero_le i); omega
/-- only cells of S, and the reader's fields, are other -/
def zK (S : Nat → Nat → Prop) (N N' : RM) : Prop := (∀ f, f ≠ 26 → f ≠ 27 → f ≠ 3 → rI N' f = rI N f) ∧ (∀ f i, ¬ S f i → rA N' f i = rA N f i) ∧ N'.2.2 = N.2.2 ∧ (rI N' 27 = 0 → rI N 27 = 0 ∧ rI N' 3 = rI N 3)
def cO : Nat → Nat → Prop := fun _ _ => False
theorem zK_rf (S : Nat → Nat → Prop) (N : RM) : zK S N N := ⟨fun _ _ _ _ => rfl, fun _ _ _ => rfl, rfl, fun h => ⟨h, rfl⟩⟩
theorem zK_tr {S : Nat → Nat → Prop} {N N1 N2 : RM} (h : zK S N N1) (k : zK S N1 N2) : zK S N N2 := ⟨fun f a b c => (k.1 f a b c).trans (h.1 f a b c), fun f i n => (k.2.1 f i n).trans (h.2.1 f i n), k.2.2.1.trans h.2.2.1, fun z => ⟨(h.2.2.2 (k.2.2.2 z).1).1, (k.2.2.2 z).2.trans (h.2.2.2 (k.2.2.2 z).1).2⟩⟩
theorem zK_mo {S S' : Nat → Nat → Prop} {N N' : RM} (m : ∀ f i, S f i → S' f i) (h : zK S N N') : zK S' N N' := ⟨h.1, fun f i n => h.2.1 f i (fun z => n (m f i z)), h.2.2⟩
theorem zK_o {S : Nat → Nat → Prop} {N N' : RM} (h : zK cO N N') : zK S N N' := zK_mo (fun _ _ z => z.elim) h
theorem zK_I {S : Nat → Nat → Prop} (N : RM) {f : Nat} (v : Int32) (h : f = 26 ∨ False) : zK S N (wI N f v) := by
  have e : f = 26 := h.elim id False.elim
  subst e
  exact ⟨fun g a b c => by rw [rI_wI, if_neg a], fun _ _ _ => rfl, rfl, fun z => ⟨z, rfl⟩⟩
theorem zK_7 {S : Nat → Nat → Prop} (N : RM) : zK S N (wI N 27 1) := ⟨fun g a b c => by rw [rI_wI, if_neg b], fun _ _ _ => rfl, rfl, fun z => absurd (show (1 : Int32) = 0 from z) (by decide)⟩
theorem zK_37 {S : Nat → Nat → Prop} (N : RM) (v : Int32) : zK S N (wI (wI N 3 v) 27 1) := ⟨fun g a b c => by rw [rI_wI, if_neg b, rI_wI, if_neg c], fun _ _ _ => rfl, rfl, fun z => absurd (show (1 : Int32) = 0 from z) (by decide)⟩
theorem zK_A {S : Nat → Nat → Prop} (N : RM) {f i : Nat} (v : Int32) (h : S f i) : zK S N (wA N f i v) := ⟨fun _ _ _ _ => rfl, fun g j n => by rw [rA_wA, if_neg (fun z => n (by rw [z.1, z.2]; exact h))], rfl, fun z => ⟨z, rfl⟩⟩
def RZ (N : RM) (w : List Int32) (a : Nat) : Prop := rI N 27 = 0 ∧ zLP N w ∧ a ≤ zcn w ∧ ∃ p, rI N 26 = nI p ∧ p ≤ zst w a ∧ ∀ x, p ≤ x → x < zst w a → w.getD x 0 = 32
def RX (N : RM) (w : List Int32) (a : Nat) : Prop := rI N 27 = 0 ∧ zLP N w ∧ a ≤ zcn w ∧ rI N 26 = nI (zst w a)
def FZ (N : RM) (f : Nat) : Prop := rI N 27 = 1 ∧ rI N 3 = nI f
theorem RX_Z {N : RM} {w : List Int32} {a : Nat} (h : RX N w a) : RZ N w a := ⟨h.1, h.2.1, h.2.2.1, _, h.2.2.2, Nat.le_refl _, fun x a b => absurd b (by omega)⟩
/-- cells of S leave the line -/
theorem zLP_k {S : Nat → Nat → Prop} {N N' : RM} {w : List Int32} (hS : ∀ i, ¬ S 1 i) (k : zK S N N') (h : zLP N w) : zLP N' w := ⟨(k.1 2 (by decide) (by decide) (by decide)).trans h.1, fun i a b => (k.2.1 1 i (hS i)).trans (h.2 i a b)⟩
section RDZ
variable {N : RM} {w : List Int32} {a : Nat}
theorem RZ_A {f i : Nat} (v : Int32) (hf : f ≠ 1) (h : RZ N w a) : RZ (wA N f i v) w a := ⟨h.1, ⟨h.2.1.1, fun j x y => by rw [rA_wA, if_neg (fun z => hf z.1.symm)]; exact h.2.1.2 j x y⟩, h.2.2.1, h.2.2.2⟩
theorem RX_A {f i : Nat} (v : Int32) (hf : f ≠ 1) (h : RX N w a) : RX (wA N f i v) w a := ⟨h.1, ⟨h.2.1.1, fun j x y => by rw [rA_wA, if_neg (fun z => hf z.1.symm)]; exact h.2.1.2 j x y⟩, h.2.2.1, h.2.2.2⟩
theorem FZ_A {x : Nat} {f i : Nat} (v : Int32) (h : FZ N x) : FZ (wA N f i v) x := h
theorem zLP_I {f : Nat} (v : Int32) (hf : f ≠ 2) (h : zLP N w) : zLP (wI N f v) w := ⟨(if_neg (fun z => hf z.symm)).trans h.1, h.2⟩
theorem RX_step (h : RX N w a) (hl : a < zcn w) : RZ (wI N 26 (nI (zst w a + 1))) w (a + 1) := by
  have m := zst_mle (w := w) (Nat.le_succ a)
  refine ⟨h.1, zLP_I _ (by decide) h.2.1, hl, zst w a + 1, rfl, ?_, fun x p q => zst_bl hl (by omega) q⟩
  by_cases c : a + 1 < zcn w
  · exact zst_mono (Nat.lt_succ_self a) c
  · rw [zst_end (j := a + 1) (by omega)]; exact (zst_lt hl).1
/-- a line as told -/
def gL (w : List Int32) : Prop := w.length ≤ 100 ∧ (∀ x, nC (w.getD x 0)) ∧ ∀ x, x < w.length → w.getD x 0 ≠ 0
theorem r_next (hw : gL w) (h : RZ N w a) {Q : Int32 → RM → Prop} (q : ∀ N', zK cO N N' → RX N' w a → Q (zsg w a) N') : fm_next N Q := by
  have hz := zst_le w a
  have hw1 := hw.1
  have fin : ∀ N', zK cO N N' → RX N' w a → fm_next_b38 Q N' := by
    intro N' k x
    have qq := q N' k x
    unfold fm_next_b38 fm_next_b62
    rw [x.2.1.1, x.2.2.2]
    refine pk_le w.length (zst w a) (fun c => ?_) (fun c => ⟨vp_in_nI (by omega) (by omega), ?_⟩)
    · unfold zsg at qq
      rw [if_neg (fun z => by have := (zst_lt z).1; omega)] at qq
      exact ⟨nC_0, qq⟩
    · rw [nI_clamp (by omega), x.2.1.2 _ c (by omega)]
      have l : a < zcn w := Nat.lt_of_not_le (fun z => by rw [zst_end z] at c; exact absurd c (Nat.lt_irrefl _))
      unfold zsg at qq
      rw [if_pos l] at qq
      exact ⟨hw.2.1 _, qq⟩
  have lp : ∀ m p N', m + p = zst w a → zK cO N N' → rI N' 27 = 0 → zLP N' w → rI N' 26 = nI p → (∀ x, p ≤ x → x < zst w a → w.getD x 0 = 32) → fm_next_l0 Q (m + 1) N' := by
    intro m
    induction m with
    | zero =>
      intro p N' e k a27 al ap ab
      have ep : p = zst w a := by omega
      have X : RX N' w a := ⟨a27, al, h.2.2.1, by rw [ap, ep]⟩
      show fm_next_c0 Q _ N'
      unfold fm_next_c0
      rw [al.1, ap, ep]
      refine pk_le w.length (zst w a) (fun c => fin N' k X) (fun c => ⟨vp_in_nI (by omega) (by omega), fun _ => fin N' k X, fun c2 => ?_⟩)
      rw [nI_clamp (by omega), al.2 _ c (by omega)] at c2
      have l : a < zcn w := Nat.lt_of_not_le (fun z => by rw [zst_end z] at c; exact absurd c (Nat.lt_irrefl _))
      exact absurd c2 (zst_lt l).2
    | succ m ih =>
      intro p N' e k a27 al ap ab
      show fm_next_c0 Q (fm_next_l0 Q (m + 1)) N'
      unfold fm_next_c0
      rw [al.1, ap]
      refine br_f (nI_ge (by omega) (by omega)) ⟨vp_in_nI (by omega) (by omega), ?_⟩
      rw [nI_clamp (by omega), al.2 _ (by omega) (by omega), ab p (Nat.le_refl _) (by omega), nI_1]
      exact ⟨fun z => absurd rfl z, fun _ => nm_e (ih (p + 1) _ (by omega) (zK_tr k (zK_I _ _ (Or.inl rfl))) a27 (zLP_I _ (by decide) al) rfl (fun x y z => ab x (by omega) z))⟩
  obtain ⟨h1, h2, h3, p, h4, h5, h6⟩ := h
  exact ⟨zst w a - p + 1, lp (zst w a - p) p N (by omega) (zK_rf _ N) h1 h2 h4 h6⟩
theorem r_wrong (h : RX N w a) {Q : RM → Prop} (q : ∀ N', zK cO N N' → FZ N' (zst w a) → Q N') : fm_wrong (nI (zst w a)) N Q := by
  unfold fm_wrong fm_wrong_b12
  rw [h.1]
  exact ⟨fun z => absurd rfl z, fun _ => nm_e ⟨nZ_1, nm_e (q _ (zK_37 _ _) ⟨rfl, rfl⟩)⟩⟩
theorem r_wrongF {x : Nat} {v : Int32} (h : FZ N x) {Q : RM → Prop} (q : ∀ N', zK cO N N' → FZ N' x → Q N') : fm_wrong v N Q := by
  unfold fm_wrong fm_wrong_b12
  rw [h.1]
  exact ⟨fun _ => ⟨nZ_1, nm_e (q _ (zK_7 _) ⟨rfl, h.2⟩)⟩, fun z => absurd z (by decide)⟩
theorem r_takesZ (hw : gL w) (h : RZ N w a) (c : Int32) (h0 : c ≠ 0) {Q : Int32 → RM → Prop} (q1 : zsg w a = c → ∀ N', zK cO N N' → RZ N' w (a + 1) → Q 1 N') (q0 : zsg w a ≠ c → ∀ N', zK cO N N' → RX N' w a → Q 0 N') : fm_takes c N Q := by
  unfold fm_takes fm_takes_b15
  rw [h.1]
  refine ⟨fun z => absurd rfl z, fun _ => r_next hw h (fun N1 k1 x1 => ⟨fun e => ?_, fun e => q0 e N1 k1 x1⟩)⟩
  have hl : a < zcn w := Nat.lt_of_not_le (fun z => h0 (by rw [← e]; unfold zsg; rw [if_neg (by omega)]))
  rw [x1.2.2.2, nI_1]
  exact nm_e (q1 e _ (zK_tr k1 (zK_I _ _ (Or.inl rfl))) (RX_step x1 hl))
theorem r_takesF {x : Nat} (h : FZ N x) (c : Int32) {Q : Int32 → RM → Prop} (q0 : Q 0 N) : fm_takes c N Q := by
  unfold fm_takes fm_takes_b15
  rw [h.1]
  exact ⟨fun _ => q0, fun z => absurd z (by decide)⟩
theorem r_want (hw : gL w) (h : RZ N w a) (c : Int32) (h0 : c ≠ 0) {Q : RM → Prop} (q1 : zsg w a = c → ∀ N', zK cO N N' → RZ N' w (a + 1) → Q N') (q0 : zsg w a ≠ c → ∀ N', zK cO N N' → FZ N' (zst w a) → Q N') : fm_want c N Q := by
  unfold fm_want fm_want_b16
  refine r_takesZ hw h c h0 (fun e N1 k1 z1 => ⟨fun _ => q1 e N1 k1 z1, fun z => absurd z (by decide)⟩) (fun e N1 k1 x1 => ⟨fun z => absurd rfl z, fun _ => ?_⟩)
  rw [x1.2.2.2]
  exact r_wrong x1 (fun N2 k2 f2 => q0 e N2 (zK_tr k1 k2) f2)
theorem r_wantF {x : Nat} (h : FZ N x) (c : Int32) {Q : RM → Prop} (q : ∀ N', zK cO N N' → FZ N' x → Q N') : fm_want c N Q := by
  unfold fm_want fm_want_b16
  exact r_takesF h c ⟨fun z => absurd rfl z, fun _ => r_wrongF h q⟩
/-! the word that begins here -/
theorem zwE_c (w : List Int32) (s : Nat) : ∀ n a, s ≤ a → a + n = zcn w → (∀ i, s + i < a → zst w (s + i) = zst w s + i ∧ isL (zsg w (s + i)) = true) → zwE w s n a ≤ zcn w ∧ s ≤ zwE w s n a ∧ (∀ i, s + i < zwE w s n a → zst w (s + i) = zst w s + i ∧ isL (zsg w (s + i)) = true) ∧ (zwE w s n a < zcn w → ¬ (zst w (zwE w s n a) + s = zst w s + zwE w s n a ∧ isL (zsg w (zwE w s n a)) = true))
  | 0, a, hs, e, h => ⟨by unfold zwE; omega, hs, h, fun z => by unfold zwE at z; omega⟩
  | n + 1, a, hs, e, h => by
    unfold zwE
    split
    · rename_i c
      refine zwE_c w s n (a + 1) (by omega) (by omega) (fun i hi => ?_)
      by_cases y : s + i = a
      · rw [y]; exact ⟨by have := c.2.1; omega, c.2.2⟩
      · exact h i (by omega)
    · rename_i c
      exact ⟨by omega, hs, h, fun z => fun y => c ⟨z, y.1, y.2⟩⟩
theorem zE_c (h : a ≤ zcn w) : (∀ i, i < zE w a - a → zst w (a + i) = zst w a + i ∧ isL (zsg w (a + i)) = true ∧ w.getD (zst w a + i) 0 = zsg w (a + i) ∧ zst w a + i < w.length) ∧ zst w a + (zE w a - a) ≤ zst w (zE w a) ∧ (∀ x, zst w a + (zE w a - a) ≤ x → x < zst w (zE w a) → w.getD x 0 = 32) ∧ (zst w a + (zE w a - a) < w.length → isL (w.getD (zst w a + (zE w a - a)) 0) = false) := by
  obtain ⟨p1, p2, p3, p4⟩ := zwE_c w a (zcn w - a) a (Nat.le_refl _) (by omega) (fun i hi => absurd hi (by omega))
  have ez : zwE w a (zcn w - a) a = zE w a := rfl
  rw [ez] at p1 p2 p3 p4
  have A : ∀ i, i < zE w a - a → zst w (a + i) = zst w a + i ∧ isL (zsg w (a + i)) = true ∧ w.getD (zst w a + i) 0 = zsg w (a + i) ∧ zst w a + i < w.length := by
    intro i hi
    have q := p3 i (by omega)
    have l : a + i < zcn w := by omega
    refine ⟨q.1, q.2, ?_, ?_⟩
    · unfold zsg; rw [if_pos l, q.1]
    · rw [← q.1]; exact (zst_lt l).1
  have B : zst w a + (zE w a - a) ≤ zst w (zE w a) ∧ (∀ x, zst w a + (zE w a - a) ≤ x → x < zst w (zE w a) → w.getD x 0 = 32) := by
    by_cases y : zE w a = a
    · rw [y, Nat.sub_self]; exact ⟨Nat.le_refl _, fun x u v => absurd v (by omega)⟩
    · have q := A (zE w a - a - 1) (by omega)
      have l : a + (zE w a - a - 1) < zcn w := by omega
      have en : a + (zE w a - a - 1) + 1 = zE w a := by omega
      refine ⟨?_, fun x u v => zst_bl l (by omega) (by rw [en]; exact v)⟩
      by_cases z : zE w a < zcn w
      · have := zst_mono (w := w) (i := a + (zE w a - a - 1)) (j := zE w a) (by omega) z
        omega
      · rw [zst_end (j := zE w a) (by omega)]; omega
  refine ⟨A, B.1, B.2, fun hl => ?_⟩
  rcases Nat.lt_or_ge (zst w a + (zE w a - a)) (zst w (zE w a)) with y | y
  · rw [B.2 _ (Nat.le_refl _) y]; decide
  · have ee : zst w a + (zE w a - a) = zst w (zE w a) := by omega
    have l : zE w a < zcn w := Nat.lt_of_not_le (fun z => by rw [zst_end (j := zE w a) z] at ee; omega)
    have q := p4 l
    have sg : zsg w (zE w a) = w.getD (zst w a + (zE w a - a)) 0 := by unfold zsg; rw [if_pos l, ee]
    cases hh : isL (w.getD (zst w a + (zE w a - a)) 0) with
    | false => rfl
    | true => exact absurd ⟨by omega, by rw [sg]; exact hh⟩ q
theorem r_isLetter (c : Int32) {Q : Int32 → RM → Prop} (q1 : isL c = true → Q 1 N) (q0 : isL c = false → Q 0 N) : fm_isLetter c N Q := by
  unfold fm_isLetter fm_isLetter_b16 fm_isLetter_b17
  unfold isL at q1 q0
  refine ⟨fun z => ⟨nZ_0, q0 (by simp [z])⟩, fun z => ⟨fun y => ⟨nZ_0, q0 (by simp [y])⟩, fun y => ⟨nZ_1, q1 (by simp [z, y])⟩⟩⟩
theorem r_wordEnd (hw : gL w) (h : RZ N w a) {Q : Int32 → RM → Prop} (q : ∀ N', zK cO N N' → RX N' w a → Q (nI (zst w a + (zE w a - a))) N') : fm_wordEnd N Q := by
  have E := zE_c (w := w) h.2.2.1
  have E2 := E.2.1
  have E3 := zst_le w (zE w a)
  unfold fm_wordEnd
  refine r_next hw h (fun N1 k1 x1 => ?_)
  have qq := q N1 k1 x1
  have hz := zst_le w a
  have hw1 := hw.1
  have lp : ∀ m i, i + m = zE w a - a → fm_wordEnd_l10 Q (m + 1) (nI (zst w a + i)) N1 := by
    intro m
    induction m with
    | zero =>
      intro i hi
      have ei : i = zE w a - a := by omega
      show fm_wordEnd_c10 Q _ _ N1
      unfold fm_wordEnd_c10 fm_wordEnd_b36
      rw [x1.2.1.1, ei]
      refine pk_le w.length (zst w a + (zE w a - a)) (fun c => qq) (fun c => ⟨vp_in_nI (by omega) (by omega), ?_⟩)
      rw [nI_clamp (by omega), x1.2.1.2 _ c (by omega)]
      exact r_isLetter _ (fun z => absurd ((E.2.2.2 c).symm.trans z) (by decide)) (fun _ => ⟨fun _ => qq, fun z => absurd rfl z⟩)
    | succ m ih =>
      intro i hi
      show fm_wordEnd_c10 Q (fm_wordEnd_l10 Q (m + 1)) _ N1
      have e := E.1 i (by omega)
      unfold fm_wordEnd_c10 fm_wordEnd_b36
      rw [x1.2.1.1]
      refine br_f (nI_ge (by omega) (by omega)) ⟨vp_in_nI (by omega) (by omega), ?_⟩
      rw [nI_clamp (by omega), x1.2.1.2 _ e.2.2.2 (by omega), e.2.2.1]
      exact r_isLetter _ (fun _ => ⟨fun z => absurd z (by decide), fun _ => nm_r (nI_1 _) (ih (i + 1) (by omega))⟩) (fun z => absurd (e.2.1.symm.trans z) (by decide))
  exact nm_r x1.2.2.2 ⟨zE w a - a + 1, lp (zE w a - a) 0 (Nat.zero_add _)⟩
end RDZ
