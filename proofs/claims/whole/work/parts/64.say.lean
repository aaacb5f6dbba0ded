/-! what the reference says -/
def SD (N : RM) (L : List Int32) : Prop := rI N 24 = nI L.length ∧ L.length ≤ 100 ∧ ∀ i, i < L.length → rA N 23 i = L.getD i 0 ∧ nC (L.getD i 0)
/-- nothing but what is said is other -/
def kS (N N' : RM) : Prop := (∀ f, f ≠ 24 → rI N' f = rI N f) ∧ (∀ f, f ≠ 23 → rA N' f = rA N f) ∧ N'.2.2 = N.2.2
theorem kS_rf (N : RM) : kS N N := ⟨fun _ _ => rfl, fun _ _ => rfl, rfl⟩
theorem kS_tr {N N1 N2 : RM} (h : kS N N1) (k : kS N1 N2) : kS N N2 := ⟨fun f n => (k.1 f n).trans (h.1 f n), fun f n => (k.2.1 f n).trans (h.2.1 f n), k.2.2.trans h.2.2⟩
theorem kS_wI (N : RM) (v : Int32) : kS N (wI N 24 v) := ⟨fun f n => if_neg n, fun _ _ => rfl, rfl⟩
theorem kS_wA (N : RM) (i : Nat) (v : Int32) : kS N (wA N 23 i v) := ⟨fun _ _ => rfl, fun f n => if_neg n, rfl⟩
theorem snocI (l : List Int32) (c : Int32) (j : Nat) : (l ++ [c]).getD j 0 = if j = l.length then c else l.getD j 0 := by
  by_cases h : j = l.length
  · rw [if_pos h, h]; simp
  · rw [if_neg h]
    by_cases k : j < l.length
    · rw [List.getD_eq_getElem?_getD, List.getD_eq_getElem?_getD, List.getElem?_append_left k]
    · rw [List.getD_eq_getElem?_getD, List.getD_eq_getElem?_getD, List.getElem?_eq_none (by rw [List.length_append, List.length_singleton]; omega), List.getElem?_eq_none (by omega)]
section SAY
variable {N : RM} {L : List Int32}
theorem r_say (h : SD N L) (hl : L.length < 100) {c : Int32} (hc : nC c) {Q : RM → Prop} (q : ∀ N', kS N N' → SD N' (L ++ [c]) → Q N') : fm_say c N Q := by
  obtain ⟨a, b, d⟩ := h
  unfold fm_say
  rw [a, nI_clamp (by omega), nC_nar hc]
  refine ⟨vp_in_nI hl (by omega), nm_e (nm_r (e' := wI (wA N 23 L.length c) 24 (nI (L.length + 1))) (by rw [rI_wA, a, nI_1]) (q _ (kS_tr (kS_wA N _ _) (kS_wI _ _)) ⟨?_, ?_, fun i hi => ?_⟩))⟩
  · rw [rI_wI, if_pos rfl, List.length_append]; rfl
  · rw [List.length_append, List.length_singleton]; omega
  · rw [List.length_append, List.length_singleton] at hi
    rw [rA_wI, rA_wA, snocI]
    by_cases y : i = L.length
    · rw [if_pos ⟨rfl, y⟩, if_pos y]; exact ⟨rfl, hc⟩
    · rw [if_neg (fun z => y z.2), if_neg y]; exact d i (by omega)
def sayB (code : Int64) (sh : Int32) : List Int32 := if lg_cmp ((code >>> (sh.toInt64 &&& 63)) &&& 255) 0 = 0 then [] else [((((code >>> (sh.toInt64 &&& 63)) &&& 255).toInt32).toUInt32 % 65536).toInt32]
theorem sayB_len (code : Int64) (sh : Int32) : (sayB code sh).length ≤ 1 := by unfold sayB; split <;> simp
theorem sayWord_1 (h : SD N L) (hl : L.length < 100) {code : Int64} {sh sh' : Int32} (hs : ¬ sh < 0) (e : sh - 8 = sh') {Q : RM → Prop} {k : Int64 → Int32 → RM → Prop} (q : ∀ N', kS N N' → SD N' (L ++ sayB code sh) → k code sh' N') : fm_sayWord_c3 Q k code sh N := by
  unfold fm_sayWord_c3 fm_sayWord_b32
  refine br_f hs ⟨fun c => nm_r e ?_, fun c => r_say h hl ⟨pk_nc _, pk_fc _⟩ (fun N' k' s' => nm_r e ?_)⟩
  · have := q N (kS_rf N)
    unfold sayB at this
    rw [if_pos c, List.append_nil] at this
    exact this h
  · refine q N' k' ?_
    unfold sayB
    rw [if_neg c]; exact s'
def say8 (code : Int64) : List Int32 := sayB code 56 ++ sayB code 48 ++ sayB code 40 ++ sayB code 32 ++ sayB code 24 ++ sayB code 16 ++ sayB code 8 ++ sayB code 0
theorem r_sayWord (h : SD N L) (hl : L.length + 8 ≤ 100) (code : Int64) {Q : RM → Prop} (q : ∀ N', kS N N' → SD N' (L ++ say8 code) → Q N') : fm_sayWord code N Q := by
  have s1 := sayB_len code 56
  have s2 := sayB_len code 48
  have s3 := sayB_len code 40
  have s4 := sayB_len code 32
  have s5 := sayB_len code 24
  have s6 := sayB_len code 16
  have s7 := sayB_len code 8
  refine ⟨9, ?_⟩
  show fm_sayWord_c3 Q (fm_sayWord_l3 Q 8) code 56 N
  refine sayWord_1 h (by omega) (by decide) (by decide : (56 : Int32) - 8 = 48) (fun N1 k1 h1 => ?_)
  show fm_sayWord_c3 Q (fm_sayWord_l3 Q 7) code 48 N1
  refine sayWord_1 h1 (by simp only [List.length_append]; omega) (by decide) (by decide : (48 : Int32) - 8 = 40) (fun N2 k2 h2 => ?_)
  show fm_sayWord_c3 Q (fm_sayWord_l3 Q 6) code 40 N2
  refine sayWord_1 h2 (by simp only [List.length_append]; omega) (by decide) (by decide : (40 : Int32) - 8 = 32) (fun N3 k3 h3 => ?_)
  show fm_sayWord_c3 Q (fm_sayWord_l3 Q 5) code 32 N3
  refine sayWord_1 h3 (by simp only [List.length_append]; omega) (by decide) (by decide : (32 : Int32) - 8 = 24) (fun N4 k4 h4 => ?_)
  show fm_sayWord_c3 Q (fm_sayWord_l3 Q 4) code 24 N4
  refine sayWord_1 h4 (by simp only [List.length_append]; omega) (by decide) (by decide : (24 : Int32) - 8 = 16) (fun N5 k5 h5 => ?_)
  show fm_sayWord_c3 Q (fm_sayWord_l3 Q 3) code 16 N5
  refine sayWord_1 h5 (by simp only [List.length_append]; omega) (by decide) (by decide : (16 : Int32) - 8 = 8) (fun N6 k6 h6 => ?_)
  show fm_sayWord_c3 Q (fm_sayWord_l3 Q 2) code 8 N6
  refine sayWord_1 h6 (by simp only [List.length_append]; omega) (by decide) (by decide : (8 : Int32) - 8 = 0) (fun N7 k7 h7 => ?_)
  show fm_sayWord_c3 Q (fm_sayWord_l3 Q 1) code 0 N7
  refine sayWord_1 h7 (by simp only [List.length_append]; omega) (by decide) (by decide : (0 : Int32) - 8 = -8) (fun N8 k8 h8 => ?_)
  show fm_sayWord_c3 Q _ code (-8) N8
  unfold fm_sayWord_c3
  refine br_t (by decide) (q N8 (kS_tr k1 (kS_tr k2 (kS_tr k3 (kS_tr k4 (kS_tr k5 (kS_tr k6 (kS_tr k7 k8))))))) ?_)
  unfold say8
  simp only [List.append_assoc] at h8 ⊢
  exact h8
theorem say_unde : say8 1970168933 ++ say8 439855506788 = sText 11 := by decide +kernel
theorem say_null : say8 1853189228 = sText 13 := by decide +kernel
theorem say_false : say8 439721161573 = sText 14 := by decide +kernel
theorem say_true : say8 1953658213 = sText 15 := by decide +kernel
/-! a number -/
theorem dgs_lead (n : Nat) (k : Nat) (hk : k = 0 ∨ 10 ^ k ≤ n) (h2 : n < 10 ^ (k + 1)) : ∀ j, k ≤ j → dgs n j false = dgs n k true := by
  intro j
  induction j with
  | zero =>
    intro h
    have e : k = 0 := by omega
    rw [e]; rfl
  | succ j ih =>
    intro h
    by_cases e : k = j + 1
    · have p : 10 ^ (j + 1) ≤ n := by
        rcases hk with z | z
        · omega
        · rw [← e]; exact z
      have d1 : 1 ≤ n / 10 ^ (j + 1) := (Nat.one_le_div_iff (Nat.pow_pos (by decide))).mpr p
      have d2 : n / 10 ^ (j + 1) < 10 := Nat.div_lt_of_lt_mul (by rw [← e]; rw [Nat.pow_succ] at h2; omega)
      rw [e]
      unfold dgs
      rw [if_pos (Or.inr (by rw [Nat.mod_eq_of_lt d2]; omega)), if_pos (Or.inl rfl)]
    · have p : n < 10 ^ (j + 1) := Nat.lt_of_lt_of_le h2 (Nat.pow_le_pow_right (by decide) (by omega))
      rw [show dgs n (j + 1) false = (if false = true ∨ n / 10 ^ (j + 1) % 10 ≠ 0 then nI (48 + n / 10 ^ (j + 1) % 10) :: dgs n j true else dgs n j false) from rfl, if_neg (fun z => by
        rcases z with z | z
        · cases z
        · rw [Nat.div_eq_of_lt p] at z; exact z rfl)]
      exact ih (by omega)
def thR (m : Nat) : List Int32 := if m = 0 then [] else nI (48 + m / 100) :: (if m % 100 = 0 then [] else nI (48 + m % 100 / 10) :: (if m % 100 % 10 = 0 then [] else [nI (48 + m % 100 % 10)]))
theorem thR_eq : ∀ r, r < 8 → thR (r * 125) = ths 3 (r * 125) := by decide +kernel
theorem lN_le0 {n : Nat} (h : n < 2 ^ 62) : lg_cmp (lN n) 0 ≤ 0 ↔ n = 0 := by
  rw [lg_cmp_le, show (0 : Int64) = lN 0 from rfl, pk_lLE (by omega) (by omega)]
  omega
theorem lN_ne0 {n : Nat} (h0 : n ≠ 0) (h : n < 2 ^ 62) : ¬ lN n = 0 := fun z => h0 ((pk_lEQ (b := 0) (by omega) (by decide)).mp z)
theorem dig_q {d : Nat} (h : d < 10) : ((((48 : Int64) + lN d).toInt32).toUInt32 % 65536).toInt32 = nI (48 + d) := dig_c h
/-- the digits from 10^k on -/
theorem r_digits {n : Nat} (hn : n < 2 ^ 40) {Q : RM → Prop} {v : UInt64} {R : RM → Prop} (hR : ∀ N, R N → (vf_n64 (FP.dsub v (FP.l2d (lN n))) ∧ (vf_n64 (FP.dmul (FP.dsub v (FP.l2d (lN n))) 4652007308841189376) ∧ (∀ x13 : Int64, x13 = FP.d2l (FP.dmul (FP.dsub v (FP.l2d (lN n))) 4652007308841189376) → (((lg_cmp x13 0) ≤ 0 → fm_sayNumber_b165 Q N) ∧ (¬ (lg_cmp x13 0) ≤ 0 → fm_say 46 N (fun (M15 : RM) => (∃ nn : Nat, fm_sayNumber_l118 Q nn x13 100 M15))))))))
    : ∀ (k : Nat) (N : RM) (L : List Int32), k ≤ 9 → L.length + k + 1 ≤ 100 → SD N L → (∀ N', kS N N' → SD N' (L ++ dgs n k true) → R N') → fm_sayNumber_l51 Q (k + 2) v (lN n) (lN (10 ^ k)) N := by
  have stop : ∀ N m, R N → fm_sayNumber_l51 Q (m + 1) v (lN n) (lN 0) N := by
    intro N m r
    show fm_sayNumber_c51 Q _ _ _ _ N
    unfold fm_sayNumber_c51
    exact br_t (by decide) (hR N r)
  have one : ∀ k N L (next : RM → Prop), k ≤ 9 → L.length + 1 ≤ 100 → SD N L → (∀ N', kS N N' → SD N' (L ++ [nI (48 + n / 10 ^ k % 10)]) → next N') → ∀ (kk : UInt64 → Int64 → Int64 → RM → Prop), (∀ N', next N' → kk v (lN n) (lN (10 ^ k / 10)) N') → fm_sayNumber_c51 Q kk v (lN n) (lN (10 ^ k)) N := by
    intro k N L next hk hl h q kk hkk
    have p10 : 0 < 10 ^ k := Nat.pow_pos (by decide)
    have p9 : 10 ^ k ≤ 10 ^ 9 := Nat.pow_le_pow_right (by decide) hk
    have n9 : (10 : Nat) ^ 9 = 1000000000 := by decide
    unfold fm_sayNumber_c51
    refine br_f (fun z => by rw [lN_le0 (by omega)] at z; omega) ⟨lN_ne0 (by omega) (by omega), by decide, ?_⟩
    have q1 : n / 10 ^ k ≤ n := Nat.div_le_self _ _
    rw [pk_lDiv (by omega) p10 (by omega), show (10 : Int64) = lN 10 from rfl, pk_lRem (by omega) (by decide) (by decide), dig_q (Nat.mod_lt _ (by decide))]
    have d10 : n / 10 ^ k % 10 < 10 := Nat.mod_lt _ (by decide)
    refine r_say h (by omega) (pk_charN (by omega)) (fun N' k' s' => ⟨by decide, nm_r (pk_lDiv (by omega) (by decide) (by decide)) (hkk N' (q N' k' s'))⟩)
  intro k
  induction k with
  | zero =>
    intro N L hk hl h q
    show fm_sayNumber_c51 Q (fm_sayNumber_l51 Q 1) _ _ _ N
    refine one 0 N L R (by decide) (by omega) h (fun N' k' s' => q N' k' ?_) _ (fun N' r => stop N' 0 r)
    rw [Nat.pow_zero, Nat.div_one] at s'
    exact s'
  | succ k ih =>
    intro N L hk hl h q
    show fm_sayNumber_c51 Q (fm_sayNumber_l51 Q (k + 2)) _ _ _ N
    refine one (k + 1) N L (fun N' => kS N N' ∧ SD N' (L ++ [nI (48 + n / 10 ^ (k + 1) % 10)])) hk (by omega) h (fun N' k' s' => ⟨k', s'⟩) _ (fun N' r => ?_)
    have e : 10 ^ (k + 1) / 10 = 10 ^ k := by rw [Nat.pow_succ, Nat.mul_div_cancel _ (by decide)]
    rw [e]
    refine ih N' _ (by omega) (by rw [List.length_append, List.length_singleton]; omega) r.2 (fun N2 k2 s2 => q N2 (kS_tr r.1 k2) ?_)
    have ed : dgs n (k + 1) true = nI (48 + n / 10 ^ (k + 1) % 10) :: dgs n k true := by
      show (if _ then _ else _) = _
      rw [if_pos (Or.inl rfl)]
    rw [ed]
    rw [List.append_assoc] at s2; exact s2
/-- the thousandths -/
theorem r_thou {m : Nat} (hm : m < 1000) {N : RM} {L : List Int32} (h : SD N L) (hl : L.length + 3 ≤ 100) {Q : RM → Prop} (q : ∀ N', kS N N' → SD N' (L ++ thR m) → Q N') : fm_sayNumber_l118 Q 4 (lN m) (lN 100) N := by
  have one : ∀ (a u : Nat) N L (kk : Int64 → Int64 → RM → Prop), a < 1000 → 0 < u → u ≤ 100 → a / u < 10 → L.length + 1 ≤ 100 → SD N L → (a = 0 → Q N) → (a ≠ 0 → ∀ N', kS N N' → SD N' (L ++ [nI (48 + a / u)]) → kk (lN (a % u)) (lN (u / 10)) N') → fm_sayNumber_c118 Q kk (lN a) (lN u) N := by
    intro a u N L kk ha hu hu2 hd hl h q0 q1
    unfold fm_sayNumber_c118 fm_sayNumber_b165
    refine br_f (fun z => by rw [lN_le0 (by omega)] at z; omega) ⟨fun c => q0 ((lN_le0 (by omega)).mp c), fun c => ⟨lN_ne0 (by omega) (by omega), ?_⟩⟩
    have a0 : a ≠ 0 := fun z => c ((lN_le0 (by omega)).mpr z)
    rw [pk_lDiv (by omega) hu (by omega), dig_q hd]
    refine r_say h (by omega) (pk_charN (by omega)) (fun N' k' s' => ⟨lN_ne0 (by omega) (by omega), nm_r ?_ ⟨by decide, nm_r (pk_lDiv (by omega) (by decide) (by decide)) (q1 a0 N' k' s')⟩⟩)
    have := pk_lRem (a := a) (b := u) (by omega) hu (by omega)
    rw [pk_lDiv (by omega) hu (by omega)] at this; exact this
  show fm_sayNumber_c118 Q (fm_sayNumber_l118 Q 3) _ _ N
  unfold thR at q
  refine one m 100 N L _ hm (by decide) (by decide) (by omega) (by omega) h (fun c => ?_) (fun c N1 k1 h1 => ?_)
  · rw [if_pos c, List.append_nil] at q; exact q N (kS_rf N) h
  rw [if_neg c] at q
  show fm_sayNumber_c118 Q (fm_sayNumber_l118 Q 2) _ (lN 10) N1
  refine one (m % 100) 10 N1 _ _ (by omega) (by decide) (by decide) (by omega) (by rw [List.length_append, List.length_singleton]; omega) h1 (fun c2 => ?_) (fun c2 N2 k2 h2 => ?_)
  · rw [if_pos c2] at q; exact q N1 k1 h1
  rw [if_neg c2] at q
  show fm_sayNumber_c118 Q (fm_sayNumber_l118 Q 1) _ (lN 1) N2
  refine one (m % 100 % 10) 1 N2 _ _ (by omega) (by decide) (by decide) (by omega) (by simp only [List.length_append, List.length_singleton]; omega) h2 (fun c3 => ?_) (fun c3 N3 k3 h3 => ?_)
  · rw [if_pos c3] at q
    refine q N2 (kS_tr k1 k2) ?_
    rw [List.append_assoc] at h2; exact h2
  rw [if_neg c3] at q
  show fm_sayNumber_c118 Q _ _ (lN 0) N3
  unfold fm_sayNumber_c118 fm_sayNumber_b165
  refine br_t (by decide) (q N3 (kS_tr k1 (kS_tr k2 k3)) ?_)
  rw [Nat.div_one] at h3
  simp only [List.append_assoc] at h3
  exact h3
theorem r_sayNumber {N : RM} {L : List Int32} (h : SD N L) (hl : L.length + 15 ≤ 100) (n : Int32) {Q : RM → Prop} (q : ∀ N', kS N N' → SD N' (L ++ nW n) → Q N') : fm_sayNumber (nv n) N Q := by
  have hlt := n.toInt_lt
  have hle := n.le_toInt
  obtain ⟨e, he⟩ : ∃ e, e = n.toInt.natAbs := ⟨_, rfl⟩
  have e31 : e ≤ 2 ^ 31 := by omega
  have w40 : e / 8 < 2 ^ 29 := by omega
  unfold nW numW at q
  rw [← he] at q
  -- behind the sign
  have b17 : ∀ N1 L1 v, L1.length + 14 ≤ 100 → kS N N1 → SD N1 L1 → WK 3 (e : Int) (Jvm.FP.Core.val64 v) → (∀ N', kS N N' → SD N' (L1 ++ (dgs (e / 8) 9 false ++ (if e % 8 = 0 then [] else 46 :: ths 3 (e % 8 * 125)))) → Q N') → fm_sayNumber_b17 Q v N1 := by
    intro N1 L1 v hl1 k1 h1 hv q
    have ed : FP.d2l v = lN (e / 8) := by
      apply Int64.toInt_inj.mp
      rw [pk_lT (by omega)]
      have c := WK_cut hv (by omega)
      show (Int64.ofInt (Jvm.FP.Core.toInt (-2 ^ 63) (2 ^ 63 - 1) (Jvm.FP.Core.val64 v))).toInt = _
      rw [c, Int64.toInt_ofInt_of_le (by omega) (by omega)]
    have wI : Jvm.FP.Core.DInt ((e / 8 : Nat) : Int) (FP.l2d (lN (e / 8))) := by
      have := Jvm.FP.Core.l2d_int (a := lN (e / 8)) (by rw [pk_lT (by omega)]; omega)
      rw [pk_lT (by omega)] at this; exact this
    have hr : WK 3 ((e % 8 : Nat) : Int) (Jvm.FP.Core.val64 (FP.dsub v (FP.l2d (lN (e / 8))))) := by
      have e1 : Jvm.FP.Core.val64 (FP.dsub v (FP.l2d (lN (e / 8)))) = Jvm.FP.Core.round Jvm.FP.Core.b64 (Jvm.FP.Core.exactSum (Jvm.FP.Core.val64 v) (Jvm.FP.Core.negate (Jvm.FP.Core.val64 (FP.l2d (lN (e / 8)))))) := Jvm.FP.Core.val64_dsub _ _
      rw [e1]
      have h2 := WK_sum hv (WK_neg (WK_i 3 wI))
      have e2 : (e : Int) + -(((e / 8 : Nat) : Int) * ((2 ^ 3 : Nat) : Int)) = ((e % 8 : Nat) : Int) := by omega
      rw [e2] at h2
      exact WK_r (by decide) (by omega) h2
    have hp : Jvm.FP.Core.DInt ((e % 8 * 125 : Nat) : Int) (FP.dmul (FP.dsub v (FP.l2d (lN (e / 8)))) 4652007308841189376) := by
      have e1 : Jvm.FP.Core.val64 (FP.dmul (FP.dsub v (FP.l2d (lN (e / 8)))) 4652007308841189376) = Jvm.FP.Core.round Jvm.FP.Core.b64 (Jvm.FP.Core.exactProduct (Jvm.FP.Core.val64 (FP.dsub v (FP.l2d (lN (e / 8))))) (Jvm.FP.Core.val64 4652007308841189376)) := Jvm.FP.Core.val64_dmul _ _
      show Jvm.FP.Core.Whole _ _
      rw [e1]
      have h2 := WK_mul hr (WK_0 d1000_W)
      have e2 : ((e % 8 : Nat) : Int) * 1000 = ((e % 8 * 125 : Nat) : Int) * ((2 ^ 3 : Nat) : Int) := by omega
      rw [e2] at h2
      exact WK_whole (WK_r (by decide) (by omega) (WK_down (k := 0) (l := 3) h2))
    have ep : FP.d2l (FP.dmul (FP.dsub v (FP.l2d (lN (e / 8)))) 4652007308841189376) = lN (e % 8 * 125) := Jvm.FP.Core.d2l_int (by rw [pk_lT (by omega)]; exact hp)
    have fin : ∀ N2, (kS N N2 ∧ SD N2 (L1 ++ dgs (e / 8) 9 false)) → (vf_n64 (FP.dsub v (FP.l2d (lN (e / 8)))) ∧ (vf_n64 (FP.dmul (FP.dsub v (FP.l2d (lN (e / 8)))) 4652007308841189376) ∧ (∀ x13 : Int64, x13 = FP.d2l (FP.dmul (FP.dsub v (FP.l2d (lN (e / 8)))) 4652007308841189376) → (((lg_cmp x13 0) ≤ 0 → fm_sayNumber_b165 Q N2) ∧ (¬ (lg_cmp x13 0) ≤ 0 → fm_say 46 N2 (fun (M15 : RM) => (∃ nn : Nat, fm_sayNumber_l118 Q nn x13 100 M15))))))) := by
      rintro N2 ⟨k2, h2⟩
      refine ⟨vf_of (nn_of hr), vf_of (dI_nn hp), nm_r ep ⟨fun c => ?_, fun c => ?_⟩⟩
      · have r0 : e % 8 = 0 := by have := (lN_le0 (by omega)).mp c; omega
        rw [if_pos r0, List.append_nil] at q
        exact q N2 k2 h2
      · have r0 : ¬ e % 8 = 0 := fun z => c ((lN_le0 (by omega)).mpr (by omega))
        rw [if_neg r0] at q
        have dl := dgs_len (e / 8) 9 false
        refine r_say h2 (by rw [List.length_append]; omega) (pk_charN (q := 46) (by decide)) (fun N3 k3 h3 => ⟨4, r_thou (by omega) h3 (by simp only [List.length_append, List.length_singleton]; omega) (fun N4 k4 h4 => q N4 (kS_tr k2 (kS_tr k3 k4)) ?_)⟩)
        rw [← thR_eq _ (by omega)]
        simp only [List.append_assoc] at h4
        exact h4
    have un : ∀ m i, i + m = 10 → (i = 0 ∨ 10 ^ i ≤ e / 8) → fm_sayNumber_l24 Q (m + 1) v (lN (e / 8)) (lN (10 ^ i)) N1 := by
      intro m
      induction m with
      | zero =>
        intro i hi h0
        have : (10 : Nat) ^ 10 ≤ e / 8 := by rw [show i = 10 by omega] at h0; omega
        have p : (10 : Nat) ^ 10 = 10000000000 := by decide
        omega
      | succ m ih =>
        intro i hi h0
        show fm_sayNumber_c24 Q (fm_sayNumber_l24 Q (m + 1)) _ _ _ N1
        have p10 : 0 < 10 ^ i := Nat.pow_pos (by decide)
        have p9 : 10 ^ i ≤ 10 ^ 9 := Nat.pow_le_pow_right (by decide) (by omega)
        have n9 : (10 : Nat) ^ 9 = 1000000000 := by decide
        have dle := Nat.div_le_self (e / 8) (10 ^ i)
        unfold fm_sayNumber_c24
        rw [pk_lDiv (by omega) p10 (by omega)]
        refine ⟨lN_ne0 (by omega) (by omega), fun c => ?_, fun c => nm_r (e' := lN (10 ^ (i + 1))) (by rw [show (10 : Int64) = lN 10 from rfl, lN_mul, Nat.pow_succ]) (ih (i + 1) (by omega) (Or.inr ?_))⟩
        · have c9 : e / 8 / 10 ^ i ≤ 9 := by
            rw [lg_cmp_le, show (9 : Int64) = lN 9 from rfl, pk_lLE (by omega) (by omega)] at c; exact c
          have h2 : e / 8 < 10 ^ (i + 1) := by
            rw [Nat.pow_succ]
            have := Nat.lt_mul_div_succ (e / 8) p10
            have : 10 ^ i * (e / 8 / 10 ^ i + 1) ≤ 10 ^ i * 10 := Nat.mul_le_mul_left _ (by omega)
            omega
          have el := dgs_lead (e / 8) i h0 h2 9 (by omega)
          rw [el] at fin
          exact ⟨i + 2, r_digits (by omega) fin i N1 L1 (by omega) (by omega) h1 (fun N2 k2 h2 => ⟨kS_tr k1 k2, h2⟩)⟩
        · have c9 : 10 ≤ e / 8 / 10 ^ i := by
            rw [lg_cmp_le, show (9 : Int64) = lN 9 from rfl, pk_lLE (by omega) (by omega)] at c; omega
          rw [Nat.pow_succ]
          have := (Nat.le_div_iff_mul_le p10).mp c9
          omega
    unfold fm_sayNumber_b17
    exact nm_r ed ⟨11, un 10 0 rfl (Or.inl rfl)⟩
  unfold fm_sayNumber
  rw [nv_0]
  by_cases c : n.toInt < 0
  · rw [cI_lt c]
    rw [decide_eq_true c] at q
    refine ⟨fun z => absurd z (by decide), fun _ => r_say h (by omega) (pk_charN (q := 45) (by decide)) (fun N1 k1 h1 => nm_e (b17 N1 _ _ (by rw [List.length_append, List.length_singleton]; omega) k1 h1 ?_ (fun N' k' s' => q N' k' ?_)))⟩
    · rw [show (e : Int) = -n.toInt by omega]; exact nv_neg n
    · rw [List.append_assoc] at s'; exact s'
  · rw [decide_eq_false c] at q
    have go : fm_sayNumber_b17 Q (nv n) N := b17 N L _ (by omega) (kS_rf N) h (by rw [show (e : Int) = n.toInt by omega]; exact nv_W n) (fun N' k' s' => q N' k' s')
    by_cases c0 : n.toInt = 0
    · rw [cI_eq' c0]; exact ⟨fun _ => go, fun z => absurd (by decide) z⟩
    · rw [cI_gt (by omega)]; exact ⟨fun _ => go, fun z => absurd (by decide) z⟩
end SAY
