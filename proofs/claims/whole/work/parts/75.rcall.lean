/-! call, in the reference -/
def kQ (N N' : RM) : Prop := (∀ f, f ≠ 24 → f ≠ 25 → rI N' f = rI N f) ∧ kV N N' ∧ ∀ p, p < 48 → ∀ k j d w z, mR N p k j d w z → mR N' p k j d w z
theorem kQ_rf (N : RM) : kQ N N := ⟨fun _ _ _ => rfl, kV_rf N, fun _ _ _ _ _ _ _ m => m⟩
theorem kQ_tr {N N1 N2 : RM} (h : kQ N N1) (k : kQ N1 N2) : kQ N N2 := ⟨fun f a b => (k.1 f a b).trans (h.1 f a b), kV_tr h.2.1 k.2.1, fun p hp a b c d e m => k.2.2 p hp a b c d e (h.2.2 p hp a b c d e m)⟩
theorem kC_kQ {s : Nat} {N N' : RM} (h : kC s N N') : kQ N N' := ⟨fun f a b => h.1 f a b, h.2.1, fun p hp a b c d e m => h.2.2.2 p (by omega) (fun j _ => by omega) a b c d e m⟩
section RCL
variable {N : RM} {I : Nat → Nat → Int32} {J : Nat → Int64} {D : Nat → UInt64} {W : Nat → List Int32} {o m f i : Nat} {l : List (Nat × List Ag)} {nn : Nat → Nat} {φ : List Ag}
/-- all slots have values that both have -/
def vA (N : RM) (I : Nat → Nat → Int32) (J : Nat → Int64) (D : Nat → UInt64) (W : Nat → List Int32) (nn : Nat → Nat) : Prop := (∀ s, s < 8 → (vT N I J D W s ∧ nn s = 0) ∨ vL N I J D W s (nn s)) ∧ ∀ v, v < 48 → gd (dV I D v)
theorem kV_vA {N' : RM} (k : kV N N') (h : vA N I J D W nn) : vA N' I J D W nn := ⟨fun s hs => (h.1 s hs).imp (fun z => ⟨kV_vT k z.1, z.2⟩) (fun z => kV_vL k z), h.2⟩
theorem conv_ok (hv : vA N I J D W nn) (hf : rFm N f φ) (hf3 : f < 37) {n : Nat} (ht : takes φ n) (hi : i < n) (hi8 : i < 8) (ok : okP (aOf φ i) I J D W (nn i) i) {K F : RM → Prop} (k : ∀ N', kC i N N' → mCb 48 N' (aOf φ i) I J D W (nn i) i → K N') : fm_argumentOf (nI f) (nI i) N (fun (r6 : Int32) (M5 : RM) => fm_convert (nI i) r6 M5 (fun (r8 : Int32) (M7 : RM) => ((¬ r8 = 0 → K M7) ∧ (r8 = 0 → F M7)))) := by
  have l5 := hf.1
  have la := argI_lt ht hi
  exact r_argOf hf hf3 ht hi (r_convert hi8 (hv.1 i hi8) (hf.2.2 _ la) (by omega) hv.2 (fun N' c m => ⟨fun _ => k N' c m, fun z => absurd z (by decide)⟩) (fun no N' c => (ok_no ok no).elim))
theorem conv_no (hv : vA N I J D W nn) (hf : rFm N f φ) (hf3 : f < 37) {n : Nat} (ht : takes φ n) (hi : i < n) (hi8 : i < 8) (no : cvNo (aOf φ i) I J D W (nn i) i) {K F : RM → Prop} (k : ∀ N', kC i N N' → F N') : fm_argumentOf (nI f) (nI i) N (fun (r6 : Int32) (M5 : RM) => fm_convert (nI i) r6 M5 (fun (r8 : Int32) (M7 : RM) => ((¬ r8 = 0 → K M7) ∧ (r8 = 0 → F M7)))) := by
  have l5 := hf.1
  have la := argI_lt ht hi
  exact r_argOf hf hf3 ht hi (r_convert hi8 (hv.1 i hi8) (hf.2.2 _ la) (by omega) hv.2 (fun N' c m => (ok_no (mCb_ok m) no).elim) (fun _ N' c => ⟨fun z => absurd rfl z, fun _ => k N' c⟩))
theorem mCb_kC {g : Ag} {n s : Nat} {N' : RM} (hs : s < 8) (hi : i < 8) (hne : s ≠ i) (hn : n ≤ 5) (k : kC i N N') (h : mCb 48 N g I J D W n s) : mCb 48 N' g I J D W n s := by
  refine mCb_mv h (fun a b c d e m => k.2.2.2 _ (by omega) (fun j hj => ?_) a b c d e m) (fun x hx a b c d e m => k.2.2.2 _ ?_ (fun j hj => ?_) a b c d e m)
  · have := itm_v (j := j) hi; omega
  · have := itm_v (j := x) hs; omega
  · have := itm_v (j := x) hs
    have := itm_v (j := j) hi
    omega
theorem nn5 (hv : vA N I J D W nn) {s : Nat} (hs : s < 8) : nn s ≤ 5 := (hv.1 s hs).elim (fun z => by omega) (fun z => z.2.2.2.1)
/-- the conversions before the deciding slot -/
theorem loop1_ok (hv : vA N I J D W nn) {only n d : Nat} (hf : rFm N (6 * o + only) φ) (hf3 : 6 * o + only < 37) (ht : takes φ n) (hn : n ≤ 8) (hd : d ≤ n) {Q : Int32 → RM → Prop} (ok : ∀ x, x < d → okP (aOf φ x) I J D W (nn x) x)
    (q : ∀ N', kQ N N' → (∀ x, x < d → mCb 48 N' (aOf φ x) I J D W (nn x) x) → fm_choose (nI o) (nI n) (nI d) N' (fun (r16 : Int32) (M15 : RM) => ((0 ≤ r16 → fm_call_b206 Q (nI o) (nI n) r16 (nI d) M15) ∧ (¬ 0 ≤ r16 → fm_fail (nI d) M15 (fun (r19 : Int32) (M18 : RM) => Q r19 M18))))) : ∃ nn', fm_call_l141 Q nn' (nI o) (nI n) (nI only) 0 (nI d) N := by
  have lp : ∀ m i N1, i + m = d → kQ N N1 → (∀ x, x < i → mCb 48 N1 (aOf φ x) I J D W (nn x) x) → fm_call_l141 Q (m + 1) (nI o) (nI n) (nI only) (nI i) (nI d) N1 := by
    intro m
    induction m with
    | zero =>
      intro i N1 hi k h
      show fm_call_c141 Q _ _ _ _ _ _ N1
      unfold fm_call_c141
      have e : i = d := by omega
      subst e
      exact br_t (nI_le (by omega) (by omega)) (q N1 k h)
    | succ m ih =>
      intro i N1 hi k h
      show fm_call_c141 Q (fm_call_l141 Q (m + 1)) _ _ _ _ _ N1
      unfold fm_call_c141
      rw [m6, nI_add]
      refine br_f (nI_ge (by omega) (by omega)) (conv_ok (kV_vA k.2.1 hv) (kV_rFm k.2.1 hf) hf3 ht (by omega) (by omega) (ok i (by omega)) (fun N2 c mm => nm_r (nI_1 i) (ih (i + 1) N2 (by omega) (kQ_tr k (kC_kQ c)) (fun x hx => ?_))))
      by_cases y : x = i
      · rw [y]; exact mm
      · exact mCb_kC (by omega) (by omega) y (nn5 hv (by omega)) c (h x (by omega))
  exact ⟨d + 1, lp d 0 N (by omega) (kQ_rf N) (fun x hx => absurd hx (Nat.not_lt_zero x))⟩
theorem loop1_no (hv : vA N I J D W nn) {only n d v : Nat} (hf : rFm N (6 * o + only) φ) (hf3 : 6 * o + only < 37) (ht : takes φ n) (hn : n ≤ 8) (hd : d ≤ n) (hvd : v < d) {Q : Int32 → RM → Prop} (ok : ∀ x, x < v → okP (aOf φ x) I J D W (nn x) x) (no : cvNo (aOf φ v) I J D W (nn v) v)
    (q : ∀ N', kQ N N' → Q (-5) (wI N' 3 (nI v))) : ∃ nn', fm_call_l141 Q nn' (nI o) (nI n) (nI only) 0 (nI d) N := by
  have lp : ∀ m i N1, i + m = v → kQ N N1 → fm_call_l141 Q (m + 1) (nI o) (nI n) (nI only) (nI i) (nI d) N1 := by
    intro m
    induction m with
    | zero =>
      intro i N1 hi k
      show fm_call_c141 Q _ _ _ _ _ _ N1
      unfold fm_call_c141
      have e : i = v := by omega
      subst e
      rw [m6, nI_add]
      exact br_f (nI_ge (by omega) (by omega)) (conv_no (kV_vA k.2.1 hv) (kV_rFm k.2.1 hf) hf3 ht (by omega) (by omega) no (fun N2 c => nm_e (q N2 (kQ_tr k (kC_kQ c)))))
    | succ m ih =>
      intro i N1 hi k
      show fm_call_c141 Q (fm_call_l141 Q (m + 1)) _ _ _ _ _ N1
      unfold fm_call_c141
      rw [m6, nI_add]
      exact br_f (nI_ge (by omega) (by omega)) (conv_ok (kV_vA k.2.1 hv) (kV_rFm k.2.1 hf) hf3 ht (by omega) (by omega) (ok i (by omega)) (fun N2 c mm => nm_r (nI_1 i) (ih (i + 1) N2 (by omega) (kQ_tr k (kC_kQ c)))))
  exact ⟨v + 1, lp v 0 N (by omega) (kQ_rf N)⟩
/-- the conversions from the deciding slot on -/
theorem loop2_ok (hv : vA N I J D W nn) {j n d : Nat} (hf : rFm N f φ) (hf3 : f < 37) (ht : takes φ n) (hn : n ≤ 8) (hd : d ≤ n) {Q : Int32 → RM → Prop} (ok : ∀ x, d ≤ x → x < n → okP (aOf φ x) I J D W (nn x) x)
    (q : ∀ N', kQ N N' → (∀ x, d ≤ x → x < n → mCb 48 N' (aOf φ x) I J D W (nn x) x) → (∀ g x, x < d → mCb 48 N g I J D W (nn x) x → mCb 48 N' g I J D W (nn x) x) → fm_finish (nI n) (nI φ.length) N' (fun (M3 : RM) => Q (nI j) M3)) : ∃ nn', fm_call_l215 Q nn' (nI n) (nI j) (nI d) (nI f) N := by
  have lp : ∀ m i N1, i + m = n → d ≤ i → kQ N N1 → (∀ x, d ≤ x → x < i → mCb 48 N1 (aOf φ x) I J D W (nn x) x) → (∀ g x, x < d → mCb 48 N g I J D W (nn x) x → mCb 48 N1 g I J D W (nn x) x) → fm_call_l215 Q (m + 1) (nI n) (nI j) (nI i) (nI f) N1 := by
    intro m
    induction m with
    | zero =>
      intro i N1 hi hdi k h h2
      show fm_call_c215 Q _ _ _ _ _ N1
      unfold fm_call_c215
      have e : i = n := by omega
      subst e
      rw [nI_clamp (by omega), (kV_rFm k.2.1 hf).2.1]
      exact br_t (nI_le (by omega) (by omega)) ⟨vp_in_nI hf3 (by omega), q N1 k h h2⟩
    | succ m ih =>
      intro i N1 hi hdi k h h2
      show fm_call_c215 Q (fm_call_l215 Q (m + 1)) _ _ _ _ N1
      unfold fm_call_c215
      refine br_f (nI_ge (by omega) (by omega)) (conv_ok (kV_vA k.2.1 hv) (kV_rFm k.2.1 hf) hf3 ht (by omega) (by omega) (ok i hdi (by omega)) (fun N2 c mm => nm_r (nI_1 i) (ih (i + 1) N2 (by omega) (by omega) (kQ_tr k (kC_kQ c)) (fun x h1 hx => ?_) (fun g x hx mx => mCb_kC (by omega) (by omega) (by omega) (nn5 hv (by omega)) c (h2 g x hx mx)))))
      by_cases y : x = i
      · rw [y]; exact mm
      · exact mCb_kC (by omega) (by omega) y (nn5 hv (by omega)) c (h x h1 (by omega))
  exact ⟨n - d + 1, lp (n - d) d N (by omega) (Nat.le_refl _) (kQ_rf N) (fun x h1 h2 => by omega) (fun g x hx mx => mx)⟩
theorem loop2_no (hv : vA N I J D W nn) {j n d v : Nat} (hf : rFm N f φ) (hf3 : f < 37) (ht : takes φ n) (hn : n ≤ 8) (hdv : d ≤ v) (hvn : v < n) {Q : Int32 → RM → Prop} (ok : ∀ x, d ≤ x → x < v → okP (aOf φ x) I J D W (nn x) x) (no : cvNo (aOf φ v) I J D W (nn v) v)
    (q : ∀ N', kQ N N' → Q (-5) (wI N' 3 (nI v))) : ∃ nn', fm_call_l215 Q nn' (nI n) (nI j) (nI d) (nI f) N := by
  have lp : ∀ m i N1, i + m = v → d ≤ i → kQ N N1 → fm_call_l215 Q (m + 1) (nI n) (nI j) (nI i) (nI f) N1 := by
    intro m
    induction m with
    | zero =>
      intro i N1 hi hdi k
      show fm_call_c215 Q _ _ _ _ _ N1
      unfold fm_call_c215
      have e : i = v := by omega
      subst e
      exact br_f (nI_ge (by omega) (by omega)) (conv_no (kV_vA k.2.1 hv) (kV_rFm k.2.1 hf) hf3 ht (by omega) (by omega) no (fun N2 c => nm_e (q N2 (kQ_tr k (kC_kQ c)))))
    | succ m ih =>
      intro i N1 hi hdi k
      show fm_call_c215 Q (fm_call_l215 Q (m + 1)) _ _ _ _ N1
      unfold fm_call_c215
      exact br_f (nI_ge (by omega) (by omega)) (conv_ok (kV_vA k.2.1 hv) (kV_rFm k.2.1 hf) hf3 ht (by omega) (by omega) (ok i hdi (by omega)) (fun N2 c mm => nm_r (nI_1 i) (ih (i + 1) N2 (by omega) (by omega) (kQ_tr k (kC_kQ c)))))
  exact ⟨v - d + 1, lp (v - d) d N (by omega) (Nat.le_refl _) (kQ_rf N)⟩
def dn (i : Nat) : Int32 := if i = 0 then -1 else nI (i - 1)
/-- how many can be called, and the first of them -/
theorem r_takers (ho : o < 6) (hO : rOp N o (l.map Prod.snd)) {n : Nat} (hn : n ≤ 8) (m : Int32) {Q : Int32 → RM → Prop}
    (q0 : gth n l = [] → fm_fail m N (fun (r35 : Int32) (M34 : RM) => Q r35 M34))
    (q1 : ∀ j, j < l.length → (gth n l).length = 1 → (gth n l).getD 0 (0, []) = l.getD j (0, []) → takes (pF l j) n → fm_call_b206 Q (nI o) (nI n) (nI j) 0 N)
    (q2 : ∀ j, j < l.length → 2 ≤ (gth n l).length → (gth n l).getD 0 (0, []) = l.getD j (0, []) → takes (pF l j) n → fm_deciding (nI o) (nI n) 0 N (fun (r33 : Int32) (M32 : RM) => (∃ nn : Nat, fm_call_l141 Q nn (nI o) (nI n) (nI j) 0 r33 M32))) : fm_call_b59 Q (nI o) m (nI n) N := by
  obtain ⟨l6, e4, hF⟩ := rOp_fm hO
  have lp : ∀ i (v5 : Int32), i ≤ l.length → (gth n (l.drop i) ≠ [] → ∃ j, v5 = nI j ∧ j < l.length ∧ (gth n (l.drop i)).getD 0 (0, []) = l.getD j (0, []) ∧ takes (pF l j) n) → fm_call_l77 Q (i + 1) (nI o) m (nI n) v5 (nI (gth n (l.drop i)).length) (dn i) N := by
    intro i
    induction i with
    | zero =>
      intro v5 hi h
      show fm_call_c77 Q _ _ _ _ _ _ _ N
      rw [List.drop_zero] at h ⊢
      have gl := gth_len n l
      unfold fm_call_c77
      refine br_t (by decide) (pk_eq (gth n l).length 0 (fun c => q0 (List.eq_nil_of_length_eq_zero c)) (fun c => ?_) |>.symm)
      have ne : gth n l ≠ [] := fun z => c (by rw [z]; rfl)
      obtain ⟨j, e, hj, eg, t⟩ := h ne
      rw [e]
      exact pk_le (gth n l).length 1 (fun c1 => q1 j hj (by omega) eg t) (fun c1 => q2 j hj (by omega) eg t)
    | succ i ih =>
      intro v5 hi h
      show fm_call_c77 Q (fm_call_l77 Q (i + 1)) _ _ _ _ _ _ N
      have ed : dn (i + 1) = nI i := rfl
      have edd : l.drop i = l.getD i (0, []) :: l.drop (i + 1) := by
        rw [List.getD_eq_getElem?_getD, List.getElem?_eq_getElem (show i < l.length by omega)]
        exact List.drop_eq_getElem_cons (by omega)
      have gl := gth_len n (l.drop (i + 1))
      rw [List.length_drop] at gl
      have edn : nI i + (-1) = dn i := by
        unfold dn
        by_cases y : i = 0
        · rw [if_pos y, y]; rfl
        · rw [if_neg y]
          have := pk_m1 (i - 1)
          rw [show i - 1 + 1 = i by omega] at this; exact this
      rw [ed]
      unfold fm_call_c77 fm_call_b105
      rw [m6, nI_add]
      refine br_f (nI_pos (by omega)) (r_takes (hF i (by omega)) (by omega) (by omega) (fun t => ⟨fun z => absurd z (by decide), fun _ => nm_r (nI_1 _) (nm_r edn ?_)⟩) (fun t => ⟨fun _ => nm_r edn ?_, fun z => absurd rfl z⟩))
      · have eg : gth n (l.drop i) = l.getD i (0, []) :: gth n (l.drop (i + 1)) := by
          rw [edd]; unfold gth; rw [List.filter_cons_of_pos (p := fun p : Nat × List Ag => tkB p.2 n) (tkB_iff.mpr t)]
        have := ih (nI i) (by omega) (fun _ => ⟨i, rfl, by omega, by rw [eg]; rfl, t⟩)
        rw [eg, List.length_cons] at this; exact this
      · have eg : gth n (l.drop i) = gth n (l.drop (i + 1)) := by
          rw [edd]; unfold gth; rw [List.filter_cons_of_neg (p := fun p : Nat × List Ag => tkB p.2 n) (fun z => t (tkB_iff.mp z))]
        have := ih v5 (by omega) (fun z => by rw [eg] at z ⊢; exact h z)
        rw [eg] at this; exact this
  have start := lp l.length (-1) (Nat.le_refl _) (fun z => by rw [List.drop_length] at z; exact absurd rfl z)
  rw [List.drop_length] at start
  unfold fm_call_b59
  refine nm_e ⟨vp_in_nI ho (by omega), nm_r ?_ ⟨_, start⟩⟩
  rw [nI_clamp (by omega), e4]
  unfold dn
  by_cases y : l.length = 0
  · rw [if_pos y, y]; rfl
  · rw [if_neg y]; exact pk_sub (b := 1) (by omega)
end RCL
