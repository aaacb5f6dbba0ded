/-! the end of a call in the reference -/
def mCb (b : Nat) (N : RM) (g : Ag) (I : Nat → Nat → Int32) (J : Nat → Int64) (D : Nat → UInt64) (W : Nat → List Int32) (n s : Nat) : Prop :=
  (missC g (I 80 s) → mR N (b + s) 0 0 FP.dconst0 [] 0) ∧
  (¬ missC g (I 80 s) → plainC g (I 80 s) → ∃ r, cvP g.2.2.1 (I 80 s) (hasB (I 83 s)) (J s) (D s) (W s) = some r ∧ mR N (b + s) r.1 r.2.1 r.2.2.1 r.2.2.2 (if isAny g.2.2.1 (I 80 s) = true then nI n else 0) ∧ (isAny g.2.2.1 (I 80 s) = true → ∀ j, j < n → mR N (b + itm s j) (I 80 (itm s j)) (J (itm s j)) (D (itm s j)) (W (itm s j)) 0)) ∧
  (¬ missC g (I 80 s) → ¬ plainC g (I 80 s) → ∀ σ, g.2.2.2 = some σ → I 80 s = 6 ∧ mR N (b + s) 6 0 FP.dconst0 [] (nI n) ∧ ∀ j, j < n → ∃ r, cvP σ (I 80 (itm s j)) (hasB (I 83 (itm s j))) (J (itm s j)) (D (itm s j)) (W (itm s j)) = some r ∧ mR N (b + itm s j) r.1 r.2.1 r.2.2.1 r.2.2.2 0)
def okP (g : Ag) (I : Nat → Nat → Int32) (J : Nat → Int64) (D : Nat → UInt64) (W : Nat → List Int32) (n s : Nat) : Prop :=
  (¬ missC g (I 80 s) → plainC g (I 80 s) → ∃ r, cvP g.2.2.1 (I 80 s) (hasB (I 83 s)) (J s) (D s) (W s) = some r) ∧
  (¬ missC g (I 80 s) → ¬ plainC g (I 80 s) → ∀ σ, g.2.2.2 = some σ → I 80 s = 6 ∧ ∀ j, j < n → ∃ r, cvP σ (I 80 (itm s j)) (hasB (I 83 (itm s j))) (J (itm s j)) (D (itm s j)) (W (itm s j)) = some r)
section FIN
variable {N N' : RM} {I : Nat → Nat → Int32} {J : Nat → Int64} {D : Nat → UInt64} {W : Nat → List Int32} {s n a b b' : Nat} {g : Ag}
theorem mC_b : mC N g I J D W n s ↔ mCb 48 N g I J D W n s := Iff.rfl
theorem mCb_mv (h : mCb b N g I J D W n s) (h0 : ∀ k j d w z, mR N (b + s) k j d w z → mR N' (b' + s) k j d w z) (hj : ∀ i, i < n → ∀ k j d w z, mR N (b + itm s i) k j d w z → mR N' (b' + itm s i) k j d w z) : mCb b' N' g I J D W n s := by
  obtain ⟨h1, h2, h3⟩ := h
  refine ⟨fun c => h0 _ _ _ _ _ (h1 c), fun c d => ?_, fun c d σ e => ?_⟩
  · obtain ⟨r, x, y, z⟩ := h2 c d
    exact ⟨r, x, h0 _ _ _ _ _ y, fun c j hj' => hj j hj' _ _ _ _ _ (z c j hj')⟩
  · obtain ⟨x, y, z⟩ := h3 c d σ e
    refine ⟨x, h0 _ _ _ _ _ y, fun j hj' => ?_⟩
    obtain ⟨r, r1, r2⟩ := z j hj'
    exact ⟨r, r1, hj j hj' _ _ _ _ _ r2⟩
theorem mCb_ok (h : mCb b N g I J D W n s) : okP g I J D W n s :=
  ⟨fun c d => by obtain ⟨r, x, -⟩ := h.2.1 c d; exact ⟨r, x⟩, fun c d σ e => by
    obtain ⟨x, -, z⟩ := h.2.2 c d σ e
    exact ⟨x, fun j hj => by obtain ⟨r, r1, -⟩ := z j hj; exact ⟨r, r1⟩⟩⟩
theorem okA_ok (h : okA g I J D W n s) : okP g I J D W n s := by
  obtain ⟨I', J', D', W', t, h1, h2, h3⟩ := h
  refine ⟨fun c d => by obtain ⟨r, x, -⟩ := h2 c d; exact ⟨r, x⟩, fun c d σ e => ?_⟩
  obtain ⟨x, -, -, z⟩ := h3 c d σ e
  exact ⟨x, fun j hj => by obtain ⟨r, r1, -⟩ := z j hj; exact ⟨r, r1⟩⟩
theorem ok_no (h : okP g I J D W n s) (k : cvNo g I J D W n s) : False := by
  obtain ⟨hm, k⟩ := k
  rcases k with ⟨pc, e⟩ | ⟨np, k⟩
  · obtain ⟨r, x⟩ := h.1 hm pc
    rw [x] at e; cases e
  · cases eg : g.2.2.2 with
    | none => exact np (Or.inl eg)
    | some σ =>
      obtain ⟨x, y⟩ := h.2 hm np σ eg
      rcases k with k | ⟨σ', j, e', hj, z⟩
      · exact k x
      · rw [eg] at e'
        cases e'
        obtain ⟨r, r1⟩ := y j hj
        rw [r1] at z; cases z
/-- made rows from 48 on come to the front -/
theorem r_finish (hn : n ≤ 8) {c : Nat} (hc : c ≤ 8) {Q : RM → Prop} (q : ∀ N', (∀ f, f ≠ 18 → f ≠ 24 → f ≠ 25 → rI N' f = rI N f) → rI N' 18 = nI (if n ≤ c then c else n) → kV N N' → (∀ p, p < 48 → (p < n ∨ c ≤ p) → ∀ k j d w z, mR N (48 + p) k j d w z → mR N' p k j d w z) → (∀ p, n ≤ p → p < c → mR N' p 0 0 FP.dconst0 [] 0) → Q N') : fm_finish (nI n) (nI c) N Q := by
  obtain ⟨P, hP⟩ : ∃ P, P = if n ≤ c then c else n := ⟨_, rfl⟩
  rw [← hP] at q
  have hP8 : P ≤ 8 := by rw [hP]; split <;> omega
  have hPn : n ≤ P := by rw [hP]; split <;> omega
  have hPc : ∀ p, n ≤ p → p < P → p < c := fun p h1 h2 => by rw [hP] at h2; split at h2 <;> omega
  have hcP : c ≤ P := by rw [hP]; split <;> omega
  -- copying
  have text : ∀ p, p < 48 → ∀ (kk : Int32 → RM → Prop) m i N1 (X : RM → Prop), i + m = 80 → (∀ N2, (∀ f, rI N2 f = rI N1 f) → N2.2.2 = N1.2.2 → (∀ f x, ¬ (f = 22 ∧ 80 * p ≤ x ∧ x < 80 * p + 80) → rA N2 f x = rA N1 f x) → (∀ x, i ≤ x → x < 80 → rA N2 22 (80 * p + x) = vp_nar .char (rA N1 22 (80 * (48 + p) + x))) → (∀ x, x < i → rA N2 22 (80 * p + x) = rA N1 22 (80 * p + x)) → kk (nI (p + 1)) N2) → fm_finish_l97 Q kk (m + 1) (nI p) (nI i) N1 := by
    intro p hp kk m
    induction m with
    | zero =>
      intro i N1 X hi h
      show fm_finish_c97 Q kk _ _ _ N1
      unfold fm_finish_c97
      refine br_t (nI_le (a := 80) (by omega) (by omega)) (nm_r (nI_1 p) (h N1 (fun _ => rfl) rfl (fun _ _ _ => rfl) (fun x a b => by omega) (fun _ _ => rfl)))
    | succ m ih =>
      intro i N1 X hi h
      show fm_finish_c97 Q kk (fm_finish_l97 Q kk (m + 1)) _ _ N1
      unfold fm_finish_c97
      rw [show (48 : Int32) = nI 48 from rfl, nI_add, show (80 : Int32) = nI 80 from rfl, pk_mul, pk_mul, nI_add, nI_add]
      refine br_f (nI_ge (b := 80) (by omega) (by omega)) ⟨vp_in_nI (by omega) (by omega), vp_in_nI (by omega) (by omega), nm_e (nm_r (nI_1 i) ?_)⟩
      rw [nI_clamp (by omega), nI_clamp (by omega)]
      refine ih (i + 1) _ X (by omega) (fun N2 a1 a2 a3 a4 a5 => h N2 (fun f => a1 f) a2 (fun f x hx => ?_) (fun x h1 h2 => ?_) (fun x h1 => ?_))
      · rw [a3 f x hx, rA_wA, if_neg (fun z => hx (by omega))]
      · by_cases y : x = i
        · subst y
          rw [a5 x (Nat.lt_succ_self x), rA_wA, if_pos ⟨rfl, rfl⟩]
        · rw [a4 x (by omega) h2, rA_wA, if_neg (fun z => by omega)]
      · rw [a5 x (by omega), rA_wA, if_neg (fun z => by omega)]
  have rows : ∀ m p N1, p + m = 48 → (∀ f, f ≠ 18 → f ≠ 24 → f ≠ 25 → rI N1 f = rI N f) → rI N1 18 = nI P → kV N N1 → (∀ x, x < 48 → (x < n ∨ c ≤ x) → ∀ k j d w z, mR N (48 + x) k j d w z → mR N1 (48 + x) k j d w z) → (∀ x, n ≤ x → x < c → mR N1 (48 + x) 0 0 FP.dconst0 [] 0) → (∀ x, x < p → ∀ k j d w z, mR N1 (48 + x) k j d w z → mR N1 x k j d w z) → fm_finish_l43 Q (m + 1) (nI p) N1 := by
    intro m
    induction m with
    | zero =>
      intro p N1 hp b1 b2 b3 b4 b5 b6
      show fm_finish_c43 Q _ _ N1
      unfold fm_finish_c43
      refine br_t (nI_le (a := 48) (by omega) (by omega)) (q N1 b1 b2 b3 (fun x hx hy k j d w z m => b6 x (by omega) _ _ _ _ _ (b4 x hx hy k j d w z m)) (fun x h1 h2 => b6 x (by omega) _ _ _ _ _ (b5 x h1 h2)))
    | succ m ih =>
      intro p N1 hp b1 b2 b3 b4 b5 b6
      show fm_finish_c43 Q (fm_finish_l43 Q (m + 1)) _ N1
      unfold fm_finish_c43
      rw [show (48 : Int32) + nI p = nI (48 + p) from nI_add 48 p]
      have i1 := vp_in_nI (n := 48 + p) (N := 96) (by omega) (by omega)
      have i2 := vp_in_nI (n := p) (N := 96) (by omega) (by omega)
      refine br_f (nI_ge (b := 48) (by omega) (by omega)) ⟨i1, i2, nm_e ⟨i1, i2, nm_e ⟨i1, i2, nm_e ⟨81, ?_⟩⟩⟩⟩
      rw [nI_clamp (by omega), nI_clamp (by omega)]
      refine text p (by omega) (fm_finish_l43 Q (m + 1)) 80 0 _ (fun _ => True) rfl (fun N2 a1 a2 a3 a4 _ => ?_)
      have eA : ∀ f x, ¬ (f = 22 ∧ 80 * p ≤ x ∧ x < 80 * p + 80) → ¬ (f = 19 ∧ x = p) → rA N2 f x = rA N1 f x := fun f x h1 h2 => by
        rw [a3 f x h1]
        show rA (wA N1 19 p (rA N1 19 (48 + p))) f x = _
        rw [rA_wA, if_neg h2]
      have eA19 : rA N2 19 p = rA N1 19 (48 + p) := by
        rw [a3 19 p (fun z => absurd z.1 (by decide))]
        show rA (wA N1 19 p (rA N1 19 (48 + p))) 19 p = _
        rw [rA_wA, if_pos ⟨rfl, rfl⟩]
      have eT : ∀ x, x < 80 → rA N2 22 (80 * p + x) = vp_nar .char (rA N1 22 (80 * (48 + p) + x)) := fun x hx => by
        rw [a4 x (Nat.zero_le _) hx]
        show vp_nar .char (rA (wA N1 19 p (rA N1 19 (48 + p))) 22 _) = _
        rw [rA_wA, if_neg (fun z => absurd z.1 (by decide))]
      have eJ : ∀ f x, rJ N2 f x = if f = 20 ∧ x = p then rJ N1 20 (48 + p) else rJ N1 f x := fun f x => by
        show N2.2.2.1 f x = _
        rw [a2]
        show rJ (wJ (wA N1 19 p (rA N1 19 (48 + p))) 20 p (rJ (wA N1 19 p (rA N1 19 (48 + p))) 20 (48 + p))) f x = _
        rw [rJ_wJ]; rfl
      have eD : ∀ f x, rD N2 f x = if f = 21 ∧ x = p then rD N1 21 (48 + p) else rD N1 f x := fun f x => by
        show N2.2.2.2 f x = _
        rw [a2]
        show rD (wD (wJ (wA N1 19 p (rA N1 19 (48 + p))) 20 p (rJ (wA N1 19 p (rA N1 19 (48 + p))) 20 (48 + p))) 21 p (rD N1 21 (48 + p))) f x = _
        rw [rD_wD]; rfl
      have mv : ∀ x, x ≠ p → ∀ k j d w z, mR N1 x k j d w z → mR N2 x k j d w z := by
        intro x hx k j d w z ⟨c1, c2, c3, c4⟩
        refine ⟨?_, ?_, ?_, fun k5 => ⟨(c4 k5).1, fun i hi => ?_⟩⟩
        · rw [eA 19 x (fun z => absurd z.1 (by decide)) (fun z => hx z.2)]; exact c1
        · rw [eJ, if_neg (fun z => hx z.2)]; exact c2
        · rw [eD, if_neg (fun z => hx z.2)]; exact c3
        · have l := (c4 k5).1
          rw [eA 22 _ (fun z => by omega) (fun z => absurd z.1 (by decide))]; exact (c4 k5).2 i hi
      have mp : ∀ k j d w z, mR N1 (48 + p) k j d w z → mR N2 p k j d w z := by
        intro k j d w z ⟨c1, c2, c3, c4⟩
        refine ⟨eA19.trans c1, ?_, ?_, fun k5 => ⟨(c4 k5).1, fun i hi => ?_⟩⟩
        · rw [eJ, if_pos ⟨rfl, rfl⟩]; exact c2
        · rw [eD, if_pos ⟨rfl, rfl⟩]; exact c3
        · have l := (c4 k5).1
          have h := (c4 k5).2 i hi
          rw [eT i (by omega), h.1, nC_nar h.2]; exact ⟨rfl, h.2⟩
      refine ih (p + 1) N2 (by omega) (fun f h1 h2 h3 => (a1 f).trans (b1 f h1 h2 h3)) ((a1 18).trans b2) ⟨fun f h1 h2 h3 => ?_, fun f h1 => ?_⟩ (fun x hx hy k j d w z m => mv _ (by omega) _ _ _ _ _ (b4 x hx hy k j d w z m)) (fun x h1 h2 => mv _ (by omega) _ _ _ _ _ (b5 x h1 h2)) (fun x hx k j d w z m => ?_)
      · funext x
        rw [eA f x (fun z => h2 z.1) (fun z => h1 z.1)]
        rw [b3.1 f h1 h2 h3]
      · funext x
        rw [eD, if_neg (fun z => h1 z.1)]
        rw [b3.2 f h1]
      · by_cases y : x = p
        · rw [y] at m ⊢
          -- row 48 + p of N2 is that of N1
          refine mp _ _ _ _ _ ?_
          obtain ⟨c1, c2, c3, c4⟩ := m
          refine ⟨?_, ?_, ?_, fun k5 => ⟨(c4 k5).1, fun i hi => ?_⟩⟩
          · rw [eA 19 _ (fun z => absurd z.1 (by decide)) (fun z => by omega)] at c1; exact c1
          · rw [eJ, if_neg (fun z => by omega)] at c2; exact c2
          · rw [eD, if_neg (fun z => by omega)] at c3; exact c3
          · have l := (c4 k5).1
            have h := (c4 k5).2 i hi
            rw [eA 22 _ (fun z => by omega) (fun z => absurd z.1 (by decide))] at h; exact h
        · refine mv x y _ _ _ _ _ (b6 x (by omega) k j d w z ?_)
          obtain ⟨c1, c2, c3, c4⟩ := m
          refine ⟨?_, ?_, ?_, fun k5 => ⟨(c4 k5).1, fun i hi => ?_⟩⟩
          · rw [eA 19 _ (fun z => absurd z.1 (by decide)) (fun z => by omega)] at c1; exact c1
          · rw [eJ, if_neg (fun z => by omega)] at c2; exact c2
          · rw [eD, if_neg (fun z => by omega)] at c3; exact c3
          · have l := (c4 k5).1
            have h := (c4 k5).2 i hi
            rw [eA 22 _ (fun z => by omega) (fun z => absurd z.1 (by decide))] at h; exact h
  have miss' : ∀ m k N1, k + m = P → n ≤ k → (∀ f, f ≠ 18 → f ≠ 24 → f ≠ 25 → rI N1 f = rI N f) → rI N1 18 = nI P → kV N N1 → (∀ x, x < 48 → (x < n ∨ c ≤ x) → ∀ k j d w z, mR N (48 + x) k j d w z → mR N1 (48 + x) k j d w z) → (∀ x, n ≤ x → x < k → mR N1 (48 + x) 0 0 FP.dconst0 [] 0) → fm_finish_l16 Q (m + 1) (nI k) N1 := by
    intro m
    induction m with
    | zero =>
      intro k N1 hk hnk b1 b2 b3 b4 b5
      show fm_finish_c16 Q _ _ N1
      unfold fm_finish_c16
      rw [b2]
      refine br_t (nI_le (by omega) (by omega)) ⟨49, rows 48 0 N1 rfl b1 b2 b3 b4 (fun x h1 h2 => b5 x h1 (by omega)) (fun x hx => absurd hx (Nat.not_lt_zero x))⟩
    | succ m ih =>
      intro k N1 hk hnk b1 b2 b3 b4 b5
      show fm_finish_c16 Q (fm_finish_l16 Q (m + 1)) _ N1
      unfold fm_finish_c16
      rw [b2, show (48 : Int32) + nI k = nI (48 + k) from nI_add 48 k]
      refine br_f (nI_ge (by omega) (by omega)) (r_mk0 (by omega) 0 (by decide) 0 FP.dconst0 0 FP.dconst0 [] 0 rfl rfl (fun N2 k2 m2 _ => nm_r (nI_1 k) (ih (k + 1) N2 (by omega) (by omega) (fun f h1 h2 h3 => (k2.1 f h2 h3).trans (b1 f h1 h2 h3)) ((k2.1 18 (by decide) (by decide)).trans b2) (kV_tr b3 (kM_kV k2)) (fun x hx hy k' j d w z mm => mR_kM ?_ k2 (b4 x hx hy k' j d w z mm)) (fun x h1 h2 => ?_))))
      · have := hPc k hnk (by omega)
        omega
      · by_cases y : x = k
        · rw [y]; exact m2
        · exact mR_kM (by omega) k2 (b5 x h1 (by omega))
  have start : ∀ s0, s0 = nI P → fm_finish_b11 Q (nI n) s0 N := by
    intro s0 e
    unfold fm_finish_b11
    rw [e]
    refine nm_e ⟨P - n + 1, miss' (P - n) n _ (by omega) (Nat.le_refl _) (fun f h1 _ _ => if_neg h1) (by rw [rI_wI, if_pos rfl]) ⟨fun _ _ _ _ => rfl, fun _ _ => rfl⟩ (fun x hx hy k j d w z m => m) (fun x h1 h2 => by omega)⟩
  unfold fm_finish
  exact pk_le n c (fun h => start _ (by rw [hP, if_pos h])) (fun h => start _ (by rw [hP, if_neg (by omega)]))
end FIN
