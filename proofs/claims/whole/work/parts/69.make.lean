/-! what the reference makes of a value -/
def whl (k : Int32) (j : Int64) (w : List Int32) (sz : Int32) : Int64 := if k = 2 ∨ k = 3 then j else if k = 5 then (nI w.length).toInt64 else if k = 6 then sz.toInt64 else 0
def mR (N : RM) (p : Nat) (k : Int32) (j : Int64) (d : UInt64) (w : List Int32) (sz : Int32) : Prop := rA N 19 p = k ∧ rJ N 20 p = whl k j w sz ∧ rD N 21 p = (if k = 4 then d else FP.dconst0) ∧ (k = 5 → w.length ≤ 80 ∧ ∀ i, i < w.length → rA N 22 (80 * p + i) = w.getD i 0 ∧ nC (w.getD i 0))
/-- nothing but made row p, what was said and whether it has a number is other -/
def kM (p : Nat) (N N' : RM) : Prop := (∀ f, f ≠ 24 → f ≠ 25 → rI N' f = rI N f) ∧ (∀ f, f ≠ 19 → f ≠ 22 → f ≠ 23 → rA N' f = rA N f) ∧ (∀ f, f ≠ 20 → rJ N' f = rJ N f) ∧ (∀ f, f ≠ 21 → rD N' f = rD N f) ∧ (∀ j, j ≠ p → rA N' 19 j = rA N 19 j ∧ rJ N' 20 j = rJ N 20 j ∧ rD N' 21 j = rD N 21 j) ∧ (∀ j, (j < 80 * p ∨ 80 * p + 80 ≤ j) → rA N' 22 j = rA N 22 j)
theorem kM_rf (p : Nat) (N : RM) : kM p N N := ⟨fun _ _ _ => rfl, fun _ _ _ _ => rfl, fun _ _ => rfl, fun _ _ => rfl, fun _ _ => ⟨rfl, rfl, rfl⟩, fun _ _ => rfl⟩
theorem kM_tr {p : Nat} {N N1 N2 : RM} (h : kM p N N1) (k : kM p N1 N2) : kM p N N2 :=
  ⟨fun f a b => (k.1 f a b).trans (h.1 f a b), fun f a b c => (k.2.1 f a b c).trans (h.2.1 f a b c), fun f a => (k.2.2.1 f a).trans (h.2.2.1 f a), fun f a => (k.2.2.2.1 f a).trans (h.2.2.2.1 f a), fun j n => ⟨(k.2.2.2.2.1 j n).1.trans (h.2.2.2.2.1 j n).1, (k.2.2.2.2.1 j n).2.1.trans (h.2.2.2.2.1 j n).2.1, (k.2.2.2.2.1 j n).2.2.trans (h.2.2.2.2.1 j n).2.2⟩, fun j n => (k.2.2.2.2.2 j n).trans (h.2.2.2.2.2 j n)⟩
theorem kN_kM {N N' : RM} (p : Nat) (h : kN N N') : kM p N N' := by
  have eJ : ∀ f, rJ N' f = rJ N f := fun f => by show N'.2.2.1 f = N.2.2.1 f; rw [h.2.2]
  have eD : ∀ f, rD N' f = rD N f := fun f => by show N'.2.2.2 f = N.2.2.2 f; rw [h.2.2]
  exact ⟨h.1, fun f _ _ c => h.2.1 f c, fun f _ => eJ f, fun f _ => eD f, fun j _ => ⟨by rw [h.2.1 19 (by decide)], by rw [eJ], by rw [eD]⟩, fun j _ => by rw [h.2.1 22 (by decide)]⟩
theorem kM_kV {p : Nat} {N N' : RM} (h : kM p N N') : kV N N' := ⟨h.2.1, h.2.2.2.1⟩
theorem mR_kM {p p' : Nat} {N N' : RM} (hp : p' ≠ p) (k : kM p N N') {kd : Int32} {j : Int64} {d : UInt64} {w : List Int32} {sz : Int32} (h : mR N p' kd j d w sz) : mR N' p' kd j d w sz := by
  obtain ⟨a, b, c, e⟩ := h
  obtain ⟨x, y, z⟩ := k.2.2.2.2.1 p' hp
  refine ⟨x.trans a, y.trans b, z.trans c, fun k5 => ⟨(e k5).1, fun i hi => ?_⟩⟩
  have l := (e k5).1
  rw [k.2.2.2.2.2 _ (by omega)]; exact (e k5).2 i hi
section MAK
variable {N : RM} {I : Nat → Nat → Int32} {J : Nat → Int64} {D : Nat → UInt64} {W : Nat → List Int32} {v n p t : Nat} {L : List Int32} {τ : Ty}
theorem r_make (hp : p < 96) (k : Int32) (j : Int64) (d : UInt64) {Q : RM → Prop} (q : ∀ N', kM p N N' → rA N' 19 p = k → rJ N' 20 p = j → rD N' 21 p = d → rI N' 24 = rI N 24 → rI N' 25 = rI N 25 → rA N' 23 = rA N 23 → rA N' 22 = rA N 22 → Q N') : fm_make (nI p) k j d N Q := by
  have ip := vp_in_nI (n := p) (N := 96) hp (by omega)
  unfold fm_make
  rw [nI_clamp (by omega)]
  refine ⟨ip, nm_e ⟨ip, nm_e ⟨ip, nm_e (q _ ⟨fun f _ _ => rfl, fun f a b c => ?_, fun f a => ?_, fun f a => ?_, fun j' n => ⟨?_, ?_, ?_⟩, fun j' n => rfl⟩ ?_ ?_ ?_ rfl rfl ?_ ?_)⟩⟩⟩
  · funext i; rw [rA_wD, rA_wJ, rA_wA, if_neg (fun z => a z.1)]
  · funext i
    show rJ (wJ (wA N 19 p k) 20 p j) f i = _
    rw [rJ_wJ, if_neg (fun z => a z.1)]; rfl
  · funext i; rw [rD_wD, if_neg (fun z => a z.1)]; rfl
  · rw [rA_wD, rA_wJ, rA_wA, if_neg (fun z => n z.2)]
  · show rJ (wJ (wA N 19 p k) 20 p j) 20 j' = _
    rw [rJ_wJ, if_neg (fun z => n z.2)]; rfl
  · rw [rD_wD, if_neg (fun z => n z.2)]; rfl
  · rw [rA_wD, rA_wJ, rA_wA, if_pos ⟨rfl, rfl⟩]
  · show rJ (wJ (wA N 19 p k) 20 p j) 20 p = _
    rw [rJ_wJ, if_pos ⟨rfl, rfl⟩]
  · rw [rD_wD, if_pos ⟨rfl, rfl⟩]
  · funext i; rw [rA_wD, rA_wJ, rA_wA, if_neg (fun z => absurd z.1 (by decide))]
  · funext i; rw [rA_wD, rA_wJ, rA_wA, if_neg (fun z => absurd z.1 (by decide))]
theorem r_mk0 (hp : p < 96) (k : Int32) (hk : k ≠ 5) (j : Int64) (d : UInt64) (J' : Int64) (D' : UInt64) (W' : List Int32) (sz : Int32) (hj : j = whl k J' W' sz) (hd : d = if k = 4 then D' else FP.dconst0) {Q : RM → Prop} (q : ∀ N', kM p N N' → mR N' p k J' D' W' sz → rI N' 25 = rI N 25 → Q N') : fm_make (nI p) k j d N Q :=
  r_make hp k j d (fun N' m a b c _ h25 _ _ => q N' m ⟨a, b.trans hj, c.trans hd, fun z => absurd z hk⟩ h25)
theorem r_makeText (hp : p < 96) (hs : SD N L) (hl : L.length ≤ 80) {Q : RM → Prop} (q : ∀ N', kM p N N' → SD N' L → (∀ J' D', mR N' p 5 J' D' L 0) → Q N') : fm_makeText (nI p) N Q := by
  unfold fm_makeText
  refine r_make hp 5 _ _ (fun N1 k1 a1 b1 c1 h24 h25 h23 h22 => ⟨L.length + 1, ?_⟩)
  have s1 : SD N1 L := ⟨h24.trans hs.1, hs.2.1, fun i hi => by rw [h23]; exact hs.2.2 i hi⟩
  have lp : ∀ m i N2, i + m = L.length → kM p N1 N2 → rA N2 23 = rA N 23 → rI N2 24 = rI N 24 → rA N2 19 p = 5 → rJ N2 20 p = (rI N 24).toInt64 → rD N2 21 p = FP.dconst0 → (∀ j, j < i → rA N2 22 (80 * p + j) = L.getD j 0) → fm_makeText_l14 Q (m + 1) (nI p) (nI i) N2 := by
    intro m
    induction m with
    | zero =>
      intro i N2 hi k2 e23 e24 a2 b2 c2 d2
      show fm_makeText_c14 Q _ _ _ N2
      unfold fm_makeText_c14
      rw [e24, hs.1]
      have e : i = L.length := by omega
      subst e
      refine br_t (nI_le (by omega) (by omega)) (q N2 (kM_tr k1 k2) ⟨e24.trans hs.1, hs.2.1, fun i hi => by rw [e23]; exact hs.2.2 i hi⟩ (fun J' D' => ⟨a2, ?_, c2, fun _ => ⟨hl, fun i hi => ⟨d2 i hi, (hs.2.2 i hi).2⟩⟩⟩))
      rw [b2, hs.1]; rfl
    | succ m ih =>
      intro i N2 hi k2 e23 e24 a2 b2 c2 d2
      show fm_makeText_c14 Q (fm_makeText_l14 Q (m + 1)) _ _ N2
      unfold fm_makeText_c14
      rw [e24, hs.1, show (80 : Int32) = nI 80 from rfl, pk_mul, nI_add]
      refine br_f (nI_ge (by omega) (by omega)) ⟨vp_in_nI (by omega) (by omega), vp_in_nI (by omega) (by omega), nm_e (nm_r (nI_1 i) ?_)⟩
      rw [nI_clamp (by omega), nI_clamp (by omega), e23, (hs.2.2 i (by omega)).1, nC_nar (hs.2.2 i (by omega)).2]
      have kk : kM p N2 (wA N2 22 (80 * p + i) (L.getD i 0)) := ⟨fun _ _ _ => rfl, fun f a b c => by funext x; rw [rA_wA, if_neg (fun z => b z.1)], fun _ _ => rfl, fun _ _ => rfl, fun j _ => ⟨by rw [rA_wA, if_neg (fun z => absurd z.1 (by decide))], rfl, rfl⟩, fun j hj => by rw [rA_wA, if_neg (fun z => by omega)]⟩
      refine ih (i + 1) _ (by omega) (kM_tr k2 kk) ?_ e24 ?_ b2 c2 (fun j hj => ?_)
      · funext x; rw [rA_wA, if_neg (fun z => absurd z.1 (by decide)), e23]
      · rw [rA_wA, if_neg (fun z => absurd z.1 (by decide))]; exact a2
      · rw [rA_wA]
        by_cases y : j = i
        · rw [if_pos ⟨rfl, by rw [y]⟩, y]
        · rw [if_neg (fun z => by omega)]; exact d2 j (by omega)
  exact lp L.length 0 N1 (by omega) (kM_rf p N1) h23 h24 a1 b1 c1 (fun j hj => absurd hj (Nat.not_lt_zero j))
theorem dgs_nz (n : Nat) : ∀ k b, nz (dgs n k b)
  | 0, _ => fun x hx => by
    have : x = nI (48 + n % 10) := by simpa [dgs] using hx
    rw [this]; exact nI_ne0 (by omega) (by omega)
  | k + 1, b => by
    unfold dgs
    split
    · intro x hx
      rcases List.mem_cons.mp hx with e | e
      · rw [e]; exact nI_ne0 (by omega) (by have := Nat.mod_lt (n / 10 ^ (k + 1)) (show 10 > 0 by decide); omega)
      · exact dgs_nz n k true x e
    · exact dgs_nz n k false
theorem ths_nz : ∀ k m, m < 1000 → nz (ths k m)
  | 0, _, _ => fun x hx => absurd hx List.not_mem_nil
  | k + 1, m, h => by
    unfold ths
    split
    · exact fun x hx => absurd hx List.not_mem_nil
    · intro x hx
      rcases List.mem_cons.mp hx with e | e
      · rw [e]; exact nI_ne0 (by omega) (by omega)
      · exact ths_nz k _ (by omega) x e
theorem nz_app {a b : List Int32} (ha : nz a) (hb : nz b) : nz (a ++ b) := fun x hx => (List.mem_append.mp hx).elim (ha x) (hb x)
theorem numW_nz (b : Bool) (e : Nat) : nz (numW b e) := by
  unfold numW
  refine nz_app ?_ (nz_app (dgs_nz _ _ _) ?_)
  · split
    · intro x hx; rw [List.mem_singleton.mp hx]; decide
    · exact fun x hx => absurd hx List.not_mem_nil
  · split
    · exact fun x hx => absurd hx List.not_mem_nil
    · intro x hx
      rcases List.mem_cons.mp hx with e | e
      · rw [e]; decide
      · exact ths_nz 3 _ (by omega) x e
theorem sText_nz : ∀ s, s < 16 → nz (sText s) := by
  intro s hs
  have : ∀ s, s < 16 → (sText s).all (fun x => decide (x ≠ 0)) = true := by decide +kernel
  intro x hx
  have := List.all_eq_true.mp (this s hs) x hx
  simpa using this
theorem vT_nz (h : vT N I J D W v) : nz (W v) := by
  rcases h with ⟨-, -, e, -⟩ | ⟨-, -, e, -⟩ | ⟨b, -, -, -, -, e, -⟩ | ⟨m, -, -, -, -, e, -⟩ | ⟨-, -, -, -, -, e⟩
  · rw [e]; exact sText_nz _ (by decide)
  · rw [e]; exact sText_nz _ (by decide)
  · rw [e]; exact sText_nz _ (by cases b <;> decide)
  · rw [e]; exact numW_nz _ _
  · exact e
theorem jn_nz : ∀ n, (∀ j, j < n → nz (W (itm v j))) → nz (jnW I W v n)
  | 0, _ => fun x hx => absurd hx List.not_mem_nil
  | n + 1, h => by
    unfold jnW
    refine nz_app (jn_nz n (fun j hj => h j (by omega))) (nz_app ?_ ?_)
    · split
      · exact fun x hx => absurd hx List.not_mem_nil
      · intro x hx; rw [List.mem_singleton.mp hx]; decide
    · split
      · exact fun x hx => absurd hx List.not_mem_nil
      · exact h n (Nat.lt_succ_self n)
theorem val_nz (h : vT N I J D W v ∨ ∃ n, vL N I J D W v n) : nz (W v) ∧ (W v).length ≤ 80 := by
  rcases h with h | ⟨n, h⟩
  · have := vT_len h
    exact ⟨vT_nz h, by omega⟩
  · obtain ⟨v8, i80, r13, n5, i85, r16, ew, e83, eD, hit⟩ := h
    rw [ew]
    have := (jnW_len (I := I) (W := W) (v := v) n (fun j hj => vT_len (hit j hj).1)).1
    exact ⟨jn_nz n (fun j hj => vT_nz (hit j hj).1), by omega⟩
theorem wordC_in {Ls : List (List Int32)} (hL : ∀ j, j < Ls.length → 1 ≤ (Ls.getD j []).length ∧ (Ls.getD j []).length ≤ 8 ∧ (Ls.getD j []).all isL = true) : (wordC L ≠ 0 ∧ wordC L ∈ pad (Ls.map wcode)) ↔ ∃ j, j < Ls.length ∧ L = Ls.getD j [] := by
  constructor
  · rintro ⟨h0, hm⟩
    have hc : L.length ≤ 8 ∧ L.all isL = true := by
      by_cases c : L.length ≤ 8 ∧ L.all isL = true
      · exact c
      · exact absurd (by unfold wordC; rw [if_neg c]) h0
    have ew : wordC L = wcode L := by unfold wordC; rw [if_pos hc]
    rw [ew] at h0 hm
    obtain ⟨i, hi, e⟩ := mem_getD.mp hm
    rw [padD] at e
    have hi2 : i < Ls.length := Nat.lt_of_not_le (fun z => h0 (by
      rw [← e, List.getD_eq_getElem?_getD, List.getElem?_eq_none (by rw [List.length_map]; exact z)]; rfl))
    rw [map_getD _ _ hi2] at e
    exact ⟨i, hi2, ((wcode_inj (hL i hi2).2.2 hc.2 (hL i hi2).2.1 hc.1).mp e).symm⟩
  · rintro ⟨j, hj, e⟩
    have h := hL j hj
    rw [← e] at h
    have ew : wordC L = wcode L := by unfold wordC; rw [if_pos ⟨h.2.1, h.2.2⟩]
    rw [ew]
    refine ⟨wcode_ne0 h.2.2 h.2.1 h.1, mem_getD.mpr ⟨j, ?_, ?_⟩⟩
    · unfold pad; rw [List.length_append, List.length_map]; omega
    · rw [padD, map_getD _ _ hj, ← e]
theorem r_isWordOf (ht : rTy N t τ) (h8 : τ.1 = 8) (ht3 : t < 370) (hs : SD N L) (hz : nz L) {Q : Int32 → RM → Prop} (q1 : (wordC L ≠ 0 ∧ wordC L ∈ τ.2.2.2) → Q 1 N) (q0 : ¬ (wordC L ≠ 0 ∧ wordC L ∈ τ.2.2.2) → Q 0 N) : fm_isWordOf (nI t) N Q := by
  obtain ⟨a, b, c, d, e⟩ := ht
  rcases e with ⟨e, -⟩ | ⟨-, Ls, l1, l5, e11, ep, hw⟩
  · exact absurd h8 e
  rw [ep, wordC_in (fun j hj => ⟨(hw j hj).1, (hw j hj).2.1, (hw j hj).2.2.1⟩)] at q1 q0
  have it := vp_in_nI (n := t) (N := 370) ht3 (by omega)
  have l100 := hs.2.1
  have lp : ∀ m i, i + m = Ls.length → (∀ j, j < i → L ≠ Ls.getD j []) → fm_isWordOf_l2 Q (m + 1) (nI t) (nI i) N := by
    intro m
    induction m with
    | zero =>
      intro i hi he
      show fm_isWordOf_c2 Q _ _ _ N
      unfold fm_isWordOf_c2
      rw [nI_clamp (by omega), e11]
      exact ⟨it, br_t (nI_le (by omega) (by omega)) (q0 (fun ⟨j, hj, z⟩ => he j (by omega) z))⟩
    | succ m ih =>
      intro i hi he
      show fm_isWordOf_c2 Q (fm_isWordOf_l2 Q (m + 1)) _ _ N
      obtain ⟨w1, w8, wa, we⟩ := hw i (by omega)
      have nxt : L ≠ Ls.getD i [] → fm_isWordOf_b97 Q (fm_isWordOf_l2 Q (m + 1)) (nI t) (nI i) 0 N := by
        intro hne
        unfold fm_isWordOf_b97
        refine ⟨fun _ => nm_r (nI_1 i) (ih (i + 1) (by omega) (fun j hj => ?_)), fun z => absurd rfl z⟩
        by_cases y : j = i
        · rw [y]; exact hne
        · exact he j (by omega)
      unfold fm_isWordOf_c2 fm_isWordOf_b35
      rw [nI_clamp (by omega), e11, hs.1, m5, nI_add, show (8 : Int32) = nI 8 from rfl, pk_mul]
      refine ⟨it, br_f (nI_ge (by omega) (by omega)) (nm_e (pk_lt 8 L.length (fun c8 => ⟨1, ?_⟩) (fun c8 => ⟨9, ?_⟩)))⟩
      · show fm_isWordOf_c40 Q (fm_isWordOf_l2 Q (m + 1)) _ _ _ _ _ _ N
        unfold fm_isWordOf_c40
        have hne : L ≠ Ls.getD i [] := fun z => by rw [z] at c8; omega
        exact ⟨fun _ => nxt hne, fun _ => ⟨fun _ => nxt hne, fun z => absurd rfl z⟩⟩
      · have wl : ∀ p j (b : Bool), j + p = 8 → (b = true → ∀ x, x < j → (Ls.getD i []).getD x 0 = L.getD x 0) → (b = false → L ≠ Ls.getD i []) → fm_isWordOf_l40 Q (fm_isWordOf_l2 Q (m + 1)) (p + 1) (nI t) (nI i) (nI (8 * (5 * t + i))) (bI b) (nI j) N := by
          intro p
          induction p with
          | zero =>
            intro j b hj h1 h0
            show fm_isWordOf_c40 Q (fm_isWordOf_l2 Q (m + 1)) _ _ _ _ _ _ N
            unfold fm_isWordOf_c40
            refine br_t (nI_le (a := 8) (by omega) (by omega)) ?_
            cases b with
            | false => exact nxt (h0 rfl)
            | true =>
              unfold fm_isWordOf_b97
              refine ⟨fun z => absurd z (by decide), fun _ => q1 ⟨i, by omega, ?_⟩⟩
              -- equal in eight places, and no zero among the signs
              have e8 := h1 rfl
              have zz : ∀ {K : List Int32} {x : Nat}, K.length ≤ x → K.getD x 0 = 0 := fun hx => by
                rw [List.getD_eq_getElem?_getD, List.getElem?_eq_none hx]; rfl
              have nl : ∀ {x : Nat}, x < L.length → L.getD x 0 ≠ 0 := fun {x} hx => by
                rw [List.getD_eq_getElem?_getD, List.getElem?_eq_getElem hx]
                exact hz _ (List.getElem_mem hx)
              have nw : ∀ {x : Nat}, x < (Ls.getD i []).length → (Ls.getD i []).getD x 0 ≠ 0 := fun {x} hx => by
                rw [List.getD_eq_getElem?_getD, List.getElem?_eq_getElem hx]
                exact (lv_c (List.all_eq_true.mp wa _ (List.getElem_mem hx))).2.2.2
              have el : L.length = (Ls.getD i []).length := by
                rcases Nat.lt_trichotomy L.length (Ls.getD i []).length with y | y | y
                · exact absurd ((e8 L.length (by omega)).trans (zz (Nat.le_refl _))) (nw y)
                · exact y
                · exact absurd ((e8 (Ls.getD i []).length (by omega)).symm.trans (zz (Nat.le_refl _))) (nl y)
              apply List.ext_getElem el
              intro x x1 x2
              have := e8 x (by omega)
              rw [List.getD_eq_getElem?_getD (l := Ls.getD i []), List.getD_eq_getElem?_getD (l := L), List.getElem?_eq_getElem x1, List.getElem?_eq_getElem x2] at this
              exact this.symm
          | succ p ihp =>
            intro j b hj h1 h0
            show fm_isWordOf_c40 Q (fm_isWordOf_l2 Q (m + 1)) (fm_isWordOf_l40 Q (fm_isWordOf_l2 Q (m + 1)) (p + 1)) _ _ _ _ _ N
            unfold fm_isWordOf_c40
            refine br_f (nI_ge (b := 8) (by omega) (by omega)) ⟨fun z => ?_, fun z => ?_⟩
            · have b0 := bI_0.mp z
              subst b0
              exact nxt (h0 rfl)
            · have b1 : b = true := by
                cases b with
                | true => rfl
                | false => exact absurd rfl z
              subst b1
              rw [nI_add]
              have cmp : fm_isWordOf_b81 Q (fm_isWordOf_l40 Q (fm_isWordOf_l2 Q (m + 1)) (p + 1)) (nI t) (nI i) (nI (8 * (5 * t + i))) (nI j) (L.getD j 0) (rA N 12 (8 * (5 * t + i) + j)) N := by
                rw [we j (by omega)]
                unfold fm_isWordOf_b81 fm_isWordOf_b89
                refine ⟨fun y => nm_r (nI_1 j) (ihp (j + 1) false (by omega) (fun y => by cases y) (fun _ y2 => y (by rw [← y2]))), fun y => nm_r (nI_1 j) (ihp (j + 1) true (by omega) (fun _ x hx => ?_) (fun y => by cases y))⟩
                by_cases w : x = j
                · rw [w]; exact y
                · exact h1 rfl x (by omega)
              refine ⟨vp_in_nI (by omega) (by omega), ?_⟩
              rw [nI_clamp (by omega), hs.1]
              refine pk_le L.length j (fun y => ?_) (fun y => ⟨vp_in_nI (by omega) (by omega), ?_⟩)
              · have e0 : L.getD j 0 = 0 := by rw [List.getD_eq_getElem?_getD, List.getElem?_eq_none y]; rfl
                rw [e0] at cmp; exact cmp
              · rw [nI_clamp (by omega), (hs.2.2 j y).1]; exact cmp
        exact wl 8 0 true rfl (fun _ x hx => absurd hx (Nat.not_lt_zero x)) (fun y => by cases y)
  exact ⟨Ls.length + 1, lp Ls.length 0 (by omega) (fun j hj => absurd hj (Nat.not_lt_zero j))⟩
end MAK
