/-! a value in a slot or in a list, as the class and as the reference have it -/
def nz (l : List Int32) : Prop := ∀ x, x ∈ l → x ≠ 0
def vT (N : RM) (I : Nat → Nat → Int32) (J : Nat → Int64) (D : Nat → UInt64) (W : Nat → List Int32) (v : Nat) : Prop :=
  (I 80 v = 7 ∧ rA N 13 v = 0 ∧ W v = sText 11 ∧ I 83 v = 0) ∨
  (I 80 v = 8 ∧ rA N 13 v = 1 ∧ W v = sText 13 ∧ I 83 v = 1 ∧ D v = FP.dconst0) ∨
  (∃ b : Bool, I 80 v = 2 ∧ rA N 13 v = 2 ∧ rA N 14 v = bI b ∧ J v = (if b = true then 1 else 0) ∧ W v = sText (if b = true then 15 else 14) ∧ I 83 v = 1 ∧ D v = (if b = true then FP.dconst1 else FP.dconst0)) ∨
  (∃ n, I 80 v = 4 ∧ rA N 13 v = 3 ∧ rD N 15 v = nv n ∧ D v = nv n ∧ W v = nW n ∧ I 83 v = 1) ∨
  (I 80 v = 5 ∧ rA N 13 v = 4 ∧ (rA N 16 v = nI (W v).length ∧ (W v).length ≤ 12 ∧ (∀ i, i < (W v).length → rA N 17 (12 * v + i) = (W v).getD i 0 ∧ nC ((W v).getD i 0))) ∧ I 83 v = bI (numT (W v)).isSome ∧ D v = (numT (W v)).getD FP.dconst0 ∧ nz (W v))
def jnW (I : Nat → Nat → Int32) (W : Nat → List Int32) (v : Nat) : Nat → List Int32
  | 0 => []
  | n + 1 => jnW I W v n ++ ((if n = 0 then [] else [44]) ++ (if I 80 (itm v n) = 7 ∨ I 80 (itm v n) = 8 then [] else W (itm v n)))
def vL (N : RM) (I : Nat → Nat → Int32) (J : Nat → Int64) (D : Nat → UInt64) (W : Nat → List Int32) (v n : Nat) : Prop :=
  v < 8 ∧ I 80 v = 6 ∧ rA N 13 v = 5 ∧ n ≤ 5 ∧ I 85 v = nI n ∧ rA N 16 v = nI n ∧ W v = jnW I W v n ∧ I 83 v = bI (numT (W v)).isSome ∧ D v = (numT (W v)).getD FP.dconst0 ∧ ∀ j, j < n → vT N I J D W (itm v j) ∧ I 85 (itm v j) = 0
theorem itm_v {v j : Nat} (hv : v < 8) : itm v j = 8 + 5 * v + j := by unfold itm; omega
theorem hasB_b (b : Bool) : hasB (bI b) = b := by cases b <;> rfl
theorem rD_wI (M : RM) (f : Nat) (v : Int32) (g : Nat) : rD (wI M f v) g = rD M g := rfl
section VAL
variable {N : RM} {I : Nat → Nat → Int32} {J : Nat → Int64} {D : Nat → UInt64} {W : Nat → List Int32} {v n : Nat} {L : List Int32}
theorem sText_len {s : Nat} (h : s < 16) : (sText s).length ≤ 9 := sLen_le h
theorem vT_len (h : vT N I J D W v) : (W v).length ≤ 15 := by
  rcases h with ⟨-, -, e, -⟩ | ⟨-, -, e, -⟩ | ⟨b, -, -, -, -, e, -⟩ | ⟨m, -, -, -, -, e, -⟩ | ⟨-, -, ⟨-, e, -⟩, -⟩
  · rw [e]; decide
  · rw [e]; decide
  · rw [e]; cases b <;> decide
  · rw [e]; exact numW_len _ _
  · omega
theorem vT_kd (h : vT N I J D W v) : kdR (I 80 v) (rA N 13 v) ∧ I 80 v ≠ 6 := by
  rcases h with ⟨a, b, -⟩ | ⟨a, b, -⟩ | ⟨c, a, b, -⟩ | ⟨c, a, b, -⟩ | ⟨a, b, -⟩
  · exact ⟨Or.inl ⟨a, b⟩, by rw [a]; decide⟩
  · exact ⟨Or.inr (Or.inl ⟨a, b⟩), by rw [a]; decide⟩
  · exact ⟨Or.inr (Or.inr (Or.inl ⟨a, b⟩)), by rw [a]; decide⟩
  · exact ⟨Or.inr (Or.inr (Or.inr (Or.inl ⟨a, b⟩))), by rw [a]; decide⟩
  · exact ⟨Or.inr (Or.inr (Or.inr (Or.inr (Or.inl ⟨a, b⟩)))), by rw [a]; decide⟩
theorem jnW_len : ∀ n, (∀ j, j < n → (W (itm v j)).length ≤ 15) → (jnW I W v n).length ≤ 16 * n ∧ (n = 1 → (jnW I W v n).length ≤ 15) ∧ (jnW I W v n).length ≤ 16 * n - 1 + 0
  | 0, _ => ⟨Nat.zero_le _, fun z => (by cases z), Nat.zero_le _⟩
  | n + 1, h => by
    have ih := jnW_len n (fun j hj => h j (by omega))
    have hn := h n (Nat.lt_succ_self n)
    unfold jnW
    rw [List.length_append, List.length_append]
    have h1 : (if n = 0 then ([] : List Int32) else [44]).length ≤ 1 := by split <;> simp
    have h1' : n = 0 → (if n = 0 then ([] : List Int32) else [44]).length = 0 := fun z => by rw [if_pos z]; rfl
    have h2 : (if I 80 (itm v n) = 7 ∨ I 80 (itm v n) = 8 then ([] : List Int32) else W (itm v n)).length ≤ 15 := by
      split
      · exact Nat.zero_le _
      · exact hn
    refine ⟨by omega, fun z => ?_, ?_⟩
    · have n0 : n = 0 := by omega
      have := h1' n0
      have := ih.1
      omega
    · by_cases n0 : n = 0
      · have := h1' n0
        have := ih.1
        omega
      · omega
theorem jn_comma : ∀ n, 2 ≤ n → (44 : Int32) ∈ jnW I W v n
  | 0, h => by omega
  | n + 1, h => by
    unfold jnW
    rw [if_neg (show ¬ n = 0 by omega)]
    exact List.mem_append.mpr (Or.inr (List.mem_append.mpr (Or.inl (List.mem_singleton.mpr rfl))))
theorem jn_num {n : Nat} (hn : n ≤ 5) (h : ∀ j, j < n → (W (itm v j)).length ≤ 15) : (jnW I W v n).length ≤ 15 ∨ 44 ∈ jnW I W v n := by
  by_cases c : 2 ≤ n
  · exact Or.inr (jn_comma n c)
  · have := jnW_len (I := I) (W := W) (v := v) n h
    left
    by_cases c1 : n = 1
    · exact this.2.1 c1
    · have : n = 0 := by omega
      subst this; exact Nat.zero_le _
/-- under this frame values stand -/
def kV (N N' : RM) : Prop := (∀ f, f ≠ 19 → f ≠ 22 → f ≠ 23 → rA N' f = rA N f) ∧ (∀ f, f ≠ 21 → rD N' f = rD N f)
theorem kV_rf (N : RM) : kV N N := ⟨fun _ _ _ _ => rfl, fun _ _ => rfl⟩
theorem kV_tr {N N1 N2 : RM} (h : kV N N1) (k : kV N1 N2) : kV N N2 := ⟨fun f a b c => (k.1 f a b c).trans (h.1 f a b c), fun f a => (k.2 f a).trans (h.2 f a)⟩
theorem kN_kV {N N' : RM} (h : kN N N') : kV N N' := ⟨fun f _ _ c => h.2.1 f c, fun f _ => by show N'.2.2.2 f = N.2.2.2 f; rw [h.2.2]⟩
theorem kV_vT {N' : RM} (k : kV N N') (h : vT N I J D W v) : vT N' I J D W v := by
  unfold vT at h ⊢
  rw [k.1 13 (by decide) (by decide) (by decide), k.1 14 (by decide) (by decide) (by decide), k.1 16 (by decide) (by decide) (by decide), k.1 17 (by decide) (by decide) (by decide), k.2 15 (by decide)]
  exact h
theorem kV_vL {N' : RM} (k : kV N N') (h : vL N I J D W v n) : vL N' I J D W v n := by
  obtain ⟨a, b, c, d, e, f, g, i, j, l⟩ := h
  refine ⟨a, b, ?_, d, e, ?_, g, i, j, fun x hx => ⟨kV_vT k (l x hx).1, (l x hx).2⟩⟩
  · rw [k.1 13 (by decide) (by decide) (by decide)]; exact c
  · rw [k.1 16 (by decide) (by decide) (by decide)]; exact f
theorem kV_rWd {N' : RM} (k : kV N N') {x : Nat} {l : List Int32} (h : rWd N x l) : rWd N' x l := by
  unfold rWd at h ⊢
  rw [k.1 12 (by decide) (by decide) (by decide)]; exact h
theorem kV_rTy {N' : RM} (k : kV N N') {t : Nat} {τ : Ty} (h : rTy N t τ) : rTy N' t τ := by
  obtain ⟨a, b, c, d, e⟩ := h
  refine ⟨a, ?_, ?_, ?_, e.imp id (fun ⟨x, Ls, l1, l5, y, z, w⟩ => ⟨x, Ls, l1, l5, ?_, z, fun j hj => kV_rWd k (w j hj)⟩)⟩
  · rw [k.1 8 (by decide) (by decide) (by decide)]; exact b
  · rw [k.1 9 (by decide) (by decide) (by decide)]; exact c
  · rw [k.1 10 (by decide) (by decide) (by decide)]; exact d
  · rw [k.1 11 (by decide) (by decide) (by decide)]; exact y
theorem kV_rAg {N' : RM} (k : kV N N') {a : Nat} {g : Ag} (h : rAg N a g) : rAg N' a g := by
  obtain ⟨x, y, z, w⟩ := h
  refine ⟨?_, ?_, kV_rTy k z, w.imp id (fun ⟨σ, a, b, c, d⟩ => ⟨σ, a, b, c, kV_rTy k d⟩)⟩
  · rw [k.1 6 (by decide) (by decide) (by decide)]; exact x
  · rw [k.1 7 (by decide) (by decide) (by decide)]; exact y
theorem kV_rFm {N' : RM} (k : kV N N') {f : Nat} {φ : List Ag} (h : rFm N f φ) : rFm N' f φ := by
  obtain ⟨x, y, z⟩ := h
  refine ⟨x, ?_, fun i hi => kV_rAg k (z i hi)⟩
  rw [k.1 5 (by decide) (by decide) (by decide)]; exact y
theorem kV_rOp {N' : RM} (k : kV N N') {o : Nat} {fs : List (List Ag)} (h : rOp N o fs) : rOp N' o fs := by
  obtain ⟨x, y, z⟩ := h
  refine ⟨x, ?_, fun i hi => kV_rFm k (z i hi)⟩
  rw [k.1 4 (by decide) (by decide) (by decide)]; exact y
theorem r_sayOne (hv : v < 48) (h : vT N I J D W v) (hs : SD N L) (hl : L.length + 16 ≤ 100) {Q : RM → Prop} (q : ∀ N', kS N N' → SD N' (L ++ W v) → Q N') : fm_sayOne (nI v) N Q := by
  have iv := vp_in_nI (n := v) (N := 48) hv (by omega)
  unfold fm_sayOne fm_sayOne_b134 fm_sayOne_b82
  rw [nI_clamp (by omega)]
  refine ⟨iv, ?_⟩
  rcases h with ⟨-, k, e, -⟩ | ⟨-, k, e, -⟩ | ⟨b, -, k, k2, -, e, -⟩ | ⟨m, -, k, k2, -, e, -⟩ | ⟨-, k, ⟨k2, k3, k4⟩, -⟩
  · rw [k]
    refine ⟨fun _ => r_sayWord hs (by omega) _ (fun N1 k1 s1 => r_sayWord s1 ?_ _ (fun N2 k2 s2 => q N2 (kS_tr k1 k2) ?_)), fun z => absurd z (by decide), fun z => absurd z (by decide), fun z => absurd z (by decide), fun z => absurd rfl z.1⟩
    · have : (say8 1970168933).length = 4 := by decide +kernel
      rw [List.length_append]; omega
    · rw [List.append_assoc, say_unde] at s2
      rw [e]; exact s2
  · rw [k]
    refine ⟨fun z => absurd z (by decide), fun _ => r_sayWord hs (by omega) _ (fun N1 k1 s1 => q N1 k1 ?_), fun z => absurd z (by decide), fun z => absurd z (by decide), fun z => absurd rfl z.2.1⟩
    rw [say_null] at s1
    rw [e]; exact s1
  · rw [k, k2]
    refine ⟨fun z => absurd z (by decide), fun z => absurd z (by decide), fun _ => ⟨iv, fun c => r_sayWord hs (by omega) _ (fun N1 k1 s1 => q N1 k1 ?_), fun c => r_sayWord hs (by omega) _ (fun N1 k1 s1 => q N1 k1 ?_)⟩, fun z => absurd z (by decide), fun z => absurd rfl z.2.2.1⟩
    · rw [say_false] at s1
      rw [e, if_neg (by rw [bI_0.mp c]; decide)]; exact s1
    · rw [say_true] at s1
      rw [e, if_pos (by cases b with
        | true => rfl
        | false => exact absurd rfl c)]; exact s1
  · rw [k, k2]
    refine ⟨fun z => absurd z (by decide), fun z => absurd z (by decide), fun z => absurd z (by decide), fun _ => ⟨iv, r_sayNumber hs (by omega) m (fun N1 k1 s1 => q N1 k1 (by rw [e]; exact s1))⟩, fun z => absurd rfl z.2.2.2⟩
  · rw [k]
    refine ⟨fun z => absurd z (by decide), fun z => absurd z (by decide), fun z => absurd z (by decide), fun z => absurd z (by decide), fun _ => ⟨(W v).length + 1, ?_⟩⟩
    have lp : ∀ m i N1, i + m = (W v).length → kS N N1 → SD N1 (L ++ (W v).take i) → fm_sayOne_l103 Q (m + 1) (nI v) (nI i) N1 := by
      intro m
      induction m with
      | zero =>
        intro i N1 hi k1 s1
        show fm_sayOne_c103 Q _ _ _ N1
        unfold fm_sayOne_c103 fm_sayOne_b134
        rw [nI_clamp (by omega), k1.2.1 16 (by decide), k2]
        rw [List.take_of_length_le (by omega)] at s1
        exact ⟨iv, br_t (nI_le (by omega) (by omega)) (q N1 k1 s1)⟩
      | succ m ih =>
        intro i N1 hi k1 s1
        show fm_sayOne_c103 Q (fm_sayOne_l103 Q (m + 1)) _ _ N1
        unfold fm_sayOne_c103
        rw [nI_clamp (by omega), k1.2.1 16 (by decide), k2, show (12 : Int32) = nI 12 from rfl, pk_mul, nI_add]
        refine ⟨iv, br_f (nI_ge (by omega) (by omega)) ⟨vp_in_nI (by omega) (by omega), ?_⟩⟩
        rw [nI_clamp (by omega), k1.2.1 17 (by decide), (k4 i (by omega)).1]
        refine r_say s1 (by rw [List.length_append, List.length_take]; omega) (k4 i (by omega)).2 (fun N2 k2' s2 => nm_r (nI_1 i) (ih (i + 1) N2 (by omega) (kS_tr k1 k2') ?_))
        rw [take_s (show i < (W v).length by omega), ← List.append_assoc]; exact s2
    refine lp (W v).length 0 N (by omega) (kS_rf N) ?_
    rw [List.take_zero, List.append_nil]; exact hs
theorem SD_0 (N : RM) : SD (wI N 24 0) [] := ⟨by rw [rI_wI, if_pos rfl]; rfl, Nat.zero_le _, fun i hi => absurd hi (Nat.not_lt_zero i)⟩
theorem r_sayAll (hv : v < 48) (h : vT N I J D W v ∨ ∃ n, vL N I J D W v n) {Q : RM → Prop} (q : ∀ N', kS N N' → SD N' (W v) → Q N') : fm_sayAll (nI v) N Q := by
  have iv := vp_in_nI (n := v) (N := 48) hv (by omega)
  have k0 := kS_wI N 0
  unfold fm_sayAll
  refine nm_e ⟨iv, ?_⟩
  rw [nI_clamp (by omega), rA_wI]
  rcases h with h | ⟨n, h⟩
  · have n5 : ¬ rA N 13 v = 5 := fun z => by
      rcases (vT_kd h).1 with ⟨_, e⟩ | ⟨_, e⟩ | ⟨_, e⟩ | ⟨_, e⟩ | ⟨_, e⟩ | ⟨e, _⟩
      · rw [e] at z; exact absurd z (by decide)
      · rw [e] at z; exact absurd z (by decide)
      · rw [e] at z; exact absurd z (by decide)
      · rw [e] at z; exact absurd z (by decide)
      · rw [e] at z; exact absurd z (by decide)
      · exact (vT_kd h).2 e
    exact ⟨fun z => absurd z n5, fun _ => r_sayOne hv (kV_vT (kN_kV (kS_kN k0)) h) (SD_0 N) (by decide) (fun N' k' s' => q N' (kS_tr k0 k') s')⟩
  · obtain ⟨v8, i80, r13, n5, i85, r16, ew, -, -, hit⟩ := h
    have ilen : ∀ j, j < n → (W (itm v j)).length ≤ 15 := fun j hj => vT_len (hit j hj).1
    refine ⟨fun _ => ⟨n + 1, ?_⟩, fun z => absurd r13 z⟩
    have lp : ∀ m i N1, i + m = n → kS N N1 → SD N1 (jnW I W v i) → fm_sayAll_l23 Q (m + 1) (nI v) (nI i) N1 := by
      intro m
      induction m with
      | zero =>
        intro i N1 hi k1 s1
        show fm_sayAll_c23 Q _ _ _ N1
        unfold fm_sayAll_c23
        rw [nI_clamp (by omega), k1.2.1 16 (by decide), r16]
        have e : i = n := by omega
        subst e
        exact ⟨iv, br_t (nI_le (by omega) (by omega)) (q N1 k1 (by rw [ew]; exact s1))⟩
      | succ m ih =>
        intro i N1 hi k1 s1
        show fm_sayAll_c23 Q (fm_sayAll_l23 Q (m + 1)) _ _ N1
        have hii := hit i (by omega)
        have li := ilen i (by omega)
        have ijl := (jnW_len (I := I) i (fun j hj => ilen j (by omega))).1
        have ei := itm_v (v := v) (j := i) v8
        have b49 : ∀ N2, kS N N2 → SD N2 (jnW I W v i ++ (if i = 0 then [] else [44])) → fm_sayAll_b49 Q (fm_sayAll_l23 Q (m + 1)) (nI v) (nI i) (nI (itm v i)) N2 := by
          intro N2 k2 s2
          have h2 := kV_vT (kN_kV (kS_kN k2)) hii.1
          have nxt : ∀ N3, kS N N3 → SD N3 (jnW I W v (i + 1)) → fm_sayAll_b73 Q (fm_sayAll_l23 Q (m + 1)) (nI v) (nI i) N3 := fun N3 k3 s3 => nm_r (nI_1 i) (ih (i + 1) N3 (by omega) k3 s3)
          unfold fm_sayAll_b49
          rw [nI_clamp (by omega)]
          have iv2 := vp_in_nI (n := itm v i) (N := 48) (by omega) (by omega)
          have skip : (I 80 (itm v i) = 7 ∨ I 80 (itm v i) = 8) → SD N2 (jnW I W v (i + 1)) := fun c => by
            unfold jnW; rw [if_pos c, List.append_nil]; exact s2
          refine ⟨iv2, fun c => nxt N2 k2 (skip ?_), fun c => ⟨iv2, fun c2 => nxt N2 k2 (skip ?_), fun c2 => r_sayOne (by omega) h2 s2 ?_ (fun N3 k3 s3 => nxt N3 (kS_tr k2 k3) ?_)⟩⟩
          · rcases (vT_kd h2).1 with ⟨e, x⟩ | ⟨e, x⟩ | ⟨e, x⟩ | ⟨e, x⟩ | ⟨e, x⟩ | ⟨e, x⟩
            · exact Or.inl e
            · exact Or.inr e
            all_goals (rw [x] at c; exact absurd c (by decide))
          · rcases (vT_kd h2).1 with ⟨e, x⟩ | ⟨e, x⟩ | ⟨e, x⟩ | ⟨e, x⟩ | ⟨e, x⟩ | ⟨e, x⟩
            · exact Or.inl e
            · exact Or.inr e
            all_goals (rw [x] at c2; exact absurd c2 (by decide))
          · have : (if i = 0 then ([] : List Int32) else [44]).length ≤ 1 := by split <;> simp
            rw [List.length_append]; omega
          · have hk : ¬ (I 80 (itm v i) = 7 ∨ I 80 (itm v i) = 8) := fun z => by
              rcases (vT_kd h2).1 with ⟨e, x⟩ | ⟨e, x⟩ | ⟨e, x⟩ | ⟨e, x⟩ | ⟨e, x⟩ | ⟨e, x⟩
              · exact c x
              · exact c2 x
              all_goals (rw [e] at z; exact absurd z (by decide))
            unfold jnW
            rw [if_neg hk, ← List.append_assoc]; exact s3
        unfold fm_sayAll_c23 fm_itemOf
        rw [nI_clamp (by omega), k1.2.1 16 (by decide), r16, m5, show (8 : Int32) = nI 8 from rfl, nI_add, nI_add, ← ei]
        refine ⟨iv, br_f (nI_ge (by omega) (by omega)) (pk_le i 0 (fun c => b49 N1 k1 ?_) (fun c => r_say s1 (by omega) (pk_charN (q := 44) (by decide)) (fun N2 k2 s2 => b49 N2 (kS_tr k1 k2) ?_)))⟩
        · rw [if_pos (by omega), List.append_nil]; exact s1
        · rw [if_neg (by omega)]; exact s2
    exact lp n 0 _ (by omega) k0 (SD_0 N)
/-- the number that a value has, 0 without one -/
def dV (I : Nat → Nat → Int32) (D : Nat → UInt64) (v : Nat) : UInt64 := if hasB (I 83 v) = true then D v else FP.dconst0
theorem r_numberOf (hv : v < 48) (h : vT N I J D W v ∨ ∃ n, vL N I J D W v n) {Q : UInt64 → RM → Prop} (q : ∀ N', kN N N' → rI N' 25 = I 83 v → Q (dV I D v) N') : fm_numberOf (nI v) N Q := by
  have iv := vp_in_nI (n := v) (N := 48) hv (by omega)
  have k1 := kN_25 N 1
  have e25 : rI (wI N 25 1) 25 = 1 := by rw [rI_wI, if_pos rfl]
  have txt : (I 83 v = bI (numT (W v)).isSome) → D v = (numT (W v)).getD FP.dconst0 → ((W v).length ≤ 15 ∨ 44 ∈ W v) → fm_sayAll (nI v) (wI N 25 1) (fun (M9 : RM) => fm_numberOfSaid M9 (fun (r12 : UInt64) (M11 : RM) => Q r12 M11)) := by
    intro e83 eD hl
    refine r_sayAll hv (h.imp (kV_vT (kN_kV k1)) (fun ⟨n, z⟩ => ⟨n, kV_vL (kN_kV k1) z⟩)) (fun N2 k2 s2 => r_numSaid s2 hl (fun N3 k3 e3 => ?_))
    have := q N3 (kN_tr k1 (kN_tr (kS_kN k2) k3)) (e3.trans e83.symm)
    unfold dV at this
    rw [e83, hasB_b, eD] at this
    cases x : numT (W v) with
    | none => rw [x] at this; exact this
    | some y => rw [x] at this; exact this
  unfold fm_numberOf fm_numberOf_b63
  refine ⟨nZ_1, nm_e ⟨iv, ?_⟩⟩
  rw [nI_clamp (by omega), rA_wI]
  unfold dV at q
  rcases h with h | ⟨n, h⟩
  · have hl := vT_len h
    rcases h with ⟨a, k, e, e83⟩ | ⟨a, k, e, e83, eD⟩ | ⟨b, a, k, k2, -, e, e83, eD⟩ | ⟨m, a, k, k2, eD, e, e83⟩ | ⟨a, k, k2, e83, eD, -⟩
    · rw [k]
      rw [e83] at q
      refine ⟨fun _ => ⟨nZ_0, nm_e (q _ (kN_tr k1 (kN_25 _ 0)) (by rw [rI_wI, if_pos rfl]))⟩, fun z => absurd z (by decide), fun z => absurd z (by decide), fun z => absurd z (by decide), fun z => absurd rfl z.1⟩
    · rw [k]
      rw [e83, eD] at q
      refine ⟨fun z => absurd z (by decide), fun _ => q _ k1 e25, fun z => absurd z (by decide), fun z => absurd z (by decide), fun z => absurd rfl z.2.1⟩
    · rw [k, rA_wI, k2]
      rw [e83, eD] at q
      have q' := q _ k1 e25
      refine ⟨fun z => absurd z (by decide), fun z => absurd z (by decide), fun _ => ⟨iv, fun c => ?_, fun c => ?_⟩, fun z => absurd z (by decide), fun z => absurd rfl z.2.2.1⟩
      · have b0 := bI_0.mp c
        subst b0; exact q'
      · have b1 : b = true := by
          cases b with
          | true => rfl
          | false => exact absurd rfl c
        subst b1; exact q'
    · rw [k, rD_wI, k2]
      rw [e83, eD] at q
      refine ⟨fun z => absurd z (by decide), fun z => absurd z (by decide), fun z => absurd z (by decide), fun _ => ⟨iv, q _ k1 e25⟩, fun z => absurd rfl z.2.2.2⟩
    · rw [k]
      refine ⟨fun z => absurd z (by decide), fun z => absurd z (by decide), fun z => absurd z (by decide), fun z => absurd z (by decide), fun _ => txt e83 eD (Or.inl hl)⟩
  · obtain ⟨v8, i80, r13, n5, i85, r16, ew, e83, eD, hit⟩ := h
    rw [r13]
    refine ⟨fun z => absurd z (by decide), fun z => absurd z (by decide), fun z => absurd z (by decide), fun z => absurd z (by decide), fun _ => txt e83 eD ?_⟩
    rw [ew]
    exact jn_num n5 (fun j hj => vT_len (hit j hj).1)
end VAL
