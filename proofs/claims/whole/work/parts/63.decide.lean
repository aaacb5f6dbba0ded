/-! the deciding place, as the class and as the reference find it -/
def prs (R : List Ag → List Ag → Prop) (l : List (Nat × List Ag)) : Prop := ∀ i j, j < i → i < l.length → R (pF l i) (pF l j)
theorem pF_get (l : List (Nat × List Ag)) {i : Nat} (h : i < l.length) : pF l i = (l[i]).2 := by
  show (l.getD i (0, [])).2 = _
  rw [List.getD_eq_getElem?_getD, List.getElem?_eq_getElem h]; rfl
theorem prs_iff (R : List Ag → List Ag → Prop) (l : List (Nat × List Ag)) : prs R l ↔ l.Pairwise (fun a b => R b.2 a.2) := by
  rw [List.pairwise_iff_getElem]
  constructor
  · intro h i j hi hj hij
    have := h j i hij hj
    rw [pF_get l hi, pF_get l hj] at this; exact this
  · intro h i j hij hi
    rw [pF_get l hi, pF_get l (Nat.lt_trans hij hi)]
    exact h j i (Nat.lt_trans hij hi) hi hij
theorem prs_gth (R : List Ag → List Ag → Prop) (l : List (Nat × List Ag)) (n : Nat) : prs R (gth n l) ↔ prs (fun a b => takes a n → takes b n → R a b) l := by
  rw [prs_iff, prs_iff]
  unfold gth
  rw [List.pairwise_filter]
  constructor
  · intro h
    refine h.imp ?_
    intro a b h ta tb
    exact h (tkB_iff.mpr tb) (tkB_iff.mpr ta)
  · intro h
    refine h.imp ?_
    intro a b h ta tb
    exact h (tkB_iff.mp tb) (tkB_iff.mp ta)
theorem prs_F (l : List (Nat × List Ag)) : prs (fun _ _ => False) l ↔ l.length < 2 := by
  constructor
  · intro h
    exact Nat.lt_of_not_le (fun z => h 1 0 (by decide) (by omega))
  · intro h i j hij hi
    omega
theorem decF_s (gs : List (Nat × List Ag)) (n : Nat) : ∀ m i, i + m = n → (∀ k, k < i → sameAt gs k = true) → (∃ d, decF gs m i = nI d ∧ d < n ∧ distAt gs d = true ∧ ∀ k, k < d → sameAt gs k = true) ∨ (decF gs m i = -1 ∧ ¬ ∃ d, i ≤ d ∧ d < n ∧ distAt gs d = true ∧ ∀ k, k < d → sameAt gs k = true)
  | 0, i, hi, _ => Or.inr ⟨rfl, fun ⟨d, a, b, _⟩ => by omega⟩
  | m + 1, i, hi, hs => by
    unfold decF
    by_cases c : distAt gs i = true
    · rw [if_pos c]; exact Or.inl ⟨i, rfl, by omega, c, hs⟩
    · rw [if_neg c]
      by_cases e : sameAt gs i = true
      · rw [if_pos e]
        rcases decF_s gs n m (i + 1) (by omega) (fun k hk => by
          by_cases y : k = i
          · rw [y]; exact e
          · exact hs k (by omega)) with h | ⟨h1, h2⟩
        · exact Or.inl h
        · refine Or.inr ⟨h1, fun ⟨d, a, b, x, y⟩ => h2 ⟨d, ?_, b, x, y⟩⟩
          by_cases z : d = i
          · rw [z] at x; exact absurd x c
          · omega
      · rw [if_neg e]
        refine Or.inr ⟨rfl, fun ⟨d, a, b, x, y⟩ => ?_⟩
        by_cases z : d = i
        · rw [z] at x; exact absurd x c
        · exact e (y i (by omega))
theorem dec_all {gs : List (Nat × List Ag)} {n d : Nat} (h2 : 2 ≤ gs.length) : prs (fun a b => gp a b n d) gs ↔ (d < n ∧ distAt gs d = true ∧ ∀ k, k < d → sameAt gs k = true) := by
  constructor
  · intro h
    refine ⟨(h 1 0 (by decide) (by omega)).1, decide_eq_true (fun i hi j hj => (h i j hj hi).2.2), fun k hk => sameAt_t (fun i hi => ?_)⟩
    by_cases z : i = 0
    · rw [z]
    · exact (h i 0 (by omega) hi).2.1 k hk
  · rintro ⟨a, b, c⟩ i j hij hi
    refine ⟨a, fun k hk => ?_, (of_decide_eq_true b) i hi j hij⟩
    have h1 := sameAt_of (c k hk) i hi
    have h3 := sameAt_of (c k hk) j (by omega)
    exact h1.trans h3.symm
theorem decN_s {gs : List (Nat × List Ag)} {n : Nat} (h2 : 2 ≤ gs.length) : (∃ d, d < n ∧ decN gs n = nI d ∧ prs (fun a b => gp a b n d) gs) ∨ (decN gs n = -1 ∧ ¬ ∃ d, prs (fun a b => gp a b n d) gs) := by
  unfold decN
  rw [if_pos h2]
  rcases decF_s gs n n 0 (by omega) (fun k hk => absurd hk (Nat.not_lt_zero k)) with ⟨d, a, b, c⟩ | ⟨a, b⟩
  · exact Or.inl ⟨d, b, a, (dec_all h2).mpr ⟨b, c⟩⟩
  · exact Or.inr ⟨a, fun ⟨d, z⟩ => b ⟨d, Nat.zero_le _, (dec_all h2).mp z⟩⟩
/-- with n the forms can be told from one another -/
def told (l : List (Nat × List Ag)) (n : Nat) : Prop := 2 ≤ (gth n l).length → decN (gth n l) n ≠ -1
section RDC
variable {N : RM} {o n : Nat} {l : List (Nat × List Ag)} {p : Nat × List Ag}
theorem r_dec0 (ho : o < 6) (hO : rOp N o (l.map Prod.snd)) (hn : n ≤ 8) (ht : told l n) {Q : Int32 → RM → Prop} (q : Q (decN (gth n l) n) N) : fm_deciding (nI o) (nI n) 0 N Q := by
  have el : (l.map Prod.snd).length = l.length := List.length_map _
  have ef : ∀ i, i < l.length → fAt (l.map Prod.snd) [] i = pF l i := fun i hi => by unfold fAt; rw [if_pos (by rw [el]; exact hi)]; exact snd_getD l i
  refine r_deciding (φ := []) ho hO false (fun z => by cases z) hn (all := l.length) (by rw [el]; rfl) (fun h => ?_) (fun d hd h1 h2 => ?_) (fun h => ?_)
  · have : (gth n l).length < 2 := (prs_F _).mp ((prs_gth _ l n).mpr (fun i j hij hi ta tb => h i j hij hi (by rw [ef i hi, ef j (by omega)]; exact ⟨ta, tb⟩)))
    unfold decN at q
    rw [if_neg (by omega)] at q; exact q
  · have g : prs (fun a b => gp a b n d) (gth n l) := (prs_gth _ l n).mpr (fun i j hij hi ta tb => by
      have := h2 i j hij hi
      rw [ef i hi, ef j (by omega)] at this
      exact this ta tb)
    have l2 : 2 ≤ (gth n l).length := by
      refine Nat.le_of_not_lt (fun z => ?_)
      have := (prs_gth _ l n).mp ((prs_F _).mpr z)
      obtain ⟨i, j, hij, hi, ta, tb⟩ := h1
      rw [ef i hi] at ta
      rw [ef j (by omega)] at tb
      exact this i j hij hi ta tb
    rcases decN_s (n := n) l2 with ⟨d', a, b, c⟩ | ⟨a, b⟩
    · have : d' = d := gp_u (c 1 0 (by decide) (by omega)) (g 1 0 (by decide) (by omega))
      rw [b, this] at q; exact q
    · exact absurd ⟨d, g⟩ b
  · exfalso
    by_cases l2 : 2 ≤ (gth n l).length
    · rcases decN_s (n := n) l2 with ⟨d', a, b, c⟩ | ⟨a, b⟩
      · exact h ⟨d', fun i j hij hi ta tb => by
          rw [ef i hi] at ta ⊢
          rw [ef j (by omega)] at tb ⊢
          exact (prs_gth _ l n).mp c i j hij hi ta tb⟩
      · exact ht l2 a
    · refine h ⟨0, fun i j hij hi ta tb => ?_⟩
      rw [ef i hi] at ta
      rw [ef j (by omega)] at tb
      exact ((prs_gth (fun _ _ => False) l n).mp ((prs_F _).mpr (by omega)) i j hij hi ta tb).elim
theorem r_dec1 (ho : o < 6) (hO : rOp N o (l.map Prod.snd)) (hp : rFm N 36 p.2) (hn : n ≤ 8) {Q : Int32 → RM → Prop} (q1 : ¬ told (l ++ [p]) n → Q (-2) N) (q0 : told (l ++ [p]) n → ∀ r, r ≠ -2 → Q r N) : fm_deciding (nI o) (nI n) 1 N Q := by
  have el : (l.map Prod.snd).length = l.length := List.length_map _
  have ef : ∀ i, i < (l ++ [p]).length → fAt (l.map Prod.snd) p.2 i = pF (l ++ [p]) i := fun i hi => by
    unfold fAt
    rw [List.length_append, List.length_singleton] at hi
    by_cases c : i < l.length
    · rw [if_pos (by rw [el]; exact c), snd_getD]
      show (l.getD i (0, [])).2 = ((l ++ [p]).getD i (0, [])).2
      rw [List.getD_eq_getElem?_getD, List.getD_eq_getElem?_getD, List.getElem?_append_left c]
    · rw [if_neg (by rw [el]; exact c)]
      have e : i = l.length := by omega
      show p.2 = ((l ++ [p]).getD i (0, [])).2
      rw [e]; simp
  have nm2 : (-1 : Int32) ≠ -2 := by decide
  refine r_deciding ho hO true (fun _ => hp) hn (all := (l ++ [p]).length) (by rw [el, List.length_append, List.length_singleton]; rfl) (fun h => q0 (fun l2 => ?_) _ nm2) (fun d hd h1 h2 => q0 (fun l2 e => ?_) _ (fun z => ?_)) (fun h => q1 (fun z => ?_))
  · exact absurd ((prs_F _).mp ((prs_gth _ (l ++ [p]) n).mpr (fun i j hij hi ta tb => h i j hij hi (by rw [ef i hi, ef j (by omega)]; exact ⟨ta, tb⟩)))) (by omega)
  · have g : prs (fun a b => gp a b n d) (gth n (l ++ [p])) := (prs_gth _ (l ++ [p]) n).mpr (fun i j hij hi ta tb => by
      have := h2 i j hij hi
      rw [ef i hi, ef j (by omega)] at this
      exact this ta tb)
    rcases decN_s (n := n) l2 with ⟨d', a, b, c⟩ | ⟨a, b⟩
    · rw [b] at e; exact (n1_lt (by omega)).2.2.1 e
    · exact b ⟨d, g⟩
  · have := congrArg Int32.toInt z
    rw [nI_toInt (by omega)] at this
    have e2 : (-2 : Int32).toInt = -2 := rfl
    omega
  · by_cases l2 : 2 ≤ (gth n (l ++ [p])).length
    · rcases decN_s (n := n) l2 with ⟨d', a, b, c⟩ | ⟨a, b⟩
      · exact h ⟨d', fun i j hij hi ta tb => by
          rw [ef i hi] at ta ⊢
          rw [ef j (by omega)] at tb ⊢
          exact (prs_gth _ (l ++ [p]) n).mp c i j hij hi ta tb⟩
      · exact z l2 a
    · refine h ⟨0, fun i j hij hi ta tb => ?_⟩
      rw [ef i hi] at ta
      rw [ef j (by omega)] at tb
      exact ((prs_gth (fun _ _ => False) (l ++ [p]) n).mp ((prs_F _).mpr (by omega)) i j hij hi ta tb).elim
/-- the class's answer of a clash, when the old forms can be told -/
theorem clsF_s (h : ∀ n, n ≤ 8 → told l n) : ∀ m n, n + m = 9 → (∃ k, n ≤ k ∧ k ≤ 8 ∧ clsF l p m n = nI k ∧ ¬ told (l ++ [p]) k ∧ ∀ j, n ≤ j → j < k → told (l ++ [p]) j) ∨ (clsF l p m n = -1 ∧ ∀ j, n ≤ j → j ≤ 8 → told (l ++ [p]) j)
  | 0, n, hn => Or.inr ⟨rfl, fun j h1 h2 => by omega⟩
  | m + 1, n, hn => by
    unfold clsF
    by_cases c : tkB p.2 n = true ∧ 2 ≤ (gth n (l ++ [p])).length ∧ decN (gth n (l ++ [p])) n = -1
    · rw [if_pos c]
      exact Or.inl ⟨n, Nat.le_refl _, by omega, rfl, fun z => z c.2.1 c.2.2, fun j h1 h2 => by omega⟩
    · rw [if_neg c]
      have tn : told (l ++ [p]) n := by
        intro l2 e
        by_cases t : tkB p.2 n = true
        · exact c ⟨t, l2, e⟩
        · have eg : gth n (l ++ [p]) = gth n l := by rw [gth_snoc, if_neg t]
          rw [eg] at l2 e
          exact h n (by omega) l2 e
      have ext : ∀ j, n ≤ j → (n + 1 ≤ j → told (l ++ [p]) j) → told (l ++ [p]) j := fun j h1 h2 => by
        by_cases y : j = n
        · rw [y]; exact tn
        · exact h2 (by omega)
      rcases clsF_s h m (n + 1) (by omega) with ⟨k, a, b, x, y, z⟩ | ⟨a, b⟩
      · exact Or.inl ⟨k, by omega, b, x, y, fun j h1 h2 => ext j h1 (fun q => z j q h2)⟩
      · exact Or.inr ⟨a, fun j h1 h2 => ext j h1 (fun q => b j q h2)⟩
end RDC
