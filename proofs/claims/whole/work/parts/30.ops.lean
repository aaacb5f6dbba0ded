/-! what the gathered forms say of value k -/
def dstT (τ σ : Ty) : Bool := decide (nSort τ.1 ≠ 0 ∧ nSort σ.1 ≠ 0 ∧ ¬ (τ.2.2.1 = true ∧ σ.2.2.1 = true) ∧ nSort τ.1 ≠ nSort σ.1)
def distAt (gs : List (Nat × List Ag)) (k : Nat) : Bool := decide (∀ i, i < gs.length → ∀ j, j < i → dstT (gA gs i k).2.2.1 (gA gs j k).2.2.1 = true)
noncomputable def sameAt (gs : List (Nat × List Ag)) (k : Nat) : Bool := @decide (∀ i, i < gs.length → gA gs i k = gA gs 0 k) (Classical.propDecidable _)
theorem sameAt_t {gs : List (Nat × List Ag)} {k : Nat} (h : ∀ i, i < gs.length → gA gs i k = gA gs 0 k) : sameAt gs k = true := @decide_eq_true _ (Classical.propDecidable _) h
theorem sameAt_f {gs : List (Nat × List Ag)} {k : Nat} (h : ¬ ∀ i, i < gs.length → gA gs i k = gA gs 0 k) : sameAt gs k = false := @decide_eq_false _ (Classical.propDecidable _) h
theorem sameAt_of {gs : List (Nat × List Ag)} {k : Nat} (h : sameAt gs k = true) : ∀ i, i < gs.length → gA gs i k = gA gs 0 k := @of_decide_eq_true _ (Classical.propDecidable _) h
noncomputable def decF (gs : List (Nat × List Ag)) : Nat → Nat → Int32
  | 0, _ => -1
  | m + 1, i => if distAt gs i = true then nI i else if sameAt gs i = true then decF gs m (i + 1) else -1
noncomputable def decN (gs : List (Nat × List Ag)) (n : Nat) : Int32 := if 2 ≤ gs.length then decF gs n 0 else -1
section OPR
variable {nm : Nat → Nat} {T : LY} {M : CM} {O : Nat → Nat} {fs gs : List (Nat × List Ag)}
theorem s_X5_distinct (hnm : ∀ i j, i < 10 → j < 10 → nm i = nm j → i = j) (hS : SO T M O) (hV : VO nm T M O fs gs) {k : Nat} (hk : k < 1000) (hg : gOk gs k) {Q : Int32 → CM → Prop} (h1 : distAt gs k = true → Q 1 M) (h0 : distAt gs k = false → Q 0 M) : fc_X5_areDistinctAt nm T (O 0) (nI k) M Q := by
  have h7 := hV.2.2.2.1
  have e53 := hV.2.2.2.2.1
  have no : ∀ i j, i < gs.length → j < i → dstT (gA gs i k).2.2.1 (gA gs j k).2.2.1 = false → Q 0 M := by
    intro i j hi hj e
    refine h0 (decide_eq_false (fun z => ?_))
    have := z i hi j hj
    rw [e] at this; cases this
  have ko : ∀ m i, i + m = gs.length → (∀ a, a < i → ∀ j, j < a → dstT (gA gs a k).2.2.1 (gA gs j k).2.2.1 = true) → fc_X5_areDistinctAt_l2 nm T (O 0) Q (m + 1) (nI k) (nI i) M := by
    intro m
    induction m with
    | zero =>
      intro i hi he
      show fc_X5_areDistinctAt_c2 nm T (O 0) Q _ _ _ M
      unfold fc_X5_areDistinctAt_c2
      rw [e53]
      exact ⟨hS.1, br_t (nI_le (by omega) (by omega)) (h1 (decide_eq_true (fun a ha j hj => he a (by omega) j hj)))⟩
    | succ m ih =>
      intro i hi he
      have ki : ∀ p j, j + p = i → (∀ b, b < j → dstT (gA gs i k).2.2.1 (gA gs b k).2.2.1 = true) → fc_X5_areDistinctAt_l12 nm T (O 0) Q (fc_X5_areDistinctAt_l2 nm T (O 0) Q (m + 1)) (p + 1) (nI k) (nI i) (nI j) M := by
        intro p
        induction p with
        | zero =>
          intro j hj hb
          show fc_X5_areDistinctAt_c12 nm T (O 0) Q _ _ _ _ _ M
          unfold fc_X5_areDistinctAt_c12
          refine br_t (nI_le (by omega) (by omega)) (nm_e ?_)
          rw [nI_1]
          refine ih (i + 1) (by omega) (fun a ha b hb2 => ?_)
          by_cases c : a = i
          · rw [c]; exact hb b (by omega)
          · exact he a (by omega) b hb2
        | succ p ihp =>
          intro j hj hb
          show fc_X5_areDistinctAt_c12 nm T (O 0) Q _ (fc_X5_areDistinctAt_l12 nm T (O 0) Q (fc_X5_areDistinctAt_l2 nm T (O 0) Q (m + 1)) (p + 1)) _ _ _ M
          unfold fc_X5_areDistinctAt_c12 fc_X5_areDistinctAt_b53
          refine br_f (nI_ge (by omega) (by omega)) ⟨hS.1, s_X5_typeAt hS hV (by omega) hk hg (fun q x z => s_X5_typeAt hS hV (by omega) hk hg (fun q2 x2 z2 => ⟨fun c => (by cases c), fun _ => ⟨fun c => (by cases c), fun _ => ⟨q, rfl, z.1, s_X9_distinct z z2 hnm ?_⟩⟩⟩))⟩
          show _ ∧ _
          cases e : dstT (gA gs i k).2.2.1 (gA gs j k).2.2.1 with
          | true =>
            have e2 : bI (decide (nSort (gA gs i k).2.2.1.1 ≠ 0 ∧ nSort (gA gs j k).2.2.1.1 ≠ 0 ∧ ¬ ((gA gs i k).2.2.1.2.2.1 = true ∧ (gA gs j k).2.2.1.2.2.1 = true) ∧ nSort (gA gs i k).2.2.1.1 ≠ nSort (gA gs j k).2.2.1.1)) = 1 := by
              have : decide (nSort (gA gs i k).2.2.1.1 ≠ 0 ∧ nSort (gA gs j k).2.2.1.1 ≠ 0 ∧ ¬ ((gA gs i k).2.2.1.2.2.1 = true ∧ (gA gs j k).2.2.1.2.2.1 = true) ∧ nSort (gA gs i k).2.2.1.1 ≠ nSort (gA gs j k).2.2.1.1) = true := e
              rw [this]; rfl
            rw [e2]
            refine ⟨fun _ => nm_e ?_, fun c => absurd c (by decide)⟩
            rw [nI_1]
            refine ihp (j + 1) (by omega) (fun b hb2 => ?_)
            by_cases c : b = j
            · rw [c]; exact e
            · exact hb b (by omega)
          | false =>
            have e2 : bI (decide (nSort (gA gs i k).2.2.1.1 ≠ 0 ∧ nSort (gA gs j k).2.2.1.1 ≠ 0 ∧ ¬ ((gA gs i k).2.2.1.2.2.1 = true ∧ (gA gs j k).2.2.1.2.2.1 = true) ∧ nSort (gA gs i k).2.2.1.1 ≠ nSort (gA gs j k).2.2.1.1)) = 0 := by
              have : decide (nSort (gA gs i k).2.2.1.1 ≠ 0 ∧ nSort (gA gs j k).2.2.1.1 ≠ 0 ∧ ¬ ((gA gs i k).2.2.1.2.2.1 = true ∧ (gA gs j k).2.2.1.2.2.1 = true) ∧ nSort (gA gs i k).2.2.1.1 ≠ nSort (gA gs j k).2.2.1.1) = false := e
              rw [this]; rfl
            rw [e2]
            exact ⟨fun c => absurd rfl c, fun _ => no i j (by omega) (by omega) e⟩
      show fc_X5_areDistinctAt_c2 nm T (O 0) Q (fc_X5_areDistinctAt_l2 nm T (O 0) Q (m + 1)) _ _ M
      unfold fc_X5_areDistinctAt_c2
      rw [e53]
      exact ⟨hS.1, br_f (nI_ge (by omega) (by omega)) ⟨i + 1, ki i 0 (by omega) (fun b hb => absurd hb (Nat.not_lt_zero b))⟩⟩
  exact ⟨gs.length + 1, ko gs.length 0 (by omega) (fun a ha => absurd ha (Nat.not_lt_zero a))⟩
theorem s_X5_same (hnm : ∀ i j, i < 10 → j < 10 → nm i = nm j → i = j) (hS : SO T M O) (hV : VO nm T M O fs gs) {k : Nat} (hk : k < 1000) (hg : gOk gs k) (hp : 0 < gs.length) {Q : Int32 → CM → Prop} (h1 : sameAt gs k = true → Q 1 M) (h0 : sameAt gs k = false → Q 0 M) : fc_X5_areSameAt T (O 0) (nI k) M Q := by
  have h7 := hV.2.2.2.1
  have e53 := hV.2.2.2.2.1
  unfold fc_X5_areSameAt
  refine ⟨hS.1, s_X5_argumentAt (i := 0) hS hV hp hk hg (fun q0 z0 => ⟨gs.length + 1, ?_⟩)⟩
  have e1 : gs.length + 1 = (gs.length - 1 + 1) + 1 := by omega
  rw [e1]
  have ko2 : ∀ m i, i + m = gs.length + 1 → 0 < i → (∀ a, a < i → a < gs.length → gA gs a k = gA gs 0 k) → fc_X5_areSameAt_l9 T (O 0) Q (m + 1) (nI k) (some q0) (nI i) M := by
    intro m
    induction m with
    | zero =>
      intro i hi _ he
      show fc_X5_areSameAt_c9 T (O 0) Q _ _ _ _ M
      unfold fc_X5_areSameAt_c9
      rw [e53]
      exact ⟨hS.1, br_t (nI_le (by omega) (by omega)) (h1 (sameAt_t (fun a ha => he a (by omega) ha)))⟩
    | succ m ih =>
      intro i hi hi0 he
      show fc_X5_areSameAt_c9 T (O 0) Q (fc_X5_areSameAt_l9 T (O 0) Q (m + 1)) _ _ _ M
      unfold fc_X5_areSameAt_c9 fc_X5_areSameAt_b43
      rw [e53]
      refine ⟨hS.1, pk_le gs.length i (fun y => h1 (sameAt_t (fun a ha => he a (by omega) ha))) (fun y => s_X5_argumentAt hS hV (by omega) hk hg (fun q z => ⟨fun c => (by cases c), fun _ => ⟨fun c => (by cases c), fun _ => ⟨q, rfl, z.1, s_X0_isSameAs hnm z z0 (fun e => ⟨fun _ => nm_e ?_, fun c => absurd c (by decide)⟩) (fun e => ⟨fun c => absurd rfl c, fun _ => h0 (sameAt_f (fun y => e (y i (by omega))))⟩)⟩⟩⟩))⟩
      rw [nI_1]
      refine ih (i + 1) (by omega) (by omega) (fun a ha ha2 => ?_)
      by_cases c : a = i
      · rw [c]; exact e
      · exact he a (by omega) ha2
  exact ko2 _ 1 (by omega) (by omega) (fun a ha _ => by rw [show a = 0 by omega])
theorem s_X5_deciding (hnm : ∀ i j, i < 10 → j < 10 → nm i = nm j → i = j) (hS : SO T M O) (hV : VO nm T M O fs gs) {n : Nat} (hn : n < 100) (hg : ∀ k, k < n → gOk gs k) {Q : Int32 → CM → Prop} (h : Q (decN gs n) M) : fc_X5_decidingFor nm T (O 0) (nI n) M Q := by
  have h7 := hV.2.2.2.1
  have e53 := hV.2.2.2.2.1
  unfold decN at h
  unfold fc_X5_decidingFor
  rw [e53]
  refine ⟨hS.1, pk_le 2 gs.length (fun c => ⟨n + 1, ?_⟩) (fun c => ?_)⟩
  · rw [if_pos c] at h
    have k : ∀ m i, i + m = n → decF gs m i = decF gs n 0 → fc_X5_decidingFor_l12 nm T (O 0) Q (m + 1) (nI n) (nI i) M := by
      intro m
      induction m with
      | zero =>
        intro i hi e
        show fc_X5_decidingFor_c12 nm T (O 0) Q _ _ _ M
        unfold fc_X5_decidingFor_c12
        refine br_t (nI_le (by omega) (by omega)) ?_
        rw [← e] at h; exact h
      | succ m ih =>
        intro i hi e
        show fc_X5_decidingFor_c12 nm T (O 0) Q (fc_X5_decidingFor_l12 nm T (O 0) Q (m + 1)) _ _ M
        rw [show decF gs (m + 1) i = (if distAt gs i = true then nI i else if sameAt gs i = true then decF gs m (i + 1) else -1) from rfl] at e
        unfold fc_X5_decidingFor_c12
        refine br_f (nI_ge (by omega) (by omega)) ⟨hS.1, s_X5_distinct hnm hS hV (by omega) (hg i (by omega)) (fun d => ⟨fun q => absurd q (by decide), fun _ => ?_⟩) (fun d => ⟨fun _ => s_X5_same hnm hS hV (by omega) (hg i (by omega)) (by omega) (fun d2 => ⟨fun _ => nm_e ?_, fun q => absurd q (by decide)⟩) (fun d2 => ⟨fun q => absurd rfl q, fun _ => ?_⟩), fun q => absurd rfl q⟩)⟩
        · rw [if_pos d] at e
          rw [← e] at h; exact h
        · rw [if_neg (by rw [d]; decide), if_pos d2] at e
          rw [nI_1]
          exact ih (i + 1) (by omega) e
        · rw [if_neg (by rw [d]; decide), if_neg (by rw [d2]; decide)] at e
          rw [← e] at h; exact h
    exact k n 0 (by omega) rfl
  · rw [if_neg (by omega)] at h; exact h
end OPR
