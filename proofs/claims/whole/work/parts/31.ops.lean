theorem take_g {α : Type} (d : α) {l : List α} {i : Nat} (h : i < l.length) : l.take (i + 1) = l.take i ++ [l.getD i d] := by
  rw [List.take_add_one, List.getD_eq_getElem?_getD, List.getElem?_eq_getElem h]
  rfl
def mostO (fs : List (Nat × List Ag)) : Int32 := fs.foldl (fun v p => if v < nI (most p.2) then nI (most p.2) else v) (-1)
def leastO (fs : List (Nat × List Ag)) : Int32 := fs.foldl (fun v p => if v = -1 then nI (least p.2) else if nI (least p.2) < v then nI (least p.2) else v) (-1)
/-- the first place from i on, of m, where P holds -/
def fstI (P : Nat → Bool) : Nat → Nat → Option Nat
  | 0, _ => none
  | m + 1, i => if P i = true then some i else fstI P m (i + 1)
def tkB (φ : List Ag) (n : Nat) : Bool := decide (least φ ≤ n ∧ n ≤ most φ)
theorem tkB_iff {φ : List Ag} {n : Nat} : tkB φ n = true ↔ takes φ n := by unfold tkB takes; exact decide_eq_true_iff
/-- nothing but what an operation gathered is other -/
def kG (O : Nat → Nat) (M M' : CM) : Prop := (∀ f a, ¬ (f = 53 ∧ a = O 0) → cI M' f a = cI M f a) ∧ (∀ f a, cJ M' f a = cJ M f a) ∧ (∀ f a, cD M' f a = cD M f a) ∧ (∀ f a, cR M' f a = cR M f a) ∧ (∀ a i, xI M' a i = xI M a i) ∧ (∀ a i, xJ M' a i = xJ M a i) ∧ (∀ a i, a ≠ O 2 → xR M' a i = xR M a i)
theorem kG_rf (O : Nat → Nat) (M : CM) : kG O M M := ⟨fun _ _ _ => rfl, fun _ _ => rfl, fun _ _ => rfl, fun _ _ => rfl, fun _ _ => rfl, fun _ _ => rfl, fun _ _ _ => rfl⟩
theorem kG_tr {O : Nat → Nat} {M M1 M2 : CM} (h : kG O M M1) (k : kG O M1 M2) : kG O M M2 :=
  ⟨fun f a n => (k.1 f a n).trans (h.1 f a n), fun f a => (k.2.1 f a).trans (h.2.1 f a), fun f a => (k.2.2.1 f a).trans (h.2.2.1 f a), fun f a => (k.2.2.2.1 f a).trans (h.2.2.2.1 f a), fun a i => (k.2.2.2.2.1 a i).trans (h.2.2.2.2.1 a i), fun a i => (k.2.2.2.2.2.1 a i).trans (h.2.2.2.2.2.1 a i), fun a i n => (k.2.2.2.2.2.2 a i n).trans (h.2.2.2.2.2.2 a i n)⟩
theorem kG_sI (O : Nat → Nat) (M : CM) (v : Int32) : kG O M (sI M 53 (O 0) v) := by
  refine ⟨fun f a n => ?_, fun _ _ => rfl, fun _ _ => rfl, fun _ _ => rfl, fun _ _ => rfl, fun _ _ => rfl, fun _ _ _ => rfl⟩
  rw [cI_sI, if_neg n]
theorem kG_yR (O : Nat → Nat) (M : CM) (i : Nat) (v : Option Nat) : kG O M (yR M (O 2) i v) := by
  refine ⟨fun _ _ _ => rfl, fun _ _ => rfl, fun _ _ => rfl, fun _ _ => rfl, fun _ _ => rfl, fun _ _ => rfl, fun a j n => ?_⟩
  rw [xR_yR, if_neg (fun z => n z.1)]
/-- a frame under which types, arguments and forms stand -/
def kT (T : LY) (M M' : CM) : Prop := (∀ f a, f ≠ 21 → f < 3 ∨ f / 10 = 2 ∨ f / 10 = 9 → cI M' f a = cI M f a) ∧ (∀ f a, f < 3 ∨ f / 10 = 2 ∨ f / 10 = 9 → cR M' f a = cR M f a) ∧ (∀ a i, xJ M' a i = xJ M a i) ∧ (∀ a i, tg T a = 25 → xR M' a i = xR M a i)
theorem zA_kT {G : Nat → Nat → Nat} {T : LY} {M M' : CM} (h : zA G M M') : kT T M M' := ⟨fun f a _ q => h.1 f a (by omega) (by omega), fun f a _ => h.2.2.2.1 f a, h.2.2.2.2.2.1, fun a i _ => h.2.2.2.2.2.2 a i⟩
theorem kG_kT {O : Nat → Nat} {T : LY} {M M' : CM} (h2 : tg T (O 2) = 26) (h : kG O M M') : kT T M M' := ⟨fun f a _ q => h.1 f a (by omega), fun f a _ => h.2.2.2.1 f a, h.2.2.2.2.2.1, fun a i q => h.2.2.2.2.2.2 a i (fun z => by rw [z, h2] at q; omega)⟩
theorem kT_wds {T : LY} {M M' : CM} (h : kT T M M') {r : Option Nat} {l : List Int64} (k : wds T M r l) : wds T M' r l := by
  rcases k with k | ⟨k, p, a, b, c, d, e⟩
  · exact Or.inl k
  · exact Or.inr ⟨k, p, a, b, c, d, fun i hi => (h.2.2.1 p i).trans (e i hi)⟩
theorem kT_tyc {nm : Nat → Nat} {T : LY} {M M' : CM} (h : kT T M M') {a : Nat} {τ : Ty} {e : Option Nat} (k : tyc nm T M a τ e) : tyc nm T M' a τ e := by
  obtain ⟨a1, a2, a3, a4, a5, a6, a7⟩ := k
  refine ⟨a1, a2, ?_, ?_, ?_, ?_, ?_⟩
  · rw [h.2.1 _ _ (by omega)]; exact a3
  · rw [h.1 _ _ (by omega) (by omega)]; exact a4
  · rw [h.1 _ _ (by omega) (by omega)]; exact a5
  · rw [h.2.1 _ _ (by omega)]; exact kT_wds h a6
  · rw [h.2.1 _ _ (by omega)]; exact a7
theorem kT_arc {nm : Nat → Nat} {T : LY} {M M' : CM} (h : kT T M M') {a : Nat} {g : Ag} (k : arc nm T M a g) : arc nm T M' a g := by
  obtain ⟨a1, a2, a3, ta, a4, a5⟩ := k
  refine ⟨a1, ?_, ?_, ta, ?_, ?_⟩
  · rw [h.1 _ _ (by omega) (by omega)]; exact a2
  · rw [h.1 _ _ (by omega) (by omega)]; exact a3
  · rw [h.2.1 _ _ (by omega)]; exact a4
  · rcases a5 with ⟨b1, b2⟩ | ⟨e, s, b1, b2, b3⟩
    · exact Or.inl ⟨b1, kT_tyc h b2⟩
    · exact Or.inr ⟨e, s, b1, kT_tyc h b2, kT_tyc h b3⟩
theorem kT_fmc {nm : Nat → Nat} {T : LY} {M M' : CM} (h : kT T M M') {a : Nat} {φ : List Ag} (k : fmc nm T M a φ) : fmc nm T M' a φ := by
  obtain ⟨a1, a2, a3, a4, r, a5, a6, a7, a8⟩ := k
  refine ⟨a1, a2, ?_, ?_, r, ?_, a6, a7, fun i hi => ?_⟩
  · rw [h.1 _ _ (by omega) (by omega)]; exact a3
  · rw [h.1 _ _ (by omega) (by omega)]; exact a4
  · rw [h.2.1 _ _ (by omega)]; exact a5
  · obtain ⟨q, b1, b2⟩ := a8 i hi
    exact ⟨q, (h.2.2.2 r i a6).trans b1, kT_arc h b2⟩
theorem kG_SO {O : Nat → Nat} {T : LY} {M M' : CM} (h : kG O M M') (hS : SO T M O) : SO T M' O := by
  obtain ⟨a1, a2, a3, a4, a5, a6, a7, a8⟩ := hS
  exact ⟨a1, by rw [h.2.2.2.1]; exact a2, a3, a4, by rw [h.2.2.2.1]; exact a5, a6, a7, a8⟩
section OPR
variable {nm : Nat → Nat} {T : LY} {M : CM} {O : Nat → Nat} {fs gs : List (Nat × List Ag)}
theorem s_X5_most (hS : SO T M O) (hV : VO nm T M O fs gs) {Q : Int32 → CM → Prop} (h : Q (mostO fs) M) : fc_X5_mostArguments T (O 0) M Q := by
  have h6 := hV.1
  have k : ∀ m i, i + m = fs.length → fc_X5_mostArguments_l4 T (O 0) Q (m + 1) (mostO (fs.take i)) (nI i) M := by
    intro m
    induction m with
    | zero =>
      intro i hi
      show fc_X5_mostArguments_c4 T (O 0) Q _ _ _ M
      unfold fc_X5_mostArguments_c4
      rw [hV.2.1]
      refine ⟨hS.1, br_t (nI_le (by omega) (by omega)) ?_⟩
      rw [List.take_of_length_le (by omega)]; exact h
    | succ m ih =>
      intro i hi
      show fc_X5_mostArguments_c4 T (O 0) Q (fc_X5_mostArguments_l4 T (O 0) Q (m + 1)) _ _ M
      unfold fc_X5_mostArguments_c4 fc_X5_mostArguments_b31
      rw [hV.2.1]
      refine ⟨hS.1, br_f (nI_ge (by omega) (by omega)) (s_X5_formAt hS hV (by omega) (fun c => ⟨fun q => (by cases q), fun _ => ⟨_, rfl, (hV.2.2.1 i c).2.1, s_X2_most (hV.2.2.1 i c).2 (nm_e (nm_e ?_))⟩⟩) (fun c => by omega))⟩
      rw [nI_1]
      have e := ih (i + 1) (by omega)
      rw [take_g (0, []) (show i < fs.length by omega), mostO, List.foldl_append] at e
      exact e
  unfold fc_X5_mostArguments
  exact nm_e ⟨fs.length + 1, k fs.length 0 (by omega)⟩
theorem s_X5_least (hS : SO T M O) (hV : VO nm T M O fs gs) {Q : Int32 → CM → Prop} (h : Q (leastO fs) M) : fc_X5_leastArguments T (O 0) M Q := by
  have h6 := hV.1
  have k : ∀ m i, i + m = fs.length → fc_X5_leastArguments_l4 T (O 0) Q (m + 1) (leastO (fs.take i)) (nI i) M := by
    intro m
    induction m with
    | zero =>
      intro i hi
      show fc_X5_leastArguments_c4 T (O 0) Q _ _ _ M
      unfold fc_X5_leastArguments_c4
      rw [hV.2.1]
      refine ⟨hS.1, br_t (nI_le (by omega) (by omega)) ?_⟩
      rw [List.take_of_length_le (by omega)]; exact h
    | succ m ih =>
      intro i hi
      have e := ih (i + 1) (by omega)
      rw [take_g (0, []) (show i < fs.length by omega), leastO, List.foldl_append] at e
      have e' : fc_X5_leastArguments_l4 T (O 0) Q (m + 1) (if leastO (fs.take i) = -1 then nI (least (fs.getD i (0, [])).2) else if nI (least (fs.getD i (0, [])).2) < leastO (fs.take i) then nI (least (fs.getD i (0, [])).2) else leastO (fs.take i)) (nI (i + 1)) M := e
      show fc_X5_leastArguments_c4 T (O 0) Q (fc_X5_leastArguments_l4 T (O 0) Q (m + 1)) _ _ M
      unfold fc_X5_leastArguments_c4 fc_X5_leastArguments_b44 fc_X5_leastArguments_b45
      rw [hV.2.1]
      refine ⟨hS.1, br_f (nI_ge (by omega) (by omega)) (s_X5_formAt hS hV (by omega) (fun c => ⟨fun q => (by cases q), fun _ => ⟨_, rfl, (hV.2.2.1 i c).2.1, s_X2_least (hV.2.2.1 i c).2 ⟨fun d => nm_e ?_, fun d => nm_e ?_⟩⟩⟩) (fun c => by omega))⟩
      · rw [if_neg d] at e'
        rw [nI_1]; exact e'
      · rw [if_pos d] at e'
        rw [nI_1]; exact e'
  unfold fc_X5_leastArguments
  exact nm_e ⟨fs.length + 1, k fs.length 0 (by omega)⟩
theorem s_X5_firstMiss (hS : SO T M O) (hV : VO nm T M O fs gs) {k : Nat} (hk : k < 1000) (hg : gOk gs k) {Q : Option Nat → CM → Prop} (h1 : ∀ i, i < gs.length → fstI (fun i => miss (gA gs i k)) gs.length 0 = some i → Q (some (gs.getD i (0, [])).1) M) (h0 : fstI (fun i => miss (gA gs i k)) gs.length 0 = none → Q none M) : fc_X5_firstThatMayMiss T (O 0) (nI k) M Q := by
  have h7 := hV.2.2.2.1
  have e53 := hV.2.2.2.2.1
  have ko : ∀ m i, i + m = gs.length → fstI (fun i => miss (gA gs i k)) m i = fstI (fun i => miss (gA gs i k)) gs.length 0 → fc_X5_firstThatMayMiss_l2 T (O 0) Q (m + 1) (nI k) (nI i) M := by
    intro m
    induction m with
    | zero =>
      intro i hi e
      show fc_X5_firstThatMayMiss_c2 T (O 0) Q _ _ _ M
      unfold fc_X5_firstThatMayMiss_c2
      rw [e53]
      exact ⟨hS.1, br_t (nI_le (by omega) (by omega)) (h0 e.symm)⟩
    | succ m ih =>
      intro i hi e
      show fc_X5_firstThatMayMiss_c2 T (O 0) Q (fc_X5_firstThatMayMiss_l2 T (O 0) Q (m + 1)) _ _ M
      rw [fstI] at e
      unfold fc_X5_firstThatMayMiss_c2 fc_X5_firstThatMayMiss_b34
      rw [e53]
      refine ⟨hS.1, br_f (nI_ge (by omega) (by omega)) (s_X5_argumentAt hS hV (by omega) hk hg (fun q z => ⟨fun c => (by cases c), fun _ => ⟨q, rfl, z.1, s_X0_canBeMissing z (fun d => ⟨fun c => absurd c (by decide), fun _ => s_X5_ableAt hS hV (by omega) (fun c => ?_) (fun c => by omega)⟩) (fun d => ⟨fun _ => nm_e ?_, fun c => absurd rfl c⟩)⟩⟩))⟩
      · rw [if_pos d] at e
        exact h1 i c e.symm
      · rw [if_neg (by rw [d]; decide)] at e
        rw [nI_1]
        exact ih (i + 1) (by omega) e
  exact ⟨gs.length + 1, ko gs.length 0 (by omega) rfl⟩
theorem s_X5_firstNull (hS : SO T M O) (hV : VO nm T M O fs gs) {k : Nat} (hk : k < 1000) (hg : gOk gs k) {Q : Option Nat → CM → Prop} (h1 : ∀ i, i < gs.length → fstI (fun i => (gA gs i k).2.2.1.2.2.1) gs.length 0 = some i → Q (some (gs.getD i (0, [])).1) M) (h0 : fstI (fun i => (gA gs i k).2.2.1.2.2.1) gs.length 0 = none → Q none M) : fc_X5_firstNullable T (O 0) (nI k) M Q := by
  have h7 := hV.2.2.2.1
  have e53 := hV.2.2.2.2.1
  have ko : ∀ m i, i + m = gs.length → fstI (fun i => (gA gs i k).2.2.1.2.2.1) m i = fstI (fun i => (gA gs i k).2.2.1.2.2.1) gs.length 0 → fc_X5_firstNullable_l2 T (O 0) Q (m + 1) (nI k) (nI i) M := by
    intro m
    induction m with
    | zero =>
      intro i hi e
      show fc_X5_firstNullable_c2 T (O 0) Q _ _ _ M
      unfold fc_X5_firstNullable_c2
      rw [e53]
      exact ⟨hS.1, br_t (nI_le (by omega) (by omega)) (h0 e.symm)⟩
    | succ m ih =>
      intro i hi e
      show fc_X5_firstNullable_c2 T (O 0) Q (fc_X5_firstNullable_l2 T (O 0) Q (m + 1)) _ _ M
      rw [fstI] at e
      unfold fc_X5_firstNullable_c2 fc_X5_firstNullable_b34
      rw [e53]
      refine ⟨hS.1, br_f (nI_ge (by omega) (by omega)) (s_X5_typeAt hS hV (by omega) hk hg (fun q x z => ⟨fun c => (by cases c), fun _ => ⟨q, rfl, z.1, ?_⟩⟩))⟩
      rw [z.2.2.2.2.1]
      refine ⟨fun d => nm_e ?_, fun d => s_X5_ableAt hS hV (by omega) (fun c => ?_) (fun c => by omega)⟩
      · rw [bI_0] at d
        rw [if_neg (by rw [d]; decide)] at e
        rw [nI_1]
        exact ih (i + 1) (by omega) e
      · rw [bI_0] at d
        rw [if_pos (by cases y : (gA gs i k).2.2.1.2.2.1 with
          | true => rfl
          | false => exact absurd y d)] at e
        exact h1 i c e.symm
  exact ⟨gs.length + 1, ko gs.length 0 (by omega) rfl⟩
theorem s_X5_firstSort (hnm : ∀ i j, i < 10 → j < 10 → nm i = nm j → i = j) (hS : SO T M O) (hV : VO nm T M O fs gs) {k : Nat} (hk : k < 1000) (hg : gOk gs k) (s : Int32) {Q : Option Nat → CM → Prop} (h1 : ∀ i, i < gs.length → fstI (fun i => decide (nSort (gA gs i k).2.2.1.1 = s)) gs.length 0 = some i → Q (some (gs.getD i (0, [])).1) M) (h0 : fstI (fun i => decide (nSort (gA gs i k).2.2.1.1 = s)) gs.length 0 = none → Q none M) : fc_X5_firstOfSort nm T (O 0) (nI k) s M Q := by
  have h7 := hV.2.2.2.1
  have e53 := hV.2.2.2.2.1
  have ko : ∀ m i, i + m = gs.length → fstI (fun i => decide (nSort (gA gs i k).2.2.1.1 = s)) m i = fstI (fun i => decide (nSort (gA gs i k).2.2.1.1 = s)) gs.length 0 → fc_X5_firstOfSort_l2 nm T (O 0) Q (m + 1) (nI k) s (nI i) M := by
    intro m
    induction m with
    | zero =>
      intro i hi e
      show fc_X5_firstOfSort_c2 nm T (O 0) Q _ _ _ _ M
      unfold fc_X5_firstOfSort_c2
      rw [e53]
      exact ⟨hS.1, br_t (nI_le (by omega) (by omega)) (h0 e.symm)⟩
    | succ m ih =>
      intro i hi e
      show fc_X5_firstOfSort_c2 nm T (O 0) Q (fc_X5_firstOfSort_l2 nm T (O 0) Q (m + 1)) _ _ _ M
      rw [fstI] at e
      unfold fc_X5_firstOfSort_c2 fc_X5_firstOfSort_b41
      rw [e53]
      refine ⟨hS.1, br_f (nI_ge (by omega) (by omega)) (s_X5_typeAt hS hV (by omega) hk hg (fun q x z => ⟨fun c => (by cases c), fun _ => ⟨q, rfl, z.1, (gA gs i k).2.2.1.1, z.2.2.1, z.2.1, fun d => nm_e ?_, fun d => s_X5_ableAt hS hV (by omega) (fun c => ?_) (fun c => by omega)⟩⟩))⟩
      · rw [if_neg (by rw [decide_eq_true_iff]; exact d)] at e
        rw [nI_1]
        exact ih (i + 1) (by omega) e
      · rw [if_pos (by rw [decide_eq_true_iff]; exact d)] at e
        exact h1 i c e.symm
  exact ⟨gs.length + 1, ko gs.length 0 (by omega) rfl⟩
end OPR
