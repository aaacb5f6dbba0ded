/-! forms: a form is the list of its arguments -/
def dA : Ag := (false, false, (0, 0, false, []), none)
def lastV (φ : List Ag) : Bool := (φ.getD (φ.length - 1) dA).2.1
/-- the place of the argument that value k goes to; the number of arguments if there is none -/
def argI (φ : List Ag) (k : Nat) : Nat := if lastV φ = true ∧ φ.length - 1 < k then φ.length - 1 else k
def lstF (φ : List Ag) : Nat → Nat
  | 0 => 0
  | n + 1 => if miss (φ.getD n dA) = true then lstF φ n else n + 1
def least (φ : List Ag) : Nat := lstF φ φ.length
def most (φ : List Ag) : Nat := if lastV φ = true then 8 else φ.length
def takes (φ : List Ag) (n : Nat) : Prop := least φ ≤ n ∧ n ≤ most φ
def fmc (nm : Nat → Nat) (T : LY) (M : CM) (a : Nat) (φ : List Ag) : Prop := tg T a = 3 ∧ φ.length ≤ 5 ∧ cI M 23 a = nI φ.length ∧ cI M 24 a = bI (lastV φ) ∧ ∃ r, cR M 22 a = some r ∧ tg T r = 25 ∧ ln T r = 5 ∧ ∀ i, i < φ.length → ∃ q, xR M r i = some q ∧ arc nm T M q (φ.getD i dA)
theorem lstF_le (φ : List Ag) : ∀ n, lstF φ n ≤ n
  | 0 => Nat.le_refl _
  | n + 1 => by
    have := lstF_le φ n
    unfold lstF; split <;> omega
theorem lastV_pos {φ : List Ag} (h : lastV φ = true) : 0 < φ.length := by
  cases φ with
  | nil => exact absurd h (by decide)
  | cons a l => exact Nat.succ_pos _
theorem argI_lt {φ : List Ag} {k n : Nat} (h : takes φ n) (hk : k < n) : argI φ k < φ.length := by
  unfold argI
  have h2 := h.2
  unfold most at h2
  by_cases c : lastV φ = true
  · have := lastV_pos c
    split
    · omega
    · rename_i d
      have : ¬ φ.length - 1 < k := fun z => d ⟨c, z⟩
      omega
  · rw [if_neg c] at h2
    rw [if_neg (fun z => c z.1)]; omega
section FRM
variable {nm : Nat → Nat} {T : LY} {M : CM} {a : Nat} {φ : List Ag}
theorem s_X2_argumentAt (hx : fmc nm T M a φ) {k : Nat} (hk : k < 1000) {Q : Option Nat → CM → Prop} (h1 : ∀ q, argI φ k < φ.length → arc nm T M q (φ.getD (argI φ k) dA) → Q (some q) M) (h0 : ¬ argI φ k < φ.length → Q none M) : fc_X2_argumentAt T a (nI k) M Q := by
  obtain ⟨a1, a2, a3, a4, r, a5, a6, a7, a8⟩ := hx
  have k1 : ∀ i, i = argI φ k → i < 1000 → fc_X2_argumentAt_b21 T a Q (nI i) M := by
    intro i ei hi
    rw [← ei] at h1 h0
    unfold fc_X2_argumentAt_b21 fc_X2_argumentAt_b52 fc_X2_argumentAt_b53
    rw [a3]
    refine br_f (nI_pos (by omega)) ⟨a1, pk_le φ.length i (fun c => h0 (by omega)) (fun c => ⟨r, a5, a6, ?_⟩)⟩
    rw [a7]
    refine br_f (nI_ge (by omega) (by omega)) ⟨vp_in_nI (by omega) (by omega), ?_⟩
    rw [nI_clamp (by omega)]
    obtain ⟨q, e, z⟩ := a8 i c
    rw [e]
    exact h1 q c z
  unfold fc_X2_argumentAt
  rw [a3, a4]
  refine ⟨a1, fun c => ?_, fun c => ?_⟩
  · rw [bI_0] at c
    exact k1 k (by unfold argI; rw [if_neg (by rw [c]; exact fun z => absurd z.1 (by decide))]) hk
  · have c2 : lastV φ = true := by
      rw [bI_0] at c
      cases e : lastV φ with
      | true => rfl
      | false => exact absurd e c
    have hp := lastV_pos c2
    have e1 : nI φ.length - 1 = nI (φ.length - 1) := pk_sub (b := 1) hp
    rw [e1]
    have e2 : (if nI (φ.length - 1) < nI k then nI (φ.length - 1) else nI k) = nI (argI φ k) := by
      unfold argI
      by_cases d : φ.length - 1 < k
      · rw [if_pos ((nI_ltI (by omega) (by omega)).mpr d), if_pos ⟨c2, d⟩]
      · rw [if_neg (fun z => d ((nI_ltI (by omega) (by omega)).mp z)), if_neg (fun z => d z.2)]
    rw [e2]
    refine k1 _ rfl ?_
    unfold argI; split <;> omega
theorem s_X2_least (hx : fmc nm T M a φ) {Q : Int32 → CM → Prop} (h : Q (nI (least φ)) M) : fc_X2_leastArguments T a M Q := by
  have hx' := hx
  obtain ⟨a1, a2, a3, a4, r, a5, a6, a7, a8⟩ := hx'
  have k : ∀ n, n ≤ φ.length → lstF φ n = least φ → fc_X2_leastArguments_l5 T a Q (n + 1) (nI n) M := by
    intro n
    induction n with
    | zero =>
      intro hn e
      show fc_X2_leastArguments_c5 T a Q _ _ M
      unfold fc_X2_leastArguments_c5
      refine br_t (nI_le (b := 0) (by omega) (by omega)) ?_
      rw [← e] at h; exact h
    | succ n ih =>
      intro hn e
      show fc_X2_leastArguments_c5 T a Q (fc_X2_leastArguments_l5 T a Q (n + 1)) _ M
      unfold lstF at e
      unfold fc_X2_leastArguments_c5 fc_X2_leastArguments_b28
      have ea : argI φ n = n := by
        unfold argI; rw [if_neg (fun z => by omega)]
      refine br_f (nI_nle (by omega) (by omega)) ⟨a1, ?_⟩
      rw [nI_pred]
      refine s_X2_argumentAt hx (by omega) (fun q c z => ?_) (fun c => absurd (by rw [ea]; omega) c)
      rw [ea] at z
      refine ⟨fun q => (by cases q), fun _ => ⟨q, rfl, z.1, s_X0_canBeMissing z (fun d => ⟨fun _ => nm_r (pk_m1 n) ?_, fun q => absurd q (by decide)⟩) (fun d => ⟨fun q => absurd rfl q, fun _ => ?_⟩)⟩⟩
      · rw [if_pos d] at e
        exact ih (by omega) e
      · rw [if_neg (by rw [d]; decide)] at e
        rw [← e] at h; exact h
  unfold fc_X2_leastArguments
  exact ⟨a1, nm_r a3 ⟨_, k φ.length (Nat.le_refl _) rfl⟩⟩
theorem s_X2_most (hx : fmc nm T M a φ) {Q : Int32 → CM → Prop} (h : Q (nI (most φ)) M) : fc_X2_mostArguments T a M Q := by
  obtain ⟨a1, a2, a3, a4, r, a5, a6, a7, a8⟩ := hx
  unfold fc_X2_mostArguments fc_X2_mostArguments_b16
  unfold most at h
  rw [a3, a4]
  refine ⟨a1, fun c => ?_, fun c => ?_⟩
  · rw [bI_0] at c
    rw [if_neg (by rw [c]; decide)] at h; exact h
  · rw [bI_0] at c
    rw [if_pos (by cases e : lastV φ with
      | true => rfl
      | false => exact absurd e c)] at h
    exact h
theorem most_le {φ : List Ag} (h : φ.length ≤ 5) : most φ ≤ 8 := by unfold most; split <;> omega
theorem s_X2_can (hx : fmc nm T M a φ) {n : Nat} (hn : n < 1000) {Q : Int32 → CM → Prop} (h1 : takes φ n → Q 1 M) (h0 : ¬ takes φ n → Q 0 M) : fc_X2_canBeCalledWith T a (nI n) M Q := by
  have hl : least φ ≤ φ.length := lstF_le φ _
  have hm := most_le hx.2.1
  have h5 := hx.2.1
  unfold fc_X2_canBeCalledWith fc_X2_canBeCalledWith_b20 fc_X2_canBeCalledWith_b21
  refine ⟨hx.1, s_X2_least hx (pk_lt n (least φ) (fun c => ⟨nZ_0, h0 (fun z => by unfold takes at z; omega)⟩) (fun c => s_X2_most hx (pk_lt (most φ) n (fun d => ⟨nZ_0, h0 (fun z => by unfold takes at z; omega)⟩) (fun d => ⟨nZ_1, h1 ⟨c, d⟩⟩))))⟩
end FRM
/-! an operation: the forms fs that it has, and the gathered ones gs; O 0: the object, O 1: the row of its forms, O 2: the row of the gathered -/
def SO (T : LY) (M : CM) (O : Nat → Nat) : Prop := tg T (O 0) = 6 ∧ cR M 50 (O 0) = some (O 1) ∧ tg T (O 1) = 26 ∧ ln T (O 1) = 6 ∧ cR M 52 (O 0) = some (O 2) ∧ tg T (O 2) = 26 ∧ ln T (O 2) = 7 ∧ O 1 ≠ O 2
def VF (nm : Nat → Nat) (T : LY) (M : CM) (r : Nat) (fs : List (Nat × List Ag)) : Prop := ∀ i, i < fs.length → xR M r i = some (fs.getD i (0, [])).1 ∧ fmc nm T M (fs.getD i (0, [])).1 (fs.getD i (0, [])).2
def VO (nm : Nat → Nat) (T : LY) (M : CM) (O : Nat → Nat) (fs gs : List (Nat × List Ag)) : Prop := fs.length ≤ 6 ∧ cI M 51 (O 0) = nI fs.length ∧ VF nm T M (O 1) fs ∧ gs.length ≤ 7 ∧ cI M 53 (O 0) = nI gs.length ∧ VF nm T M (O 2) gs
section OPR
variable {nm : Nat → Nat} {T : LY} {M : CM} {O : Nat → Nat} {fs gs : List (Nat × List Ag)}
theorem s_X5_formAt (hS : SO T M O) (hV : VO nm T M O fs gs) {i : Nat} (hi : i < 1000) {Q : Option Nat → CM → Prop} (h1 : i < fs.length → Q (some (fs.getD i (0, [])).1) M) (h0 : ¬ i < fs.length → Q none M) : fc_X5_formAt T (O 0) (nI i) M Q := by
  obtain ⟨s1, s2, s3, s4, -⟩ := hS
  obtain ⟨v1, v2, v3, -⟩ := hV
  unfold fc_X5_formAt fc_X5_formAt_b30 fc_X5_formAt_b31
  rw [v2]
  refine br_f (nI_pos (by omega)) ⟨s1, pk_le fs.length i (fun c => h0 (by omega)) (fun c => ⟨O 1, s2, s3, ?_⟩)⟩
  rw [s4]
  refine br_f (nI_ge (by omega) (by omega)) ⟨vp_in_nI (by omega) (by omega), ?_⟩
  rw [nI_clamp (by omega), (v3 i c).1]
  exact h1 c
theorem s_X5_ableAt (hS : SO T M O) (hV : VO nm T M O fs gs) {i : Nat} (hi : i < 1000) {Q : Option Nat → CM → Prop} (h1 : i < gs.length → Q (some (gs.getD i (0, [])).1) M) (h0 : ¬ i < gs.length → Q none M) : fc_X5_ableAt T (O 0) (nI i) M Q := by
  obtain ⟨s1, -, -, -, s2, s3, s4, -⟩ := hS
  obtain ⟨-, -, -, v1, v2, v3⟩ := hV
  unfold fc_X5_ableAt fc_X5_ableAt_b30 fc_X5_ableAt_b31
  rw [v2]
  refine br_f (nI_pos (by omega)) ⟨s1, pk_le gs.length i (fun c => h0 (by omega)) (fun c => ⟨O 2, s2, s3, ?_⟩)⟩
  rw [s4]
  refine br_f (nI_ge (by omega) (by omega)) ⟨vp_in_nI (by omega) (by omega), ?_⟩
  rw [nI_clamp (by omega), (v3 i c).1]
  exact h1 c
/-- the argument of a gathered form that value k goes to -/
def gA (gs : List (Nat × List Ag)) (i k : Nat) : Ag := (gs.getD i (0, [])).2.getD (argI (gs.getD i (0, [])).2 k) dA
/-- every gathered form has an argument for value k -/
def gOk (gs : List (Nat × List Ag)) (k : Nat) : Prop := ∀ i, i < gs.length → argI (gs.getD i (0, [])).2 k < (gs.getD i (0, [])).2.length
theorem s_X5_argumentAt (hS : SO T M O) (hV : VO nm T M O fs gs) {i k : Nat} (hi : i < gs.length) (hk : k < 1000) (hg : gOk gs k) {Q : Option Nat → CM → Prop} (h1 : ∀ q, arc nm T M q (gA gs i k) → Q (some q) M) : fc_X5_argumentAt T (O 0) (nI i) (nI k) M Q := by
  have h7 := hV.2.2.2.1
  unfold fc_X5_argumentAt fc_X5_argumentAt_b19
  refine ⟨hS.1, s_X5_ableAt hS hV (by omega) (fun _ => ⟨fun _ => ⟨_, rfl, ?_, ?_⟩, fun q => (by cases q)⟩) (fun c => absurd hi c)⟩
  · exact (hV.2.2.2.2.2 i hi).2.1
  · exact s_X2_argumentAt (hV.2.2.2.2.2 i hi).2 hk (fun q _ z => h1 q z) (fun c => absurd (hg i hi) c)
theorem s_X5_typeAt (hS : SO T M O) (hV : VO nm T M O fs gs) {i k : Nat} (hi : i < gs.length) (hk : k < 1000) (hg : gOk gs k) {Q : Option Nat → CM → Prop} (h1 : ∀ q x, tyc nm T M q (gA gs i k).2.2.1 x → Q (some q) M) : fc_X5_typeAt T (O 0) (nI i) (nI k) M Q := by
  unfold fc_X5_typeAt fc_X5_typeAt_b19
  refine ⟨hS.1, s_X5_argumentAt hS hV hi hk hg (fun q z => ⟨fun _ => ⟨q, rfl, z.1, ?_⟩, fun q => (by cases q)⟩)⟩
  obtain ⟨-, -, -, ta, e, z⟩ := z
  rw [e]
  rcases z with ⟨-, z⟩ | ⟨_, _, -, z, -⟩
  · exact h1 ta _ z
  · exact h1 ta _ z
end OPR
