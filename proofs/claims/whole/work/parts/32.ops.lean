def gth (n : Nat) (l : List (Nat × List Ag)) : List (Nat × List Ag) := l.filter (fun p => tkB p.2 n)
noncomputable def clsF (fs : List (Nat × List Ag)) (p : Nat × List Ag) : Nat → Nat → Int32
  | 0, _ => -1
  | m + 1, n => if tkB p.2 n = true ∧ 2 ≤ (gth n (fs ++ [p])).length ∧ decN (gth n (fs ++ [p])) n = -1 then nI n else clsF fs p m (n + 1)
theorem gth_ok {n k : Nat} {l : List (Nat × List Ag)} (hk : k < n) : gOk (gth n l) k := by
  intro i hi
  have h1 : (gth n l).getD i (0, []) ∈ gth n l := by
    rw [List.getD_eq_getElem?_getD, List.getElem?_eq_getElem hi]; exact List.getElem_mem hi
  have h2 := (List.mem_filter.mp h1).2
  exact argI_lt (tkB_iff.mp h2) hk
theorem gth_len (n : Nat) (l : List (Nat × List Ag)) : (gth n l).length ≤ l.length := List.length_filter_le _ _
theorem gth_snoc (n : Nat) (l : List (Nat × List Ag)) (p : Nat × List Ag) : gth n (l ++ [p]) = if tkB p.2 n = true then gth n l ++ [p] else gth n l := by
  unfold gth
  rw [List.filter_append]
  by_cases d : tkB p.2 n = true
  · rw [if_pos d]; simp [List.filter, d]
  · rw [if_neg d]; simp [List.filter, d]
section OPR
variable {nm : Nat → Nat} {T : LY} {M : CM} {O : Nat → Nat} {fs gs : List (Nat × List Ag)}
theorem s_X5_gatherOne (hS : SO T M O) (hV : VO nm T M O fs gs) {p : Nat × List Ag} (hp : fmc nm T M p.1 p.2) {n : Nat} (hn : n < 1000) (hl : gs.length < 7) {Q : CM → Prop} (h : ∀ M', kG O M M' → VO nm T M' O fs (if tkB p.2 n = true then gs ++ [p] else gs) → Q M') : fc_X5_gatherOne T (O 0) (nI n) (some p.1) M Q := by
  obtain ⟨s1, s2, s3, s4, s5, s6, s7, s8⟩ := hS
  obtain ⟨v1, v2, v3, v4, v5, v6⟩ := id hV
  unfold fc_X5_gatherOne fc_X5_gatherOne_b51
  refine ⟨fun q => (by cases q), fun _ => ⟨_, rfl, hp.1, s_X2_can hp hn (fun c => ⟨fun q => absurd q (by decide), fun _ => ⟨s1, ?_⟩⟩) (fun c => ⟨fun _ => ?_, fun q => absurd rfl q⟩)⟩⟩
  · rw [v5]
    refine br_f (nI_pos (by omega)) ⟨O 2, s5, s6, ?_⟩
    rw [s7]
    refine br_f (nI_ge (by omega) (by omega)) ⟨vp_in_nI (by omega) (by omega), nm_e (nm_e ?_)⟩
    have e53 : cI (yR M (O 2) (nI gs.length).toNatClampNeg (some p.1)) 53 (O 0) = nI gs.length := v5
    rw [e53, nI_1, nI_clamp (by omega)]
    have k1 := kG_tr (kG_yR O M gs.length (some p.1)) (kG_sI O _ (nI (gs.length + 1)))
    have kt := kG_kT s6 k1
    refine h _ k1 ?_
    rw [if_pos (tkB_iff.mpr c)]
    refine ⟨v1, ?_, fun i hi => ⟨?_, kT_fmc kt (v3 i hi).2⟩, ?_, ?_, fun i hi => ?_⟩
    · rw [cI_sI, if_neg (fun z => by omega)]; exact v2
    · rw [k1.2.2.2.2.2.2 _ _ s8]; exact (v3 i hi).1
    · rw [List.length_append, List.length_singleton]; omega
    · rw [cI_sI, if_pos ⟨rfl, rfl⟩, List.length_append]; rfl
    · rw [List.length_append, List.length_singleton] at hi
      show xR (yR M (O 2) gs.length (some p.1)) (O 2) i = _ ∧ _
      rw [xR_yR]
      by_cases y : i = gs.length
      · subst y
        have e : (gs ++ [p]).getD gs.length (0, []) = p := by simp
        rw [if_pos ⟨rfl, rfl⟩, e]
        exact ⟨rfl, kT_fmc kt hp⟩
      · have e : (gs ++ [p]).getD i (0, []) = gs.getD i (0, []) := by
          rw [List.getD_eq_getElem?_getD, List.getD_eq_getElem?_getD, List.getElem?_append_left (by omega)]
        rw [if_neg (fun z => y z.2), e]
        exact ⟨(v6 i (by omega)).1, kT_fmc kt (v6 i (by omega)).2⟩
  · refine h M (kG_rf O M) ?_
    rw [if_neg (fun z => c (tkB_iff.mp z))]
    exact hV
theorem gatherLoop (hS : SO T M O) (hV : VO nm T M O fs gs) {n : Nat} (hn : n < 1000) (r : Option Nat) {Q : CM → Prop} (h : ∀ M', kG O M M' → VO nm T M' O fs (gth n fs) → fc_X5_gatherOne T (O 0) (nI n) r M' (fun M3 => Q M3)) : fc_X5_gather T (O 0) (nI n) r M Q := by
  have h6 := hV.1
  have k : ∀ m i N, i + m = fs.length → kG O M N → VO nm T N O fs (gth n (fs.take i)) → fc_X5_gather_l7 T (O 0) Q (m + 1) (nI n) r (nI i) N := by
    intro m
    induction m with
    | zero =>
      intro i N hi k v
      show fc_X5_gather_c7 T (O 0) Q _ _ _ _ N
      unfold fc_X5_gather_c7
      rw [v.2.1]
      refine ⟨hS.1, br_t (nI_le (by omega) (by omega)) (h N k ?_)⟩
      rw [List.take_of_length_le (by omega)] at v; exact v
    | succ m ih =>
      intro i N hi k v
      show fc_X5_gather_c7 T (O 0) Q (fc_X5_gather_l7 T (O 0) Q (m + 1)) _ _ _ N
      have hlen : (gth n (fs.take i)).length ≤ i := Nat.le_trans (gth_len _ _) (by rw [List.length_take]; omega)
      unfold fc_X5_gather_c7
      rw [v.2.1]
      refine ⟨hS.1, br_f (nI_ge (by omega) (by omega)) (s_X5_formAt (kG_SO k hS) v (by omega) (fun c => ?_) (fun c => by omega))⟩
      refine s_X5_gatherOne (kG_SO k hS) v (p := fs.getD i (0, [])) (v.2.2.1 i c).2 hn (by omega) (fun M' k' v' => nm_e ?_)
      rw [nI_1]
      refine ih (i + 1) M' (by omega) (kG_tr k k') ?_
      rw [take_g (0, []) c, gth_snoc]
      exact v'
  have k0 := kG_sI O M 0
  unfold fc_X5_gather
  refine ⟨hS.1, nm_e ⟨fs.length + 1, k fs.length 0 _ (by omega) k0 ?_⟩⟩
  have kt := kG_kT hS.2.2.2.2.2.1 k0
  refine ⟨hV.1, ?_, fun i hi => ⟨(hV.2.2.1 i hi).1, kT_fmc kt (hV.2.2.1 i hi).2⟩, Nat.zero_le _, ?_, fun i hi => absurd hi (Nat.not_lt_zero i)⟩
  · rw [cI_sI, if_neg (fun z => by omega)]; exact hV.2.1
  · rw [cI_sI, if_pos ⟨rfl, rfl⟩]; rfl
theorem s_X5_gather0 (hS : SO T M O) (hV : VO nm T M O fs gs) {n : Nat} (hn : n < 1000) {Q : CM → Prop} (h : ∀ M', kG O M M' → VO nm T M' O fs (gth n fs) → Q M') : fc_X5_gather T (O 0) (nI n) none M Q := by
  refine gatherLoop hS hV hn none (fun M' k v => ?_)
  unfold fc_X5_gatherOne fc_X5_gatherOne_b51
  exact ⟨fun _ => h M' k v, fun q => absurd rfl q⟩
theorem s_X5_gather1 (hS : SO T M O) (hV : VO nm T M O fs gs) {p : Nat × List Ag} (hp : fmc nm T M p.1 p.2) {n : Nat} (hn : n < 1000) {Q : CM → Prop} (h : ∀ M', kG O M M' → VO nm T M' O fs (gth n (fs ++ [p])) → Q M') : fc_X5_gather T (O 0) (nI n) (some p.1) M Q := by
  refine gatherLoop hS hV hn (some p.1) (fun M' k v => ?_)
  have h6 := hV.1
  have hlen := gth_len n fs
  refine s_X5_gatherOne (kG_SO k hS) v (kT_fmc (kG_kT hS.2.2.2.2.2.1 k) hp) hn (by omega) (fun M2 k2 v2 => h M2 (kG_tr k k2) ?_)
  rw [gth_snoc]
  exact v2
theorem s_X5_clash (hnm : ∀ i j, i < 10 → j < 10 → nm i = nm j → i = j) (hS : SO T M O) (hV : VO nm T M O fs gs) {p : Nat × List Ag} (hp : fmc nm T M p.1 p.2) {Q : Int32 → CM → Prop} (h : ∀ M' gs', kG O M M' → VO nm T M' O fs gs' → Q (clsF fs p 9 0) M') : fc_X5_clashOf nm T (O 0) (some p.1) M Q := by
  have k : ∀ m n N gs', n + m = 9 → kG O M N → VO nm T N O fs gs' → clsF fs p m n = clsF fs p 9 0 → fc_X5_clashOf_l2 nm T (O 0) Q (m + 1) (some p.1) (nI n) N := by
    intro m
    induction m with
    | zero =>
      intro n N gs' hn k v e
      show fc_X5_clashOf_c2 nm T (O 0) Q _ _ _ N
      unfold fc_X5_clashOf_c2
      refine br_t (nI_lt (a := 8) (by omega) (by omega)) ?_
      have := h N gs' k v
      rw [← e] at this; exact this
    | succ m ih =>
      intro n N gs' hn k v e
      show fc_X5_clashOf_c2 nm T (O 0) Q (fc_X5_clashOf_l2 nm T (O 0) Q (m + 1)) _ _ N
      rw [clsF] at e
      have hpN := kT_fmc (kG_kT hS.2.2.2.2.2.1 k) hp
      unfold fc_X5_clashOf_c2 fc_X5_clashOf_b41
      refine br_f (nI_nlt (b := n) (a := 8) (by omega) (by omega)) ⟨_, rfl, hp.1, s_X2_can hpN (by omega) (fun c => ⟨fun q => absurd q (by decide), fun _ => ⟨hS.1, s_X5_gather1 (kG_SO k hS) v hpN (by omega) (fun N2 k2 v2 => ?_)⟩⟩) (fun c => ⟨fun _ => nm_e ?_, fun q => absurd rfl q⟩)⟩
      · rw [v2.2.2.2.2.1]
        have hl := v2.2.2.2.1
        refine pk_le (gth n (fs ++ [p])).length 1 (fun d => nm_e ?_) (fun d => ?_)
        · rw [if_neg (fun z => by omega)] at e
          rw [nI_1]
          exact ih (n + 1) N2 _ (by omega) (kG_tr k k2) v2 e
        · refine s_X5_deciding hnm (kG_SO (kG_tr k k2) hS) v2 (by omega) (fun j hj => gth_ok hj) ⟨fun f => nm_e ?_, fun f => ?_⟩
          · rw [if_neg (fun z => f z.2.2)] at e
            rw [nI_1]
            exact ih (n + 1) N2 _ (by omega) (kG_tr k k2) v2 e
          · rw [if_pos ⟨tkB_iff.mpr c, d, f⟩] at e
            have := h N2 _ (kG_tr k k2) v2
            rw [← e] at this; exact this
      · rw [if_neg (fun z => c (tkB_iff.mp z.1))] at e
        rw [nI_1]
        exact ih (n + 1) N gs' (by omega) k v e
  exact ⟨10, k 9 0 M gs (by omega) (kG_rf O M) hV rfl⟩
end OPR
/-! the choice of a form by the value of the deciding argument -/
def orE (a b : Option Nat) : Option Nat := match a with
  | some x => some x
  | none => b
def oA (gs : List (Nat × List Ag)) (r : Option Nat) : Option Nat := r.map (fun i => (gs.getD i (0, [])).1)
def fM (gs : List (Nat × List Ag)) (k : Nat) : Option Nat := fstI (fun i => miss (gA gs i k)) gs.length 0
def fN (gs : List (Nat × List Ag)) (k : Nat) : Option Nat := fstI (fun i => (gA gs i k).2.2.1.2.2.1) gs.length 0
def fS (gs : List (Nat × List Ag)) (k : Nat) (s : Int32) : Option Nat := fstI (fun i => decide (nSort (gA gs i k).2.2.1.1 = s)) gs.length 0
def srt (kd : Int32) : Int32 := if kd = 6 then 4 else if kd = 2 then 1 else if kd = 4 then 2 else 3
def chz (gs : List (Nat × List Ag)) (k : Nat) (kd : Int32) : Option Nat := orE (if kd = 7 then fM gs k else none) (orE (if kd = 7 ∨ kd = 8 then fN gs k else none) (orE (fS gs k (srt kd)) (orE (fS gs k 3) (orE (fS gs k 2) (fS gs k 1)))))
section CHZ
variable {nm : Nat → Nat} {T : LY} {M : CM} {O : Nat → Nat} {fs gs : List (Nat × List Ag)} {G : Nat → Nat → Nat} {I : Nat → Nat → Int32} {J : Nat → Int64} {D : Nat → UInt64} {W : Nat → List Int32} {t k : Nat}
theorem s_X5_fM (hS : SO T M O) (hV : VO nm T M O fs gs) (hk : k < 1000) (hg : gOk gs k) {Q : Option Nat → CM → Prop} (h : Q (oA gs (fM gs k)) M) : fc_X5_firstThatMayMiss T (O 0) (nI k) M Q :=
  s_X5_firstMiss hS hV hk hg (fun i _ e => by rw [fM, e] at h; exact h) (fun e => by rw [fM, e] at h; exact h)
theorem s_X5_fN (hS : SO T M O) (hV : VO nm T M O fs gs) (hk : k < 1000) (hg : gOk gs k) {Q : Option Nat → CM → Prop} (h : Q (oA gs (fN gs k)) M) : fc_X5_firstNullable T (O 0) (nI k) M Q :=
  s_X5_firstNull hS hV hk hg (fun i _ e => by rw [fN, e] at h; exact h) (fun e => by rw [fN, e] at h; exact h)
theorem s_X5_fS (hnm : ∀ i j, i < 10 → j < 10 → nm i = nm j → i = j) (hS : SO T M O) (hV : VO nm T M O fs gs) (hk : k < 1000) (hg : gOk gs k) (s : Int32) {Q : Option Nat → CM → Prop} (h : Q (oA gs (fS gs k s)) M) : fc_X5_firstOfSort nm T (O 0) (nI k) s M Q :=
  s_X5_firstSort hnm hS hV hk hg s (fun i _ e => by rw [fS, e] at h; exact h) (fun e => by rw [fS, e] at h; exact h)
theorem s_X5_choose (hnm : ∀ i j, i < 10 → j < 10 → nm i = nm j → i = j) (hS : SO T M O) (hV : VO nm T M O fs gs) (hk : k < 1000) (hg : gOk gs k) (hSA : SA G T M) (hVA : VA G M I J D W) (ht : t < 144) {Q : Option Nat → CM → Prop} (h : Q (oA gs (chz gs k (I 80 t))) M) : fc_X5_choose nm T (O 0) (nI k) (some (G 0 t)) M Q := by
  have e80 := (hVA.1 t ht).1.1
  have t9 := (hSA.2.1 t ht).1
  have b78 : ∀ r, Q (oA gs (orE r (fS gs k 1))) M → fc_X5_choose_b78 nm T (O 0) Q (nI k) (oA gs r) M := by
    intro r q
    unfold fc_X5_choose_b78 fc_X5_choose_b92
    cases r with
    | none => exact ⟨fun _ => ⟨hS.1, s_X5_fS hnm hS hV hk hg 1 q⟩, fun z => absurd rfl z⟩
    | some x => exact ⟨fun z => (by cases z), fun _ => q⟩
  have b67 : ∀ r, Q (oA gs (orE r (orE (fS gs k 2) (fS gs k 1)))) M → fc_X5_choose_b67 nm T (O 0) Q (nI k) (oA gs r) M := by
    intro r q
    unfold fc_X5_choose_b67
    cases r with
    | none => exact ⟨fun z => absurd rfl z, fun _ => ⟨hS.1, s_X5_fS hnm hS hV hk hg 2 (b78 _ q)⟩⟩
    | some x => exact ⟨fun _ => b78 (some x) q, fun z => by cases z⟩
  have b56 : ∀ r, Q (oA gs (orE r (orE (fS gs k 3) (orE (fS gs k 2) (fS gs k 1))))) M → fc_X5_choose_b56 nm T (O 0) Q (nI k) (oA gs r) M := by
    intro r q
    unfold fc_X5_choose_b56
    cases r with
    | none => exact ⟨fun z => absurd rfl z, fun _ => ⟨hS.1, s_X5_fS hnm hS hV hk hg 3 (b67 _ q)⟩⟩
    | some x => exact ⟨fun _ => b67 (some x) q, fun z => by cases z⟩
  have b42 : ∀ r, Q (oA gs (orE r (orE (fS gs k (srt (I 80 t))) (orE (fS gs k 3) (orE (fS gs k 2) (fS gs k 1)))))) M → fc_X5_choose_b42 nm T (O 0) Q (nI k) (some (G 0 t)) (oA gs r) M := by
    intro r q
    unfold fc_X5_choose_b42 fc_X5_sortOf fc_X5_sortOf_b34
    cases r with
    | none =>
      refine ⟨fun z => absurd rfl z, fun _ => ⟨_, rfl, t9, ?_⟩⟩
      rw [e80]
      have fin : ∀ s, s = srt (I 80 t) → (tg T (O 0) = 6 ∧ fc_X5_firstOfSort nm T (O 0) (nI k) s M (fun r22 M21 => fc_X5_choose_b56 nm T (O 0) Q (nI k) r22 M21)) := fun s e => ⟨hS.1, s_X5_fS hnm hS hV hk hg s (b56 _ (by rw [e]; exact q))⟩
      refine ⟨fun c => ⟨fun d => ⟨fun f => fin 3 ?_, fun f => fin 2 ?_⟩, fun d => fin 1 ?_⟩, fun c => fin 4 ?_⟩
      · unfold srt; rw [if_neg c, if_neg d, if_neg f]
      · unfold srt; rw [if_neg c, if_neg d, if_pos f]
      · unfold srt; rw [if_neg c, if_pos d]
      · unfold srt; rw [if_pos c]
    | some x => exact ⟨fun _ => b56 (some x) q, fun z => by cases z⟩
  have b24 : ∀ r, Q (oA gs (orE r (orE (if I 80 t = 7 ∨ I 80 t = 8 then fN gs k else none) (orE (fS gs k (srt (I 80 t))) (orE (fS gs k 3) (orE (fS gs k 2) (fS gs k 1))))))) M → fc_X5_choose_b24 nm T (O 0) Q (nI k) (some (G 0 t)) (oA gs r) M := by
    intro r q
    unfold fc_X5_choose_b24
    cases r with
    | none =>
      refine ⟨fun z => absurd rfl z, fun _ => ⟨_, rfl, t9, s_X8_isUN hSA hVA ht (fun c => ⟨fun z => absurd z (by decide), fun _ => ⟨hS.1, s_X5_fN hS hV hk hg ?_⟩⟩) (fun c => ⟨fun _ => ?_, fun z => absurd rfl z⟩)⟩⟩
      · rw [if_pos c] at q; exact b42 _ q
      · rw [if_neg c] at q; exact b42 none q
    | some x => exact ⟨fun _ => b42 (some x) q, fun z => by cases z⟩
  unfold fc_X5_choose
  refine ⟨fun _ => ⟨_, rfl, t9, ?_⟩, fun z => by cases z⟩
  rw [e80]
  unfold chz at h
  refine ⟨fun c => ?_, fun c => ⟨hS.1, s_X5_fM hS hV hk hg ?_⟩⟩
  · rw [if_neg c] at h; exact b24 none h
  · rw [if_pos c] at h; exact b24 _ h
end CHZ
