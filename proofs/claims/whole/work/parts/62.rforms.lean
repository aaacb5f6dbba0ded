/-! bounds and choice -/
abbrev pF (l : List (Nat × List Ag)) (i : Nat) : List Ag := (l.getD i (0, [])).2
theorem snd_getD (l : List (Nat × List Ag)) (i : Nat) : (l.map Prod.snd).getD i [] = pF l i := by
  show _ = (l.getD i (0, [])).2
  rw [List.getD_eq_getElem?_getD, List.getD_eq_getElem?_getD, List.getElem?_map]
  cases l[i]? <;> rfl
theorem rOp_fm {N : RM} {o : Nat} {l : List (Nat × List Ag)} (h : rOp N o (l.map Prod.snd)) : l.length ≤ 6 ∧ rA N 4 o = nI l.length ∧ ∀ i, i < l.length → rFm N (6 * o + i) (pF l i) := by
  obtain ⟨a, b, c⟩ := h
  rw [List.length_map] at a b c
  exact ⟨a, b, fun i hi => by rw [← snd_getD]; exact c i hi⟩
def enc : Option Nat → Int32
  | none => -1
  | some i => nI i
def fwP (P : Ag → Bool) (l : List (Nat × List Ag)) (n d : Nat) : Option Nat := fstI (fun i => tkB (pF l i) n && P (aOf (pF l i) d)) l.length 0
def sP (s : Int32) (g : Ag) : Bool := decide (nSort g.2.2.1.1 = s)
def nP (g : Ag) : Bool := g.2.2.1.2.2.1
def chzR (l : List (Nat × List Ag)) (n d : Nat) (kd : Int32) : Option Nat := orE (if kd = 7 then fwP miss l n d else none) (orE (if kd = 7 ∨ kd = 8 then fwP nP l n d else none) (orE (fwP (sP (srt kd)) l n d) (orE (fwP (sP 3) l n d) (orE (fwP (sP 2) l n d) (fwP (sP 1) l n d)))))
section RBD
variable {N : RM} {o n d : Nat} {l : List (Nat × List Ag)}
theorem n1_lt {k : Nat} (h : k < 1000) : (-1 : Int32) < nI k ∧ ¬ (-1 : Int32) = nI k ∧ ¬ nI k = -1 ∧ ¬ nI k < 0 ∧ ¬ nI k ≤ -1 := by
  have e : (-1 : Int32).toInt = -1 := rfl
  refine ⟨?_, fun z => ?_, fun z => ?_, nI_pos (by omega), fun z => ?_⟩
  · rw [Int32.lt_iff_toInt_lt, nI_toInt (by omega), e]; omega
  · have := congrArg Int32.toInt z
    rw [nI_toInt (by omega), e] at this; omega
  · have := congrArg Int32.toInt z
    rw [nI_toInt (by omega), e] at this; omega
  · rw [Int32.le_iff_toInt_le, nI_toInt (by omega), e] at z; omega
theorem r_boundM (ho : o < 6) (hO : rOp N o (l.map Prod.snd)) {Q : Int32 → RM → Prop} (q : Q (mostO l) N) : fm_bound (nI o) 1 N Q := by
  obtain ⟨l6, e4, hF⟩ := rOp_fm hO
  have io := vp_in_nI (n := o) (N := 6) ho (by omega)
  have lp : ∀ m i, i + m = l.length → (mostO (l.take i) = -1 ∨ ∃ k, k ≤ 8 ∧ mostO (l.take i) = nI k) → fm_bound_l5 Q (m + 1) (nI o) 1 (mostO (l.take i)) (nI i) N := by
    intro m
    induction m with
    | zero =>
      intro i hi hv
      show fm_bound_c5 Q _ _ _ _ _ N
      unfold fm_bound_c5
      rw [nI_clamp (by omega), e4]
      rw [List.take_of_length_le (by omega)]
      exact ⟨io, br_t (nI_le (by omega) (by omega)) q⟩
    | succ m ih =>
      intro i hi hv
      show fm_bound_c5 Q (fm_bound_l5 Q (m + 1)) _ _ _ _ N
      have hfi := hF i (by omega)
      have m8 := most_le hfi.1
      have e := ih (i + 1) (by omega)
      have em : mostO (l.take (i + 1)) = (if mostO (l.take i) < nI (most (pF l i)) then nI (most (pF l i)) else mostO (l.take i)) := by
        rw [take_g (0, []) (show i < l.length by omega), mostO, List.foldl_append]; rfl
      unfold fm_bound_c5 fm_bound_b45 fm_bound_b75 fm_bound_b70 fm_bound_b76
      rw [nI_clamp (by omega), e4, m6, nI_add]
      refine ⟨io, br_f (nI_ge (by omega) (by omega)) ⟨fun z => absurd z (by decide), fun _ => r_most hfi (by omega) ?_⟩⟩
      have new : mostO (l.take i) < nI (most (pF l i)) → ∀ x1 : Int32, x1 = nI i + 1 → fm_bound_l5 Q (m + 1) (nI o) 1 (nI (most (pF l i))) x1 N := fun c => nm_r (nI_1 i) (by rw [em, if_pos c] at e; exact e (Or.inr ⟨_, m8, rfl⟩))
      have old : ¬ mostO (l.take i) < nI (most (pF l i)) → ∀ x1 : Int32, x1 = nI i + 1 → fm_bound_l5 Q (m + 1) (nI o) 1 (mostO (l.take i)) x1 N := fun c => nm_r (nI_1 i) (by rw [em, if_neg c] at e; exact e hv)
      rcases hv with hv | ⟨k, k8, hv⟩
      · rw [hv] at new old ⊢
        exact ⟨fun _ => new (n1_lt (by omega)).1, fun z => absurd (by decide) z⟩
      · rw [hv] at new old ⊢
        refine ⟨fun z => absurd z (nI_pos (by omega)), fun _ => ⟨fun z => absurd z (by decide), fun _ => ⟨fun z => old (fun y => ?_), fun z => new ?_⟩⟩⟩
        · rw [nI_leI (by omega) (by omega)] at z
          rw [nI_ltI (by omega) (by omega)] at y; omega
        · rw [nI_leI (by omega) (by omega)] at z
          rw [nI_ltI (by omega) (by omega)]; omega
  unfold fm_bound
  exact nm_e ⟨l.length + 1, lp l.length 0 (by omega) (Or.inl rfl)⟩
theorem r_boundL (ho : o < 6) (hO : rOp N o (l.map Prod.snd)) {Q : Int32 → RM → Prop} (q : Q (leastO l) N) : fm_bound (nI o) 0 N Q := by
  obtain ⟨l6, e4, hF⟩ := rOp_fm hO
  have io := vp_in_nI (n := o) (N := 6) ho (by omega)
  have lp : ∀ m i, i + m = l.length → (leastO (l.take i) = -1 ∨ ∃ k, k ≤ 8 ∧ leastO (l.take i) = nI k) → fm_bound_l5 Q (m + 1) (nI o) 0 (leastO (l.take i)) (nI i) N := by
    intro m
    induction m with
    | zero =>
      intro i hi hv
      show fm_bound_c5 Q _ _ _ _ _ N
      unfold fm_bound_c5
      rw [nI_clamp (by omega), e4]
      rw [List.take_of_length_le (by omega)]
      exact ⟨io, br_t (nI_le (by omega) (by omega)) q⟩
    | succ m ih =>
      intro i hi hv
      show fm_bound_c5 Q (fm_bound_l5 Q (m + 1)) _ _ _ _ N
      have hfi := hF i (by omega)
      have m8 : least (pF l i) ≤ 8 := by have := lstF_le (pF l i) (pF l i).length; have := hfi.1; unfold least; omega
      have e := ih (i + 1) (by omega)
      have em : leastO (l.take (i + 1)) = (if leastO (l.take i) = -1 then nI (least (pF l i)) else if nI (least (pF l i)) < leastO (l.take i) then nI (least (pF l i)) else leastO (l.take i)) := by
        rw [take_g (0, []) (show i < l.length by omega), leastO, List.foldl_append]; rfl
      unfold fm_bound_c5 fm_bound_b45 fm_bound_b75 fm_bound_b70 fm_bound_b76
      rw [nI_clamp (by omega), e4, m6, nI_add]
      refine ⟨io, br_f (nI_ge (by omega) (by omega)) ⟨fun _ => r_least hfi (by omega) ?_, fun z => absurd rfl z⟩⟩
      rcases hv with hv | ⟨k, k8, hv⟩
      · rw [hv] at em ⊢
        rw [if_pos rfl] at em
        rw [em] at e
        exact ⟨fun _ => nm_r (nI_1 i) (e (Or.inr ⟨_, m8, rfl⟩)), fun z => absurd (by decide) z⟩
      · rw [hv] at em ⊢
        rw [if_neg (n1_lt (by omega)).2.2.1] at em
        refine ⟨fun z => absurd z (nI_pos (by omega)), fun _ => ⟨fun _ => ⟨fun z => nm_r (nI_1 i) ?_, fun z => nm_r (nI_1 i) ?_⟩, fun z => absurd rfl z⟩⟩
        · rw [nI_leI (by omega) (by omega)] at z
          rw [if_neg (fun y => by rw [nI_ltI (by omega) (by omega)] at y; omega)] at em
          rw [em] at e
          exact e (Or.inr ⟨k, k8, rfl⟩)
        · rw [nI_leI (by omega) (by omega)] at z
          rw [if_pos ((nI_ltI (by omega) (by omega)).mpr (by omega))] at em
          rw [em] at e
          exact e (Or.inr ⟨_, m8, rfl⟩)
  unfold fm_bound
  exact nm_e ⟨l.length + 1, lp l.length 0 (by omega) (Or.inl rfl)⟩
/-- what a search for a form looks at -/
def wP (w : Nat) (g : Ag) : Bool := if w = 0 then miss g else if w = 1 then nP g else sP (nI (w - 1)) g
theorem fam_w : ∀ i, i < 10 → ∀ w, w < 6 → 2 ≤ w → (fam i = nI w - 2 ↔ nSort i = nI (w - 1)) := by decide +kernel
theorem r_formWith (ho : o < 6) (hO : rOp N o (l.map Prod.snd)) (hn : n ≤ 8) (hd : d < n) {w : Nat} (hw : w < 6) {Q : Int32 → RM → Prop} (q : Q (enc (fwP (wP w) l n d)) N) : fm_formWith (nI o) (nI n) (nI d) (nI w) N Q := by
  obtain ⟨l6, e4, hF⟩ := rOp_fm hO
  have io := vp_in_nI (n := o) (N := 6) ho (by omega)
  have lp : ∀ m i, i + m = l.length → fstI (fun i => tkB (pF l i) n && wP w (aOf (pF l i) d)) m i = fwP (wP w) l n d → fm_formWith_l3 Q (m + 1) (nI o) (nI n) (nI d) (nI w) (nI i) N := by
    intro m
    induction m with
    | zero =>
      intro i hi e
      show fm_formWith_c3 Q _ _ _ _ _ _ N
      unfold fm_formWith_c3
      rw [nI_clamp (by omega), e4]
      rw [← e] at q
      exact ⟨io, br_t (nI_le (by omega) (by omega)) q⟩
    | succ m ih =>
      intro i hi e
      show fm_formWith_c3 Q (fm_formWith_l3 Q (m + 1)) _ _ _ _ _ N
      have hfi := hF i (by omega)
      have h5 := hfi.1
      rw [fstI] at e
      unfold fm_formWith_c3 fm_formWith_b70 fm_formWith_b120 fm_formWith_b130
      rw [nI_clamp (by omega), e4, m6, nI_add]
      have go : tkB (pF l i) n = false ∨ wP w (aOf (pF l i) d) = false → ∀ x1 : Int32, x1 = nI i + 1 → fm_formWith_l3 Q (m + 1) (nI o) (nI n) (nI d) (nI w) x1 N := fun c => nm_r (nI_1 i) (ih (i + 1) (by omega) (by
        rw [if_neg (fun z => by
          rw [Bool.and_eq_true] at z
          rcases c with c | c
          · rw [c] at z; exact absurd z.1 (by decide)
          · rw [c] at z; exact absurd z.2 (by decide))] at e
        exact e))
      refine ⟨io, br_f (nI_ge (by omega) (by omega)) (nm_e (r_takes hfi (by omega) (by omega) (fun t => ⟨fun _ => r_argOf hfi (by omega) t hd ?_, fun z => absurd z (by decide)⟩) (fun t => ⟨fun z => absurd rfl z, fun _ => go (Or.inl ?_)⟩)))⟩
      rotate_left
      · cases y : tkB (pF l i) n with
        | true => exact absurd (tkB_iff.mp y) t
        | false => rfl
      have la := argI_lt t hd
      have hag : rAg N (5 * (6 * o + i) + argI (pF l i) d) (aOf (pF l i) d) := hfi.2.2 _ la
      have hit : wP w (aOf (pF l i) d) = true → Q (nI i) N := fun c => by
        rw [if_pos (by rw [tkB_iff.mpr t, c]; rfl)] at e
        rw [← e] at q; exact q
      have res : ∀ b : Bool, b = wP w (aOf (pF l i) d) → ((bI b = 0 → ∀ x1 : Int32, x1 = nI i + 1 → fm_formWith_l3 Q (m + 1) (nI o) (nI n) (nI d) (nI w) x1 N) ∧ (¬ bI b = 0 → Q (nI i) N)) := fun b eb => ⟨fun c => go (Or.inr (by rw [← eb]; exact bI_0.mp c)), fun c => hit (by
        cases b with
        | true => exact eb.symm
        | false => exact absurd rfl c)⟩
      obtain ⟨g6, g7, ⟨t0, t8, t9, t10, -⟩, -⟩ := hag
      rw [m2]
      have i2 := vp_in_nI (n := 2 * (5 * (6 * o + i) + argI (pF l i) d)) (N := 370) (by omega) (by omega)
      have i1 := vp_in_nI (n := 5 * (6 * o + i) + argI (pF l i) d) (N := 185) (by omega) (by omega)
      refine pk_eq w 0 (fun w0 => ?_) (fun w0 => pk_eq w 1 (fun w1 => ⟨i2, ?_⟩) (fun w1 => ⟨i2, ?_⟩) |>.symm) |>.symm
      · refine ⟨i1, ?_⟩
        rw [nI_clamp (by omega), g6, g7]
        have ew : wP w (aOf (pF l i) d) = miss (aOf (pF l i) d) := by unfold wP; rw [if_pos w0]
        refine ⟨fun c => res true ?_, fun c => ⟨i1, fun c2 => res false ?_, fun c2 => res true ?_⟩⟩
        · rw [ew]; unfold miss
          cases y : (aOf (pF l i) d).1 with
          | true => rfl
          | false => rw [y] at c; exact absurd rfl c
        · rw [ew]; unfold miss; rw [bI_0.mp c, bI_0.mp c2]; rfl
        · rw [ew]; unfold miss
          cases y : (aOf (pF l i) d).2.1 with
          | true => rw [Bool.or_true]
          | false => rw [y] at c2; exact absurd rfl c2
      · rw [nI_clamp (by omega), t10]
        exact res _ (by unfold wP nP; rw [if_neg w0, if_pos w1])
      · rw [nI_clamp (by omega), t8]
        have fw := fam_w _ t0 w hw (by omega)
        have ew : wP w (aOf (pF l i) d) = sP (nI (w - 1)) (aOf (pF l i) d) := by unfold wP; rw [if_neg w0, if_neg w1]
        exact r_family t0 ⟨fun c => res false (by rw [ew]; exact (decide_eq_false (fun z => c (fw.mpr z))).symm), fun c => res true (by rw [ew]; exact (decide_eq_true (fw.mp c)).symm)⟩
  exact ⟨l.length + 1, lp l.length 0 (by omega) rfl⟩
end RBD
/-- kinds as the class and as the reference have them -/
def kdR (kd r : Int32) : Prop := (kd = 7 ∧ r = 0) ∨ (kd = 8 ∧ r = 1) ∨ (kd = 2 ∧ r = 2) ∨ (kd = 4 ∧ r = 3) ∨ (kd = 5 ∧ r = 4) ∨ (kd = 6 ∧ r = 5)
theorem enc_0 (r : Option Nat) (h : ∀ i, r = some i → i < 1000) : (0 ≤ enc r ↔ r ≠ none) := by
  cases r with
  | none => exact ⟨fun z => absurd z (by decide), fun z => absurd rfl z⟩
  | some i => exact ⟨fun _ z => (by cases z), fun _ => nI_pos' (by have := h i rfl; omega)⟩
theorem fwP_lt {P : Ag → Bool} {l : List (Nat × List Ag)} {n d i : Nat} (h : fwP P l n d = some i) : i < l.length := by have := (fstI_c h).2.1; omega
section RBD
variable {N : RM} {o n d : Nat} {l : List (Nat × List Ag)}
theorem r_choose (ho : o < 6) (hO : rOp N o (l.map Prod.snd)) (hn : n ≤ 8) (hd : d < n) {kd : Int32} (hk : kdR kd (rA N 13 d)) {Q : Int32 → RM → Prop} (q : Q (enc (chzR l n d kd)) N) : fm_choose (nI o) (nI n) (nI d) N Q := by
  have l6 := (rOp_fm hO).1
  have fw : ∀ w, w < 6 → ∀ {Q : Int32 → RM → Prop}, Q (enc (fwP (wP w) l n d)) N → fm_formWith (nI o) (nI n) (nI d) (nI w) N Q := fun w hw Q q => r_formWith ho hO hn hd hw q
  have lt : ∀ {P : Ag → Bool}, ∀ i, fwP P l n d = some i → i < 1000 := fun i e => by have := fwP_lt e; omega
  have oz : ∀ {a b : Option Nat}, (∀ i, a = some i → i < 1000) → (∀ i, b = some i → i < 1000) → ∀ i, orE a b = some i → i < 1000 := fun ha hb i e => orE_c e ha hb
  have ch : ∀ {r : Option Nat} {A B : Prop}, (∀ i, r = some i → i < 1000) → (r ≠ none → A) → (r = none → B) → ((0 ≤ enc r → A) ∧ (¬ 0 ≤ enc r → B)) := fun {r _ _} hr a b => ⟨fun z => a ((enc_0 r hr).mp z), fun z => b (by
    by_cases y : r = none
    · exact y
    · exact absurd ((enc_0 r hr).mpr y) z)⟩
  have oN : ∀ {a b : Option Nat}, a ≠ none → orE a b = a := fun {a b} h => by
    cases a with
    | none => exact absurd rfl h
    | some _ => rfl
  have b169 : ∀ r, (∀ i, r = some i → i < 1000) → Q (enc (orE r (fwP (sP 1) l n d))) N → fm_choose_b169 Q (nI o) (nI n) (nI d) (enc r) N := by
    intro r hr q
    unfold fm_choose_b169 fm_choose_b189
    exact ch hr (fun z => by rw [oN z] at q; exact q) (fun z => fw 2 (by decide) (by rw [z] at q; exact q))
  have b149 : ∀ r, (∀ i, r = some i → i < 1000) → Q (enc (orE r (orE (fwP (sP 2) l n d) (fwP (sP 1) l n d)))) N → fm_choose_b149 Q (nI o) (nI n) (nI d) (enc r) N := by
    intro r hr q
    unfold fm_choose_b149
    exact ch hr (fun z => b169 r hr (by rw [oN z] at q ⊢; exact q)) (fun z => fw 3 (by decide) (b169 _ lt (by rw [z] at q; exact q)))
  have b129 : ∀ r, (∀ i, r = some i → i < 1000) → Q (enc (orE r (orE (fwP (sP 3) l n d) (orE (fwP (sP 2) l n d) (fwP (sP 1) l n d))))) N → fm_choose_b129 Q (nI o) (nI n) (nI d) (enc r) N := by
    intro r hr q
    unfold fm_choose_b129
    exact ch hr (fun z => b149 r hr (by rw [oN z] at q ⊢; exact q)) (fun z => fw 4 (by decide) (b149 _ lt (by rw [z] at q; exact q)))
  have tl : ∀ r, (∀ i, r = some i → i < 1000) → Q (enc (orE r (orE (fwP (sP (srt kd)) l n d) (orE (fwP (sP 3) l n d) (orE (fwP (sP 2) l n d) (fwP (sP 1) l n d)))))) N → fm_choose_b51 Q (nI o) (nI n) (nI d) (rA N 13 d) (enc r) N := by
    intro r hr q
    unfold fm_choose_b51 fm_choose_b75 fm_choose_b77 fm_choose_b101 fm_choose_b103 fm_choose_b127
    have up : r ≠ none → fm_choose_b129 Q (nI o) (nI n) (nI d) (enc r) N := fun z => b129 r hr (by rw [oN z] at q ⊢; exact q)
    have pass : ∀ {s : Int32}, srt kd = s → r = none → ∀ {w : Nat}, w < 6 → wP w = sP s → fm_formWith (nI o) (nI n) (nI d) (nI w) N (fun r9 M8 => fm_choose_b129 Q (nI o) (nI n) (nI d) r9 M8) := by
      intro s es z w hw ew
      rw [z, es] at q
      refine fw w hw ?_
      rw [ew]
      exact b129 _ lt q
    have three : srt kd = 3 → r = none → fm_choose_b129 Q (nI o) (nI n) (nI d) (enc r) N := by
      intro es z
      rw [z, es] at q
      have e : orE (fwP (sP 3) l n d) (orE (fwP (sP 3) l n d) (orE (fwP (sP 2) l n d) (fwP (sP 1) l n d))) = orE (fwP (sP 3) l n d) (orE (fwP (sP 2) l n d) (fwP (sP 1) l n d)) := by
        cases fwP (sP 3) l n d <;> rfl
      have q' : Q (enc (orE (fwP (sP 3) l n d) (orE (fwP (sP 3) l n d) (orE (fwP (sP 2) l n d) (fwP (sP 1) l n d))))) N := q
      rw [e] at q'
      rw [z]; exact b129 none (fun i e => by cases e) q'
    refine ch hr (fun z => ch hr (fun _ => ch hr (fun _ => up z) (fun y => absurd y z)) (fun y => absurd y z)) (fun z => ⟨fun c5 => ch hr (fun y => absurd z y) (fun _ => ⟨fun c2 => ch hr (fun y => absurd z y) (fun _ => ⟨fun c3 => three ?_ z, fun c3 => pass (s := 2) ?_ z (w := 3) (by decide) rfl⟩), fun c2 => ?_⟩), fun c5 => ?_⟩)
    · rcases hk with ⟨k, e⟩ | ⟨k, e⟩ | ⟨k, e⟩ | ⟨k, e⟩ | ⟨k, e⟩ | ⟨k, e⟩
      · rw [k]; rfl
      · rw [k]; rfl
      · exact absurd e c2
      · exact absurd e c3
      · rw [k]; rfl
      · exact absurd e c5
    · rcases hk with ⟨k, e⟩ | ⟨k, e⟩ | ⟨k, e⟩ | ⟨k, e⟩ | ⟨k, e⟩ | ⟨k, e⟩ <;> rw [e] at c3
      · exact absurd c3 (by decide)
      · exact absurd c3 (by decide)
      · exact absurd c3 (by decide)
      · rw [k]; rfl
      · exact absurd c3 (by decide)
      · exact absurd c3 (by decide)
    · have es : srt kd = 1 := by
        rcases hk with ⟨k, e⟩ | ⟨k, e⟩ | ⟨k, e⟩ | ⟨k, e⟩ | ⟨k, e⟩ | ⟨k, e⟩ <;> rw [e] at c2
        · exact absurd c2 (by decide)
        · exact absurd c2 (by decide)
        · rw [k]; rfl
        · exact absurd c2 (by decide)
        · exact absurd c2 (by decide)
        · exact absurd c2 (by decide)
      have c3 : ¬ rA N 13 d = 3 := fun z => by rw [c2] at z; exact absurd z (by decide)
      rw [z, es] at q
      refine fw 2 (by decide) (ch lt (fun y => b129 _ lt q) (fun y => ⟨fun _ => b129 _ lt q, fun c => absurd c c3⟩))
    · have es : srt kd = 4 := by
        rcases hk with ⟨k, e⟩ | ⟨k, e⟩ | ⟨k, e⟩ | ⟨k, e⟩ | ⟨k, e⟩ | ⟨k, e⟩ <;> rw [e] at c5
        · exact absurd c5 (by decide)
        · exact absurd c5 (by decide)
        · exact absurd c5 (by decide)
        · exact absurd c5 (by decide)
        · exact absurd c5 (by decide)
        · rw [k]; rfl
      have c3 : ¬ rA N 13 d = 3 := fun z => by rw [c5] at z; exact absurd z (by decide)
      have c2 : ¬ rA N 13 d = 2 := fun z => by rw [c5] at z; exact absurd z (by decide)
      rw [z, es] at q
      have nx : fm_choose_b129 Q (nI o) (nI n) (nI d) (enc (fwP (sP 4) l n d)) N := b129 _ lt q
      exact fw 5 (by decide) (ch lt (fun y => ch lt (fun _ => nx) (fun _ => ⟨fun _ => nx, fun c => absurd c c3⟩)) (fun y => ⟨fun _ => ch lt (fun _ => nx) (fun _ => ⟨fun _ => nx, fun c => absurd c c3⟩), fun c => absurd c c2⟩))
  have b25 : ∀ r, (∀ i, r = some i → i < 1000) → Q (enc (orE r (orE (if kd = 7 ∨ kd = 8 then fwP nP l n d else none) (orE (fwP (sP (srt kd)) l n d) (orE (fwP (sP 3) l n d) (orE (fwP (sP 2) l n d) (fwP (sP 1) l n d))))))) N → fm_choose_b25 Q (nI o) (nI n) (nI d) (rA N 13 d) (enc r) N := by
    intro r hr q
    unfold fm_choose_b25 fm_choose_b49
    refine ch hr (fun z => tl r hr (by rw [oN z] at q ⊢; exact q)) (fun z => ⟨fun c => tl r hr ?_, fun c => fw 1 (by decide) (tl _ lt ?_)⟩)
    · rw [if_neg (fun y => by
        rcases hk with ⟨k, e⟩ | ⟨k, e⟩ | ⟨k, e⟩ | ⟨k, e⟩ | ⟨k, e⟩ | ⟨k, e⟩ <;> rw [e] at c <;> rw [k] at y <;> first | exact absurd c (by decide) | exact absurd y (by decide))] at q
      exact q
    · rw [if_pos (by
        rcases hk with ⟨k, e⟩ | ⟨k, e⟩ | ⟨k, e⟩ | ⟨k, e⟩ | ⟨k, e⟩ | ⟨k, e⟩ <;> rw [e] at c <;> rw [k] <;> first | exact absurd (by decide) c | decide), z] at q
      exact q
  unfold fm_choose
  rw [nI_clamp (by omega)]
  unfold chzR at q
  refine ⟨vp_in_nI (by omega) (by omega), nm_e ⟨fun c => ?_, fun c => fw 0 (by decide) (b25 _ lt ?_)⟩⟩
  · rw [if_neg (fun y => c (by
      rcases hk with ⟨k, e⟩ | ⟨k, e⟩ | ⟨k, e⟩ | ⟨k, e⟩ | ⟨k, e⟩ | ⟨k, e⟩ <;> rw [k] at y <;> first | exact e | exact absurd y (by decide)))] at q
    exact b25 none (fun i e => by cases e) q
  · rw [if_pos (by
      rcases hk with ⟨k, e⟩ | ⟨k, e⟩ | ⟨k, e⟩ | ⟨k, e⟩ | ⟨k, e⟩ | ⟨k, e⟩ <;> rw [e] at c <;> first | exact k | exact absurd c (by decide))] at q
    exact q
end RBD
/-! what the class finds among the gathered, and the reference among all -/
theorem fst_find {α : Type} (P : α → Bool) (d : α) (l : List α) : ∀ m i, i + m = l.length → (fstI (fun i => P (l.getD i d)) m i).map (fun i => l.getD i d) = (l.drop i).find? P := by
  intro m
  induction m with
  | zero =>
    intro i hi
    rw [List.drop_eq_nil_of_le (by omega)]; rfl
  | succ m ih =>
    intro i hi
    have e : l.drop i = l.getD i d :: l.drop (i + 1) := by
      rw [List.getD_eq_getElem?_getD, List.getElem?_eq_getElem (show i < l.length by omega)]
      exact List.drop_eq_getElem_cons (by omega)
    rw [e, fstI]
    by_cases c : P (l.getD i d) = true
    · rw [if_pos c, List.find?_cons_of_pos c]; rfl
    · rw [if_neg c, List.find?_cons_of_neg c]; exact ih (i + 1) (by omega)
theorem find_filter {α : Type} (p q : α → Bool) : ∀ l : List α, (l.filter p).find? q = l.find? (fun a => p a && q a)
  | [] => rfl
  | a :: l => by
    have ih := find_filter p q l
    by_cases c : p a = true
    · rw [List.filter_cons_of_pos c]
      by_cases e : q a = true
      · rw [List.find?_cons_of_pos e, List.find?_cons_of_pos (by rw [c, e]; rfl)]
      · rw [List.find?_cons_of_neg e, List.find?_cons_of_neg (by rw [c]; simpa using e)]; exact ih
    · rw [List.filter_cons_of_neg c, List.find?_cons_of_neg (by simp [c])]; exact ih
/-- the two found the same form -/
def sF (l : List (Nat × List Ag)) (n : Nat) (a b : Option Nat) : Prop := a.map (fun j => (gth n l).getD j (0, [])) = b.map (fun i => l.getD i (0, []))
theorem sF_of (P : Ag → Bool) (l : List (Nat × List Ag)) (n d : Nat) : sF l n (fstI (fun j => P (gA (gth n l) j d)) (gth n l).length 0) (fwP P l n d) := by
  unfold sF
  have h1 := fst_find (fun p : Nat × List Ag => P (aOf p.2 d)) (0, []) (gth n l) (gth n l).length 0 (by omega)
  have h2 := fst_find (fun p : Nat × List Ag => tkB p.2 n && P (aOf p.2 d)) (0, []) l l.length 0 (by omega)
  rw [List.drop_zero] at h1 h2
  refine (h1.trans ?_).trans h2.symm
  exact find_filter (fun p => tkB p.2 n) (fun p => P (aOf p.2 d)) l
theorem sF_or {l : List (Nat × List Ag)} {n : Nat} {a b a' b' : Option Nat} (h : sF l n a b) (h' : sF l n a' b') : sF l n (orE a a') (orE b b') := by
  unfold sF at h h' ⊢
  cases a with
  | none =>
    cases b with
    | none => exact h'
    | some j => cases h
  | some i =>
    cases b with
    | none => cases h
    | some j => exact h
theorem chz_sF (l : List (Nat × List Ag)) (n d : Nat) (kd : Int32) : sF l n (chz (gth n l) d kd) (chzR l n d kd) := by
  unfold chz chzR
  have h0 : sF l n none none := rfl
  refine sF_or ?_ (sF_or ?_ (sF_or (sF_of (sP (srt kd)) l n d) (sF_or (sF_of (sP 3) l n d) (sF_or (sF_of (sP 2) l n d) (sF_of (sP 1) l n d)))))
  · split
    · exact sF_of miss l n d
    · exact h0
  · split
    · exact sF_of nP l n d
    · exact h0
