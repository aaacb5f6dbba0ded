def trueC (kd : Int32) (d : UInt64) (s : List Int32) : Int32 := if kd = 2 ∨ kd = 4 then (if Op.cmpValue (FP.dcmp d FP.dconst0) .l = 0 then 0 else 1) else if kd = 6 ∨ (kd = 5 ∧ 0 < s.length) then 1 else 0
/-- a value as a type that is no list -/
def cvP (τ : Ty) (kd : Int32) (has : Bool) (w : Int64) (d : UInt64) (s : List Int32) : Option Rv :=
  if τ.2.2.1 = true ∧ (kd = 7 ∨ kd = 8) then some (1, 0, FP.dconst0, [])
  else if τ.1 = 7 then some (kd, w, d, s)
  else if τ.1 = 0 then some (2, (if trueC kd d s = 0 then 0 else 1), FP.dconst0, [])
  else if nSort τ.1 = 2 then cvN τ.1 τ.2.1 has d
  else if τ.1 = 8 ∧ ¬ (wordC s ≠ 0 ∧ wordC s ∈ τ.2.2.2) then none
  else some (5, 0, FP.dconst0, s)
/-- whether the conversion copies the value as it is -/
def isAny (τ : Ty) (kd : Int32) : Bool := decide (τ.1 = 7 ∧ ¬ (τ.2.2.1 = true ∧ (kd = 7 ∨ kd = 8)))
section CNV
variable {nm : Nat → Nat} {T : LY} {M : CM} {G : Nat → Nat → Nat} {I : Nat → Nat → Int32} {J : Nat → Int64} {D : Nat → UInt64} {W : Nat → List Int32} {t u a n : Nat} {τ : Ty} {x : Option Nat}
theorem s_X9_hasWord (hx : tyc nm T M a τ x) (c : Int64) {Q : Int32 → CM → Prop} (h1 : (c ≠ 0 ∧ c ∈ τ.2.2.2) → Q 1 M) (h0 : ¬ (c ≠ 0 ∧ c ∈ τ.2.2.2) → Q 0 M) : fc_X9_hasWord T a c M Q := by
  obtain ⟨a1, a2, a3, a4, a5, a6, a7⟩ := hx
  unfold fc_X9_hasWord fc_X9_hasWord_b13
  rcases a6 with ⟨e, r⟩ | ⟨e, p, r, tp, lp, l5, vp⟩
  · rw [r]
    exact ⟨a1, fun _ => h0 (fun z => by rw [e] at z; exact absurd z.2 List.not_mem_nil), fun z => absurd rfl z⟩
  · rw [r]
    refine ⟨a1, fun z => (by cases z), fun _ => ⟨fun c0 => ⟨p, rfl, tp, nm_r (e' := nI τ.2.2.2.length) (by rw [lp]) ⟨τ.2.2.2.length + 1, ?_⟩⟩, fun c0 => h0 (fun z => z.1 ((lg_cmp_eq _ _).mp c0))⟩⟩
    have c0' : c ≠ 0 := fun z => c0 ((lg_cmp_eq _ _).mpr z)
    have k : ∀ m i, i + m = τ.2.2.2.length → (∀ j, j < i → τ.2.2.2.getD j 0 ≠ c) → fc_X9_hasWord_l27 T a Q (m + 1) c (some p) (nI τ.2.2.2.length) (nI i) M := by
      intro m
      induction m with
      | zero =>
        intro i hi he
        show fc_X9_hasWord_c27 T a Q _ _ _ _ _ M
        unfold fc_X9_hasWord_c27
        refine br_t (nI_le (by omega) (by omega)) (h0 (fun z => ?_))
        obtain ⟨j, hj, ej⟩ := List.mem_iff_getElem.mp z.2
        refine he j (by omega) ?_
        rw [List.getD_eq_getElem?_getD, List.getElem?_eq_getElem hj]; exact ej
      | succ m ih =>
        intro i hi he
        show fc_X9_hasWord_c27 T a Q (fc_X9_hasWord_l27 T a Q (m + 1)) _ _ _ _ M
        unfold fc_X9_hasWord_c27
        refine br_f (nI_ge (by omega) (by omega)) ⟨p, rfl, tp, ?_⟩
        rw [lp]
        refine ⟨vp_in_nI (by omega) (by omega), nm_r (e' := τ.2.2.2.getD i 0) (by rw [nI_clamp (by omega)]; exact vp i (by omega)) ⟨fun z => nm_e ?_, fun z => h1 ⟨c0', ?_⟩⟩⟩
        · rw [nI_1]
          refine ih (i + 1) (by omega) (fun j hj => ?_)
          by_cases y : j = i
          · rw [y]; exact fun q => z ((lg_cmp_eq _ _).mpr q)
          · exact he j (by omega)
        · have e2 := (lg_cmp_eq _ _).mp z
          rw [← e2, List.getD_eq_getElem?_getD, List.getElem?_eq_getElem (by omega)]
          exact List.getElem_mem _
    exact k _ 0 (by omega) (fun j hj => absurd hj (Nat.not_lt_zero j))
theorem s_X1_plain (hnm : ∀ i j, i < 10 → j < 10 → nm i = nm j → i = j) (hS : SA G T M) (hV : VA G M I J D W) (ht : t < 144) (hu : u < 144) (hne : u ≠ t) (hx : tyc nm T M a τ x) (has : Bool) (hh : I 83 u = bI has) (hd : has = true → Jvm.FP.Core.dIsNaN (D u) = false) (hl : (W u).length ≤ rm t) (hn : I 85 u = nI n) (h5 : n ≤ 5) (hp : 0 < n → t % 48 < 8 ∧ u % 48 < 8) {Q : Int32 → CM → Prop}
    (h1 : ∀ r, cvP τ (I 80 u) has (J u) (D u) (W u) = some r → ∀ M' I' J' D' W', zA G M M' → VA G M' I' J' D' W' → isRv I' J' D' W' t r → (isAny τ (I 80 u) = false → I' 85 t = 0 ∧ ∀ v, v ≠ t → sam I J D W I' J' D' W' v) → (isAny τ (I 80 u) = true → I' 85 t = nI n ∧ (∀ j, j < n → cpd I J D W I' J' D' W' (itm t j) (itm u j) ∧ I' 85 (itm t j) = 0) ∧ ∀ v, v ≠ t → (∀ j, j < n → v ≠ itm t j) → sam I J D W I' J' D' W' v) → Q 1 M')
    (h0 : cvP τ (I 80 u) has (J u) (D u) (W u) = none → Q 0 M) : fc_X1_convertPlain nm T (some a) (some (G 0 u)) (some (G 0 t)) M Q := by
  have hx' := hx
  obtain ⟨a1, a2, a3, a4, a5, a6, a7⟩ := hx'
  have tu := (hS.2.1 u hu).1
  have tt := (hS.2.1 t ht).1
  have n_ : ∀ k, k < 10 → ((some (nm τ.1) = some (nm k)) ↔ τ.1 = k) := fun k hk => ⟨fun z => hnm _ _ a2 hk (Option.some.inj z), fun z => by rw [z]⟩
  unfold cvP at h1 h0
  have b21 : ¬ (τ.2.2.1 = true ∧ (I 80 u = 7 ∨ I 80 u = 8)) → fc_X1_convertPlain_b21 nm T Q (some a) (some (G 0 u)) (some (G 0 t)) M := by
    intro c
    rw [if_neg c] at h1 h0
    unfold fc_X1_convertPlain_b21
    refine ⟨a, rfl, a1, ?_⟩
    rw [a3]
    refine ⟨fun c7 => ⟨fun c0 => ⟨τ.1, rfl, a2, fun c2 => ⟨fun c8 => ?_, fun c8 => ?_⟩, fun c2 => ?_⟩, fun c0 => ?_⟩, fun c7 => ?_⟩
    all_goals first
      | (have c7' : τ.1 ≠ 7 := fun z => c7 ((n_ 7 (by decide)).mpr z)
         have hany : isAny τ (I 80 u) = false := decide_eq_false (fun z => c7' z.1)
         rw [if_neg c7'] at h1 h0)
      | skip
    · have c0' : τ.1 ≠ 0 := fun z => c0 ((n_ 0 (by decide)).mpr z)
      have c8' : τ.1 ≠ 8 := fun z => c8 ((n_ 8 (by decide)).mpr z)
      rw [if_neg c0', if_neg c2, if_neg (fun z => c8' z.1)] at h1
      unfold fc_X1_convertPlain_b111
      refine ⟨_, rfl, tu, _, rfl, tt, ?_⟩
      rw [(hS.2.1 u hu).2.1]
      refine s_X8_becomeText hS hV ht (by omega) hne (fun M' z v => h1 _ rfl M' _ _ _ _ z v ⟨bec_80 _ _ _, va_ups _ _ _, va_ups _ _ _, ?_⟩ (fun _ => ⟨bec_85 _ _ _, fun v hv => ⟨fun g => bec_n _ _ g hv, va_upn _ _ hv, va_upn _ _ hv, va_upn _ _ hv⟩⟩) (fun z => by rw [hany] at z; cases z))
      rw [va_ups, List.take_of_length_le hl]
    · have c0' : τ.1 ≠ 0 := fun z => c0 ((n_ 0 (by decide)).mpr z)
      have c8' := (n_ 8 (by decide)).mp c8
      rw [if_neg c0', if_neg c2] at h1 h0
      refine ⟨_, rfl, tu, _, (hS.2.1 u hu).2.1, (hS.1 u (by omega)).1, s_X7_wordCode hS hV (by omega) (s_X9_hasWord hx _ (fun e => ⟨fun _ => ?_, fun z => absurd z (by decide)⟩) (fun e => ⟨fun z => absurd rfl z, fun _ => ?_⟩))⟩
      · rw [if_neg (fun z => z.2 e)] at h1
        unfold fc_X1_convertPlain_b111
        refine ⟨_, rfl, tu, _, rfl, tt, ?_⟩
        rw [(hS.2.1 u hu).2.1]
        refine s_X8_becomeText hS hV ht (by omega) hne (fun M' z v => h1 _ rfl M' _ _ _ _ z v ⟨bec_80 _ _ _, va_ups _ _ _, va_ups _ _ _, ?_⟩ (fun _ => ⟨bec_85 _ _ _, fun v hv => ⟨fun g => bec_n _ _ g hv, va_upn _ _ hv, va_upn _ _ hv, va_upn _ _ hv⟩⟩) (fun z => by rw [hany] at z; cases z))
        rw [va_ups, List.take_of_length_le hl]
      · rw [if_pos ⟨c8', e⟩] at h0; exact h0 rfl
    · have c0' : τ.1 ≠ 0 := fun z => c0 ((n_ 0 (by decide)).mpr z)
      rw [if_neg c0', if_pos c2] at h1 h0
      refine s_X1_number hnm hS hV ht hu hx has hh hd (fun r e M' I' J' D' W' z v q1 q2 q3 => ⟨nZ_1, h1 r e M' I' J' D' W' z v q1 (fun _ => ⟨q2, q3⟩) (fun z => by rw [hany] at z; cases z)⟩) (fun e => ⟨nZ_0, h0 e⟩)
    · have c0' := (n_ 0 (by decide)).mp c0
      rw [if_pos c0'] at h1
      refine ⟨_, rfl, tu, s_X8_isTrue hS hV hu ?_⟩
      have fin : ∀ w : Int64, w = (if trueC (I 80 u) (D u) (W u) = 0 then 0 else 1) → fc_X1_convertPlain_b62 nm T Q w 2 (some (G 0 t)) M := by
        intro w ew
        unfold fc_X1_convertPlain_b62
        refine ⟨_, rfl, tt, s_X8_becomeWhole hS hV ht 2 w (fun M' z v => h1 _ rfl M' _ _ _ _ z v ⟨bec_80 _ _ _, ?_, va_ups _ _ _, va_ups _ _ _⟩ (fun _ => ⟨bec_85 _ _ _, fun v hv => ⟨fun g => bec_n _ _ g hv, va_upn _ _ hv, va_upn _ _ hv, va_upn _ _ hv⟩⟩) (fun z => by rw [hany] at z; cases z))⟩
        rw [va_ups]; exact ew
      show (trueC (I 80 u) (D u) (W u) = 0 → _) ∧ (¬ trueC (I 80 u) (D u) (W u) = 0 → _)
      exact ⟨fun e => fin 0 (by rw [if_pos e]), fun e => fin 1 (by rw [if_neg e])⟩
    · have c7' := (n_ 7 (by decide)).mp c7
      have hany : isAny τ (I 80 u) = true := decide_eq_true ⟨c7', c⟩
      rw [if_pos c7'] at h1
      refine ⟨_, rfl, tt, s_copyAll hS hV ht hu hne hn h5 hp (fun M' I' J' D' W' z v q1 q2 q3 q4 => h1 _ rfl M' I' J' D' W' z v ⟨q1.1, q1.2.2.1, q1.2.2.2.1, ?_⟩ (fun z => by rw [hany] at z; cases z) (fun _ => ⟨q2, q3, q4⟩))⟩
      rw [q1.2.2.2.2, List.take_of_length_le hl]
  unfold fc_X1_convertPlain
  refine ⟨a, rfl, a1, ?_⟩
  rw [a5]
  refine ⟨fun e => b21 (fun z => by rw [bI_0.mp e] at z; exact absurd z.1 (by decide)), fun e => ⟨_, rfl, tu, s_X8_isUN hS hV hu (fun c => ⟨fun z => absurd z (by decide), fun _ => ⟨_, rfl, tt, ?_⟩⟩) (fun c => ⟨fun _ => b21 (fun z => c z.2), fun z => absurd rfl z⟩)⟩⟩
  have en : τ.2.2.1 = true := by
    rw [bI_0] at e
    cases y : τ.2.2.1 with
    | true => rfl
    | false => exact absurd y e
  rw [if_pos ⟨en, c⟩] at h1
  have hany : isAny τ (I 80 u) = false := decide_eq_false (fun z => z.2 ⟨en, c⟩)
  exact s_X8_become hS hV ht 1 (fun M' z v => h1 _ rfl M' _ _ _ _ z v ⟨bec_80 _ _ _, va_ups _ _ _, va_ups _ _ _, va_ups _ _ _⟩ (fun _ => ⟨bec_85 _ _ _, fun v hv => ⟨fun g => bec_n _ _ g hv, va_upn _ _ hv, va_upn _ _ hv, va_upn _ _ hv⟩⟩) (fun z => by rw [hany] at z; cases z))
end CNV
