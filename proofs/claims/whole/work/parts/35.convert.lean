/-- whether a value goes as a type that is no list -/
def plainC (g : Ag) (kd : Int32) : Prop := g.2.2.2 = none ∨ (g.2.2.1.2.2.1 = true ∧ (kd = 7 ∨ kd = 8))
def missC (g : Ag) (kd : Int32) : Prop := kd = 7 ∧ miss g = true
def hasB (c : Int32) : Bool := !(decide (c = 0))
theorem hasB_bI {c : Int32} (h : nZ c) (h2 : c = 0 ∨ c = 1) : c = bI (hasB c) := by
  rcases h2 with e | e <;> subst e <;> decide
/-- what the conversion of thing u for an argument leaves in thing t -/
def cvOk (g : Ag) (I : Nat → Nat → Int32) (J : Nat → Int64) (D : Nat → UInt64) (W : Nat → List Int32) (n u : Nat) (I' : Nat → Nat → Int32) (J' : Nat → Int64) (D' : Nat → UInt64) (W' : Nat → List Int32) (t : Nat) : Prop :=
  (missC g (I 80 u) → isRv I' J' D' W' t (0, 0, FP.dconst0, []) ∧ I' 85 t = 0) ∧
  (¬ missC g (I 80 u) → plainC g (I 80 u) → ∃ r, cvP g.2.2.1 (I 80 u) (hasB (I 83 u)) (J u) (D u) (W u) = some r ∧ isRv I' J' D' W' t r ∧ (isAny g.2.2.1 (I 80 u) = false → I' 85 t = 0) ∧ (isAny g.2.2.1 (I 80 u) = true → I' 85 t = nI n ∧ ∀ j, j < n → cpd I J D W I' J' D' W' (itm t j) (itm u j))) ∧
  (¬ missC g (I 80 u) → ¬ plainC g (I 80 u) → ∀ σ, g.2.2.2 = some σ → I 80 u = 6 ∧ isRv I' J' D' W' t (6, 0, FP.dconst0, []) ∧ I' 85 t = nI n ∧ ∀ j, j < n → ∃ r, cvP σ (I 80 (itm u j)) (hasB (I 83 (itm u j))) (J (itm u j)) (D (itm u j)) (W (itm u j)) = some r ∧ isRv I' J' D' W' (itm t j) r)
def cvNo (g : Ag) (I : Nat → Nat → Int32) (J : Nat → Int64) (D : Nat → UInt64) (W : Nat → List Int32) (n u : Nat) : Prop :=
  ¬ missC g (I 80 u) ∧ ((plainC g (I 80 u) ∧ cvP g.2.2.1 (I 80 u) (hasB (I 83 u)) (J u) (D u) (W u) = none) ∨ (¬ plainC g (I 80 u) ∧ (I 80 u ≠ 6 ∨ ∃ σ j, g.2.2.2 = some σ ∧ j < n ∧ cvP σ (I 80 (itm u j)) (hasB (I 83 (itm u j))) (J (itm u j)) (D (itm u j)) (W (itm u j)) = none)))
section CNV
variable {nm : Nat → Nat} {T : LY} {M : CM} {G : Nat → Nat → Nat} {I : Nat → Nat → Int32} {J : Nat → Int64} {D : Nat → UInt64} {W : Nat → List Int32} {t u a n : Nat} {g : Ag}
theorem s_X1_convert (hnm : ∀ i j, i < 10 → j < 10 → nm i = nm j → i = j) (hS : SA G T M) (hV : VA G M I J D W) (ht : t < 144) (hu : u < 144) (pt : t % 48 < 8) (pu : u % 48 < 8) (hne : u ≠ t) (hx : arc nm T M a g)
    (hh : ∀ v, v < 144 → v / 48 = u / 48 → I 83 v = bI (hasB (I 83 v))) (hd : ∀ v, v < 144 → v / 48 = u / 48 → hasB (I 83 v) = true → Jvm.FP.Core.dIsNaN (D v) = false) (hn : I 85 u = nI n) (h5 : n ≤ 5) (hi : ∀ j, j < n → I 85 (itm u j) = 0) {Q : Int32 → CM → Prop}
    (h1 : ∀ M' I' J' D' W', zA G M M' → VA G M' I' J' D' W' → cvOk g I J D W n u I' J' D' W' t → (∀ v, v ≠ t → (∀ j, j < 5 → v ≠ itm t j) → sam I J D W I' J' D' W' v) → Q 1 M')
    (h0 : cvNo g I J D W n u → ∀ M' I' J' D' W', zA G M M' → VA G M' I' J' D' W' → (∀ v, v ≠ t → (∀ j, j < 5 → v ≠ itm t j) → sam I J D W I' J' D' W' v) → Q 0 M') : fc_X1_convert nm T (some a) (some (G 0 u)) (some (G 0 t)) M Q := by
  have tu := (hS.2.1 u hu).1
  have tt := (hS.2.1 t ht).1
  have e80 := (hV.1 u hu).1.1
  have hlu : (W u).length ≤ rm t := by
    rw [rm_top ht pt, ← rm_top hu pu]; exact (hV.2 u (by omega)).2.1
  obtain ⟨a1, a2, a3, ta, a4, a5⟩ := id hx
  -- as a type that is no list
  have b53 : ∀ y, tyc nm T M ta g.2.2.1 y → ¬ missC g (I 80 u) → plainC g (I 80 u) → fc_X1_convert_b53 nm T Q (some (G 0 u)) (some (G 0 t)) (some ta) M := by
    intro y hy nm_ pl
    unfold fc_X1_convert_b53
    refine s_X1_plain hnm hS hV ht hu hne hy (hasB (I 83 u)) (hh u hu rfl) (hd u hu rfl) hlu hn h5 (fun _ => ⟨pt, pu⟩) (fun r e M' I' J' D' W' z v q1 q2 q3 => ⟨nZ_1, h1 M' I' J' D' W' z v ⟨fun c => absurd c nm_, fun _ _ => ⟨r, e, q1, fun c => (q2 c).1, fun c => ⟨(q3 c).1, fun j hj => ((q3 c).2.1 j hj).1⟩⟩, fun _ c => absurd pl c⟩ ?_⟩) (fun e => ⟨nZ_0, h0 ⟨nm_, Or.inl ⟨pl, e⟩⟩ M I J D W (zA_rf G M) hV (fun v _ _ => sam_rf)⟩)
    intro v hv hv2
    cases c : isAny g.2.2.1 (I 80 u) with
    | false => exact (q2 c).2 v hv
    | true => exact (q3 c).2.2 v hv (fun j hj => hv2 j (by omega))
  -- as a list
  have b60 : ∀ e σ, g.2.2.2 = some σ → tyc nm T M e σ none → ¬ missC g (I 80 u) → ¬ plainC g (I 80 u) → fc_X1_convert_b60 nm T Q (some (G 0 u)) (some (G 0 t)) (some e) M := by
    intro e σ hσ hy nm_ pl
    unfold fc_X1_convert_b60
    refine ⟨_, rfl, tu, ?_⟩
    rw [e80]
    refine ⟨fun c6 => ⟨_, rfl, tt, s_X8_become hS hV ht 6 (fun M1 z1 v1 => ⟨n + 1, ?_⟩)⟩, fun c6 => h0 ⟨nm_, Or.inr ⟨pl, Or.inl c6⟩⟩ M I J D W (zA_rf G M) hV (fun v _ _ => sam_rf)⟩
    have k : ∀ m i N I' J' D' W', i + m = n → zA G M N → VA G N I' J' D' W' → isRv I' J' D' W' t (6, 0, FP.dconst0, []) → I' 85 t = nI i → (∀ j, j < i → ∃ r, cvP σ (I 80 (itm u j)) (hasB (I 83 (itm u j))) (J (itm u j)) (D (itm u j)) (W (itm u j)) = some r ∧ isRv I' J' D' W' (itm t j) r) → (∀ v, v ≠ t → (∀ j, j < i → v ≠ itm t j) → sam I J D W I' J' D' W' v) → fc_X1_convert_l80 nm T Q (m + 1) (some (G 0 u)) (some (G 0 t)) (some e) (nI i) N := by
      intro m
      induction m with
      | zero =>
        intro i N I' J' D' W' hi2 z v q1 q2 q3 q4
        show fc_X1_convert_c80 nm T Q _ _ _ _ _ N
        have su := q4 u hne (fun j hj e => itm_top ht pt pu (by omega) e.symm)
        unfold fc_X1_convert_c80
        refine ⟨_, rfl, tu, ?_⟩
        rw [(v.1 u hu).1.2.2, su.1 85, hn]
        have ei : i = n := by omega
        subst ei
        exact br_t (nI_le (by omega) (by omega)) (h1 N I' J' D' W' z v ⟨fun c => absurd c nm_, fun _ c => absurd c pl, fun _ _ σ' e' => ⟨c6, q1, q2, by
          rw [hσ] at e'
          cases e'
          exact q3⟩⟩ (fun v hv hv2 => q4 v hv (fun j hj => hv2 j (by omega))))
      | succ m ih =>
        intro i N I' J' D' W' hi2 z v q1 q2 q3 q4
        show fc_X1_convert_c80 nm T Q (fc_X1_convert_l80 nm T Q (m + 1)) _ _ _ _ N
        have su := q4 u hne (fun j hj e => itm_top ht pt pu (by omega) e.symm)
        have hSN := zA_SA z hS
        have hit : itm t i ≠ t := itm_top ht pt pt (by omega)
        have hiu : itm u i ≠ t := itm_top hu pu pt (by omega)
        have hii : itm u i ≠ itm t i := fun e => hne (itm_inj pu pt (by omega) (by omega) e).1
        have lt1 := (itm_lt ht pt (show i < 5 by omega)).1
        have lt2 := (itm_lt hu pu (show i < 5 by omega)).1
        unfold fc_X1_convert_c80 fc_X1_convert_b125
        refine ⟨_, rfl, tu, ?_⟩
        rw [(v.1 u hu).1.2.2, su.1 85, hn]
        refine br_f (nI_ge (by omega) (by omega)) (s_X8_itemAt hSN v hu pu ((su.1 85).trans hn) h5 (nI i) (fun j hj e => ?_) (fun e => ?_))
        · rw [nI_eq (by omega) (by omega)] at e
          subst e
          refine ⟨_, rfl, tt, s_X8_nextItem hSN v ht pt q2 (by omega) (fun N1 z1 v1 => ⟨fun q => (by cases q), fun _ => ⟨fun q => (by cases q), fun _ => ?_⟩⟩)⟩
          have sI : ∀ w, w ≠ t → sam I' J' D' W' (upI I' 85 t (nI (i + 1))) J' D' W' w := fun w hw => ⟨fun g => upI_n _ _ hw, rfl, rfl, rfl⟩
          have sy : sam I J D W (upI I' 85 t (nI (i + 1))) J' D' W' (itm u i) := sam_tr (q4 _ hiu (fun j2 hj2 e2 => hne (itm_inj pu pt (by omega) (by omega) e2).1)) (sI _ hiu)
          have hS1 := zA_SA z1 hSN
          have hy1 := kT_tyc (zA_kT (zA_tr z z1)) hy
          have hl1 : (W' (itm u i)).length ≤ rm (itm t i) := by
            rw [rm_itm ht pt (by omega), ← rm_itm hu pu (show i < 5 by omega)]; exact (v1.2 _ (by omega)).2.1
          refine s_X1_plain (n := 0) hnm hS1 v1 lt1 lt2 hii hy1 (hasB (I 83 (itm u i))) ((sy.1 83).trans (hh _ lt2 (itm_div pu (by omega)))) (fun c => by rw [sy.2.2.1]; exact hd _ lt2 (itm_div pu (by omega)) c) hl1 ((sy.1 85).trans (hi i hj)) (by omega) (fun c => absurd c (Nat.lt_irrefl 0)) (fun r e2 M2 I2 J2 D2 W2 z2 v2 r1 r2 r3 => ?_) (fun e2 => ?_)
          · rw [sy.1 80, sy.2.1, sy.2.2.1, sy.2.2.2] at e2
            have s2 : ∀ w, w ≠ itm t i → sam (upI I' 85 t (nI (i + 1))) J' D' W' I2 J2 D2 W2 w := by
              intro w hw
              cases c : isAny σ (upI I' 85 t (nI (i + 1)) 80 (itm u i)) with
              | false => exact (r2 c).2 w hw
              | true => exact (r3 c).2.2 w hw (fun j hj => absurd hj (Nat.not_lt_zero j))
            refine ⟨fun _ => nm_e ?_, fun c => absurd c (by decide)⟩
            rw [nI_1]
            have st := s2 t (fun e => hit e.symm)
            refine ih (i + 1) M2 I2 J2 D2 W2 (by omega) (zA_tr (zA_tr z z1) z2) v2 ⟨(st.1 80).trans ((upI_f _ _ (by decide)).trans q1.1), st.2.1.trans q1.2.1, st.2.2.1.trans q1.2.2.1, st.2.2.2.trans q1.2.2.2⟩ ((st.1 85).trans (upI_s _ _ _ _)) (fun j2 hj2 => ?_) (fun w hw hw2 => ?_)
            · by_cases c : j2 = i
              · rw [c]; exact ⟨r, e2, r1⟩
              · obtain ⟨r', b1, b2⟩ := q3 j2 (by omega)
                have d1 : itm t j2 ≠ itm t i := fun e2 => c (itm_inj pt pt (by omega) (by omega) e2).2
                have d2 : itm t j2 ≠ t := itm_top ht pt pt (by omega)
                have s3 := sam_tr (sI _ d2) (s2 _ d1)
                exact ⟨r', b1, (s3.1 80).trans b2.1, s3.2.1.trans b2.2.1, s3.2.2.1.trans b2.2.2.1, s3.2.2.2.trans b2.2.2.2⟩
            · exact sam_tr (sam_tr (q4 w hw (fun j hj => hw2 j (by omega))) (sI w hw)) (s2 w (hw2 i (by omega)))
          · rw [sy.1 80, sy.2.1, sy.2.2.1, sy.2.2.2] at e2
            refine ⟨fun c => absurd rfl c, fun _ => h0 ⟨nm_, Or.inr ⟨pl, Or.inr ⟨σ, i, hσ, hj, e2⟩⟩⟩ N1 _ _ _ _ (zA_tr z z1) v1 (fun w hw hw2 => sam_tr (q4 w hw (fun j hj => hw2 j (by omega))) (sI w hw))⟩
        · rcases e with e | e
          · exact absurd e (nI_pos (by omega))
          · rw [nI_leI (by omega) (by omega)] at e; omega
    exact k n 0 M1 _ _ _ _ (by omega) z1 v1 ⟨bec_80 _ _ _, va_ups _ _ _, va_ups _ _ _, va_ups _ _ _⟩ (bec_85 _ _ _) (fun j hj => absurd hj (Nat.not_lt_zero j)) (fun v hv _ => ⟨fun g => bec_n _ _ g hv, va_upn _ _ hv, va_upn _ _ hv, va_upn _ _ hv⟩)
  have b23 : ¬ missC g (I 80 u) → fc_X1_convert_b23 nm T Q (some a) (some (G 0 u)) (some (G 0 t)) M := by
    intro nm_
    unfold fc_X1_convert_b23
    refine ⟨a, rfl, a1, ta, a4, ?_⟩
    rw [a4]
    rcases a5 with ⟨e, y⟩ | ⟨e, σ, hσ, y, y2⟩
    · refine ⟨y.1, ?_⟩
      rw [y.2.2.2.2.2.2]
      exact ⟨fun _ => b53 _ y nm_ (Or.inl e), fun q => absurd rfl q⟩
    · refine ⟨y.1, ?_⟩
      rw [y.2.2.2.2.2.2, y.2.2.2.2.1]
      refine ⟨fun q => (by cases q), fun _ => ⟨fun c => ?_, fun c => ⟨_, rfl, tu, s_X8_isUN hS hV hu (fun c2 => ⟨fun q => absurd q (by decide), fun _ => ?_⟩) (fun c2 => ⟨fun _ => ?_, fun q => absurd rfl q⟩)⟩⟩⟩
      · refine b60 e σ hσ y2 nm_ (fun z => z.elim (fun z => by rw [hσ] at z; cases z) (fun z => ?_))
        rw [bI_0.mp c] at z; exact absurd z.1 (by decide)
      · refine b53 _ y nm_ (Or.inr ⟨?_, c2⟩)
        rw [bI_0] at c
        cases w : g.2.2.1.2.2.1 with
        | true => rfl
        | false => exact absurd w c
      · exact b60 e σ hσ y2 nm_ (fun z => z.elim (fun z => by rw [hσ] at z; cases z) (fun z => c2 z.2))
  unfold fc_X1_convert
  refine ⟨_, rfl, tu, ?_⟩
  rw [e80]
  refine ⟨fun c => b23 (fun z => c z.1), fun c => ⟨a, rfl, a1, s_X0_canBeMissing hx (fun d => ⟨fun q => absurd q (by decide), fun _ => ⟨_, rfl, tt, ?_⟩⟩) (fun d => ⟨fun _ => b23 (fun z => by have z2 := z.2; rw [d] at z2; cases z2), fun q => absurd rfl q⟩)⟩⟩
  exact s_X8_become hS hV ht 0 (fun M' z v => h1 M' _ _ _ _ z v ⟨fun _ => ⟨⟨bec_80 _ _ _, va_ups _ _ _, va_ups _ _ _, va_ups _ _ _⟩, bec_85 _ _ _⟩, fun q => absurd ⟨c, d⟩ q, fun q => absurd ⟨c, d⟩ q⟩ (fun v hv _ => ⟨fun g => bec_n _ _ g hv, va_upn _ _ hv, va_upn _ _ hv, va_upn _ _ hv⟩))
end CNV
