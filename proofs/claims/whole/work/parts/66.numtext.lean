theorem i32_of {c : Int32} {a b : Nat} (ha : a < 1000) (hb : b < 1000) (h1 : ¬ c < nI a) (h2 : ¬ nI b < c) : ∃ k, a + k ≤ b ∧ c = nI (a + k) := by
  rw [Int32.lt_iff_toInt_lt, nI_toInt (by omega)] at h1 h2
  refine ⟨c.toInt.toNat - a, by omega, ?_⟩
  apply Int32.toInt_inj.mp
  rw [nI_toInt (by omega)]; omega
theorem isD_c {c : Int32} (h : isD c = true) : ∃ k, k < 10 ∧ c = nI (48 + k) ∧ dgt c = nI k := by
  have hd : dgt c = c - 48 := by unfold dgt; rw [if_pos h]
  unfold isD at h
  rw [Bool.and_eq_true] at h
  have h1 : ¬ c < 48 := by simpa using h.1
  have h2 : ¬ 57 < c := by simpa using h.2
  obtain ⟨k, hk, e⟩ := i32_of (a := 48) (b := 57) (by decide) (by decide) h1 h2
  refine ⟨k, by omega, e, ?_⟩
  rw [hd, e, show (48 : Int32) = nI 48 from rfl, pk_sub (by omega), Nat.add_sub_cancel_left]
theorem dgt_c (c : Int32) : (∃ k, k < 16 ∧ dgt c = nI k ∧ (k < 10 ↔ isD c = true)) ∨ (dgt c = -1 ∧ isD c = false) := by
  by_cases h : isD c = true
  · obtain ⟨k, a, b, e⟩ := isD_c h
    exact Or.inl ⟨k, by omega, e, ⟨fun _ => h, fun _ => a⟩⟩
  · have hf : isD c = false := by
      cases x : isD c with
      | true => exact absurd x h
      | false => rfl
    unfold dgt
    rw [hf, if_neg (by decide : ¬ false = true)]
    by_cases h2 : ¬ c < 97 ∧ ¬ 102 < c
    · obtain ⟨k, hk, e⟩ := i32_of (a := 97) (b := 102) (by decide) (by decide) h2.1 h2.2
      rw [if_pos h2, e, show (97 : Int32) = nI 97 from rfl, pk_sub (by omega), Nat.add_sub_cancel_left, show (10 : Int32) = nI 10 from rfl, nI_add]
      exact Or.inl ⟨k + 10, by omega, rfl, ⟨fun z => by omega, fun z => by cases z⟩⟩
    · rw [if_neg h2]
      by_cases h3 : ¬ c < 65 ∧ ¬ 70 < c
      · obtain ⟨k, hk, e⟩ := i32_of (a := 65) (b := 70) (by decide) (by decide) h3.1 h3.2
        rw [if_pos h3, e, show (65 : Int32) = nI 65 from rfl, pk_sub (by omega), Nat.add_sub_cancel_left, show (10 : Int32) = nI 10 from rfl, nI_add]
        exact Or.inl ⟨k + 10, by omega, rfl, ⟨fun z => by omega, fun z => by cases z⟩⟩
      · rw [if_neg h3]; exact Or.inr ⟨rfl, rfl⟩
theorem decL_b (w : Nat → Int32) (m i : Nat) (d : Int64) (k : Nat) (b : Bool) : decL w (m + 1) i d k b = if w i = 46 ∧ b = false then decL w m (i + 1) d k true else if isD (w i) = true then decL w m (i + 1) (d * 10 + (w i - 48).toInt64) (if b = true then k + 1 else k) b else none := rfl
section NTX
variable {N : RM} {L : List Int32}
theorem r_dec (h : SD N L) (h25 : rI N 25 = 1) {a b : Nat} (hab : a ≤ b) (hb : b ≤ L.length) (hc : b ≤ a + 15 ∨ ∃ c, a ≤ c ∧ c < b ∧ L.getD c 0 = 44) (below : Bool) {Q : UInt64 → RM → Prop} {X : Option UInt64} (hX : X = (decR (fun i => L.getD i 0) a b).map (fun v => if below = true then FP.dsub FP.dconst0 v else v))
    (q : ∀ N', kN N N' → rI N' 25 = bI X.isSome → Q (X.getD FP.dconst0) N') : fm_numberOfSaid_b144 Q (nI b) (bI below) (nI a) N := by
  obtain ⟨s24, l100, s23⟩ := h
  obtain ⟨w, hw⟩ : ∃ w : Nat → Int32, w = fun i => L.getD i 0 := ⟨_, rfl⟩
  rw [← hw] at hX
  have hc' : b ≤ a + 15 ∨ ∃ c, a ≤ c ∧ c < b ∧ w c = 44 := by rw [hw]; exact hc
  have said : ∀ i, i < b → rA N 23 i = w i := fun i hi => by rw [hw]; exact (s23 i (by omega)).1
  have none' : X = none → (nZ (0 : Int32) ∧ (∀ M6 : RM, M6 = wI N 25 0 → Q FP.dconst0 M6)) := fun e => ⟨nZ_0, nm_e (by
    have := q (wI N 25 0) (kN_25 N 0) (by rw [e, rI_wI, if_pos rfl]; rfl)
    rw [e] at this; exact this)⟩
  have d44 : isD 44 = false := by decide
  have d46 : isD 46 = false := by decide
  have some' : ∀ (d k : Nat), a < b → isD (w a) = true → isD (w (b - 1)) = true → decL w (b - a) a 0 0 false = some (lN d, k) → d < 10 ^ (b - a) → k ≤ b - a → b ≤ a + 15 → fm_numberOfSaid_b288 Q (bI below) (lN d) (lN (10 ^ k)) N := by
    intro d k h1 h2 h3 h4 h5 h6 h7
    have k17 : k < 17 := by omega
    have p15 : 10 ^ (b - a) ≤ 10 ^ 15 := Nat.pow_le_pow_right (by decide) (by omega)
    have n15 : (10 : Nat) ^ 15 = 1000000000000000 := by decide
    have eX : X = some (if below = true then FP.dsub FP.dconst0 (FP.ddiv (FP.l2d (lN d)) (pw k)) else FP.ddiv (FP.l2d (lN d)) (pw k)) := by
      rw [hX]
      unfold decR
      rw [if_neg (fun z => by
        rcases z with z | z | z
        · omega
        · rw [h2] at z; cases z
        · rw [h3] at z; cases z), h4]
      rfl
    have nn : Jvm.FP.Core.dIsNaN (FP.ddiv (FP.l2d (lN d)) (pw k)) = false := Jvm.FP.Core.ddiv_out (Jvm.FP.Core.DFin.notNaN (Jvm.FP.Core.l2d_fin _)) (pw_ok (by omega)).1 (pw_ok (by omega)).2
    have q' := q N (kN_rf N) (by rw [eX, h25]; rfl)
    rw [eX] at q'
    unfold fm_numberOfSaid_b288 fm_numberOfSaid_b314 fm_numberOfSaid_b316
    rw [pw_eq k k17]
    refine ⟨vf_of nn, nm_e ⟨fun c => ?_, fun c => ⟨fun c2 => ?_, fun c2 => ?_⟩⟩⟩
    · rw [bI_0.mp c] at q'; exact q'
    · have b1 : below = true := by
        cases below with
        | true => rfl
        | false => exact absurd rfl c
      have d0 : d = 0 := (lN_le0 (by omega)).mp c2
      have q2 : Q (if below = true then FP.dsub FP.dconst0 (FP.ddiv (FP.l2d (lN d)) (pw k)) else FP.ddiv (FP.l2d (lN d)) (pw k)) N := q'
      rw [if_pos b1, d0, pw_z k k17, z_z] at q2
      rw [d0, pw_z k k17]; exact q2
    · have b1 : below = true := by
        cases below with
        | true => rfl
        | false => exact absurd rfl c
      have d0 : d ≠ 0 := fun z => c2 ((lN_le0 (by omega)).mpr z)
      have q2 : Q (if below = true then FP.dsub FP.dconst0 (FP.ddiv (FP.l2d (lN d)) (pw k)) else FP.ddiv (FP.l2d (lN d)) (pw k)) N := q'
      rw [if_pos b1, sub_neg' nn (div_pos (by omega) (by omega) k17)] at q2
      exact q2
  have lp : ∀ m i (d k : Nat) (bl : Bool) (v9 v10 : Int32), i + m = b → a ≤ i → d < 10 ^ (i - a) → k ≤ i - a → ((bl = false ∧ v9 = -1 ∧ ∀ j, a ≤ j → j < i → isD (w j) = true) ∨ (bl = true ∧ ∃ pt, v9 = nI pt ∧ a ≤ pt ∧ pt < i ∧ w pt = 46 ∧ ∀ j, a ≤ j → j < i → j ≠ pt → isD (w j) = true)) → ((v10 = -1 ∧ ∀ j, a ≤ j → j < i → isD (w j) = false) ∨ (∃ af, v10 = nI af ∧ a ≤ af ∧ af < i)) → decL w m i (lN d) k bl = decL w (b - a) a 0 0 false → fm_numberOfSaid_l162 Q (m + 1) (nI b) (bI below) (nI a) (lN d) (lN (10 ^ k)) v9 v10 (nI i) N := by
    intro m
    induction m with
    | zero =>
      intro i d k bl v9 v10 hi hai hd hk h9 h10 e
      show fm_numberOfSaid_c162 Q _ _ _ _ _ _ _ _ _ N
      have eb : i = b := by omega
      subst eb
      have e' : decL w (i - a) a 0 0 false = some (lN d, k) := e.symm
      unfold fm_numberOfSaid_c162 fm_numberOfSaid_b281
      refine br_t (nI_le (by omega) (by omega)) ?_
      rcases h10 with ⟨e10, h10⟩ | ⟨af, e10, f1, f2⟩
      · rw [e10]
        refine ⟨fun _ => none' ?_, fun z => absurd (by decide) z⟩
        rw [hX]; unfold decR
        rw [if_pos]; · rfl
        by_cases c : i ≤ a
        · exact Or.inl c
        · exact Or.inr (Or.inl (h10 a (Nat.le_refl _) (by omega)))
      · rw [e10]
        refine ⟨fun z => absurd z (nI_pos (by omega)), fun _ => ?_⟩
        have short : (∀ j, a ≤ j → j < i → w j ≠ 44) → i ≤ a + 15 := fun hj => hc'.elim id (fun ⟨c, c1, c2, c3⟩ => absurd c3 (hj c c1 c2))
        rcases h9 with ⟨e9, e9', hdg⟩ | ⟨e9, pt, e9', p1, p2, p3, hdg⟩
        · rw [e9']
          refine ⟨fun _ => some' d k (by omega) (hdg a (Nat.le_refl _) (by omega)) (hdg (i - 1) (by omega) (by omega)) e' hd hk (short (fun j j1 j2 z => ?_)), fun z => absurd (by decide) z⟩
          have := hdg j j1 j2
          rw [z, d44] at this; cases this
        · rw [e9']
          have sh : i ≤ a + 15 := short (fun j j1 j2 z => by
            by_cases y : j = pt
            · rw [y, p3] at z; exact absurd z (by decide)
            · have := hdg j j1 j2 y
              rw [z, d44] at this; cases this)
          refine ⟨fun z => absurd z (nI_pos (by omega)), fun _ => pk_eq pt a (fun c => none' ?_) (fun c => ?_)⟩
          · rw [hX]; unfold decR
            rw [if_pos (Or.inr (Or.inl (by rw [← c, p3]; exact d46)))]; rfl
          · rw [show nI i - 1 = nI (i - 1) from pk_sub (b := 1) (by omega)]
            refine ⟨fun c2 => ?_, fun c2 => none' ?_⟩
            · have n2 : i - 1 ≠ pt := fun z => c2 (by rw [z])
              exact some' d k (by omega) (hdg a (Nat.le_refl _) (by omega) (fun z => c z.symm)) (hdg (i - 1) (by omega) (by omega) n2) e' hd hk sh
            · have n2 : pt = i - 1 := (nI_eq (by omega) (by omega)).mp c2
              rw [hX]; unfold decR
              rw [if_pos (Or.inr (Or.inr (by rw [← n2, p3]; exact d46)))]; rfl
    | succ m ih =>
      intro i d k bl v9 v10 hi hai hd hk h9 h10 e
      show fm_numberOfSaid_c162 Q (fm_numberOfSaid_l162 Q (m + 1)) _ _ _ _ _ _ _ _ N
      have hpow : 10 ^ (i + 1 - a) = 10 ^ (i - a) * 10 := by rw [show i + 1 - a = (i - a) + 1 by omega, Nat.pow_succ]
      unfold fm_numberOfSaid_c162 fm_numberOfSaid_b250
      refine br_f (nI_ge (by omega) (by omega)) ⟨vp_in_nI (by omega) (by omega), nm_r (e' := w i) (by rw [nI_clamp (by omega)]; exact said i (by omega)) ?_⟩
      have dig : ¬ (w i = 46 ∧ bl = false) → fm_numberOfSaid_b196 Q (fm_numberOfSaid_l162 Q (m + 1)) (nI b) (bI below) (nI a) (lN d) (lN (10 ^ k)) v9 (nI i) (w i) N := by
        intro c
        have e2 := e
        rw [decL_b] at e2
        rw [if_neg c] at e2
        unfold fm_numberOfSaid_b196 fm_numberOfSaid_b244 fm_numberOfSaid_b250
        refine r_digitOf _ ?_
        rcases dgt_c (w i) with ⟨t, t16, et, t10⟩ | ⟨et, nd⟩
        · have er : dgR (w i) = nI t := by unfold dgR; rw [et, if_pos (nI_pos' (by omega))]
          rw [er]
          refine pk_le t 9 (fun c9 => r_digitOf _ ?_) (fun c9 => none' ?_)
          · rw [er]
            have isd : isD (w i) = true := t10.mp (by omega)
            obtain ⟨t', ht', ew, et'⟩ := isD_c isd
            have tt : t' = t := (nI_eq (by omega) (by omega)).mp (et'.symm.trans et)
            subst tt
            rw [if_pos isd, ew, show (48 : Int32) = nI 48 from rfl, pk_sub (by omega), Nat.add_sub_cancel_left, nI_l (by omega), show (10 : Int64) = lN 10 from rfl, lN_mul, lN_add] at e2
            have ed : (10 : Int64) * lN d + (nI t').toInt64 = lN (d * 10 + t') := by
              rw [nI_l (by omega), show (10 : Int64) = lN 10 from rfl, lN_mul, lN_add, Nat.mul_comm]
            refine nm_r ed ?_
            have h10' : ∃ af, nI i = nI af ∧ a ≤ af ∧ af < i + 1 := ⟨i, rfl, hai, Nat.lt_succ_self i⟩
            rcases h9 with ⟨e9, e9', hdg⟩ | ⟨e9, pt, e9', p1, p2, p3, hdg⟩
            · rw [e9'] at *
              rw [e9, if_neg (by decide : ¬ false = true)] at e2
              refine ⟨fun _ => nm_r (nI_1 i) (ih (i + 1) _ k false _ _ (by omega) (by omega) (by omega) (by omega) (Or.inl ⟨rfl, rfl, fun j j1 j2 => ?_⟩) (Or.inr h10') e2), fun z => absurd (by decide) z⟩
              by_cases y : j = i
              · rw [y]; exact isd
              · exact hdg j j1 (by omega)
            · rw [e9'] at *
              rw [e9, if_pos rfl] at e2
              refine ⟨fun z => absurd z (nI_pos (by omega)), fun _ => ?_⟩
              rw [show (10 : Int64) * lN (10 ^ k) = lN (10 ^ (k + 1)) by rw [show (10 : Int64) = lN 10 from rfl, lN_mul, Nat.pow_succ, Nat.mul_comm]]
              refine nm_r (nI_1 i) (ih (i + 1) _ (k + 1) true _ _ (by omega) (by omega) (by omega) (by omega) (Or.inr ⟨rfl, pt, rfl, p1, by omega, p3, fun j j1 j2 j3 => ?_⟩) (Or.inr h10') e2)
              by_cases y : j = i
              · rw [y]; exact isd
              · exact hdg j j1 (by omega) j3
          · have nd : ¬ isD (w i) = true := fun z => by have := t10.mpr z; omega
            rw [if_neg nd] at e2
            have hdn : decR w a b = none := by
              unfold decR; rw [← e2]
              split <;> rfl
            rw [hX, hdn]; rfl
        · have er : dgR (w i) = 99 := by unfold dgR; rw [et]; rfl
          rw [er]
          refine ⟨fun z => absurd z (by decide), fun _ => none' ?_⟩
          rw [if_neg (by rw [nd]; decide)] at e2
          have hdn : decR w a b = none := by
            unfold decR; rw [← e2]
            split <;> rfl
          rw [hX, hdn]; rfl
      refine ⟨fun c => dig (fun z => c z.1), fun c => ?_⟩
      rcases h9 with ⟨e9, e9', hdg⟩ | ⟨e9, pt, e9', p1, p2, p3, hdg⟩
      · refine ⟨fun z => ?_, fun _ => nm_r (nI_1 i) ?_⟩
        · rw [e9'] at z; exact absurd z (by decide)
        · have e2 := e
          rw [decL_b] at e2
          rw [if_pos ⟨c, e9⟩] at e2
          refine ih (i + 1) d k true _ _ (by omega) (by omega) (by omega) (by omega) (Or.inr ⟨rfl, i, rfl, hai, Nat.lt_succ_self i, c, fun j j1 j2 j3 => hdg j j1 (by omega)⟩) ?_ e2
          rcases h10 with ⟨e10, h10⟩ | ⟨af, e10, f1, f2⟩
          · refine Or.inl ⟨e10, fun j j1 j2 => ?_⟩
            by_cases y : j = i
            · rw [y, c]; exact d46
            · exact h10 j j1 (by omega)
          · exact Or.inr ⟨af, e10, f1, by omega⟩
      · refine ⟨fun _ => dig (fun z => by rw [e9] at z; exact absurd z.2 (by decide)), fun z => ?_⟩
        rw [e9'] at z; exact absurd (nI_pos' (by omega)) z
  unfold fm_numberOfSaid_b144
  exact nm_e (nm_e ⟨b - a + 1, lp (b - a) a 0 0 false (-1) (-1) (by omega) (Nat.le_refl _) (by rw [Nat.sub_self]; decide) (Nat.zero_le _) (Or.inl ⟨rfl, rfl, fun j j1 j2 => by omega⟩) (Or.inl ⟨rfl, fun j j1 j2 => by omega⟩) rfl⟩)
end NTX
