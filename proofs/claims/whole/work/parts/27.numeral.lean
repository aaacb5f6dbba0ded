theorem bck_s (w : Nat → Int32) (a b : Nat) : bck w a (b + 1) = if a < b + 1 ∧ w b = 32 then bck w a b else b + 1 := rfl
theorem skp_s (w : Nat → Int32) (m a : Nat) : skp w (m + 1) a = if w a = 32 then skp w m (a + 1) else a := rfl
theorem sD_sD (M : CM) (f a : Nat) (v x : UInt64) : sD (sD M f a v) f a x = sD M f a x := by
  have e : (fun g => if g = f then va_up ((fun g => if g = f then va_up (M.2.2.1 g) a v else M.2.2.1 g) g) a x else (fun g => if g = f then va_up (M.2.2.1 g) a v else M.2.2.1 g) g) = (fun g => if g = f then va_up (M.2.2.1 g) a x else M.2.2.1 g) := by
    funext g
    by_cases c : g = f
    · rw [if_pos c, if_pos c]
      show va_up (if g = f then va_up (M.2.2.1 g) a v else M.2.2.1 g) a x = _
      rw [if_pos c, va_up2]
    · rw [if_neg c, if_neg c]
      show (if g = f then _ else M.2.2.1 g) = _
      rw [if_neg c]
  show (M.1, M.2.1, _, M.2.2.2.1, M.2.2.2.2.1, M.2.2.2.2.2.1, M.2.2.2.2.2.2) = (M.1, M.2.1, _, M.2.2.2.1, M.2.2.2.2.1, M.2.2.2.2.2.1, M.2.2.2.2.2.2)
  exact congrArg (fun z => (M.1, M.2.1, z, M.2.2.2.1, M.2.2.2.2.1, M.2.2.2.2.2.1, M.2.2.2.2.2.2)) e
theorem nI_sub_lt {a b c : Nat} (ha : a < 2 ^ 30) (hb : b < 2 ^ 30) (hc : c < 2 ^ 31) : nI b - nI a < nI c ↔ b < a + c := by
  rw [Int32.lt_iff_toInt_lt, pk_sub_toInt hb ha, nI_toInt hc]; omega
theorem nI_sub_le {a b c : Nat} (ha : a < 2 ^ 30) (hb : b < 2 ^ 30) (hc : c < 2 ^ 31) : nI b - nI a ≤ nI c ↔ b ≤ a + c := by
  rw [Int32.le_iff_toInt_le, pk_sub_toInt hb ha, nI_toInt hc]; omega
section NUM
variable {G : Nat → Nat → Nat} {T : LY} {M : CM} {I : Nat → Nat → Int32} {J : Nat → Int64} {D : Nat → UInt64} {W : Nat → List Int32} {t hN : Nat}
theorem VA_sD40 (hV : VA G M I J D W) (d : UInt64) : VA G (sD M 40 hN d) I J D W := by
  refine ⟨fun u hu => ?_, fun u hu => hV.2 u hu⟩
  obtain ⟨a1, a4, a5, a6⟩ := hV.1 u hu
  refine ⟨a1, a4, ?_, a6⟩
  rw [cD_sD, if_neg (fun z => by omega)]; exact a5
theorem s_X4_hex (hS : SA G T M) (hV : VA G M I J D W) (ht : t < 145) (hh : tg T hN = 5) (a b : Nat) (ha : a < 1000) (hb : b < 1000) {Q : Int32 → CM → Prop} (h1 : ∀ v, hexR (fun i => (W t).getD i 0) a b = some v → Q 1 (sD M 40 hN v)) (h0 : hexR (fun i => (W t).getD i 0) a b = none → Q 0 M) : fc_X4_readHexadecimal T hN (some (G 1 t)) (nI a) (nI b) M Q := by
  have k : ∀ (m i : Nat) (v : Int64), i + m = b → (∀ v', hexL (fun i => (W t).getD i 0) m i v = some v' → Q 1 (sD M 40 hN (FP.l2d v'))) → (hexL (fun i => (W t).getD i 0) m i v = none → Q 0 M) → fc_X4_readHexadecimal_l23 T hN Q (m + 1) (some (G 1 t)) (nI b) v (nI i) M := by
    intro m
    induction m with
    | zero =>
      intro i v hi q1 q0
      show fc_X4_readHexadecimal_c23 T hN Q _ _ _ _ _ M
      unfold fc_X4_readHexadecimal_c23
      exact br_t (nI_le (by omega) (by omega)) ⟨hh, nm_e (q1 v rfl)⟩
    | succ m ih =>
      intro i v hi q1 q0
      show fc_X4_readHexadecimal_c23 T hN Q (fc_X4_readHexadecimal_l23 T hN Q (m + 1)) _ _ _ _ M
      unfold fc_X4_readHexadecimal_c23
      refine br_f (nI_ge (by omega) (by omega)) ⟨_, rfl, (hS.1 t ht).1, s_X7_at hS hV ht _ (s_X4_digitOf _ ?_)⟩
      rw [lat_nI _ (by omega)]
      unfold hexL at q1 q0
      refine ⟨fun c => nm_e (nm_e ?_), fun c => ?_⟩
      · rw [if_pos c] at q1 q0
        rw [nI_1]
        exact ih (i + 1) _ (by omega) q1 q0
      · rw [if_neg c] at q0
        exact q0 rfl
  unfold fc_X4_readHexadecimal fc_X4_readHexadecimal_b15
  unfold hexR at h1 h0
  refine ⟨fun c => ?_, fun c => ⟨fun d => ⟨b - a + 1, ?_⟩, fun d => ?_⟩⟩
  · rw [show (1 : Int32) = nI 1 from rfl, nI_sub_lt (by omega) (by omega) (by omega)] at c
    rw [if_pos (Or.inl (by omega))] at h0; exact h0 rfl
  · rw [show (1 : Int32) = nI 1 from rfl, nI_sub_lt (by omega) (by omega) (by omega)] at c
    rw [show (8 : Int32) = nI 8 from rfl, nI_sub_le (by omega) (by omega) (by omega)] at d
    rw [if_neg (by omega)] at h1 h0
    refine k (b - a) a 0 (by omega) (fun v' e => h1 _ (by rw [e]; rfl)) (fun e => h0 (by rw [e]; rfl))
  · rw [show (8 : Int32) = nI 8 from rfl, nI_sub_le (by omega) (by omega) (by omega)] at d
    rw [if_pos (Or.inr (by omega))] at h0; exact h0 rfl
theorem s_X4_dec (hS : SA G T M) (hV : VA G M I J D W) (ht : t < 145) (hh : tg T hN = 5) (a b : Nat) (ha : a < 200) (hb : b < 100) {Q : Int32 → CM → Prop} (h1 : ∀ v, decR (fun i => (W t).getD i 0) a b = some v → Q 1 (sD M 40 hN v)) (h0 : decR (fun i => (W t).getD i 0) a b = none → Q 0 M) : fc_X4_readDecimal T hN (some (G 1 t)) (nI a) (nI b) M Q := by
  have k : ∀ (m i : Nat) (d : Int64) (e : Nat) (bb : Bool) (r : Int32), (r = 0 ↔ bb = false) → e + m < 100 → i + m = b → (∀ p, decL (fun i => (W t).getD i 0) m i d e bb = some p → Q 1 (sD M 40 hN (FP.ddiv (FP.l2d p.1) (pw p.2)))) → (decL (fun i => (W t).getD i 0) m i d e bb = none → Q 0 M) → fc_X4_readDecimal_l43 T hN Q (m + 1) (some (G 1 t)) (nI b) d (pw e) r (nI i) M := by
    intro m
    induction m with
    | zero =>
      intro i d e bb r hr he hi q1 q0
      show fc_X4_readDecimal_c43 T hN Q _ _ _ _ _ _ _ M
      unfold fc_X4_readDecimal_c43
      refine br_t (nI_le (by omega) (by omega)) ⟨vf_of ?_, hh, nm_e (q1 (d, e) rfl)⟩
      exact Jvm.FP.Core.ddiv_out (Jvm.FP.Core.DFin.notNaN (Jvm.FP.Core.l2d_fin d)) (pw_ok (by omega)).1 (pw_ok (by omega)).2
    | succ m ih =>
      intro i d e bb r hr he hi q1 q0
      show fc_X4_readDecimal_c43 T hN Q (fc_X4_readDecimal_l43 T hN Q (m + 1)) _ _ _ _ _ _ M
      unfold fc_X4_readDecimal_c43
      refine br_f (nI_ge (by omega) (by omega)) ⟨_, rfl, (hS.1 t ht).1, s_X7_at hS hV ht _ ?_⟩
      rw [lat_nI _ (by omega)]
      unfold decL at q1 q0
      have h75 : ¬ ((W t).getD i 0 = 46 ∧ bb = false) → fc_X4_readDecimal_b75 T hN Q (fc_X4_readDecimal_l43 T hN Q (m + 1)) (some (G 1 t)) (nI b) d (pw e) r (nI i) ((W t).getD i 0) M := by
        intro hc
        rw [if_neg hc] at q1 q0
        unfold fc_X4_readDecimal_b75 fc_X4_readDecimal_b114 fc_X4_readDecimal_b121
        refine s_X4_isDigit _ (fun c => ⟨fun q => absurd q (by decide), fun _ => nm_e ⟨fun q => nm_e ?_, fun q => ⟨vf_of ?_, nm_e ?_⟩⟩⟩) (fun c => ⟨fun _ => ?_, fun q => absurd rfl q⟩)
        · rw [if_pos c, if_neg (by rw [hr.mp q]; decide)] at q1 q0
          rw [nI_1]
          exact ih (i + 1) _ e bb r hr (by omega) (by omega) q1 q0
        · exact Jvm.FP.Core.dmul_out (pw_ok (by omega)).1 ((Jvm.FP.Core.fin_bits _).mpr (by decide))
        · have eb : bb = true := by
            cases bb with
            | true => rfl
            | false => exact absurd (hr.mpr rfl) q
          rw [if_pos c, if_pos eb] at q1 q0
          rw [nI_1]
          exact ih (i + 1) _ (e + 1) bb r hr (by omega) (by omega) q1 q0
        · rw [if_neg (by rw [c]; decide)] at q0
          exact q0 rfl
      refine ⟨fun c => h75 (fun z => c z.1), fun c => ⟨fun c2 => h75 (fun z => c2 (hr.mpr z.2)), fun c2 => ?_⟩⟩
      have eb := hr.mp c2
      rw [if_pos ⟨c, eb⟩] at q1 q0
      unfold fc_X4_readDecimal_b121
      refine nm_e ?_
      rw [nI_1]
      exact ih (i + 1) d e true 1 (by decide) (by omega) (by omega) q1 q0
  unfold fc_X4_readDecimal fc_X4_readDecimal_b29
  unfold decR at h1 h0
  refine pk_le b a (fun c => ?_) (fun c => ⟨_, rfl, (hS.1 t ht).1, s_X7_at hS hV ht _ (s_X4_isDigit _ (fun d => ⟨fun q => absurd q (by decide), fun _ => ?_⟩) (fun d => ⟨fun _ => ?_, fun q => absurd rfl q⟩))⟩)
  · rw [if_pos (Or.inl c)] at h0; exact h0 rfl
  · rw [lat_nI _ (by omega)] at d
    rw [show (1 : Int32) = nI 1 from rfl, pk_sub (by omega)]
    refine s_X7_at hS hV ht _ (s_X4_isDigit _ (fun d2 => ⟨fun _ => ⟨b - a + 1, ?_⟩, fun q => absurd q (by decide)⟩) (fun d2 => ⟨fun q => absurd rfl q, fun _ => ?_⟩))
    · rw [lat_nI _ (by omega)] at d2
      rw [if_neg (fun z => z.elim (fun z => by omega) (fun z => z.elim (fun z => by rw [d] at z; cases z) (fun z => by rw [d2] at z; cases z)))] at h1 h0
      exact k (b - a) a 0 0 false 0 (by decide) (by omega) (by omega) (fun p e => h1 _ (by rw [e]; rfl)) (fun e => h0 (by rw [e]; rfl))
    · rw [lat_nI _ (by omega)] at d2
      rw [if_pos (Or.inr (Or.inr d2))] at h0; exact h0 rfl
  · rw [lat_nI _ (by omega)] at d
    rw [if_pos (Or.inr (Or.inl d))] at h0; exact h0 rfl
theorem decR_ok {w : Nat → Int32} {a b : Nat} (hb : b < 100) {v : UInt64} (h : decR w a b = some v) : Jvm.FP.Core.dIsNaN v = false := by
  unfold decR at h
  split at h
  · cases h
  · cases e : decL w (b - a) a 0 0 false with
    | none => rw [e] at h; cases h
    | some p =>
      rw [e] at h
      cases h
      have hk := decL_k w _ _ _ _ _ p e
      exact Jvm.FP.Core.ddiv_out (Jvm.FP.Core.DFin.notNaN (Jvm.FP.Core.l2d_fin p.1)) (pw_ok (by omega)).1 (pw_ok (by omega)).2
theorem s_X4_read (hS : SA G T M) (hV : VA G M I J D W) (ht : t < 145) (hr : (W t).length < 100) (hh : tg T hN = 5) {Q : Int32 → CM → Prop} (h1 : ∀ v, numR (fun i => (W t).getD i 0) (W t).length = some v → Q 1 (sD M 40 hN v)) (h0 : numR (fun i => (W t).getD i 0) (W t).length = none → Q 0 (sD M 40 hN FP.dconst0)) : fc_X4_read T hN (some (G 1 t)) M Q := by
  obtain ⟨w, hw⟩ : ∃ w : Nat → Int32, w = fun i => (W t).getD i 0 := ⟨_, rfl⟩
  obtain ⟨n, hn⟩ : ∃ n, n = (W t).length := ⟨_, rfl⟩
  obtain ⟨M0, hM0⟩ : ∃ M0, M0 = sD M 40 hN FP.dconst0 := ⟨_, rfl⟩
  have hS0 : SA G T M0 := by rw [hM0]; exact hS
  have hV0 : VA G M0 I J D W := by rw [hM0]; exact VA_sD40 hV _
  have eat : ∀ i, i < 1000 → lat (W t) (nI i) = w i := fun i hi => by rw [lat_nI _ (by omega), hw]
  have g1 := (hS.1 t ht).1
  rw [← hn] at hr
  rw [← hw, ← hn] at h1 h0
  -- behind the blanks
  have fin : ∀ a b, a = skp w n 0 → b = bck w a n → a ≤ b → b ≤ n → fc_X4_read_b56 T hN Q (some (G 1 t)) (nI a) (nI b) M0 := by
    intro a b ea eb hab hbn
    unfold numR at h1 h0
    rw [← ea, ← eb] at h1 h0
    have dec : ∀ (neg : Bool) (r : Int32) (a' : Nat), (r = 0 ↔ neg = false) → a' ≤ a + 1 → (∀ v, (if neg then (decR w a' b).map (fun v => FP.dsub FP.dconst0 v) else decR w a' b) = some v → Q 1 (sD M 40 hN v)) → ((if neg then (decR w a' b).map (fun v => FP.dsub FP.dconst0 v) else decR w a' b) = none → Q 0 (sD M 40 hN FP.dconst0)) → fc_X4_read_b148 T hN Q (nI b) r (nI a') (some (G 1 t)) M0 := by
      intro neg r a' hr' ha' q1 q0
      unfold fc_X4_read_b148 fc_X4_read_b176
      refine ⟨hh, s_X4_dec hS0 hV0 ht hh a' b (by omega) (by omega) (fun v e => ⟨fun _ => ⟨fun c => ⟨hh, nm_e ?_⟩, fun c => ⟨vf_of ?_, hh, nm_e ?_⟩⟩, fun q => absurd q (by decide)⟩) (fun e => ⟨fun q => absurd rfl q, fun _ => ?_⟩)⟩
      · rw [← hw] at e
        rw [if_neg (by rw [hr'.mp c]; decide)] at q1
        rw [cD_sD, if_pos ⟨rfl, rfl⟩, sD_sD, hM0, sD_sD]
        exact q1 v e
      · rw [cD_sD, if_pos ⟨rfl, rfl⟩]
        exact Jvm.FP.Core.dsub_out' ((Jvm.FP.Core.fin_bits _).mpr (by decide)) (decR_ok (by omega) e)
      · rw [← hw] at e
        have en : neg = true := by
          cases neg with
          | true => rfl
          | false => exact absurd (hr'.mpr rfl) c
        rw [if_pos en] at q1
        rw [cD_sD, if_pos ⟨rfl, rfl⟩, sD_sD, hM0, sD_sD]
        exact q1 _ (by rw [e]; rfl)
      · rw [← hw] at e
        rw [hM0]
        refine q0 ?_
        rw [e]; cases neg <;> rfl
    unfold fc_X4_read_b56
    refine ⟨fun c => ⟨_, rfl, g1, s_X7_at hS0 hV0 ht _ ?_⟩, fun c => ?_⟩
    · have hne : ¬ a = b := fun z => c (by rw [z])
      rw [if_neg hne] at h1 h0
      rw [eat a (by omega)]
      have h95 : ¬ (w a = 48 ∧ w (a + 1) = 120) → fc_X4_read_b95 T hN Q (some (G 1 t)) (nI a) (nI b) M0 := by
        intro hx
        rw [if_neg hx] at h1 h0
        unfold fc_X4_read_b95 fc_X4_read_b110 fc_X4_read_b127 fc_X4_read_b132
        refine ⟨_, rfl, g1, s_X7_at hS0 hV0 ht _ ?_⟩
        rw [eat a (by omega)]
        refine ⟨fun c1 => ⟨fun q => absurd rfl q, fun _ => ⟨_, rfl, g1, s_X7_at hS0 hV0 ht _ ?_⟩⟩, fun c1 => ⟨fun _ => ⟨fun q => absurd q (by decide), fun _ => ?_⟩, fun q => absurd q (by decide)⟩⟩
        · rw [if_neg c1] at h1 h0
          rw [eat a (by omega)]
          refine ⟨fun c2 => ⟨fun _ => ?_, fun q => absurd rfl q⟩, fun c2 => ⟨fun q => absurd q (by decide), fun _ => ?_⟩⟩
          · rw [if_neg c2] at h1 h0
            exact dec false 0 a (by decide) (by omega) h1 h0
          · rw [if_pos c2] at h1 h0
            rw [nI_1]
            exact dec false 0 (a + 1) (by decide) (by omega) h1 h0
        · rw [if_pos c1] at h1 h0
          rw [nI_1]
          exact dec true 1 (a + 1) (by decide) (by omega) h1 h0
      refine ⟨fun c1 => h95 (fun z => c1 z.1), fun c1 => s_X7_at hS0 hV0 ht _ ?_⟩
      rw [nI_1, eat (a + 1) (by omega)]
      refine ⟨fun c2 => h95 (fun z => c2 z.2), fun c2 => ⟨hh, ?_⟩⟩
      rw [if_pos ⟨c1, c2⟩] at h1 h0
      rw [show (2 : Int32) = nI 2 from rfl, nI_add]
      refine s_X4_hex hS0 hV0 ht hh (a + 2) b (by omega) (by omega) (fun v e => ⟨nZ_1, ?_⟩) (fun e => ⟨nZ_0, ?_⟩)
      · rw [← hw] at e
        rw [hM0, sD_sD]; exact h1 v e
      · rw [← hw] at e
        rw [hM0]; exact h0 e
    · rw [nI_eq (by omega) (by omega)] at c
      rw [if_pos c] at h1
      rw [hM0]
      exact h1 _ rfl
  -- the blanks at the end
  have k2 : ∀ (a b : Nat), a = skp w n 0 → bck w a b = bck w a n → a ≤ b → b ≤ n → fc_X4_read_l33 T hN Q (b + 1) (some (G 1 t)) (nI a) (nI b) M0 := by
    intro a b
    induction b with
    | zero =>
      intro ea eb hab hbn
      show fc_X4_read_c33 T hN Q _ _ _ _ M0
      unfold fc_X4_read_c33
      exact br_t (nI_le (by omega) (by omega)) (fin a 0 ea eb hab hbn)
    | succ b ih =>
      intro ea eb hab hbn
      show fc_X4_read_c33 T hN Q (fc_X4_read_l33 T hN Q (b + 1)) _ _ _ M0
      have eb' := eb
      rw [bck_s] at eb
      unfold fc_X4_read_c33
      refine pk_le (b + 1) a (fun c => ?_) (fun c => ⟨_, rfl, g1, s_X7_at hS0 hV0 ht _ ?_⟩)
      · refine fin a (b + 1) ea ?_ hab hbn
        rw [if_neg (fun z => by omega)] at eb; exact eb
      · rw [nI_pred, eat b (by omega)]
        refine ⟨fun d => ?_, fun d => nm_r (pk_m1 b) ?_⟩
        · refine fin a (b + 1) ea ?_ hab hbn
          rw [if_neg (fun z => d z.2)] at eb; exact eb
        · rw [if_pos ⟨c, d⟩] at eb
          exact ih ea eb (by omega) (by omega)
  -- the blanks at the beginning
  have k1 : ∀ (m a : Nat), a + m = n → skp w m a = skp w n 0 → fc_X4_read_l12 T hN Q (m + 1) (some (G 1 t)) (nI a) (nI n) M0 := by
    intro m
    induction m with
    | zero =>
      intro a ha ea
      show fc_X4_read_c12 T hN Q _ _ _ _ M0
      unfold fc_X4_read_c12
      exact br_t (nI_le (by omega) (by omega)) ⟨n + 1, k2 a n ea rfl (by omega) (Nat.le_refl _)⟩
    | succ m ih =>
      intro a ha ea
      show fc_X4_read_c12 T hN Q (fc_X4_read_l12 T hN Q (m + 1)) _ _ _ M0
      rw [skp_s] at ea
      unfold fc_X4_read_c12
      refine br_f (nI_ge (by omega) (by omega)) ⟨_, rfl, g1, s_X7_at hS0 hV0 ht _ ?_⟩
      rw [eat a (by omega)]
      refine ⟨fun d => ⟨n + 1, ?_⟩, fun d => nm_e ?_⟩
      · rw [if_neg d] at ea
        exact k2 a n ea rfl (by omega) (Nat.le_refl _)
      · rw [if_pos d] at ea
        rw [nI_1]
        exact ih (a + 1) (by omega) ea
  unfold fc_X4_read
  refine ⟨hh, nm_e ⟨_, rfl, g1, nm_r (e' := nI n) ?_ ⟨n + 1, ?_⟩⟩⟩
  · rw [← hM0, (hV0.2 t ht).1, hn]
  · rw [← hM0]
    exact k1 n 0 (by omega) rfl
end NUM
