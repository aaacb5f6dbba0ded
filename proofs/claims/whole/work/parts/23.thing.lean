theorem upI_s (I : Nat → Nat → Int32) (f t : Nat) (v : Int32) : upI I f t v f t = v := if_pos ⟨rfl, rfl⟩
theorem upI_f (I : Nat → Nat → Int32) {f g t u : Nat} (v : Int32) (h : g ≠ f) : upI I f t v g u = I g u := if_neg (fun z => h z.1)
theorem upI_n (I : Nat → Nat → Int32) {f g t u : Nat} (v : Int32) (h : u ≠ t) : upI I f t v g u = I g u := if_neg (fun z => h z.2)
/-- become -/
def bec (I : Nat → Nat → Int32) (t : Nat) (k : Int32) : Nat → Nat → Int32 := upI (upI (upI I 80 t k) 83 t 0) 85 t 0
theorem bec_80 (I : Nat → Nat → Int32) (t : Nat) (k : Int32) : bec I t k 80 t = k := by unfold bec; rw [upI_f _ _ (by decide), upI_f _ _ (by decide), upI_s]
theorem bec_83 (I : Nat → Nat → Int32) (t : Nat) (k : Int32) : bec I t k 83 t = 0 := by unfold bec; rw [upI_f _ _ (by decide), upI_s]
theorem bec_85 (I : Nat → Nat → Int32) (t : Nat) (k : Int32) : bec I t k 85 t = 0 := by unfold bec; rw [upI_s]
theorem bec_n (I : Nat → Nat → Int32) {t u : Nat} (k : Int32) (g : Nat) (h : u ≠ t) : bec I t k g u = I g u := by unfold bec; rw [upI_n _ _ h, upI_n _ _ h, upI_n _ _ h]
theorem s_thingAt0 {T : LY} {M : CM} (a : Int32) {Q : Option Nat → CM → Prop} (h : Q none M) : fc_X10_thingAt T none a M Q := by
  unfold fc_X10_thingAt fc_X10_thingAt_b20 fc_X10_thingAt_b21
  exact ⟨fun _ => h, fun q => absurd rfl q⟩
theorem s_thingAt {T : LY} {M : CM} {p n : Nat} (ht : tg T p = 28) (hl : ln T p = n) (hn : n < 2 ^ 31) (a : Int32) {Q : Option Nat → CM → Prop} (h1 : ∀ j, j < n → a = nI j → Q (xR M p j) M) (h0 : (a < 0 ∨ nI n ≤ a) → Q none M) : fc_X10_thingAt T (some p) a M Q := by
  unfold fc_X10_thingAt fc_X10_thingAt_b20 fc_X10_thingAt_b21
  refine br_f (fun q => by cases q) (br_c (fun c => h0 (Or.inl c)) (fun c => ⟨p, rfl, ht, ?_⟩))
  rw [hl]
  obtain ⟨j, hj, rfl⟩ := nI_of c
  refine br_c (fun d => h0 (Or.inr d)) (fun d => ?_)
  have hjn : j < n := by
    by_cases z : j < n
    · exact z
    · exact absurd (nI_le (by omega) hj) d
  refine ⟨vp_in_nI hjn hn, ?_⟩
  rw [nI_clamp hj]
  exact h1 j hjn rfl
section THG
variable {G : Nat → Nat → Nat} {T : LY} {M : CM} {I : Nat → Nat → Int32} {J : Nat → Int64} {D : Nat → UInt64} {W : Nat → List Int32} {t u n : Nat}
theorem s_X8_become (hS : SA G T M) (hV : VA G M I J D W) (ht : t < 144) (k : Int32) {Q : CM → Prop} (h : ∀ M', zA G M M' → VA G M' (bec I t k) (va_up J t 0) (va_up D t FP.dconst0) (va_up W t []) → Q M') : fc_X8_become T (G 0 t) k M Q := by
  obtain ⟨g1, g2, g3, g4, g5⟩ := hS.2.1 t ht
  have z1 := zA_sI G M 80 (G 0 t) k (Or.inr rfl)
  have v1 := VA_sI hS hV ht (f := 80) k rfl (fun q => absurd q (by decide))
  have z2 := zA_tr z1 (zA_sJ G _ (G 0 t) 0)
  have v2 := VA_sJ (zA_SA z1 hS) v1 ht 0
  have z3 := zA_tr z2 (zA_sD G _ (G 0 t) FP.dconst0)
  have v3 := VA_sD (zA_SA z2 hS) v2 ht FP.dconst0
  have z4 := zA_tr z3 (zA_sI G _ 83 (G 0 t) 0 (Or.inr rfl))
  have v4 := VA_sI (zA_SA z3 hS) v3 ht (f := 83) 0 rfl (fun _ => nZ_0)
  have z5 := zA_tr z4 (zA_sI G _ 85 (G 0 t) 0 (Or.inr rfl))
  have v5 := VA_sI (zA_SA z4 hS) v4 ht (f := 85) 0 rfl (fun q => absurd q (by decide))
  have z6 := zA_tr z5 (zA_sI G _ 71 (G 1 t) 0 (Or.inl rfl))
  have v6 := VA_cut (zA_SA z5 hS) v5 (t := t) (by omega)
  unfold fc_X8_become
  exact ⟨g1, nm_e (nm_e (nm_e ⟨nZ_0, nm_e (nm_e ⟨G 1 t, g2, (hS.1 t (by omega)).1, nm_e (h _ z6 v6)⟩)⟩))⟩
theorem s_X8_becomeNamed (hS : SA G T M) (hV : VA G M I J D W) (ht : t < 144) (k : Int32) {s : Nat} (hs : s < 16) {Q : CM → Prop} (h : ∀ M', zA G M M' → VA G M' (bec I t k) (va_up J t 0) (va_up D t FP.dconst0) (va_up W t (sText s)) → Q M') : fc_X8_becomeNamed T (G 0 t) k s M Q := by
  obtain ⟨g1, g2, g3, g4, g5⟩ := hS.2.1 t ht
  unfold fc_X8_becomeNamed
  refine ⟨g1, s_X8_become hS hV ht k (fun M' z v => ⟨G 1 t, ?_, (hS.1 t (by omega)).1, ?_⟩)⟩
  · exact ((zA_SA z hS).2.1 t ht).2.1
  · refine s_X7_appendLetters (zA_SA z hS) v (by omega) hs (fun M'' z' v' => h M'' (zA_tr z z') ?_)
    rw [va_ups, va_up2, puts_app] at v'
    · exact v'
    · have h1 := sLen_le hs
      have h2 : (sText s).length ≤ 9 := h1
      have h3 : 16 ≤ rm t := by unfold rm; split <;> (try split) <;> omega
      rw [List.length_nil]; omega
theorem s_X8_knowNumber (hS : SA G T M) (hV : VA G M I J D W) (ht : t < 144) {b : Int32} (hb : nZ b) (d : UInt64) {Q : CM → Prop} (h : ∀ M', zA G M M' → VA G M' (upI I 83 t b) J (va_up D t d) W → Q M') : fc_X8_knowNumber T (G 0 t) b d M Q := by
  have z1 := zA_sI G M 83 (G 0 t) b (Or.inr rfl)
  have v1 := VA_sI hS hV ht (f := 83) b rfl (fun _ => hb)
  unfold fc_X8_knowNumber
  exact ⟨(hS.2.1 t ht).1, hb, nm_e (nm_e (h _ (zA_tr z1 (zA_sD G _ (G 0 t) d)) (VA_sD (zA_SA z1 hS) v1 ht d)))⟩
theorem s_X8_becomeWhole (hS : SA G T M) (hV : VA G M I J D W) (ht : t < 144) (k : Int32) (w : Int64) {Q : CM → Prop} (h : ∀ M', zA G M M' → VA G M' (bec I t k) (va_up J t w) (va_up D t FP.dconst0) (va_up W t []) → Q M') : fc_X8_becomeWhole T (G 0 t) k w M Q := by
  unfold fc_X8_becomeWhole
  refine ⟨(hS.2.1 t ht).1, s_X8_become hS hV ht k (fun M' z v => nm_e (h _ (zA_tr z (zA_sJ G _ (G 0 t) w)) ?_))⟩
  have v' := VA_sJ (zA_SA z hS) v ht w
  rw [va_up2] at v'
  exact v'
theorem s_X8_becomeDouble (hS : SA G T M) (hV : VA G M I J D W) (ht : t < 144) (d : UInt64) {Q : CM → Prop} (h : ∀ M', zA G M M' → VA G M' (upI (bec I t 4) 83 t 1) (va_up J t 0) (va_up D t d) (va_up W t []) → Q M') : fc_X8_becomeDouble T (G 0 t) d M Q := by
  unfold fc_X8_becomeDouble
  refine ⟨(hS.2.1 t ht).1, s_X8_become hS hV ht 4 (fun M' z v => s_X8_knowNumber (zA_SA z hS) v ht nZ_1 d (fun M'' z' v' => h M'' (zA_tr z z') ?_))⟩
  rw [va_up2] at v'
  exact v'
theorem s_X8_becomeText (hS : SA G T M) (hV : VA G M I J D W) (ht : t < 144) (hu : u < 145) (hn : u ≠ t) {Q : CM → Prop} (h : ∀ M', zA G M M' → VA G M' (bec I t 5) (va_up J t 0) (va_up D t FP.dconst0) (va_up W t ((W u).take (rm t))) → Q M') : fc_X8_becomeText T (G 0 t) (some (G 1 u)) M Q := by
  unfold fc_X8_becomeText
  refine ⟨(hS.2.1 t ht).1, s_X8_become hS hV ht 5 (fun M' z v => ⟨G 1 t, ((zA_SA z hS).2.1 t ht).2.1, (hS.1 t (by omega)).1, s_X7_copy (zA_SA z hS) v (by omega) hu hn (fun M'' z' v' => h M'' (zA_tr z z') ?_)⟩)⟩
  rw [va_up2, va_upn _ _ hn] at v'
  exact v'
/-- a plain copy -/
theorem s_X8_copyPlain (hS : SA G T M) (hV : VA G M I J D W) (ht : t < 144) (hu : u < 144) (hn : u ≠ t) {Q : CM → Prop} (h : ∀ M', zA G M M' → VA G M' (upI (bec I t (I 80 u)) 83 t (I 83 u)) (va_up J t (J u)) (va_up D t (D u)) (va_up W t ((W u).take (rm t))) → Q M') : fc_X8_copyPlain T (G 0 t) (some (G 0 u)) M Q := by
  obtain ⟨⟨a1, a2, a3⟩, a4, a5, a6⟩ := hV.1 u hu
  unfold fc_X8_copyPlain
  refine ⟨_, rfl, (hS.2.1 u hu).1, (hS.2.1 t ht).1, ?_⟩
  rw [a1]
  refine s_X8_become hS hV ht _ (fun M1 z1 v1 => nm_e ?_)
  obtain ⟨⟨c1, c2, c3⟩, c4, c5, c6⟩ := v1.1 u hu
  rw [va_upn _ _ hn] at c4 c5
  rw [bec_n _ _ _ hn] at c2 c6
  rw [c4]
  have z2 := zA_tr z1 (zA_sJ G M1 (G 0 t) (J u))
  have v2 := VA_sJ (zA_SA z1 hS) v1 ht (J u)
  rw [va_up2] at v2
  have e1 : cI (sJ M1 81 (G 0 t) (J u)) 83 (G 0 u) = I 83 u := c2
  have e2 : cD (sJ M1 81 (G 0 t) (J u)) 82 (G 0 u) = D u := c5
  rw [e1, e2]
  refine s_X8_knowNumber (zA_SA z2 hS) v2 ht c6 _ (fun M3 z3 v3 => ⟨G 1 t, ((zA_SA (zA_tr z2 z3) hS).2.1 t ht).2.1, (hS.1 t (by omega)).1, ?_⟩)
  have hS3 := zA_SA (zA_tr z2 z3) hS
  rw [(hS3.2.1 u hu).2.1]
  refine s_X7_copy hS3 v3 (by omega) (by omega) hn (fun M4 z4 v4 => h M4 (zA_tr (zA_tr z2 z3) z4) ?_)
  rw [va_up2, va_up2, va_upn _ _ hn] at v4
  exact v4
theorem s_X8_isUN (hS : SA G T M) (hV : VA G M I J D W) (ht : t < 144) {Q : Int32 → CM → Prop} (h1 : (I 80 t = 7 ∨ I 80 t = 8) → Q 1 M) (h0 : ¬ (I 80 t = 7 ∨ I 80 t = 8) → Q 0 M) : fc_X8_isUndefinedOrNull T (G 0 t) M Q := by
  unfold fc_X8_isUndefinedOrNull fc_X8_isUndefinedOrNull_b18 fc_X8_isUndefinedOrNull_b23
  rw [(hV.1 t ht).1.1]
  refine ⟨(hS.2.1 t ht).1, fun c => ⟨nZ_1, h1 (Or.inl c)⟩, fun c => ⟨fun d => ⟨nZ_0, h0 (fun q => q.elim c d)⟩, fun d => ⟨nZ_1, h1 (Or.inr d)⟩⟩⟩
theorem s_X8_itemAt (hS : SA G T M) (hV : VA G M I J D W) (ht : t < 144) (hp : t % 48 < 8) (hn : I 85 t = nI n) (h5 : n ≤ 5) (a : Int32) {Q : Option Nat → CM → Prop} (h1 : ∀ j, j < n → a = nI j → Q (some (G 0 (itm t j))) M) (h0 : (a < 0 ∨ nI n ≤ a) → Q none M) : fc_X8_itemAt T (G 0 t) a M Q := by
  obtain ⟨g1, g2, g3, g4, g5⟩ := hS.2.1 t ht
  rw [if_pos hp] at g5
  unfold fc_X8_itemAt fc_X8_itemAt_b20
  rw [(hV.1 t ht).1.2.2, hn, g3]
  refine ⟨g1, fun c => h0 (Or.inr c), fun c => s_thingAt g4 g5 (by omega) a (fun j hj e => ?_) (fun q => ?_)⟩
  · rw [hS.2.2.1 t ht hp j hj]
    have hjn : j < n := by
      by_cases z : j < n
      · exact z
      · exact absurd (e ▸ nI_le (by omega) (by omega)) c
    exact h1 j hjn e
  · rcases q with q | q
    · exact h0 (Or.inl q)
    · by_cases z : a < 0
      · exact h0 (Or.inl z)
      · obtain ⟨j, hj, rfl⟩ := nI_of z
        rw [nI_leI (by omega) hj] at q
        exact absurd (nI_le (by omega) hj) c
theorem s_X8_nextItem (hS : SA G T M) (hV : VA G M I J D W) (ht : t < 144) (hp : t % 48 < 8) (hn : I 85 t = nI n) {Q : Option Nat → CM → Prop} (h5 : n < 5) (h : ∀ M', zA G M M' → VA G M' (upI I 85 t (nI (n + 1))) J D W → Q (some (G 0 (itm t n))) M') : fc_X8_nextItem T (G 0 t) M Q := by
  obtain ⟨g1, g2, g3, g4, g5⟩ := hS.2.1 t ht
  rw [if_pos hp] at g5
  unfold fc_X8_nextItem fc_X8_nextItem_b26
  rw [(hV.1 t ht).1.2.2, hn, g3]
  refine ⟨g1, s_thingAt g4 g5 (by omega) _ (fun j hj e => ?_) (fun q => ?_)⟩
  · rw [nI_eq (by omega) (by omega)] at e
    subst e
    rw [hS.2.2.1 t ht hp n hj]
    refine br_f (fun q => by cases q) (nm_e ?_)
    rw [(hV.1 t ht).1.2.2, hn, nI_1]
    exact h _ (zA_sI G M 85 _ _ (Or.inr rfl)) (VA_sI hS hV ht (f := 85) _ rfl (fun q => absurd q (by decide)))
  · rcases q with q | q
    · exact absurd q (nI_pos (by omega))
    · rw [nI_leI (by omega) (by omega)] at q; omega
theorem s_X8_isTrue (hS : SA G T M) (hV : VA G M I J D W) (ht : t < 144) {Q : Int32 → CM → Prop} (h : Q (if I 80 t = 2 ∨ I 80 t = 4 then (if Op.cmpValue (FP.dcmp (D t) FP.dconst0) .l = 0 then 0 else 1) else if I 80 t = 6 ∨ (I 80 t = 5 ∧ 0 < (W t).length) then 1 else 0) M) : fc_X8_isTrue T (G 0 t) M Q := by
  have hr := rm_le t
  obtain ⟨⟨a1, a2, a3⟩, a4, a5, a6⟩ := hV.1 t ht
  obtain ⟨b1, b2, b3⟩ := hV.2 t (by omega)
  unfold fc_X8_isTrue fc_X8_isTrue_b16 fc_X8_isTrue_b30 fc_X8_isTrue_b58 fc_X8_isTrue_b62 fc_X8_isTrue_b63
  rw [a1, a5]
  have hd : (I 80 t = 2 ∨ I 80 t = 4) → (tg T (G 0 t) = 9 ∧ ((Op.cmpValue (FP.dcmp (D t) FP.dconst0) .l = 0 → nZ 0 ∧ Q 0 M) ∧ (¬ Op.cmpValue (FP.dcmp (D t) FP.dconst0) .l = 0 → nZ 1 ∧ Q 1 M))) := by
    intro q
    rw [if_pos q] at h
    refine ⟨(hS.2.1 t ht).1, fun c => ?_, fun c => ?_⟩
    · rw [if_pos c] at h; exact ⟨nZ_0, h⟩
    · rw [if_neg c] at h; exact ⟨nZ_1, h⟩
  refine ⟨(hS.2.1 t ht).1, fun c => hd (Or.inl c), fun c => ⟨fun d => ?_, fun d => hd (Or.inr d)⟩⟩
  rw [if_neg (fun q => q.elim c d)] at h
  refine ⟨fun e => ?_, fun e => ⟨fun f => ?_, fun f => ⟨G 1 t, (hS.2.1 t ht).2.1, (hS.1 t (by omega)).1, ?_⟩⟩⟩
  · rw [if_pos (Or.inl e)] at h; exact ⟨nZ_1, h⟩
  · rw [if_neg (fun q => q.elim e (fun q => f q.1))] at h; exact ⟨nZ_0, h⟩
  · rw [b1]
    refine pk_le (W t).length 0 (fun y => ?_) (fun y => ?_)
    · rw [if_neg (fun q => q.elim e (fun q => by omega))] at h; exact ⟨nZ_0, h⟩
    · rw [if_pos (Or.inr ⟨f, y⟩)] at h; exact ⟨nZ_1, h⟩
end THG
