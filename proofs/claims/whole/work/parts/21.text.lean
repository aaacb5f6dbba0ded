theorem rm_le (t : Nat) : rm t ≤ 100 := by unfold rm; split <;> (try split) <;> omega
theorem nC_nar {c : Int32} (h : nC c) : vp_nar .char c = c := by unfold vp_nar; rw [h.1]
theorem nC_0 : nC 0 := pk_charN (q := 0) (by decide)
theorem nZ_0 : nZ 0 := ⟨rfl, rfl⟩
theorem nZ_1 : nZ 1 := ⟨rfl, rfl⟩
/-- the sign at a place of a text, 0 where there is none -/
def lat (w : List Int32) (a : Int32) : Int32 := if a < 0 then 0 else w.getD a.toNatClampNeg 0
theorem lat_nI (w : List Int32) {i : Nat} (h : i < 2 ^ 31) : lat w (nI i) = w.getD i 0 := by
  unfold lat; rw [if_neg (nI_pos h), nI_clamp h]
def put (w : List Int32) (r : Nat) (c : Int32) : List Int32 := if w.length < r then w ++ [c] else w
def puts (w : List Int32) (r : Nat) : List Int32 → List Int32
  | [] => w
  | c :: l => puts (put w r c) r l
theorem puts_app (r : Nat) : ∀ (l w : List Int32), w.length + l.length ≤ r → puts w r l = w ++ l
  | [], w, _ => (List.append_nil w).symm
  | c :: l, w, h => by
    have h1 : w.length + (l.length + 1) ≤ r := h
    show puts (put w r c) r l = _
    rw [show put w r c = w ++ [c] from if_pos (by omega), puts_app r l _ (by rw [List.length_append, List.length_singleton]; omega), List.append_assoc]
    rfl
section TXT
variable {G : Nat → Nat → Nat} {T : LY} {M : CM} {I : Nat → Nat → Int32} {J : Nat → Int64} {D : Nat → UInt64} {W : Nat → List Int32} {t : Nat}
theorem s_X7_at (hS : SA G T M) (hV : VA G M I J D W) (ht : t < 145) (a : Int32) {Q : Int32 → CM → Prop} (h : Q (lat (W t) a) M) : fc_X7_at T (G 1 t) a M Q := by
  obtain ⟨g1, g2, g3, g4⟩ := hS.1 t ht
  obtain ⟨b1, b2, b3⟩ := hV.2 t ht
  have hr := rm_le t
  unfold fc_X7_at fc_X7_at_b30 fc_X7_at_b31
  refine br_c (fun c => ?_) (fun c => ?_)
  · rw [show lat (W t) a = 0 from if_pos c] at h
    exact ⟨nC_0, h⟩
  · obtain ⟨j, hj, rfl⟩ := nI_of c
    rw [lat_nI _ hj] at h
    refine ⟨g1, ?_⟩
    rw [b1]
    refine pk_le (W t).length j (fun y => ?_) (fun y => ?_)
    · rw [show (W t).getD j 0 = 0 by rw [List.getD_eq_getElem?_getD, List.getElem?_eq_none y]; rfl] at h
      exact ⟨nC_0, h⟩
    · refine ⟨G 2 t, g2, g3, ?_⟩
      rw [g4]
      refine br_f (nI_ge (by omega) (by omega)) ⟨vp_in_nI (by omega) (by omega), ?_⟩
      rw [nI_clamp hj, (b3 j y).1]
      exact ⟨(b3 j y).2, h⟩
theorem s_X7_append (hS : SA G T M) (hV : VA G M I J D W) (ht : t < 145) {a : Int32} (hc : nC a) {Q : CM → Prop} (h : ∀ M', zA G M M' → VA G M' I J D (va_up W t (put (W t) (rm t) a)) → Q M') : fc_X7_append T (G 1 t) a M Q := by
  obtain ⟨g1, g2, g3, g4⟩ := hS.1 t ht
  obtain ⟨b1, b2, b3⟩ := hV.2 t ht
  have hr := rm_le t
  unfold fc_X7_append fc_X7_append_b39
  refine ⟨g1, ?_⟩
  rw [b1]
  refine br_f (nI_pos (by omega)) ⟨G 2 t, g2, g3, ?_⟩
  rw [g4]
  refine pk_le (rm t) (W t).length (fun y => ?_) (fun y => ?_)
  · refine h M (zA_rf G M) ?_
    rw [show put (W t) (rm t) a = W t from if_neg (by omega), show va_up W t (W t) = W from funext fun u => by unfold va_up; split <;> simp_all]
    exact hV
  · refine ⟨vp_in_nI y (by omega), nm_e (nm_e ?_)⟩
    rw [cI_yI, b1, nI_1, nI_clamp (by omega), nC_nar hc]
    refine h _ (zA_tr (zA_yI G M t _ _ ht) (zA_sI G _ 71 _ _ (Or.inl rfl))) ?_
    rw [show put (W t) (rm t) a = W t ++ [a] from if_pos y]
    exact VA_app hS hV ht hc y
/-- the four signs of an int -/
def by8 (a sh : Int32) : Int32 := ((a.toUInt32 >>> (sh.toUInt32 &&& Int32.toUInt32 31)).toInt32) &&& 255
theorem by8_c (a sh : Int32) : ((by8 a sh).toUInt32 % 65536).toInt32 = by8 a sh := sc_c2 _
theorem by8_n (a sh : Int32) : nC (by8 a sh) := by
  have h := pk_fc ((by8 a sh))
  rw [by8_c] at h
  exact ⟨sc_nar _, h⟩
def sg1 (c : Int32) : List Int32 := if c = 0 then [] else [c]
def sg4 (a : Int32) : List Int32 := sg1 (by8 a 24) ++ (sg1 (by8 a 16) ++ (sg1 (by8 a 8) ++ sg1 (by8 a 0)))
theorem signsIn_1 {Q : Int32 → CM → Prop} {k : Int32 → Int32 → Int32 → CM → Prop} {v0 sh sh' : Int32} {n : Nat} (hs : ¬ sh < 0) (e : sh + (-8) = sh') (h : k v0 (nI (n + (sg1 (by8 v0 sh)).length)) sh' M) : fc_X7_signsIn_c5 T Q k v0 (nI n) sh M := by
  unfold fc_X7_signsIn_c5 fc_X7_signsIn_b22
  refine br_f hs ?_
  show (by8 v0 sh = 0 → _) ∧ (¬ by8 v0 sh = 0 → _)
  refine br_c (fun c => nm_r e ?_) (fun c => nm_e (nm_r e ?_))
  · rw [sg1, if_pos c] at h; exact h
  · rw [nI_1]; rw [sg1, if_neg c] at h; exact h
theorem s_X7_signsIn (a : Int32) {Q : Int32 → CM → Prop} (h : Q (nI (sg4 a).length) M) : fc_X7_signsIn T a M Q := by
  refine ⟨5, ?_⟩
  show fc_X7_signsIn_c5 T Q (fc_X7_signsIn_l5 T Q 4) a (nI 0) 24 M
  refine signsIn_1 (sh' := 16) (by decide) (by decide) ?_
  show fc_X7_signsIn_c5 T Q (fc_X7_signsIn_l5 T Q 3) _ _ _ M
  refine signsIn_1 (sh' := 8) (by decide) (by decide) ?_
  show fc_X7_signsIn_c5 T Q (fc_X7_signsIn_l5 T Q 2) _ _ _ M
  refine signsIn_1 (sh' := 0) (by decide) (by decide) ?_
  show fc_X7_signsIn_c5 T Q (fc_X7_signsIn_l5 T Q 1) _ _ _ M
  refine signsIn_1 (sh' := -8) (by decide) (by decide) ?_
  show fc_X7_signsIn_c5 T Q (fc_X7_signsIn_l5 T Q 0) _ _ _ M
  unfold fc_X7_signsIn_c5
  refine br_t (by decide) ?_
  have e : 0 + (sg1 (by8 a 24)).length + (sg1 (by8 a 16)).length + (sg1 (by8 a 8)).length + (sg1 (by8 a 0)).length = (sg4 a).length := by
    unfold sg4; simp only [List.length_append]; omega
  rw [e]; exact h
theorem appendSigns_1 (hS : SA G T M) (hV : VA G M I J D W) (ht : t < 145) {Q : CM → Prop} {k : Int32 → Int32 → CM → Prop} {v1 sh sh' : Int32} (hs : ¬ sh < 0) (e : sh + (-8) = sh') (h : ∀ M', zA G M M' → VA G M' I J D (va_up W t (puts (W t) (rm t) (sg1 (by8 v1 sh)))) → k v1 sh' M') : fc_X7_appendSigns_c3 T (G 1 t) Q k v1 sh M := by
  unfold fc_X7_appendSigns_c3 fc_X7_appendSigns_b25
  refine br_f hs ?_
  show ∀ x3 : Int32, x3 = by8 v1 sh → _
  refine nm_e (br_c (fun c => nm_r e ?_) (fun c => ⟨(hS.1 t ht).1, ?_⟩))
  · refine h M (zA_rf G M) ?_
    rw [sg1, if_pos c, show va_up W t (puts (W t) (rm t) []) = W from funext fun u => by unfold va_up; split <;> simp_all [puts]]
    exact hV
  · rw [by8_c]
    refine s_X7_append hS hV ht (by8_n _ _) (fun M' z v => nm_r e (h M' z ?_))
    rw [sg1, if_neg c]
    exact v
theorem va_up2 {α : Type} (f : Nat → α) (k : Nat) (v w : α) : va_up (va_up f k v) k w = va_up f k w := funext fun u => by unfold va_up; split <;> simp_all
theorem va_ups {α : Type} (f : Nat → α) (k : Nat) (v : α) : va_up f k v k = v := if_pos rfl
theorem va_upn {α : Type} (f : Nat → α) {k u : Nat} (v : α) (h : u ≠ k) : va_up f k v u = f u := if_neg h
theorem puts_puts (r : Nat) : ∀ (l w m : List Int32), puts (puts w r l) r m = puts w r (l ++ m)
  | [], _, _ => rfl
  | c :: l, w, m => puts_puts r l (put w r c) m
theorem s_X7_appendSigns (hS : SA G T M) (hV : VA G M I J D W) (ht : t < 145) (a : Int32) {Q : CM → Prop} (h : ∀ M', zA G M M' → VA G M' I J D (va_up W t (puts (W t) (rm t) (sg4 a))) → Q M') : fc_X7_appendSigns T (G 1 t) a M Q := by
  refine ⟨5, ?_⟩
  show fc_X7_appendSigns_c3 T (G 1 t) Q (fc_X7_appendSigns_l3 T (G 1 t) Q 4) a 24 M
  refine appendSigns_1 hS hV ht (sh' := 16) (by decide) (by decide) (fun M1 z1 v1 => ?_)
  show fc_X7_appendSigns_c3 T (G 1 t) Q (fc_X7_appendSigns_l3 T (G 1 t) Q 3) a _ M1
  refine appendSigns_1 (zA_SA z1 hS) v1 ht (sh' := 8) (by decide) (by decide) (fun M2 z2 v2 => ?_)
  show fc_X7_appendSigns_c3 T (G 1 t) Q (fc_X7_appendSigns_l3 T (G 1 t) Q 2) a _ M2
  refine appendSigns_1 (zA_SA (zA_tr z1 z2) hS) v2 ht (sh' := 0) (by decide) (by decide) (fun M3 z3 v3 => ?_)
  show fc_X7_appendSigns_c3 T (G 1 t) Q (fc_X7_appendSigns_l3 T (G 1 t) Q 1) a _ M3
  refine appendSigns_1 (zA_SA (zA_tr (zA_tr z1 z2) z3) hS) v3 ht (sh' := -8) (by decide) (by decide) (fun M4 z4 v4 => ?_)
  show fc_X7_appendSigns_c3 T (G 1 t) Q (fc_X7_appendSigns_l3 T (G 1 t) Q 0) a _ M4
  unfold fc_X7_appendSigns_c3
  refine br_t (by decide) (h M4 (zA_tr (zA_tr (zA_tr z1 z2) z3) z4) ?_)
  simp only [va_up2, va_ups, puts_puts] at v4
  rw [List.append_assoc, List.append_assoc] at v4
  exact v4
end TXT
