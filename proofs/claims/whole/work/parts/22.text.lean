theorem take_s {l : List Int32} {i : Nat} (h : i < l.length) : l.take (i + 1) = l.take i ++ [l.getD i 0] := by
  rw [List.take_add_one, List.getD_eq_getElem?_getD, List.getElem?_eq_getElem h]
  rfl
theorem sLen_le {s : Nat} (h : s < 16) : sLen s ≤ 9 := co_dec (P := fun s => sLen s ≤ 9) (by decide +kernel) h
theorem sByte_255 {s j : Nat} (h : s < 16) (hj : j < 9) : sByte s j &&& 255 = sByte s j := by
  have h1 := co_dec (N := 16) (P := fun s => (List.range 9).all (fun j => decide (sByte s j &&& 255 = sByte s j)) = true) (by decide +kernel) h
  exact co_dec (P := fun j => sByte s j &&& 255 = sByte s j) h1 hj
theorem sByte_n {s j : Nat} (h : s < 16) (hj : j < 9) : nC (sByte s j) := by
  have h1 := pk_fc (sByte s j &&& 255)
  have h2 := sc_nar (sByte s j)
  rw [sc_c2] at h1
  rw [sByte_255 h hj] at h1 h2
  exact ⟨h2, h1⟩
theorem s_J0_length {T : LY} {M : CM} {s : Nat} (h : s < 16) {Q : Int32 → CM → Prop} (k : Q (nI (sLen s)) M) : fc_J0_length_8abf5 T s M Q := by
  have h1 := sLen_le h
  unfold fc_J0_length_8abf5 fc_J0_coder_7d493 fc_J0_coder_7d493_b14
  refine ⟨h, br_f (by decide) ⟨h, ⟨rfl, rfl⟩, ?_⟩⟩
  show Q (nI (sLen s) >>> ((0 : Int32) &&& 31)) M
  rw [sc_shr0 (by omega)]; exact k
theorem s_J0_charAt {T : LY} {M : CM} {s j : Nat} (h : s < 16) (hj : j < sLen s) {Q : Int32 → CM → Prop} (k : Q (sByte s j) M) : fc_J0_charAt_5068e T s (nI j) M Q := by
  have h1 := sLen_le h
  unfold fc_J0_charAt_5068e fc_J0_isLatin1_aae02 fc_J0_isLatin1_aae02_b18 fc_J1_charAt_3b067 fc_J0_checkIndex_df160 fc_J3_checkIndex_8e157
  refine ⟨h, br_f (by decide) ⟨h, ⟨fun q => absurd rfl q, fun _ => ⟨nZ_1, br_f (by decide) ⟨h, fun _ => br_f (nI_pos (by omega)) (br_t (nI_lt hj (by omega)) ⟨vp_in_nI hj (by omega), ?_⟩)⟩⟩⟩⟩⟩
  dsimp only
  rw [nI_clamp (by omega), sc_c2, sByte_255 h (by omega)]
  exact ⟨sByte_n h (by omega), sByte_n h (by omega), k⟩
def isL (c : Int32) : Bool := !(decide (c < 97)) && !(decide (122 < c))
def wl (code : Int64) (c : Int32) : Int64 := (code * 32) + (((c - 97) + 1).toInt64)
def wcode (l : List Int32) : Int64 := l.foldl wl 0
/-- the code of a text as a word, 0 if it is none -/
def wordC (l : List Int32) : Int64 := if l.length ≤ 8 ∧ l.all isL = true then wcode l else 0
theorem s_X7_isLetter {T : LY} {M : CM} (a : Int32) {Q : Int32 → CM → Prop} (h1 : isL a = true → Q 1 M) (h0 : isL a = false → Q 0 M) : fc_X7_isLetter T a M Q := by
  unfold fc_X7_isLetter fc_X7_isLetter_b16 fc_X7_isLetter_b17
  refine br_c (fun c => ⟨nZ_0, h0 ?_⟩) (fun c => br_c (fun d => ⟨nZ_0, h0 ?_⟩) (fun d => ⟨nZ_1, h1 ?_⟩))
  · unfold isL; rw [decide_eq_true c]; rfl
  · unfold isL; rw [decide_eq_true d, Bool.not_true, Bool.and_false]
  · unfold isL; rw [decide_eq_false c, decide_eq_false d]; rfl
theorem s_X7_codeOf {T : LY} {M : CM} {s : Nat} (hs : s < 16) {Q : Int64 → CM → Prop} (h : Q (wcode (sText s)) M) : fc_X7_codeOf T s M Q := by
  have h1 := sLen_le hs
  have k : ∀ n i : Nat, sLen s - i < n → i ≤ sLen s → fc_X7_codeOf_l4 T Q n s (wcode ((sText s).take i)) (nI i) M := by
    intro n
    induction n with
    | zero => intro i hn; omega
    | succ n ih =>
      intro i hn hi
      show fc_X7_codeOf_c4 T Q (fc_X7_codeOf_l4 T Q n) _ _ _ M
      unfold fc_X7_codeOf_c4 fc_X7_withLetter
      refine ⟨hs, s_J0_length hs (pk_le (sLen s) i (fun y => ?_) (fun y => s_J0_charAt hs y (nm_e ?_)))⟩
      · have e : (sText s).take i = sText s := List.take_of_length_le y
        rw [e]; exact h
      · have e := ih (i + 1) (by omega) (by omega)
        rw [take_s y, wcode, List.foldl_append] at e
        rw [nI_1]
        exact e
  exact ⟨sLen s + 1, k _ 0 (by omega) (by omega)⟩
section TXT
variable {G : Nat → Nat → Nat} {T : LY} {M : CM} {I : Nat → Nat → Int32} {J : Nat → Int64} {D : Nat → UInt64} {W : Nat → List Int32} {t u : Nat}
theorem s_X7_wordCode (hS : SA G T M) (hV : VA G M I J D W) (ht : t < 145) {Q : Int64 → CM → Prop} (h : Q (wordC (W t)) M) : fc_X7_wordCode T (G 1 t) M Q := by
  obtain ⟨g1, g2, g3, g4⟩ := hS.1 t ht
  obtain ⟨b1, b2, b3⟩ := hV.2 t ht
  have hr := rm_le t
  unfold fc_X7_wordCode
  refine ⟨g1, ?_⟩
  rw [b1]
  refine pk_le (W t).length 8 (fun y => ?_) (fun y => ?_)
  · have k : ∀ n i : Nat, (W t).length - i < n → i ≤ (W t).length → ((W t).take i).all isL = true → fc_X7_wordCode_l15 T (G 1 t) Q n (wcode ((W t).take i)) (nI i) M := by
      intro n
      induction n with
      | zero => intro i hn; omega
      | succ n ih =>
        intro i hn hi hall
        show fc_X7_wordCode_c15 T (G 1 t) Q (fc_X7_wordCode_l15 T (G 1 t) Q n) _ _ M
        unfold fc_X7_wordCode_c15 fc_X7_withLetter
        refine ⟨g1, ?_⟩
        rw [b1]
        refine pk_le (W t).length i (fun z => ?_) (fun z => s_X7_at hS hV ht (nI i) ?_)
        · rw [List.take_of_length_le z] at hall ⊢
          rw [wordC, if_pos ⟨y, hall⟩] at h; exact h
        · rw [lat_nI _ (by omega)]
          refine s_X7_isLetter _ (fun c => ⟨fun _ => nm_e ?_, fun q => absurd q (by decide)⟩) (fun c => ⟨fun q => absurd rfl q, fun _ => ?_⟩)
          · rw [nI_1]
            have e := ih (i + 1) (by omega) (by omega) (by rw [take_s z, List.all_append, hall, List.all_cons, c]; rfl)
            rw [take_s z, wcode, List.foldl_append] at e
            exact e
          · rw [wordC, if_neg (fun q => ?_)] at h
            · exact h
            · have q2 := List.all_eq_true.mp q.2 ((W t).getD i 0) (by rw [List.getD_eq_getElem?_getD, List.getElem?_eq_getElem z]; exact List.getElem_mem z)
              rw [c] at q2; exact Bool.noConfusion q2
    exact ⟨(W t).length + 1, k _ 0 (by omega) (by omega) rfl⟩
  · rw [wordC, if_neg (fun q => by omega)] at h; exact h
theorem s_X7_copy (hS : SA G T M) (hV : VA G M I J D W) (ht : t < 145) (hu : u < 145) (hn : u ≠ t) {Q : CM → Prop} (h : ∀ M', zA G M M' → VA G M' I J D (va_up W t ((W u).take (rm t))) → Q M') : fc_X7_copy T (G 1 t) (some (G 1 u)) M Q := by
  have hr := rm_le t
  have hr2 := rm_le u
  have hlu := (hV.2 u hu).2.1
  have k : ∀ (n i : Nat) (N : CM), (W u).length - i < n → i ≤ (W u).length → i ≤ rm t → zA G M N → VA G N I J D (va_up W t ((W u).take i)) → fc_X7_copy_l7 T (G 1 t) Q n (some (G 1 u)) (nI i) N := by
    intro n
    induction n with
    | zero => intro i N hn; omega
    | succ n ih =>
      intro i N hn1 hi hi2 z v
      show fc_X7_copy_c7 T (G 1 t) Q (fc_X7_copy_l7 T (G 1 t) Q n) _ _ N
      have hSN := zA_SA z hS
      obtain ⟨g1, g2, g3, g4⟩ := hSN.1 t ht
      obtain ⟨f1, f2, f3, f4⟩ := hSN.1 u hu
      obtain ⟨b1, b2, b3⟩ := v.2 t ht
      obtain ⟨d1, d2, d3⟩ := v.2 u hu
      rw [va_ups] at b1 b2 b3
      rw [va_upn _ _ hn] at d1 d2 d3
      have hl : ((W u).take i).length = i := by rw [List.length_take]; omega
      unfold fc_X7_copy_c7 fc_X7_copy_b61
      refine ⟨_, rfl, f1, ?_⟩
      rw [d1]
      refine pk_le (W u).length i (fun y => ?_) (fun y => ⟨_, f2, f3, ?_⟩)
      · refine h N z ?_
        rw [List.take_of_length_le (by omega)]
        rw [List.take_of_length_le y] at v
        exact v
      · rw [f4]
        refine br_f (nI_ge (by omega) (by omega)) ⟨g1, _, g2, g3, ?_⟩
        rw [g4]
        refine pk_le (rm t) i (fun x => ?_) (fun x => ⟨vp_in_nI (by omega) (by omega), vp_in_nI x (by omega), nm_e (nm_e (nm_e ?_))⟩)
        · refine h N z ?_
          rw [show rm t = i by omega]; exact v
        · rw [nI_clamp (by omega), (d3 i y).1, nC_nar (d3 i y).2, cI_yI, b1, hl, nI_1]
          have a1 := VA_app hSN v ht (d3 i y).2 (by rw [va_ups, hl]; exact x)
          rw [va_ups, hl, va_up2, ← take_s y] at a1
          exact ih (i + 1) _ (by omega) (by omega) (by omega) (zA_tr (zA_tr z (zA_yI G N t _ _ ht)) (zA_sI G _ 71 _ _ (Or.inl rfl))) a1
  refine ⟨(hS.1 t ht).1, nm_e ⟨(W u).length + 1, ?_⟩⟩
  exact k _ 0 _ (by omega) (by omega) (by omega) (zA_sI G M 71 _ _ (Or.inl rfl)) (VA_cut hS hV ht)
theorem s_X7_appendLetters (hS : SA G T M) (hV : VA G M I J D W) (ht : t < 145) {s : Nat} (hs : s < 16) {Q : CM → Prop} (h : ∀ M', zA G M M' → VA G M' I J D (va_up W t (puts (W t) (rm t) (sText s))) → Q M') : fc_X7_appendLetters T (G 1 t) s M Q := by
  have h1 := sLen_le hs
  have k : ∀ (n i : Nat) (N : CM), sLen s - i < n → i ≤ sLen s → zA G M N → VA G N I J D (va_up W t (puts (W t) (rm t) ((sText s).take i))) → fc_X7_appendLetters_l2 T (G 1 t) Q n s (nI i) N := by
    intro n
    induction n with
    | zero => intro i N hn; omega
    | succ n ih =>
      intro i N hn hi z v
      show fc_X7_appendLetters_c2 T (G 1 t) Q (fc_X7_appendLetters_l2 T (G 1 t) Q n) _ _ N
      have hSN := zA_SA z hS
      unfold fc_X7_appendLetters_c2
      refine ⟨hs, s_J0_length hs (pk_le (sLen s) i (fun y => ?_) (fun y => s_J0_charAt hs y ⟨(hS.1 t ht).1, s_X7_append hSN v ht (sByte_n hs (by omega)) (fun M' z' v' => nm_e ?_)⟩))⟩
      · rw [show (sText s).take i = sText s from List.take_of_length_le y] at v
        exact h N z v
      · rw [nI_1]
        refine ih (i + 1) M' (by omega) (by omega) (zA_tr z z') ?_
        rw [va_up2, va_ups] at v'
        rw [take_s y, ← puts_puts]
        exact v'
  refine ⟨sLen s + 1, k _ 0 M (by omega) (by omega) (zA_rf G M) ?_⟩
  rw [show va_up W t (puts (W t) (rm t) ((sText s).take 0)) = W from funext fun u => by unfold va_up; split <;> simp_all [puts]]
  exact hV
end TXT
