section MK
variable {E : Nat → Prop} {T T' : LY} {M M' : CM} {q h x y n : Nat} {it : Option Nat} {L : List Int32}
/-- a thing of kind undefined whose text is L -/
def NU (T : LY) (M : CM) (h x q n : Nat) (it : Option Nat) (L : List Int32) : Prop := (tg T h = 9 ∧ tg T x = 8 ∧ tg T q = 20 ∧ ln T q = n) ∧ cR M 84 h = some x ∧ cR M 86 h = it ∧ cR M 70 x = some q ∧ (cI M 71 x = nI L.length ∧ ∀ i, i < L.length → xI M q i = L.getD i 0) ∧ (cI M 80 h = 7 ∧ cI M 83 h = 0 ∧ cI M 85 h = 0) ∧ cJ M 81 h = 0 ∧ cD M 82 h = FP.dconst0
theorem NT_NU (t : NT T M h x q n it) : NU T M h x q n it [] := by
  obtain ⟨a, b, c, d, e, f⟩ := t
  exact ⟨a, b, c, d, ⟨e, fun i hi => absurd hi (Nat.not_lt_zero i)⟩, f⟩
theorem xE_NU (k : xE E T M T' M') (h1 : ¬ E h) (h2 : ¬ E x) (h3 : ¬ E y) (t : NU T M h x y n it L) : NU T' M' h x y n it L := by
  obtain ⟨⟨a1, a2, a3, a4⟩, b, c, d, ⟨e1, e2⟩, ⟨f1, f2, f3⟩, g, i⟩ := t
  have kh := k h (by rw [a1]; decide)
  have kx := k x (by rw [a2]; decide)
  have ky := k y (by rw [a3]; decide)
  have sh := kh.2 h1
  have sx := kx.2 h2
  have sy := ky.2 h3
  exact ⟨⟨kh.1.1.trans a1, kx.1.1.trans a2, ky.1.1.trans a3, ky.1.2.trans a4⟩, (sh.2.2.2.1 _).trans b, (sh.2.2.2.1 _).trans c, (sx.2.2.2.1 _).trans d, ⟨(sx.1 _).trans e1, fun j hj => (sy.2.2.2.2.1 j).trans (e2 j hj)⟩, ⟨(sh.1 _).trans f1, (sh.1 _).trans f2, (sh.1 _).trans f3⟩, (sh.2.1 _).trans g, (sh.2.2.1 _).trans i⟩
theorem s_app1 (t : NU T M h x y n it L) (hl : L.length < n) (hn : n < 1000) {c : Int32} (hc : nC c) {Q : CM → Prop} (k : ∀ M', xE (fun a => a = x ∨ a = y) T M T M' → NU T M' h x y n it (L ++ [c]) → Q M') : fc_X7_append T x c M Q := by
  obtain ⟨⟨a1, a2, a3, a4⟩, b, c', d, ⟨e1, e2⟩, ⟨f1, f2, f3⟩, g, i⟩ := t
  have hx : x ≠ h := fun z => by rw [z, a1] at a2; exact absurd a2 (by decide)
  unfold fc_X7_append fc_X7_append_b39
  rw [e1]
  refine ⟨a2, br_f (nI_pos (by omega)) ⟨y, d, a3, ?_⟩⟩
  rw [a4]
  refine br_f (nI_ge (by omega) (by omega)) ⟨vp_in_nI hl (by omega), nm_e (nm_e ?_)⟩
  rw [nI_clamp (by omega), nC_nar hc]
  have e3 : cI (yI M y L.length c) 71 x = nI L.length := e1
  rw [e3, nI_1]
  refine k _ (xE_tr (xE_yI L.length c (Or.inr rfl)) (xE_sI 71 _ (Or.inl rfl))) ⟨⟨a1, a2, a3, a4⟩, b, c', d, ⟨?_, fun j hj => ?_⟩, ⟨?_, ?_, ?_⟩, g, i⟩
  · rw [cI_sI, if_pos ⟨rfl, rfl⟩, List.length_append]; rfl
  · rw [List.length_append, List.length_singleton] at hj
    rw [snocI]
    show xI (yI M y L.length c) y j = _
    rw [xI_yI]
    by_cases z : j = L.length
    · rw [if_pos ⟨rfl, z⟩, if_pos z]
    · rw [if_neg (fun w => z w.2), if_neg z]; exact e2 j (by omega)
  · rw [cI_sI, if_neg (fun z => hx z.2.symm)]; exact f1
  · rw [cI_sI, if_neg (fun z => hx z.2.symm)]; exact f2
  · rw [cI_sI, if_neg (fun z => hx z.2.symm)]; exact f3
theorem s_letters (t : NU T M h x y n it []) (hn : n < 1000) {s : Nat} (hs : s < 16) (h9 : 9 ≤ n) {Q : CM → Prop} (k : ∀ M', xE (fun a => a = x ∨ a = y) T M T M' → NU T M' h x y n it (sText s) → Q M') : fc_X7_appendLetters T x s M Q := by
  have h1 := sLen_le hs
  have h2 : sLen s = (sText s).length := rfl
  have lp : ∀ m i (N : CM), sLen s - i < m → i ≤ sLen s → xE (fun a => a = x ∨ a = y) T M T N → NU T N h x y n it ((sText s).take i) → fc_X7_appendLetters_l2 T x Q m s (nI i) N := by
    intro m
    induction m with
    | zero => intro i N hn; omega
    | succ m ih =>
      intro i N hm hi z v
      show fc_X7_appendLetters_c2 T x Q (fc_X7_appendLetters_l2 T x Q m) _ _ N
      unfold fc_X7_appendLetters_c2
      refine ⟨hs, s_J0_length hs (pk_le (sLen s) i (fun c => ?_) (fun c => s_J0_charAt hs c ⟨v.1.2.1, s_app1 v (by rw [List.length_take]; omega) hn (sByte_n hs (by omega)) (fun M' z' v' => nm_e ?_)⟩))⟩
      · rw [List.take_of_length_le (by omega)] at v
        exact k N z v
      · rw [nI_1]
        refine ih (i + 1) M' (by omega) (by omega) (xE_tr z z') ?_
        rw [take_s c]
        exact v'
  exact ⟨sLen s + 1, lp _ 0 M (by omega) (by omega) (xE_rf _ T M) t⟩
theorem s_named (t : NU T M h x y n it L) (hn : n < 1000) (h9 : 9 ≤ n) {Q : CM → Prop} (k : ∀ M', xE (fun a => a = h ∨ a = x ∨ a = y) T M T M' → NU T M' h x y n it (sText 11) → Q M') : fc_X8_becomeNamed T h 7 11 M Q := by
  obtain ⟨⟨a1, a2, a3, a4⟩, b, c', d, ⟨e1, e2⟩, ⟨f1, f2, f3⟩, g, i⟩ := t
  have hx : x ≠ h := fun z => by rw [z, a1] at a2; exact absurd a2 (by decide)
  unfold fc_X8_becomeNamed fc_X8_become
  refine ⟨a1, a1, nm_e (nm_e (nm_e ⟨nZ_0, nm_e (nm_e ⟨x, b, a2, nm_e ⟨x, b, a2, ?_⟩⟩)⟩))⟩
  obtain ⟨M1, hM1⟩ : ∃ M1, M1 = sI (sI (sI (sD (sJ (sI M 80 h 7) 81 h 0) 82 h FP.dconst0) 83 h 0) 85 h 0) 71 x 0 := ⟨_, rfl⟩
  rw [← hM1]
  have x1 : xE (fun a => a = h ∨ a = x ∨ a = y) T M T M1 := by
    rw [hM1]
    exact xE_tr (xE_sI 80 7 (Or.inl rfl)) (xE_tr (xE_sJ 81 0 (Or.inl rfl)) (xE_tr (xE_sD 82 FP.dconst0 (Or.inl rfl)) (xE_tr (xE_sI 83 0 (Or.inl rfl)) (xE_tr (xE_sI 85 0 (Or.inl rfl)) (xE_sI 71 0 (Or.inr (Or.inl rfl)))))))
  have t1 : NU T M1 h x y n it [] := by
    rw [hM1]
    refine ⟨⟨a1, a2, a3, a4⟩, b, c', d, ⟨?_, fun i hi => absurd hi (Nat.not_lt_zero i)⟩, ⟨?_, ?_, ?_⟩, ?_, ?_⟩
    · rw [cI_sI, if_pos ⟨rfl, rfl⟩]; rfl
    · rw [cI_sI, if_neg (fun z => absurd z.1 (by decide)), cI_sI, if_neg (fun z => absurd z.1 (by decide)), cI_sI, if_neg (fun z => absurd z.1 (by decide))]
      show cI (sI M 80 h 7) 80 h = 7
      rw [cI_sI, if_pos ⟨rfl, rfl⟩]
    · rw [cI_sI, if_neg (fun z => absurd z.1 (by decide)), cI_sI, if_neg (fun z => absurd z.1 (by decide)), cI_sI, if_pos ⟨rfl, rfl⟩]
    · rw [cI_sI, if_neg (fun z => absurd z.1 (by decide)), cI_sI, if_pos ⟨rfl, rfl⟩]
    · show cJ (sJ (sI M 80 h 7) 81 h 0) 81 h = 0
      rw [cJ_sJ, if_pos ⟨rfl, rfl⟩]
    · show cD (sD (sJ (sI M 80 h 7) 81 h 0) 82 h FP.dconst0) 82 h = _
      rw [cD_sD, if_pos ⟨rfl, rfl⟩]
  exact s_letters t1 hn (by decide) h9 (fun M' z v => k M' (xE_tr x1 (xE_dr z (fun e he => Or.inr (Or.inr he)))) v)
end MK
