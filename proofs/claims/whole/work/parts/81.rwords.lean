/-! the reference's reader: the words of an enum -/
def cW (t : Nat) : Nat → Nat → Prop := fun f i => (f = 11 ∧ i = t) ∨ (f = 12 ∧ 40 * t ≤ i ∧ i < 40 * t + 40)
theorem in_map {Ls : List (List Int32)} {c : Int64} : c ∈ Ls.map wcode ↔ ∃ j, j < Ls.length ∧ wcode (Ls.getD j []) = c := by
  rw [List.mem_map]
  refine ⟨fun ⟨L, hL, e⟩ => ?_, fun ⟨j, hj, e⟩ => ?_⟩
  · obtain ⟨j, hj, e2⟩ := List.mem_iff_getElem.mp hL
    refine ⟨j, hj, ?_⟩
    rw [List.getD_eq_getElem?_getD, List.getElem?_eq_getElem hj]
    show wcode Ls[j] = c
    rw [e2, e]
  · refine ⟨Ls[j], List.getElem_mem hj, ?_⟩
    rw [List.getD_eq_getElem?_getD, List.getElem?_eq_getElem hj] at e
    exact e
theorem snocL (Ls : List (List Int32)) (L : List Int32) (j : Nat) : (Ls ++ [L]).getD j [] = if j = Ls.length then L else Ls.getD j [] := by
  by_cases h : j = Ls.length
  · rw [if_pos h, h]; simp
  · rw [if_neg h]
    rcases Nat.lt_or_ge j Ls.length with c | c
    · rw [List.getD_eq_getElem?_getD, List.getD_eq_getElem?_getD, List.getElem?_append_left c]
    · rw [List.getD_eq_getElem?_getD, List.getD_eq_getElem?_getD, List.getElem?_eq_none (by rw [List.length_append, List.length_singleton]; omega), List.getElem?_eq_none c]
theorem zK_rWd {S : Nat → Nat → Prop} {N N' : RM} {k : Nat} {L : List Int32} (f : zK S N N') (hS : ∀ i, 8 * k ≤ i → i < 8 * k + 8 → ¬ S 12 i) (h : rWd N k L) : rWd N' k L := ⟨h.1, h.2.1, h.2.2.1, fun i hi => (f.2.1 12 _ (hS _ (by omega) (by omega))).trans (h.2.2.2 i hi)⟩
theorem zK_RX {S : Nat → Nat → Prop} {N N' : RM} {w : List Int32} {a : Nat} (f : zK S N N') (hS : ∀ i, ¬ S 1 i) (e26 : rI N' 26 = rI N 26) (e27 : rI N' 27 = rI N 27) (h : RX N w a) : RX N' w a := ⟨e27.trans h.1, zLP_k hS f h.2.1, h.2.2.1, e26.trans h.2.2.2⟩
section RDW
variable {N : RM} {w : List Int32} {a t : Nat}
theorem r_readWord (hw : gL w) (h : RZ N w a) (ht : t < 370) {Ls : List (List Int32)} (hl : Ls.length < 5) (h11 : rA N 11 t = nI Ls.length) (hWd : ∀ j, j < Ls.length → rWd N (5 * t + j) (Ls.getD j [])) {Q : RM → Prop}
    (q1 : zC w a ≠ 0 → zC w a ∉ Ls.map wcode → ∀ N' L, zK (cW t) N N' → RZ N' w (zE w a) → wcode L = zC w a → rA N' 11 t = nI (Ls.length + 1) → (∀ j, j < Ls.length + 1 → rWd N' (5 * t + j) ((Ls ++ [L]).getD j [])) → Q N')
    (q0 : (zC w a = 0 ∨ zC w a ∈ Ls.map wcode) → ∀ N', zK (cW t) N N' → FZ N' (zst w a) → Q N') : fm_readWord (nI t) N Q := by
  have E := zE_c (w := w) h.2.2.1
  have E2 := E.2.1
  have E3 := zst_le w (zE w a)
  have hw1 := hw.1
  have ze := zE_le h.2.2.1
  have it := vp_in_nI (n := t) (N := 370) ht (by omega)
  unfold fm_readWord
  rw [nI_clamp (by omega), h11, m5, nI_add]
  refine ⟨it, nm_e (r_wordEnd hw h (fun N1 k1 x1 => nm_e ?_))⟩
  rw [x1.2.2.2, pk_sub (by omega), show zst w a + (zE w a - a) - zst w a = zE w a - a by omega]
  have bad : zC w a = 0 → fm_readWord_b37 Q N1 := by
    intro z
    unfold fm_readWord_b37
    rw [x1.2.2.2]
    exact r_wrong x1 (fun N2 k2 f2 => q0 (Or.inl z) N2 (zK_o (zK_tr k1 k2)) f2)
  obtain ⟨m, em⟩ : ∃ m, m = zE w a - a := ⟨_, rfl⟩
  rw [← em] at E E2 ⊢
  refine pk_lt m 1 (fun c => bad ((zC_0 h.2.2.1).mpr (Or.inl (by omega)))) (fun c => pk_le m 8 (fun d => ?_) (fun d => bad ((zC_0 h.2.2.1).mpr (Or.inr (by omega)))))
  obtain ⟨L, eL⟩ : ∃ L, L = zwL w a m := ⟨_, rfl⟩
  have Ll : L.length = m := by rw [eL, zwL_len]
  have La : L.all isL = true := by rw [eL, em]; exact zwL_all h.2.2.1
  have eC : zC w a = wcode L := by rw [eL]; unfold zC; rw [if_pos (by omega), em]
  have nz0 : zC w a ≠ 0 := fun z => by have := (zC_0 h.2.2.1).mp z; omega
  obtain ⟨x, ex⟩ : ∃ x, x = 5 * t + Ls.length := ⟨_, rfl⟩
  rw [← ex]
  have fin : ∀ N2, zK (fun f i => f = 12 ∧ 8 * x ≤ i ∧ i < 8 * x + 8) N1 N2 → RX N2 w a → rWd N2 x L → ∃ nn : Nat, fm_readWord_l102 Q nn (nI t) (nI x) (nI (zst w a + m)) (nI (5 * t)) N2 := by
    intro N2 k2 x2 wx
    have kk : zK (cW t) N N2 := zK_tr (zK_o k1) (zK_mo (fun f i z => Or.inr ⟨z.1, by omega, by omega⟩) k2)
    have w2 : ∀ j, j < Ls.length → rWd N2 (5 * t + j) (Ls.getD j []) := fun j hj => zK_rWd k2 (fun i a b z => by omega) (zK_rWd k1 (fun _ _ _ z => z) (hWd j hj))
    have e2 : rA N2 11 t = nI Ls.length := by rw [k2.2.1 11 t (fun z => absurd z.1 (by decide)), k1.2.1 11 t (fun z => z)]; exact h11
    have lp : ∀ n j N3, j + n = Ls.length → zK cO N2 N3 → ((RX N3 w a ∧ ∀ i, i < j → L ≠ Ls.getD i []) ∨ (FZ N3 (zst w a) ∧ ∃ i, i < Ls.length ∧ L = Ls.getD i [])) → fm_readWord_l102 Q (n + 1) (nI t) (nI x) (nI (zst w a + m)) (nI (5 * t + j)) N3 := by
      intro n
      induction n with
      | zero =>
        intro j N3 hj k3 st
        show fm_readWord_c102 Q _ _ _ _ _ N3
        unfold fm_readWord_c102
        refine br_t (nI_le (by omega) (by omega)) ⟨it, it, ?_⟩
        rw [nI_clamp (by omega), k3.2.1 11 t (fun z => z), e2, nI_1]
        refine nm_e (nm_e ?_)
        have k4 : zK (cW t) N (wI (wA N3 11 t (nI (Ls.length + 1))) 26 (nI (zst w a + m))) := zK_tr (zK_tr kk (zK_o k3)) (zK_tr (zK_A _ _ (Or.inl ⟨rfl, rfl⟩)) (zK_I _ _ (Or.inl rfl)))
        rcases st with ⟨x3, nd⟩ | ⟨f3, i, hi, e⟩
        · refine q1 nz0 (fun z => ?_) _ L k4 ⟨x3.1, zLP_I _ (by decide) (RX_A (f := 11) (i := t) _ (by decide) x3).2.1, ze.2, zst w a + m, rfl, E2, E.2.2.1⟩ eC.symm ?_ (fun j' hj' => ?_)
          · obtain ⟨i, hi, e⟩ := in_map.mp z
            have wi := w2 i hi
            rw [eC] at e
            exact nd i (by omega) ((wcode_inj wi.2.2.1 La wi.2.1 (by omega)).mp e).symm
          · rw [rA_wI, rA_wA, if_pos ⟨rfl, rfl⟩]
          · have up : ∀ K k, rWd N2 k K → rWd (wI (wA N3 11 t (nI (Ls.length + 1))) 26 (nI (zst w a + m))) k K := fun K k q => ⟨q.1, q.2.1, q.2.2.1, fun i hi => by rw [rA_wI, rA_wA, if_neg (fun z => absurd z.1 (by decide)), k3.2.1 12 _ (fun z => z)]; exact q.2.2.2 i hi⟩
            rw [snocL]
            by_cases y : j' = Ls.length
            · rw [if_pos y, y, ← ex]; exact up _ _ wx
            · rw [if_neg y]; exact up _ _ (w2 j' (by omega))
        · refine q0 (Or.inr (in_map.mpr ⟨i, hi, ?_⟩)) _ k4 f3
          rw [eC, e]
      | succ n ih =>
        intro j N3 hj k3 st
        show fm_readWord_c102 Q (fm_readWord_l102 Q (n + 1)) _ _ _ _ N3
        unfold fm_readWord_c102 fm_readWord_b126
        have r3 : ∀ K k, rWd N2 k K → rWd N3 k K := fun K k q => zK_rWd k3 (fun _ _ _ z => z) q
        refine br_f (nI_ge (by omega) (by omega)) (r_sameWord (r3 _ _ (w2 j (by omega))) (r3 _ _ wx) (by omega) (by omega) (fun e => ⟨fun z => absurd z (by decide), fun _ => ?_⟩) (fun e => ⟨fun _ => nm_r (nI_1 _) (ih (j + 1) N3 (by omega) k3 ?_), fun z => absurd rfl z⟩))
        · rcases st with ⟨x3, nd⟩ | ⟨f3, o⟩
          · rw [x3.2.2.2]
            exact r_wrong x3 (fun N4 k4 f4 => nm_r (nI_1 _) (ih (j + 1) N4 (by omega) (zK_tr k3 k4) (Or.inr ⟨f4, j, by omega, e.symm⟩)))
          · exact r_wrongF f3 (fun N4 k4 f4 => nm_r (nI_1 _) (ih (j + 1) N4 (by omega) (zK_tr k3 k4) (Or.inr ⟨f4, o⟩)))
        · rcases st with ⟨x3, nd⟩ | o
          · refine Or.inl ⟨x3, fun i hi => ?_⟩
            by_cases y : i = j
            · rw [y]; exact fun z => e z.symm
            · exact nd i (by omega)
          · exact Or.inr o
    exact ⟨Ls.length + 1, lp Ls.length 0 N2 (Nat.zero_add _) (zK_rf _ N2) (Or.inl ⟨x2, fun i hi => absurd hi (Nat.not_lt_zero i)⟩)⟩
  have lp : ∀ n i N2, i + n = 8 → zK (fun f i => f = 12 ∧ 8 * x ≤ i ∧ i < 8 * x + 8) N1 N2 → RX N2 w a → (∀ j, j < i → rA N2 12 (8 * x + j) = L.getD j 0) → fm_readWord_l49 Q (n + 1) (nI t) (nI x) (nI (zst w a + m)) (nI m) (nI i) N2 := by
    intro n
    induction n with
    | zero =>
      intro i N2 hi k2 x2 g
      show fm_readWord_c49 Q _ _ _ _ _ _ N2
      unfold fm_readWord_c49
      rw [m5]
      exact br_t (nI_le (a := 8) (by omega) (by omega)) (nm_e (fin N2 k2 x2 ⟨by omega, by omega, La, fun j hj => g j (by omega)⟩))
    | succ n ih =>
      intro i N2 hi k2 x2 g
      show fm_readWord_c49 Q (fm_readWord_l49 Q (n + 1)) _ _ _ _ _ N2
      unfold fm_readWord_c49
      have wr : ∀ c : Int32, nC c → c = L.getD i 0 → fm_readWord_b90 Q (fm_readWord_l49 Q (n + 1)) (nI t) (nI x) (nI (zst w a + m)) (nI m) (nI i) c ((8 * nI x) + nI i) N2 := by
        intro c hc e
        unfold fm_readWord_b90
        rw [m8, nI_add, nI_1, nC_nar hc]
        refine ⟨vp_in_nI (by omega) (by omega), nm_e (nm_e ?_)⟩
        rw [nI_clamp (by omega)]
        have k3 := zK_A (S := fun f j => f = 12 ∧ 8 * x ≤ j ∧ j < 8 * x + 8) N2 (f := 12) (i := 8 * x + i) c ⟨rfl, by omega, by omega⟩
        refine ih (i + 1) _ (by omega) (zK_tr k2 k3) (RX_A _ (by decide) x2) (fun j hj => ?_)
        rw [rA_wA]
        by_cases y : j = i
        · rw [if_pos ⟨rfl, by rw [y]⟩, y]; exact e
        · rw [if_neg (fun z => by omega)]; exact g j (by omega)
      refine br_f (nI_ge (b := 8) (by omega) (by omega)) (pk_le m i (fun y => ?_) (fun y => ?_))
      · refine wr 0 nC_0 ?_
        rw [List.getD_eq_getElem?_getD, List.getElem?_eq_none (by omega)]; rfl
      · rw [x2.2.2.2, nI_add]
        have g2 := E.1 i (by omega)
        refine ⟨vp_in_nI (by omega) (by omega), ?_⟩
        rw [nI_clamp (by omega), x2.2.1.2 _ g2.2.2.2 (by omega)]
        refine wr _ (hw.2.1 _) ?_
        rw [g2.2.2.1, eL, zwL_g _ _ _ _ (by omega)]
  exact ⟨9, lp 8 0 N1 rfl (zK_rf _ N1) x1 (fun j hj => absurd hj (Nat.not_lt_zero j))⟩
theorem r_readWords (hw : gL w) (h : RZ N w a) (ht : t < 370) {Q : RM → Prop}
    (q1 : ∀ l e, zWords w a = .inr (l, e) → ∀ N' (Ls : List (List Int32)), zK (cW t) N N' → RZ N' w e → l = Ls.map wcode → 1 ≤ Ls.length → Ls.length ≤ 5 → rA N' 11 t = nI Ls.length → (∀ j, j < Ls.length → rWd N' (5 * t + j) (Ls.getD j [])) → Q N')
    (q0 : ∀ f, zWords w a = .inl f → ∀ N', zK (cW t) N N' → FZ N' f → Q N') : fm_readWords (nI t) N Q := by
  have it := vp_in_nI (n := t) (N := 370) ht (by omega)
  unfold fm_readWords fm_readWords_b25
  refine ⟨it, nm_e ?_⟩
  rw [nI_clamp (by omega)]
  have k0 : zK (cW t) N (wA N 11 t 0) := zK_A _ _ (Or.inl ⟨rfl, rfl⟩)
  have lp : ∀ n N' b (Ls : List (List Int32)), n + 1 + Ls.length = 5 → zK (cW t) N N' → RZ N' w b → rA N' 11 t = nI Ls.length → (∀ j, j < Ls.length → rWd N' (5 * t + j) (Ls.getD j [])) → zWs w (n + 1) b (Ls.map wcode) = zWords w a → fm_readWords_l26 Q (n + 2) (nI t) 1 N' := by
    intro n
    induction n with
    | zero =>
      intro N' b Ls hn k z e11 ew ez
      show fm_readWords_c26 Q (fm_readWords_l26 Q 1) _ _ N'
      unfold fm_readWords_c26
      refine ⟨fun y => absurd y (by decide), fun _ => r_readWord hw z ht (by omega) e11 ew (fun c0 ci N2 L k2 z2 eL e2 w2 => ?_) (fun c N2 k2 f2 => ?_)⟩
      · rw [zWs, if_neg (fun y => y.elim c0 ci), if_pos (Or.inl rfl)] at ez
        rw [z2.1]
        refine ⟨fun y => absurd rfl y, fun _ => ⟨it, ?_⟩⟩
        rw [nI_clamp (by omega), e2]
        refine br_t (nI_le (a := 5) (by omega) (by omega)) ?_
        unfold fm_readWords_b65 fm_readWords_b66
        show fm_readWords_c26 Q _ _ _ N2
        unfold fm_readWords_c26
        refine ⟨fun _ => r_want hw z2 41 (by decide) (fun e N3 k3 z3 => ?_) (fun e N3 k3 f3 => ?_), fun y => absurd rfl y⟩
        · rw [if_pos e] at ez
          refine q1 _ _ ez.symm N3 (Ls ++ [L]) (zK_tr (zK_tr k k2) (zK_o k3)) z3 (by rw [List.map_append, ← eL]; rfl) (by simp) (by simp; omega) ?_ (fun j hj => ?_)
          · rw [k3.2.1 11 t (fun z => z), e2]; simp
          · exact zK_rWd k3 (fun _ _ _ z => z) (w2 j (by simpa using hj))
        · rw [if_neg e] at ez
          exact q0 _ ez.symm N3 (zK_tr (zK_tr k k2) (zK_o k3)) f3
      · rw [zWs, if_pos c] at ez
        rw [f2.1]
        refine ⟨fun _ => ?_, fun y => absurd y (by decide)⟩
        unfold fm_readWords_b65 fm_readWords_b66
        show fm_readWords_c26 Q _ _ _ N2
        unfold fm_readWords_c26
        exact ⟨fun _ => r_wantF f2 41 (fun N3 k3 f3 => q0 _ ez.symm N3 (zK_tr (zK_tr k k2) (zK_o k3)) f3), fun y => absurd rfl y⟩
    | succ n ih =>
      intro N' b Ls hn k z e11 ew ez
      show fm_readWords_c26 Q (fm_readWords_l26 Q (n + 2)) _ _ N'
      unfold fm_readWords_c26
      refine ⟨fun y => absurd y (by decide), fun _ => r_readWord hw z ht (by omega) e11 ew (fun c0 ci N2 L k2 z2 eL e2 w2 => ?_) (fun c N2 k2 f2 => ?_)⟩
      · rw [zWs, if_neg (fun y => y.elim c0 ci)] at ez
        rw [z2.1]
        refine ⟨fun y => absurd rfl y, fun _ => ⟨it, ?_⟩⟩
        rw [nI_clamp (by omega), e2]
        refine br_f (nI_ge (b := 5) (by omega) (by omega)) (r_takesZ hw z2 44 (by decide) (fun e N3 k3 z3 => ⟨fun y => absurd y (by decide), fun _ => ?_⟩) (fun e N3 k3 x3 => ⟨fun _ => ?_, fun y => absurd rfl y⟩))
        · rw [if_neg (fun y => y.elim (fun q => by omega) (fun q => q e))] at ez
          unfold fm_readWords_b66
          refine ih N3 _ (Ls ++ [L]) (by simp; omega) (zK_tr (zK_tr k k2) (zK_o k3)) z3 ?_ (fun j hj => ?_) ?_
          · rw [k3.2.1 11 t (fun z => z), e2]; simp
          · exact zK_rWd k3 (fun _ _ _ z => z) (w2 j (by simpa using hj))
          · rw [List.map_append, ← ez, ← eL]; rfl
        · rw [if_pos (Or.inr e)] at ez
          unfold fm_readWords_b65 fm_readWords_b66
          show fm_readWords_c26 Q _ _ _ N3
          unfold fm_readWords_c26
          refine ⟨fun _ => r_want hw (RX_Z x3) 41 (by decide) (fun e N4 k4 z4 => ?_) (fun e N4 k4 f4 => ?_), fun y => absurd rfl y⟩
          · rw [if_pos e] at ez
            refine q1 _ _ ez.symm N4 (Ls ++ [L]) (zK_tr (zK_tr k k2) (zK_o (zK_tr k3 k4))) z4 (by rw [List.map_append, ← eL]; rfl) (by simp) (by simp; omega) ?_ (fun j hj => ?_)
            · rw [(zK_tr k3 k4).2.1 11 t (fun z => z), e2]; simp
            · exact zK_rWd (zK_tr k3 k4) (fun _ _ _ z => z) (w2 j (by simpa using hj))
          · rw [if_neg e] at ez
            exact q0 _ ez.symm N4 (zK_tr (zK_tr k k2) (zK_o (zK_tr k3 k4))) f4
      · rw [zWs, if_pos c] at ez
        rw [f2.1]
        refine ⟨fun _ => ?_, fun y => absurd y (by decide)⟩
        unfold fm_readWords_b65 fm_readWords_b66
        show fm_readWords_c26 Q _ _ _ N2
        unfold fm_readWords_c26
        exact ⟨fun _ => r_wantF f2 41 (fun N3 k3 f3 => q0 _ ez.symm N3 (zK_tr (zK_tr k k2) (zK_o k3)) f3), fun y => absurd rfl y⟩
  refine r_want hw (RZ_A (f := 11) (i := t) 0 (by decide) h) 40 (by decide) (fun e N2 k2 z2 => ?_) (fun e N2 k2 f2 => ?_)
  · rw [z2.1]
    refine ⟨fun y => absurd rfl y, fun _ => ⟨6, lp 4 N2 (a + 1) [] rfl (zK_tr k0 (zK_o k2)) z2 ?_ (fun j hj => absurd hj (Nat.not_lt_zero j)) ?_⟩⟩
    · rw [k2.2.1 11 t (fun z => z), rA_wA, if_pos ⟨rfl, rfl⟩]; rfl
    · unfold zWords; rw [if_pos e]; rfl
  · rw [f2.1]
    refine ⟨fun _ => ⟨1, ?_⟩, fun y => absurd y (by decide)⟩
    show fm_readWords_c26 Q _ _ _ N2
    unfold fm_readWords_c26
    exact ⟨fun _ => r_wantF f2 41 (fun N3 k3 f3 => q0 _ (by unfold zWords; rw [if_neg e]) N3 (zK_tr (zK_tr k0 (zK_o k2)) (zK_o k3)) f3), fun y => absurd rfl y⟩
end RDW
