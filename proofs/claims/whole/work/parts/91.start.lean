/-! the start: the two objects and the row of one outcome, then the law's rounds -/
def stT0 : LY := (fun _ => 0, fun _ => 0)
def stM0 : CM := (fun _ _ => 0, fun _ _ => 0, fun _ _ => 0, fun _ _ => none, fun _ _ => 0, fun _ _ => 0, fun _ _ => none)
theorem st_Pl {D : va_G} {cl : List vw_C} {w1 w2 : va_W} {H : Heap} (h : va_P D cl (w1 ++ w2) H) : va_P D cl w1 H := fun k q hq => h k q ((List.getElem?_append_left (List.getElem?_eq_some_iff.mp hq).1).trans hq)
theorem st_ix {w1 w2 : va_W} {k : Nat} {q : Nat × va_E} (h : w2[k]? = some q) : (w1 ++ w2)[w1.length + k]? = some q := by
  rw [List.getElem?_append_right (by omega), show w1.length + k - w1.length = k by omega]; exact h
theorem st_Pr {D : va_G} {cl : List vw_C} {w1 w2 : va_W} {H : Heap} (h : va_P D cl (w1 ++ w2) H) : va_P D cl w2 H := fun k q hq => h (w1.length + k) q (st_ix hq)
theorem st_il {w1 w2 : va_W} {k : Nat} {q : Nat × va_E} (h : w1[k]? = some q) : (w1 ++ w2)[k]? = some q := (List.getElem?_append_left (List.getElem?_eq_some_iff.mp h).1).trans h
theorem st_Dl {A : Nat → Prop} {w1 w2 : va_W} (h : va_D A (w1 ++ w2)) : va_D A w1 := ⟨fun i j p q hi hj e => h.1 i j p q (st_il hi) (st_il hj) e, fun k q hk => h.2 k q (st_il hk)⟩
theorem st_Dr {A : Nat → Prop} {w1 w2 : va_W} (h : va_D A (w1 ++ w2)) : va_D A w2 := ⟨fun i j p q hi hj e => by
  have := h.1 _ _ p q (st_ix (w1 := w1) hi) (st_ix (w1 := w1) hj) e
  omega, fun k q hk => h.2 _ q (st_ix (w1 := w1) hk)⟩
theorem st_ne {A : Nat → Prop} {w1 w2 : va_W} (h : va_D A (w1 ++ w2)) {i j : Nat} {p q : Nat × va_E} (hi : w1[i]? = some p) (hj : w2[j]? = some q) : p.1 ≠ q.1 := fun e => by
  have a := h.1 _ _ p q (st_il hi) (st_ix (w1 := w1) hj) e
  have b := (List.getElem?_eq_some_iff.mp hi).1
  omega
theorem st_cut {w1 w2 : va_W} {k : Nat} {q : Nat × va_E} (h : (w1 ++ w2)[k]? = some q) : w1[k]? = some q ∨ ∃ j, k = w1.length + j ∧ w2[j]? = some q := by
  by_cases c : k < w1.length
  · rw [List.getElem?_append_left c] at h; exact Or.inl h
  · rw [List.getElem?_append_right (by omega)] at h; exact Or.inr ⟨k - w1.length, by omega, h⟩
theorem st_DD {A : Nat → Prop} {w1 w2 : va_W} (h1 : va_D A w1) (h2 : va_D A w2) (n : ∀ (i j : Nat) (p q : Nat × va_E), w1[i]? = some p → w2[j]? = some q → p.1 ≠ q.1) : va_D A (w1 ++ w2) := by
  refine ⟨fun i j p q hi hj e => ?_, fun k q hk => ?_⟩
  · rcases st_cut hi with a | ⟨x, ex, a⟩
    · rcases st_cut hj with b | ⟨y, ey, b⟩
      · exact h1.1 i j p q a b e
      · exact absurd e (n i y p q a b)
    · rcases st_cut hj with b | ⟨y, ey, b⟩
      · exact absurd e.symm (n j x q p b a)
      · have := h2.1 x y p q a b e
        omega
  · rcases st_cut hk with a | ⟨x, -, a⟩
    · exact h1.2 k q a
    · exact h2.2 x q a
theorem st_one {a : Nat} {e : va_E} {k : Nat} {q : Nat × va_E} (h : [(a, e)][k]? = some q) : q = (a, e) := by
  match k, h with
  | 0, h => cases h; rfl
  | k + 1, h => simp at h
abbrev stF : List Value := [.int 0, .null, .int 0, .int 0, .null, .null, .null, .null, .null, .null, .null, .null, .null, .null, .null, .null, .null, .null, .int 0, .null, .null, .null, .null, .null, .int 0, .int 0, .int 0, .int 0]
theorem st_fs : ∀ j, j < 28 → defaultValue (tyX11 j) = vp_V stF j := fun j hj => by
  match j, hj with
  | 0, _ => rfl
  | 1, _ => rfl
  | 2, _ => rfl
  | 3, _ => rfl
  | 4, _ => rfl
  | 5, _ => rfl
  | 6, _ => rfl
  | 7, _ => rfl
  | 8, _ => rfl
  | 9, _ => rfl
  | 10, _ => rfl
  | 11, _ => rfl
  | 12, _ => rfl
  | 13, _ => rfl
  | 14, _ => rfl
  | 15, _ => rfl
  | 16, _ => rfl
  | 17, _ => rfl
  | 18, _ => rfl
  | 19, _ => rfl
  | 20, _ => rfl
  | 21, _ => rfl
  | 22, _ => rfl
  | 23, _ => rfl
  | 24, _ => rfl
  | 25, _ => rfl
  | 26, _ => rfl
  | 27, _ => rfl
  | j + 28, h => exact absurd h (by omega)
set_option maxHeartbeats 8000000 in
set_option maxRecDepth 100000 in
theorem whole_start {p : Program} {e : Env} {s : State} {m : MethodId} {below : List Frame} {meth : Method} {c : Code} (l : Launch) (hflags : l.flags = flags0) {b L : Nat} {xs : Nat → Int32} (hL : L ≤ 3072) (C0 : lw_At p s m meth c b L xs) : W p l e room_1 s m #[Value.ref b] below meth c s.heap [] 0 0 (lw_Z below #[Value.ref b] s) (entryFrame m ([Value.ref b] : List Value).toArray 9) := by
  obtain ⟨hx, hb, hr, hml, hown0, hts0, hX, hbl, hlocks, hgv⟩ := id C0
  have hst0 : l.stackTraces = false := by
    unfold Launch.stackTraces
    rw [hflags]
    decide +kernel
  have hown : s.vm.findClass RL = some m.cls := hown0
  have hts : ∀ w ∈ wsL_law, w.before #[Value.ref b] s = true := fun w hw => hts0 w (wsL_law_in w hw)
  have hA : ∀ q : Nat, s.heap.size ≤ q → (fun q : Nat => s.heap.size ≤ q) q := fun _ z => z
  obtain ⟨D, hD0⟩ := st_D hts0
  obtain ⟨kA, hkA⟩ := st_kA hts0
  obtain ⟨nm, na, sa, sv, hSt, hnm⟩ := st_cSt hts0 hgv
  have hK : va_K D vwCl (ty_all kA) s := ⟨hD0, hkA⟩
  have hH : cH D kA (fun q : Nat => s.heap.size ≤ q) s.heap stT0 stM0 s.heap [] := ⟨⟨[], fun k q h => absurd h (by simp [va_pl]), ⟨fun i j p q h => absurd h (by simp [va_pl]), fun k q h => absurd h (by simp [va_pl])⟩, fun a => ⟨fun z => absurd rfl z, fun z => absurd z (by simp)⟩⟩, va_S.rf⟩
  have hl := lv_entry ([.ref b]) (n := 9) (Nat.le_of_ble_eq_true rfl)
  rw [lg_entry_eq]
  generalize (lg_sl ([.ref b]) ++ List.replicate (9 - (lg_sl ([.ref b])).length) Slot.unset).toArray = ls at hl ⊢
  have hl : lv_has ls 9 [(0, .ref b)] := hl
  refine cnew_10 hx hb hts inlX10 hown (hts0 (.classLink RL 8 RX10) (List.mem_append_right _ (List.mem_of_getElem? (i := 24) (by decide +kernel)))) (hts0 (.instantiable RX10 9) (List.mem_append_right _ (List.mem_of_getElem? (i := 25) (by decide +kernel)))) (hts0 (.initialized RX10) (List.mem_append_right _ (List.mem_of_getElem? (i := 1) (by decide +kernel)))) hK hH hA (Nat.le_of_ble_eq_true rfl) (Nat.le_of_ble_eq_true rfl) dL_law_0 (fun q0 H zq hH => ?_)
  refine lv_dup hx hb dL_law_3 rfl ?_
  have hw := law_start (nm := nm) (xs := xs) (T0 := mkT stT0 11 0 q0) (M0 := mkM stM0 q0) (px := q0) hnm hL (by rw [tg_mk, if_pos rfl]) (Q := fun T' M' => xE (fun a => a = q0) (mkT stT0 11 0 q0) (mkM stM0 q0) T' M' ∧ ∀ T M po, xE (fun _ => False) T' M' T M → tg T po = 23 → ln T po = 1 → fL_l23 nm xs L q0 po True 514 0 T M RM0) (fun T' M' xa k => ⟨xa, k⟩)
  refine c_callTv (va_runI (As := []) (rest := [.ref q0]) ⟨hx, hb, hml, hown, hts⟩ (tc_X10_init l D kA nm na sa sv H.size 508 5794 q0 _ _ _ hw) (cwI 0 hts gL_law_X10_init rfl rfl rfl (hts0 (.initialized RX10) (List.mem_append_right _ (List.mem_of_getElem? (i := 1) (by decide +kernel)))) (hts0 (.methodLink RL 43 yX10_init) (List.mem_append_right _ (List.mem_of_getElem? (i := 26) (by decide +kernel)))) (hts0 (.instanceMethod yX10_init) (List.mem_append_right _ (List.mem_of_getElem? (i := 27) (by decide +kernel)))) rfl (by decide +kernel) ⟨Nat.le_of_ble_eq_true rfl, Nat.le_of_ble_eq_true rfl⟩) (c_preS hK hH hA hSt) rfl rfl hl.1 rfl (lv_room (Nat.le_of_ble_eq_true rfl)) dL_law_4 ⟨Nat.le_of_ble_eq_true rfl, Nat.le_of_ble_eq_true rfl⟩) hH hA (fun T M H locs hw hH => ?_)
  obtain ⟨-, kk⟩ := hw
  refine lv_astore_n (lv' := [(1, .ref q0), (0, .ref b)]) hx hb dL_law_7 rfl hl (by decide) rfl (fun ls hl => ?_)
  obtain ⟨⟨Lc, hPc, hDc, hLc⟩, hSc⟩ := hH
  refine va_new (ci := 9) (fs := stF) (C := RX11) (T := TX11) (N := 28) hx hb hts inlX11 tyX11 tyX11_ok hown (hts0 (.classLink RL 44 RX11) (List.mem_append_right _ (List.mem_of_getElem? (i := 917) (by decide +kernel)))) (hts0 (.instantiable RX11 28) (List.mem_append_right _ (List.mem_of_getElem? (i := 918) (by decide +kernel)))) (hts0 (.initialized RX11) (List.mem_append_right _ (List.mem_of_getElem? (i := 12) (by decide +kernel)))) hK hPc hDc hSc hA rfl st_fs (Nat.le_of_ble_eq_true rfl) (Nat.le_of_ble_eq_true rfl) dL_law_8 (fun h H1 hP1 hD1 hS1 => ?_)
  refine lv_dup hx hb dL_law_11 rfl ?_
  have hPh : va_P D vwCl [(h, .inr (9, stF))] H1 := st_Pr hP1
  have hDh : va_D (fun q : Nat => s.heap.size ≤ q) [(h, .inr (9, stF))] := st_Dr hD1
  have hF := va_free (wc := [(h, .inr (9, stF))]) hDh hS1 hA [0] rfl
  refine va_callv (va_runI (As := []) (rest := [.ref h]) ⟨hx, hb, hml, hown, hts⟩ (tm_init l D kA h H1.size) (cwI 0 hts gL_law_X11_init rfl rfl rfl (hts0 (.initialized RX11) (List.mem_append_right _ (List.mem_of_getElem? (i := 12) (by decide +kernel)))) (hts0 (.methodLink RL 46 yX11_init) (List.mem_append_right _ (List.mem_of_getElem? (i := 919) (by decide +kernel)))) (hts0 (.instanceMethod yX11_init) (List.mem_append_right _ (List.mem_of_getElem? (i := 920) (by decide +kernel)))) rfl (by decide +kernel) ⟨Nat.le_of_ble_eq_true rfl, Nat.le_of_ble_eq_true rfl⟩) ⟨fun a U g mk q => by obtain ⟨q0, q1, qP, qK, qD⟩ := q; exact ⟨q0, q1, qP, va_K.moved (u := U) (U := U.calling g mk a) (Vm.Alike.refl U.vm) qK, qD⟩, fun U hU hW => ⟨rfl, by rw [hU], by rw [hU]; exact hPh, va_K.moved hW.alike hK, hDh.weaken (fun _ _ _ _ => trivial)⟩⟩ rfl rfl hl.1 rfl (lv_room (Nat.le_of_ble_eq_true rfl)) dL_law_12 ⟨Nat.le_of_ble_eq_true rfl, Nat.le_of_ble_eq_true rfl⟩) hS1 (fun q _ z => hF q z) hF (fun ad t H2 locs2 ht hvm hw hB hz hkp hS2 => ?_)
  obtain ⟨hP2, hK2, hD2⟩ := hB
  rw [ht] at hP2
  have nA : ∀ (k : Nat) (q : Nat × va_E), ([] ++ va_pl Lc (Ent kA T M))[k]? = some q → q.1 < H1.size ∧ ¬ va_A [(h, .inr (9, stF))] H1.size q.1 := fun k q hq => by
    have lt := (st_Pl hP1 k q hq).lt
    refine ⟨lt, fun z => ?_⟩
    rcases z with ⟨j, e9, hj⟩ | z
    · have := st_one hj
      have ej : q.1 = h := congrArg Prod.fst this
      exact st_ne hD1 hq (show [(h, (.inr (9, stF) : va_E))][0]? = some (h, .inr (9, stF)) from rfl) ej
    · omega
  have hPk : va_P D vwCl ([] ++ va_pl Lc (Ent kA T M)) H2 := (st_Pl hP1).kept (fun k q hq => hkp q.1 (nA k q hq).1 (nA k q hq).2)
  have ne2 : ∀ (i j : Nat) (p q : Nat × va_E), ([] ++ va_pl Lc (Ent kA T M))[i]? = some p → (rw_W kA h ad RM0)[j]? = some q → p.1 ≠ q.1 := fun i j p q hi hj ee => (nA i p hi).2 (ee ▸ hD2.2 j q hj)
  have zero2 : ∀ (k : Nat) (q : Nat × va_E), (rw_W kA h ad RM0)[k]? = some q → tg T q.1 = 0 := fun k q hq => by
    by_cases z : tg T q.1 = 0
    · exact z
    · obtain ⟨i, hi⟩ := va_pl_get (X := []) (f := Ent kA T M) ((hLc q.1).mp z)
      exact absurd rfl (ne2 i k (q.1, Ent kA T M q.1) q hi hq)
  have hDr : va_D (fun q : Nat => s.heap.size ≤ q) (rw_W kA h ad RM0) := hD2.weaken (fun _ q _ hq => hF q.1 hq)
  refine lv_astore_n (lv' := [(2, .ref h), (1, .ref q0), (0, .ref b)]) hx hb dL_law_15 rfl hl (by decide) rfl (fun ls hl => ?_)
  refine lv_iconst (v := 1) hx hb dL_law_16 (by decide) ?_
  refine va_newa (atype := .long) (a0 := (1, .inr (.inl (fun _ => 0)))) hx hb (hts0 (.arrayClass .long) (List.mem_append_right _ (List.mem_of_getElem? (i := 406) (by decide +kernel)))) rfl hK (hPk.app hP2) (st_DD (st_Dl hD1) hDr ne2) hS2 hA (fun cA => rfl) (by decide) (show (1 : Int32).toNatClampNeg = 1 by decide) (by decide) (Nat.le_of_ble_eq_true rfl) (Nat.le_of_ble_eq_true rfl) dL_law_17 (fun q cA H3 hK3 hP3 hD3 hS3 => ?_)
  have hcA : cA = kA 3 := by
    have a1 := (hK3.2 9 _ rfl).2
    have a2 := (hK.2 3 _ rfl).2
    exact Option.some.inj (a1.symm.trans a2)
  subst hcA
  have hDcls := st_Dl (st_Dl hD3)
  have neq : ∀ (i : Nat) (x : Nat × va_E), ([] ++ va_pl Lc (Ent kA T M))[i]? = some x → x.1 ≠ q := fun i x hi => st_ne hD3 (st_il hi) (show [(q, (.inl (kA 3, (1, .inr (.inl (fun _ => 0)))) : va_E))][0]? = some _ from rfl)
  have hq : q ∉ Lc := fun z => by
    obtain ⟨i, hi⟩ := va_pl_get (X := []) (f := Ent kA T M) z
    exact neq i _ hi rfl
  have h9 := c_new (k := 23) (n := 1) hq hLc (by decide) (show Ent kA (mkT T 23 1 q) (mkM M q) q = .inl (kA 3, (1, .inr (.inl (fun _ => 0)))) by rw [Ent_a3 (show tg (mkT T 23 1 q) q = 23 by rw [tg_mk, if_pos rfl])]; rw [ln_mk, if_pos rfl]; rw [show xJ (mkM M q) q = (fun _ => 0) from funext fun i => by rw [xJ_mkM, if_pos rfl]]) ((st_Pl (st_Pl hP3)).app (st_Pr hP3)) (st_DD hDcls (st_Dr hD3) (fun i j p x hi hj => by rw [st_one hj]; exact neq i p hi)) hS3
  have hlH : lH D kA h ad (fun q : Nat => s.heap.size ≤ q) s.heap (mkT T 23 1 q) (mkM M q) RM0 H3 locs2 := ⟨h9.2.1, st_Pr (st_Pl hP3), st_Dr (st_Dl hD3), fun k x hx' => by
    rw [tg_mk, if_neg (st_ne hD3 (st_ix (w1 := [] ++ va_pl Lc (Ent kA T M)) hx') (show [(q, (.inl (kA 3, (1, .inr (.inl (fun _ => 0)))) : va_E))][0]? = some _ from rfl))]
    exact zero2 k x hx', hS3⟩
  refine lv_astore_n (lv' := [(3, .ref q), (2, .ref h), (1, .ref q0), (0, .ref b)]) hx hb dL_law_19 rfl hl (by decide) rfl (fun ls hl => ?_)
  refine lv_iconst (v := 0) hx hb dL_law_20 (by decide) ?_
  refine lv_istore (lv' := [(4, .int 0), (3, .ref q), (2, .ref h), (1, .ref q0), (0, .ref b)]) hx hb dL_law_21 hl (by decide) rfl (fun ls hl => ?_)
  exact tL_loop l hst0 C0 D kA nm na sa sv hK hSt h ad q0 q 514 0 (mkT T 23 1 q) (mkM M q) RM0 H3 locs2 ls _ _ (Nat.le_of_ble_eq_true rfl) (Nat.le_of_ble_eq_true rfl) hlH (lv_sub hl [4, 3, 2, 1, 0] rfl) (kk (mkT T 23 1 q) (mkM M q) q (xE_mk M 23 1 h9.1) (by rw [tg_mk, if_pos rfl]) (by rw [ln_mk, if_pos rfl]))
