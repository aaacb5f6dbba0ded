section LAW
variable {nm : Nat → Nat} {G : Nat → Nat → Nat} {T : LY} {M M' : CM} {N N' : RM} {I I' : Nat → Nat → Int32} {J J' : Nat → Int64} {D D' : Nat → UInt64} {W W' : Nat → List Int32} {px hN cv hr rs rp po P v n j : Nat} {RW : Nat → Nat} {OA : Nat → Nat → Nat} {F H : Nat → List (Nat × List Ag)} {nn : Nat → Nat} {K : LY → CM → RM → Prop}
theorem vT_13 (h : vT N I J D W v) : ∃ x, x ≤ 4 ∧ rA N 13 v = nI x := by
  rcases h with ⟨-, a, -⟩ | ⟨-, a, -⟩ | ⟨b, -, a, -⟩ | ⟨m, -, a, -⟩ | ⟨-, a, -⟩
  · exact ⟨0, by decide, a⟩
  · exact ⟨1, by decide, a⟩
  · exact ⟨2, by decide, a⟩
  · exact ⟨3, by decide, a⟩
  · exact ⟨4, by decide, a⟩
theorem vT_n5 (h : vT N I J D W v) : rA N 13 v ≠ 5 := by
  obtain ⟨x, hx, e⟩ := vT_13 h
  rw [e]
  exact fun z => by have := (nI_eq (a := x) (b := 5) (by omega) (by decide)).mp z; omega
theorem vT_cp {x k : Nat} (hk : vT N I J D W k) (e80 : I' 80 x = I 80 k) (e83 : I' 83 x = I 83 k) (eJ : J' x = J k) (eD : D' x = D k) (eW : W' x = W k) (a13 : rA N' 13 x = rA N 13 k) (a14 : nZ (rA N 14 k) → rA N' 14 x = rA N 14 k) (a15 : rD N' 15 x = rD N 15 k) (a16 : rA N' 16 x = rA N 16 k) (a17 : ∀ i, i < 12 → nC (rA N 17 (12 * k + i)) → rA N' 17 (12 * x + i) = rA N 17 (12 * k + i)) : vT N' I' J' D' W' x := by
  unfold vT at hk ⊢
  rw [e80, e83, eJ, eD, eW, a13, a15, a16]
  refine hk.imp id (fun h => h.imp id (fun h => h.imp (fun ⟨b, p, q, r, s⟩ => ⟨b, p, q, ?_, s⟩) (fun h => h.imp id (fun ⟨a, b, ⟨c, d, e⟩, f⟩ => ⟨a, b, ⟨c, d, fun i hi => ⟨?_, (e i hi).2⟩⟩, f⟩))))
  · rw [a14 (by rw [r]; exact bI_z b)]; exact r
  · rw [a17 i (by omega) (by rw [(e i hi).1]; exact (e i hi).2)]; exact (e i hi).1
theorem L_add (h : LI nm G px hN RW OA hr rs rp po T M N) (k : ∀ T' M' N', LI nm G px hN RW OA hr rs rp po T' M' N' → K T' M' N') (s f : Int32) : fc_L_add T (some px) s f (some po) M (fun (r9 : Int32) (M10 : CM) => fm_add s f N (fun (r13 : Int32) (N16 : RM) => fm_thrown N16 (fun (r17 : Int32) (N20 : RM) => ((r17 = r9 → ((¬ r9 = 0 → K T M10 N20) ∧ (r9 = 0 → (tg T po = 23 ∧ (vp_in (0 : Int32) (ln T po) ∧ (((lg_cmp (xJ M10 po (0 : Int32).toNatClampNeg) r13.toInt64) = 0 → K T M10 N20) ∧ (¬ (lg_cmp (xJ M10 po (0 : Int32).toNatClampNeg) r13.toInt64) = 0 → False))))))) ∧ (¬ r17 = r9 → False))))) := by
  have hp := LI_po h
  have h1 := LI_0 1 h
  have h2 := LI_0 2 h
  obtain ⟨I, J, D, W, cv, F, H, P, nn, C, V, e3, zg, o, t⟩ := h
  have hcv := C.1.1.2.2.2.2.2.2.2.1
  have sz := LV_sz V
  have va := V.1.1
  have hn := V.2.2.1
  have h13 : ∀ j, j < 8 → ∃ x, x ≤ 5 ∧ rA N 13 j = nI x := fun j hj => by
    rcases va j hj with ⟨z, -⟩ | z
    · obtain ⟨x, hx, e⟩ := vT_13 z
      exact ⟨x, by omega, e⟩
    · exact ⟨5, by decide, z.2.2.1⟩
  have isL5 : ∀ j, j < 8 → rA N 13 j = 5 → vL N I J D W j (nn j) := fun j hj e => by
    rcases va j hj with ⟨z, -⟩ | z
    · exact absurd e (vT_n5 z)
    · exact z
  have isL6 : ∀ j, j < 8 → I 80 j = 6 → vL N I J D W j (nn j) := fun j hj e => by
    rcases va j hj with ⟨z, -⟩ | z
    · exact absurd e (vT_kd z).2
    · exact z
  have noL6 : ∀ j, j < 8 → I 80 j ≠ 6 → vT N I J D W j := fun j hj e => by
    rcases va j hj with ⟨z, -⟩ | z
    · exact z
    · exact absurd z.2.1 e
  have h16 : ∀ j, j < 8 → rA N 13 j = 5 → ∃ n, n ≤ 5 ∧ rA N 16 j = nI n := fun j hj e => ⟨nn j, (hn j hj).2.1, (isL5 j hj e).2.2.2.2.2.1⟩
  refine ⟨px, rfl, hp.2, s_add (X := fun (kk : Nat) (M3 : CM) => ((kk = 1 ∧ _) ∨ (kk = 2 ∧ _))) C.1.1 C.1.2.1 C.2.1 sz s f (fun j q n hj hq n5 ej eq i6 q6 e85 M1 I' J' D' W' z1 V1 cp c85 f80 f83 f85 fJ fD fW sm => ⟨po, rfl, hp.1.1, po_in hp.1.2, nm_e ?_⟩) (fun c => Or.inl ⟨rfl, ?_⟩) (fun j q hj hq ej eq c => Or.inr ⟨rfl, ?_⟩)⟩
  · subst ej
    subst eq
    obtain ⟨C1, x1⟩ := CI_zX z1 V1 C
    have vl := isL6 j hj i6
    have en : nn j = n := by
      have := (hn j hj).1
      rw [e85] at this
      exact ((nI_eq (by omega) (by have := (hn j hj).2.1; omega)).mp this).symm
    rw [en] at vl
    have vk := noL6 q hq q6
    refine r_add h13 h16 (fun j' q' n' hj' hq' n5' ej' eq' i5 q5 e16 N1 kk n0 a13 a16 b13 b14 b15 b16 b17 => ?_) (fun c => ?_) (fun j' q' hj' hq' ej' eq' c => ?_)
    · have e1 : j' = j := ((nI_eq (by omega) (by omega)).mp ej').symm
      have e2 : q' = q := ((nI_eq (by omega) (by omega)).mp eq').symm
      subst e1
      subst e2
      have e4 : n' = n := by
        have := vl.2.2.2.2.2.1
        rw [e16] at this
        exact (nI_eq (by omega) (by omega)).mp this
      subst e4
      have ei := itm_v (j := n') hj
      have wl : (W q').length ≤ 15 := vT_len vk
      have rm16 : rm (itm j' n') = 16 := by
        have c48 : itm j' n' < 48 := by omega
        have c8 : 8 ≤ itm j' n' := by omega
        unfold rm
        rw [if_neg (by omega), Nat.mod_eq_of_lt c48, if_neg (by omega)]
      obtain ⟨p1, p2, p3, p4, p5⟩ := cp
      rw [rm16, List.take_of_length_le (by omega)] at p5
      have vi : vT N1 I' J' D' W' (itm j' n') := vT_cp vk p1 p2 p3 p4 p5 b13 b14 b15 b16 b17
      have ne : ∀ x, x < n' → itm j' x ≠ j' ∧ itm j' x ≠ itm j' n' := fun x hx => by
        rw [itm_v hj, itm_v hj]
        exact ⟨by omega, by omega⟩
      have smx : ∀ x, x < n' → sam I J D W I' J' D' W' (itm j' x) := fun x hx => sm _ (ne x hx).1 (ne x hx).2
      have Wj : W' j' = jnW I' W' j' (n' + 1) := by
        have hl := (jnW_len (I := I) (W := W) (v := j') n' (fun x hx => vT_len (vl.2.2.2.2.2.2.2.2.2 x hx).1)).1
        have wj : W j' = jnW I W j' n' := vl.2.2.2.2.2.2.1
        rw [fW]
        unfold addW
        rw [puts_app, jnW, jnW_eq n' (fun x hx => ⟨(smx x hx).1 80, (smx x hx).2.2.2⟩), wj, p1, p5]
        rw [wj, List.length_append]
        have l1 : (if n' = 0 then ([] : List Int32) else [44]).length ≤ 1 := by split <;> simp
        have l2 : (if I 80 q' = 7 ∨ I 80 q' = 8 then ([] : List Int32) else W q').length ≤ 15 := by
          split
          · exact Nat.zero_le _
          · exact wl
        omega
      have vl' : vL N1 I' J' D' W' j' (n' + 1) := by
        refine ⟨hj, f80, a13.trans i5, by omega, f85, a16, Wj, ?_, ?_, fun x hx => ?_⟩
        · rw [f83, fW]
        · rw [fD, fW]
        · by_cases y : x = n'
          · rw [y]; exact ⟨vi, c85⟩
          · have hx2 : x < n' := by omega
            exact ⟨vT_pt (kk.2.2.2.2 _ (fun z => z.elim (ne x hx2).1 (ne x hx2).2)) (smx x hx2) (vl.2.2.2.2.2.2.2.2.2 x hx2).1, ((smx x hx2).1 85).trans (vl.2.2.2.2.2.2.2.2.2 x hx2).2⟩
      have V2 := LV_upd hcv hj V kk (fun v hv => sm v (fun z => hv (Or.inl z)) (fun z => hv (Or.inr z))) (fun v hv => hv.imp id (fun z => ⟨n', by omega, z⟩)) (Or.inr vl') ⟨f85, by omega, fun x hx => (vl'.2.2.2.2.2.2.2.2.2 x hx).2⟩ (fun v y => by
        rcases y with y | y
        · subst y; exact ⟨vL_gd vl', vL_83 vl'⟩
        · subst y; exact ⟨vT_gd vi, vT_83 vi⟩)
      exact ck_ok hp.1 n0 (xJ_po _) (k _ _ _ (LI_yJ _ (LI_sl C1 x1 V2 kk (sm 144 (by omega) (by omega)).2.2.2 e3 zg o t)))
    · exfalso
      rcases c with c | c | c | c
      · exact nI_pos (by omega) c
      · exact slot_no hj (Or.inr c)
      · exact nI_pos (by omega) c
      · exact slot_no hq (Or.inr c)
    · exfalso
      have e1 : j' = j := ((nI_eq (by omega) (by omega)).mp ej').symm
      have e2 : q' = q := ((nI_eq (by omega) (by omega)).mp eq').symm
      subst e1
      subst e2
      rcases c with c | c | c
      · exact c vl.2.2.1
      · exact vT_n5 vk c
      · rw [vl.2.2.2.2.2.1] at c
        have := (nI_eq (a := n) (b := 5) (by omega) (by decide)).mp c
        omega
  · refine r_add h13 h16 (fun j' q' n' hj' hq' n5' ej' eq' => ?_) (fun _ => ck_no (by decide) rfl (k _ _ _ h1)) (fun j' q' hj' hq' ej' eq' => ?_)
    all_goals
      exfalso
      subst ej'
      subst eq'
      rcases c with c | c | c | c
      · exact nI_pos (by omega) c
      · exact slot_no hj' (Or.inr c)
      · exact nI_pos (by omega) c
      · exact slot_no hq' (Or.inr c)
  · subst ej
    subst eq
    refine r_add h13 h16 (fun j' q' n' hj' hq' n5' ej' eq' i5 q5 e16 => ?_) (fun c => ?_) (fun j' q' hj' hq' ej' eq' _ => ck_no (by decide) rfl (k _ _ _ h2))
    · exfalso
      have e1 : j' = j := ((nI_eq (by omega) (by omega)).mp ej').symm
      have e2 : q' = q := ((nI_eq (by omega) (by omega)).mp eq').symm
      subst e1
      subst e2
      have vl := isL5 j' hj i5
      rcases c with c | c | c
      · exact c vl.2.1
      · have := (isL6 q' hq c).2.2.1
        exact q5 this
      · rw [vl.2.2.2.2.1] at c
        have e2 := vl.2.2.2.2.2.1
        rw [e16] at e2
        have e5 : n' = nn j' := (nI_eq (by omega) (by have := vl.2.2.2.1; omega)).mp e2
        exact c ((nI_ltI (a := nn j') (b := 5) (by omega) (by decide)).mpr (by omega))
    · exfalso
      rcases c with c | c | c | c
      · exact nI_pos (by omega) c
      · exact slot_no hj (Or.inr c)
      · exact nI_pos (by omega) c
      · exact slot_no hq (Or.inr c)
end LAW
