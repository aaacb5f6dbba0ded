theorem itm_div {t j : Nat} (hp : t % 48 < 8) (hj : j < 5) : itm t j / 48 = t / 48 := by
  unfold itm
  rw [show t / 48 * 48 + 8 + 5 * (t % 48) + j = (8 + 5 * (t % 48) + j) + 48 * (t / 48) by omega, Nat.add_mul_div_left _ _ (by decide), Nat.div_eq_of_lt (by omega), Nat.zero_add]
theorem itm_lt {t j : Nat} (ht : t < 144) (hp : t % 48 < 8) (hj : j < 5) : itm t j < 144 ∧ 8 ≤ itm t j % 48 := by
  have h := itm_div hp hj
  have e : itm t j = t / 48 * 48 + 8 + 5 * (t % 48) + j := rfl
  generalize itm t j = x at h e
  omega
theorem itm_inj {t u i j : Nat} (ht : t % 48 < 8) (hu : u % 48 < 8) (hi : i < 5) (hj : j < 5) (e : itm t i = itm u j) : t = u ∧ i = j := by
  have h1 := itm_div (j := i) ht hi
  rw [e, itm_div hu hj] at h1
  unfold itm at e
  rw [h1] at e
  omega
theorem itm_top {t u j : Nat} (ht : t < 144) (hp : t % 48 < 8) (hu : u % 48 < 8) (hj : j < 5) : itm t j ≠ u := by
  intro e
  have := (itm_lt ht hp hj).2
  rw [e] at this; omega
theorem rm_top {t : Nat} (ht : t < 144) (hp : t % 48 < 8) : rm t = 84 := by unfold rm; rw [if_neg (by omega), if_pos hp]
theorem rm_itm {t j : Nat} (ht : t < 144) (hp : t % 48 < 8) (hj : j < 5) : rm (itm t j) = 16 := by
  have h := itm_lt ht hp hj
  unfold rm; rw [if_neg (by omega), if_neg (by omega)]
/-- x is a plain copy of what y was -/
def cpd (I : Nat → Nat → Int32) (J : Nat → Int64) (D : Nat → UInt64) (W : Nat → List Int32) (I' : Nat → Nat → Int32) (J' : Nat → Int64) (D' : Nat → UInt64) (W' : Nat → List Int32) (x y : Nat) : Prop := I' 80 x = I 80 y ∧ I' 83 x = I 83 y ∧ J' x = J y ∧ D' x = D y ∧ W' x = (W y).take (rm x)
/-- v is what it was -/
def sam (I : Nat → Nat → Int32) (J : Nat → Int64) (D : Nat → UInt64) (W : Nat → List Int32) (I' : Nat → Nat → Int32) (J' : Nat → Int64) (D' : Nat → UInt64) (W' : Nat → List Int32) (v : Nat) : Prop := (∀ g, I' g v = I g v) ∧ J' v = J v ∧ D' v = D v ∧ W' v = W v
section ITM
variable {G : Nat → Nat → Nat} {T : LY} {M : CM} {I I1 I2 : Nat → Nat → Int32} {J J1 J2 : Nat → Int64} {D D1 D2 : Nat → UInt64} {W W1 W2 : Nat → List Int32} {t u n x y v : Nat}
theorem sam_rf : sam I J D W I J D W v := ⟨fun _ => rfl, rfl, rfl, rfl⟩
theorem sam_tr (h : sam I J D W I1 J1 D1 W1 v) (k : sam I1 J1 D1 W1 I2 J2 D2 W2 v) : sam I J D W I2 J2 D2 W2 v := ⟨fun g => (k.1 g).trans (h.1 g), k.2.1.trans h.2.1, k.2.2.1.trans h.2.2.1, k.2.2.2.trans h.2.2.2⟩
theorem cpd_tr (h : cpd I J D W I1 J1 D1 W1 x y) (k : sam I1 J1 D1 W1 I2 J2 D2 W2 x) : cpd I J D W I2 J2 D2 W2 x y := ⟨(k.1 80).trans h.1, (k.1 83).trans h.2.1, k.2.1.trans h.2.2.1, k.2.2.1.trans h.2.2.2.1, k.2.2.2.trans h.2.2.2.2⟩
theorem sam_cpd (h : sam I J D W I1 J1 D1 W1 y) (k : cpd I1 J1 D1 W1 I2 J2 D2 W2 x y) : cpd I J D W I2 J2 D2 W2 x y := ⟨k.1.trans (h.1 80), k.2.1.trans (h.1 83), k.2.2.1.trans h.2.1, k.2.2.2.1.trans h.2.2.1, k.2.2.2.2.trans (by rw [h.2.2.2])⟩
/-- a plain copy, told by what stands then -/
theorem s_copyPlain (hS : SA G T M) (hV : VA G M I J D W) (ht : t < 144) (hu : u < 144) (hn : u ≠ t) {Q : CM → Prop} (h : ∀ M' I' J' D' W', zA G M M' → VA G M' I' J' D' W' → cpd I J D W I' J' D' W' t u → I' 85 t = 0 → (∀ v, v ≠ t → sam I J D W I' J' D' W' v) → Q M') : fc_X8_copyPlain T (G 0 t) (some (G 0 u)) M Q := by
  refine s_X8_copyPlain hS hV ht hu hn (fun M' z v => h M' _ _ _ _ z v ⟨?_, upI_s _ _ _ _, va_ups _ _ _, va_ups _ _ _, va_ups _ _ _⟩ ?_ (fun w hw => ⟨fun g => ?_, va_upn _ _ hw, va_upn _ _ hw, va_upn _ _ hw⟩))
  · rw [upI_f _ _ (by decide), bec_80]
  · rw [upI_f _ _ (by decide), bec_85]
  · rw [upI_n _ _ hw, bec_n _ _ _ hw]
theorem s_copyAll (hS : SA G T M) (hV : VA G M I J D W) (ht : t < 144) (hu : u < 144) (hn : u ≠ t) (he : I 85 u = nI n) (h5 : n ≤ 5) (hp : 0 < n → t % 48 < 8 ∧ u % 48 < 8) {Q : CM → Prop} (h : ∀ M' I' J' D' W', zA G M M' → VA G M' I' J' D' W' → cpd I J D W I' J' D' W' t u → I' 85 t = nI n → (∀ j, j < n → cpd I J D W I' J' D' W' (itm t j) (itm u j) ∧ I' 85 (itm t j) = 0) → (∀ v, v ≠ t → (∀ j, j < n → v ≠ itm t j) → sam I J D W I' J' D' W' v) → Q M') : fc_X8_copyAll T (G 0 t) (some (G 0 u)) M Q := by
  have k : ∀ (m i : Nat) (N : CM) (I' : Nat → Nat → Int32) (J' : Nat → Int64) (D' : Nat → UInt64) (W' : Nat → List Int32), n - i < m → i ≤ n → zA G M N → VA G N I' J' D' W' → cpd I J D W I' J' D' W' t u → I' 85 t = nI i → (∀ j, j < i → cpd I J D W I' J' D' W' (itm t j) (itm u j) ∧ I' 85 (itm t j) = 0) → (∀ v, v ≠ t → (∀ j, j < i → v ≠ itm t j) → sam I J D W I' J' D' W' v) → fc_X8_copyAll_l7 T (G 0 t) Q m (some (G 0 u)) (nI i) N := by
    intro m
    induction m with
    | zero => intro i N I' J' D' W' hm; omega
    | succ m ih =>
      intro i N I' J' D' W' hm hi z v hc h85 hit hsm
      show fc_X8_copyAll_c7 T (G 0 t) Q (fc_X8_copyAll_l7 T (G 0 t) Q m) _ _ N
      have hSN := zA_SA z hS
      have su : sam I J D W I' J' D' W' u := hsm u hn (fun j hj e => itm_top hu (hp (by omega)).2 (hp (by omega)).2 (show j < 5 by omega) (by
        have q := itm_inj (i := j) (j := j) (hp (by omega)).1 (hp (by omega)).2 (by omega) (by omega)
        exact absurd e.symm (itm_top ht (hp (by omega)).1 (hp (by omega)).2 (by omega))))
      unfold fc_X8_copyAll_c7 fc_X8_copyAll_b42
      refine ⟨_, rfl, (hSN.2.1 u hu).1, ?_⟩
      rw [(v.1 u hu).1.2.2, su.1 85, he]
      refine pk_le n i (fun q => ?_) (fun q => ?_)
      · have e : i = n := by omega
        subst e
        exact h N I' J' D' W' z v hc h85 hit hsm
      · obtain ⟨pt, pu⟩ := hp (by omega)
        refine s_X8_itemAt hSN v hu pu ((su.1 85).trans he) h5 (nI i) (fun j hj e => ?_) (fun e => ?_)
        · rw [nI_eq (by omega) (by omega)] at e
          subst e
          refine ⟨(hSN.2.1 t ht).1, s_X8_nextItem hSN v ht pt h85 (by omega) (fun M1 z1 v1 => ⟨fun q => (by cases q), fun _ => ⟨fun q => (by cases q), fun _ => ⟨_, rfl, ?_, ?_⟩⟩⟩)⟩
          · exact ((zA_SA z1 hSN).2.1 _ (itm_lt ht pt (by omega)).1).1
          · have hne : itm u i ≠ itm t i := fun e => hn (itm_inj pu pt (by omega) (by omega) e).1
            have hit2 : itm t i ≠ t := itm_top ht pt pt (by omega)
            have hiu2 : itm u i ≠ t := itm_top hu pu pt (by omega)
            refine s_copyPlain (zA_SA z1 hSN) v1 (itm_lt ht pt (by omega)).1 (itm_lt hu pu (by omega)).1 hne (fun M2 I2 J2 D2 W2 z2 v2 c2 f2 s2 => nm_e ?_)
            rw [nI_1]
            have sI : ∀ w, w ≠ t → sam I' J' D' W' (upI I' 85 t (nI (i + 1))) J' D' W' w := fun w hw => ⟨fun g => upI_n _ _ hw, rfl, rfl, rfl⟩
            refine ih (i + 1) M2 I2 J2 D2 W2 (by omega) (by omega) (zA_tr (zA_tr z z1) z2) v2 ?_ ?_ (fun j hj => ?_) (fun w hw hw2 => ?_)
            · have st := s2 t (fun e => hit2 e.symm)
              exact ⟨(st.1 80).trans ((upI_f _ _ (by decide)).trans hc.1), (st.1 83).trans ((upI_f _ _ (by decide)).trans hc.2.1), st.2.1.trans hc.2.2.1, st.2.2.1.trans hc.2.2.2.1, st.2.2.2.trans hc.2.2.2.2⟩
            · rw [(s2 t (fun e => hit2 e.symm)).1 85, upI_s]
            · by_cases e : j = i
              · subst e
                refine ⟨sam_cpd (sam_tr (hsm _ hiu2 (fun j2 hj2 e2 => hn (itm_inj pu pt (by omega) (by omega) e2).1)) (sI _ hiu2)) c2, f2⟩
              · have a1 : itm t j ≠ itm t i := fun e2 => e (itm_inj pt pt (by omega) (by omega) e2).2
                have a2 : itm t j ≠ t := itm_top ht pt pt (by omega)
                have a3 := hit j (by omega)
                refine ⟨cpd_tr (cpd_tr a3.1 (sI _ a2)) (s2 _ a1), ?_⟩
                rw [(s2 _ a1).1 85, upI_n _ _ a2]; exact a3.2
            · exact sam_tr (sam_tr (hsm w hw (fun j hj => hw2 j (by omega))) (sI w hw)) (s2 w (hw2 i (by omega)))
        · rcases e with e | e
          · exact absurd e (nI_pos (by omega))
          · rw [nI_leI (by omega) (by omega)] at e; omega
  unfold fc_X8_copyAll
  refine ⟨(hS.2.1 t ht).1, s_copyPlain hS hV ht hu hn (fun M1 I1 J1 D1 W1 z1 v1 c1 f1 s1 => ⟨n + 1, ?_⟩)⟩
  exact k (n + 1) 0 M1 I1 J1 D1 W1 (by omega) (by omega) z1 v1 c1 f1 (fun j hj => absurd hj (Nat.not_lt_zero j)) (fun v hv _ => s1 v hv)
/-- a list longer by a value -/
theorem s_appendItem (hS : SA G T M) (hV : VA G M I J D W) (ht : t < 144) (hu : u < 144) (pt : t % 48 < 8) (pu : u % 48 < 8) (hn : u ≠ t) (he : I 85 t = nI n) (h5 : n < 5) {Q : CM → Prop} (h : ∀ M' I' J' D' W', zA G M M' → VA G M' I' J' D' W' → cpd I J D W I' J' D' W' (itm t n) u → I' 85 (itm t n) = 0 → I' 80 t = I 80 t → I' 83 t = I 83 t → I' 85 t = nI (n + 1) → J' t = J t → D' t = D t → W' t = puts (W t) 84 ((if n = 0 then [] else [44]) ++ (if I 80 u = 7 ∨ I 80 u = 8 then [] else W u)) → (∀ v, v ≠ t → v ≠ itm t n → sam I J D W I' J' D' W' v) → Q M') : fc_X8_appendItem T (G 0 t) (some (G 0 u)) M Q := by
  have hit : itm t n ≠ t := itm_top ht pt pt h5
  have hiu : u ≠ itm t n := fun e => itm_top ht pt pu h5 e.symm
  have hlt := (itm_lt ht pt h5).1
  have hr84 := rm_top ht pt
  unfold fc_X8_appendItem
  refine ⟨(hS.2.1 t ht).1, s_X8_nextItem hS hV ht pt he h5 (fun M1 z1 v1 => ⟨fun _ => ⟨_, rfl, ((zA_SA z1 hS).2.1 _ hlt).1, ?_⟩, fun q => (by cases q)⟩)⟩
  refine s_copyPlain (zA_SA z1 hS) v1 hlt hu hiu (fun M2 I2 J2 D2 W2 z2 v2 c2 f2 s2 => ?_)
  have z12 := zA_tr z1 z2
  have hS2 := zA_SA z12 hS
  have st := s2 t (fun e => hit e.symm)
  have su := s2 u hiu
  have eu : ∀ g, I2 g u = I g u := fun g => (su.1 g).trans (upI_n _ _ hn)
  have e85 : I2 85 t = nI (n + 1) := (st.1 85).trans (upI_s _ _ _ _)
  -- the signs of the value, one by one
  have k : ∀ (l0 : List Int32) (m i : Nat) (N : CM), (W u).length - i < m → i ≤ (W u).length → zA G M N → VA G N I2 J2 D2 (va_up W2 t (puts (W t) 84 (l0 ++ (if I 80 u = 7 ∨ I 80 u = 8 then [] else (W u).take i)))) → l0 = (if n = 0 then [] else [44]) → fc_X8_appendItem_l34 T (G 0 t) Q m (some (G 0 u)) (nI i) N := by
    intro l0 m
    induction m with
    | zero => intro i N hm; omega
    | succ m ih =>
      intro i N hm hi z v hl0
      show fc_X8_appendItem_c34 T (G 0 t) Q (fc_X8_appendItem_l34 T (G 0 t) Q m) _ _ N
      have hSN := zA_SA z hS
      have hru := rm_le u
      have hlu := (hV.2 u (by omega)).2.1
      have fin : (I 80 u = 7 ∨ I 80 u = 8) ∨ i = (W u).length → Q N := by
        intro q
        have ew : (if I 80 u = 7 ∨ I 80 u = 8 then [] else (W u).take i) = (if I 80 u = 7 ∨ I 80 u = 8 then [] else W u) := by
          by_cases c : I 80 u = 7 ∨ I 80 u = 8
          · rw [if_pos c, if_pos c]
          · rw [if_neg c, if_neg c, q.resolve_left c, List.take_length]
        rw [ew, hl0] at v
        refine h N I2 J2 D2 _ z v ⟨c2.1.trans (upI_n _ _ hn), c2.2.1.trans (upI_n _ _ hn), c2.2.2.1, c2.2.2.2.1, (va_upn _ _ hit).trans c2.2.2.2.2⟩ f2 ((st.1 80).trans (upI_f _ _ (by decide))) ((st.1 83).trans (upI_f _ _ (by decide))) e85 st.2.1 st.2.2.1 (va_ups _ _ _) (fun w hw hw2 => ?_)
        have a := s2 w hw2
        exact ⟨fun g => (a.1 g).trans (upI_n _ _ hw), a.2.1, a.2.2.1, (va_upn _ _ hw).trans a.2.2.2⟩
      unfold fc_X8_appendItem_c34 fc_X8_appendItem_b73
      refine ⟨_, rfl, (hSN.2.1 u hu).1, _, (hSN.2.1 u hu).2.1, (hSN.1 u (by omega)).1, ?_⟩
      rw [(v.2 u (by omega)).1, va_upn _ _ hn, su.2.2.2]
      refine pk_le (W u).length i (fun q => fin (Or.inr (by omega))) (fun q => s_X8_isUN hSN v hu (fun c => ?_) (fun c => ?_))
      · rw [eu] at c
        exact ⟨fun _ => fin (Or.inl c), fun q => absurd q (by decide)⟩
      · rw [eu] at c
        refine ⟨fun q => absurd rfl q, fun _ => ⟨(hSN.2.1 t ht).1, _, (hSN.2.1 u hu).2.1, (hSN.1 u (by omega)).1, s_X7_at hSN v (by omega) (nI i) ⟨_, (hSN.2.1 t ht).2.1, (hSN.1 t (by omega)).1, ?_⟩⟩⟩
        rw [lat_nI _ (by omega), va_upn _ _ hn, su.2.2.2]
        refine s_X7_append hSN v (by omega) ((hV.2 u (by omega)).2.2 i q).2 (fun M' z' v' => nm_e ?_)
        rw [nI_1]
        refine ih (i + 1) M' (by omega) (by omega) (zA_tr z z') ?_ hl0
        rw [va_ups, va_up2, hr84, if_neg c] at v'
        rw [if_neg c, take_s q, ← List.append_assoc, ← puts_puts]
        exact v'
  rw [(v2.1 t ht).1.2.2, e85]
  have v2' : VA G M2 I2 J2 D2 (va_up W2 t (W t)) := by
    rw [show va_up W2 t (W t) = W2 from funext fun w => by
      unfold va_up
      by_cases e : w = t
      · rw [if_pos e, e]; exact st.2.2.2.symm
      · rw [if_neg e]]
    exact v2
  have e0 : (if I 80 u = 7 ∨ I 80 u = 8 then ([] : List Int32) else (W u).take 0) = [] := by split <;> rfl
  unfold fc_X8_appendItem_b32
  refine pk_le (n + 1) 1 (fun q => ⟨(W u).length + 1, ?_⟩) (fun q => ⟨_, (hS2.2.1 t ht).2.1, (hS2.1 t (by omega)).1, ?_⟩)
  · refine k [] _ 0 M2 (by omega) (by omega) z12 ?_ (by rw [if_pos (by omega)])
    rw [e0]; exact v2'
  · refine s_X7_append hS2 v2' (by omega) (pk_charN (q := 44) (by decide)) (fun M3 z3 v3 => ⟨(W u).length + 1, ?_⟩)
    refine k [44] _ 0 M3 (by omega) (by omega) (zA_tr z12 z3) ?_ (by rw [if_neg (by omega)])
    rw [va_up2, va_ups, hr84] at v3
    rw [e0]; exact v3
end ITM
