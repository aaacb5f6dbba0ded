section MK
def zr (t : Nat) : Nat := t / 48
def zs (t : Nat) : Nat := if t % 48 < 8 then t % 48 else (t % 48 - 8) / 5
def zm (t : Nat) : Nat := if t % 48 < 8 then 0 else 1 + (t % 48 - 8) % 5
theorem z_lt {t : Nat} (h : t < 144) : zr t < 3 ∧ zs t < 8 ∧ zm t < 6 := by
  unfold zr zs zm
  refine ⟨by omega, ?_, ?_⟩
  · split <;> omega
  · split <;> omega
theorem z_eq (t : Nat) : t = 48 * zr t + (if zm t = 0 then zs t else 8 + 5 * zs t + (zm t - 1)) := by
  unfold zr zs zm
  by_cases c : t % 48 < 8
  · rw [if_pos c, if_pos c, if_pos rfl]; omega
  · rw [if_neg c, if_neg c, if_neg (by omega)]; omega
theorem z_itm {t j : Nat} (h : t % 48 < 8) (hj : j < 5) : zr (itm t j) = t / 48 ∧ zs (itm t j) = t % 48 ∧ zm (itm t j) = 1 + j ∧ ¬ itm t j % 48 < 8 := by
  have e1 : itm t j / 48 = t / 48 := itm_div h hj
  have e2 : itm t j % 48 = 8 + 5 * (t % 48) + j := by
    have e3 : itm t j = t / 48 * 48 + 8 + 5 * (t % 48) + j := rfl
    have e4 := Nat.div_add_mod (itm t j) 48
    omega
  unfold zr zs zm
  rw [e2, if_neg (by omega), if_neg (by omega)]
  exact ⟨e1, by omega, by omega, by omega⟩
def gG (x y : Nat) (gr : Nat → Nat → Nat → Nat → Nat) (er : Nat → Nat → Nat) : Nat → Nat → Nat := fun k t => if t = 144 then (if k = 1 then x else y) else if k = 3 ∧ ¬ t % 48 < 8 then er (zr t) (zs t) else gr (zr t) (zs t) k (zm t)
variable {T : LY} {M : CM} {x y : Nat} {gr : Nat → Nat → Nat → Nat → Nat} {er : Nat → Nat → Nat} {RW : Nat → Nat}
theorem gG_k {k t : Nat} (hk : k < 3) (ht : t < 144) : gG x y gr er k t = gr (zr t) (zs t) k (zm t) := by
  unfold gG
  rw [if_neg (by omega), if_neg (fun z => by omega)]
def W0 (t : Nat) : List Int32 := if t ≠ 144 ∧ t % 48 < 8 then sText 11 else []
def dd (gr : Nat → Nat → Nat → Nat → Nat) : Prop := ∀ r, r < 3 → ∀ r', r' < 3 → r ≠ r' → dj (gr r) (gr r')
theorem gG_inj (ho : ∀ r, r < 3 → RO T M (RW r) (gr r) (er r) 8) (hd : dd gr) {k t u : Nat} (hk : k < 3) (ht : t < 144) (hu : u < 144) (e : gG x y gr er k t = gG x y gr er k u) : t = u := by
  rw [gG_k hk ht, gG_k hk hu] at e
  have zt := z_lt ht
  have zu := z_lt hu
  have er' : zr t = zr u := by
    apply Decidable.byContradiction
    intro n
    exact hd _ zt.1 _ zu.1 n _ zt.2.1 _ zu.2.1 k hk _ zt.2.2 _ zu.2.2 e
  rw [er'] at e
  have es : zs t = zs u := by
    apply Decidable.byContradiction
    intro n
    exact (ho _ zu.1).2.2 _ zt.2.1 _ zu.2.1 n k hk _ zt.2.2 _ zu.2.2 e
  rw [es] at e
  have em : zm t = zm u := ((ho _ zu.1).2.1 _ zu.2.1).2.1.2.2.2.2 k hk _ zt.2.2 _ zu.2.2 e
  rw [z_eq t, z_eq u, er', es, em]
theorem gG_NU (ho : ∀ r, r < 3 → RO T M (RW r) (gr r) (er r) 8) {t : Nat} (ht : t < 144) : NU T M (gG x y gr er 0 t) (gG x y gr er 1 t) (gG x y gr er 2 t) (rm t) (some (gG x y gr er 3 t)) (W0 t) ∧ tg T (gG x y gr er 3 t) = 28 ∧ ln T (gG x y gr er 3 t) = (if t % 48 < 8 then 5 else 0) := by
  have zt := z_lt ht
  have gp := ((ho _ zt.1).2.1 _ zt.2.1).2.1
  rw [gG_k (by decide) ht, gG_k (by decide) ht, gG_k (by decide) ht]
  by_cases c : t % 48 < 8
  · have em : zm t = 0 := by unfold zm; rw [if_pos c]
    have e3 : gG x y gr er 3 t = gr (zr t) (zs t) 3 0 := by
      unfold gG
      rw [if_neg (by omega), if_neg (fun z => z.2 c), em]
    have er2 : rm t = 84 := by unfold rm; rw [if_neg (by omega), if_pos c]
    have ew : W0 t = sText 11 := by unfold W0; rw [if_pos ⟨by omega, c⟩]
    rw [e3, er2, ew, em, if_pos c]
    exact ⟨gp.1, gp.2.1.1, gp.2.1.2⟩
  · have e3 : gG x y gr er 3 t = er (zr t) (zs t) := by
      unfold gG
      rw [if_neg (by omega), if_pos ⟨rfl, c⟩]
    have er2 : rm t = 16 := by unfold rm; rw [if_neg (by omega), if_neg c]
    have ew : W0 t = [] := by unfold W0; rw [if_neg (fun z => c z.2)]
    have em : zm t = 1 + (t % 48 - 8) % 5 := by unfold zm; rw [if_neg c]
    rw [e3, er2, ew, em, if_neg c]
    exact ⟨(gp.2.2.2.1 _ (Nat.mod_lt _ (by decide))).1, gp.2.2.1.1, gp.2.2.1.2⟩
theorem gG_SA (ho : ∀ r, r < 3 → RO T M (RW r) (gr r) (er r) 8) (hd : dd gr) (tl : TL T M x y) (hx : ∀ r, r < 3 → nf x (gr r)) (hy : ∀ r, r < 3 → nf y (gr r)) : SA (gG x y gr er) T M := by
  have l1 : gG x y gr er 1 144 = x := by unfold gG; rw [if_pos rfl, if_pos rfl]
  have l2 : gG x y gr er 2 144 = y := by unfold gG; rw [if_pos rfl, if_neg (by decide)]
  refine ⟨fun t ht => ?_, fun t ht => ?_, fun t ht c j hj => ?_, fun t u ht hu e => gG_inj ho hd (k := 0) (by decide) ht hu e, fun t u ht hu e => ?_, fun t u ht hu e => ?_⟩
  · by_cases c : t = 144
    · subst c
      rw [l1, l2]
      exact ⟨tl.1, tl.2.2.2.1, tl.2.1, tl.2.2.1⟩
    · have n := (gG_NU (x := x) (y := y) ho (t := t) (by omega)).1
      exact ⟨n.1.2.1, n.2.2.2.1, n.1.2.2.1, n.1.2.2.2⟩
  · obtain ⟨n, a, b⟩ := gG_NU (x := x) (y := y) ho ht
    exact ⟨n.1.1, n.2.1, n.2.2.1, a, b⟩
  · have zt := z_lt ht
    have gp := ((ho _ zt.1).2.1 _ zt.2.1).2.1
    have i4 := itm_lt ht c hj
    obtain ⟨q1, q2, q3, q4⟩ := z_itm c hj
    have em : zm t = 0 := by unfold zm; rw [if_pos c]
    have es : zs t = t % 48 := by unfold zs; rw [if_pos c]
    have e3 : gG x y gr er 3 t = gr (zr t) (zs t) 3 0 := by
      unfold gG
      rw [if_neg (by omega), if_neg (fun z => z.2 c), em]
    rw [e3, gG_k (by decide) i4.1, q1, q2, q3, ← es]
    exact (gp.2.2.2.1 j hj).2
  · by_cases c : t = 144
    · by_cases c' : u = 144
      · omega
      · exfalso
        rw [c, l1, gG_k (by decide) (by omega)] at e
        have zu := z_lt (t := u) (by omega)
        exact hx _ zu.1 _ zu.2.1 1 (by decide) _ zu.2.2 e.symm
    · by_cases c' : u = 144
      · exfalso
        rw [c', l1, gG_k (by decide) (by omega)] at e
        have zt := z_lt (t := t) (by omega)
        exact hx _ zt.1 _ zt.2.1 1 (by decide) _ zt.2.2 e
      · exact gG_inj ho hd (k := 1) (by decide) (by omega) (by omega) e
  · by_cases c : t = 144
    · by_cases c' : u = 144
      · omega
      · exfalso
        rw [c, l2, gG_k (by decide) (by omega)] at e
        have zu := z_lt (t := u) (by omega)
        exact hy _ zu.1 _ zu.2.1 2 (by decide) _ zu.2.2 e.symm
    · by_cases c' : u = 144
      · exfalso
        rw [c', l2, gG_k (by decide) (by omega)] at e
        have zt := z_lt (t := t) (by omega)
        exact hy _ zt.1 _ zt.2.1 2 (by decide) _ zt.2.2 e
      · exact gG_inj ho hd (k := 2) (by decide) (by omega) (by omega) e
theorem gG_VA (ho : ∀ r, r < 3 → RO T M (RW r) (gr r) (er r) 8) (tl : TL T M x y) : VA (gG x y gr er) M (fun f _ => if f = 80 then 7 else 0) (fun _ => 0) (fun _ => FP.dconst0) W0 := by
  have l1 : gG x y gr er 1 144 = x := by unfold gG; rw [if_pos rfl, if_pos rfl]
  refine ⟨fun t ht => ?_, fun t ht => ?_⟩
  · obtain ⟨n, -, -⟩ := gG_NU (x := x) (y := y) ho ht
    exact ⟨⟨n.2.2.2.2.2.1.1, n.2.2.2.2.2.1.2.1, n.2.2.2.2.2.1.2.2⟩, n.2.2.2.2.2.2.1, n.2.2.2.2.2.2.2, nZ_0⟩
  · by_cases c : t = 144
    · subst c
      rw [l1]
      have ew : W0 144 = [] := by unfold W0; rw [if_neg (fun z => z.1 rfl)]
      rw [ew]
      exact ⟨tl.2.2.2.2, Nat.zero_le _, fun i hi => absurd hi (Nat.not_lt_zero i)⟩
    · obtain ⟨n, -, -⟩ := gG_NU (x := x) (y := y) ho (t := t) (by omega)
      refine ⟨n.2.2.2.2.1.1, ?_, fun i hi => ⟨n.2.2.2.2.1.2 i hi, ?_⟩⟩
      · unfold W0 rm
        rw [if_neg c]
        by_cases d : t % 48 < 8
        · rw [if_pos ⟨c, d⟩, if_pos d]; decide
        · rw [if_neg (fun z => d z.2)]; exact Nat.zero_le _
      · unfold W0
        by_cases d : t ≠ 144 ∧ t % 48 < 8
        · rw [if_pos d]
          exact getD_nC (by decide) i
        · rw [if_neg d]
          rw [List.getD_eq_getElem?_getD, List.getElem?_nil]; exact nC_0
end MK
