/-! what a call leaves is what is seen -/
section SNC
variable {N : RM} {I I' : Nat → Nat → Int32} {J J' : Nat → Int64} {D D' : Nat → UInt64} {W W' : Nat → List Int32} {cv s n : Nat} {g : Ag} {N' : RM}
theorem cvN_kd {i : Nat} {m : Int32} {has : Bool} {d : UInt64} {r : Rv} (h : cvN i m has d = some r) : r.1 = 4 ∨ r.1 = 3 := by
  unfold cvN at h
  by_cases a : has = false ∧ (i = 5 ∨ m = 2)
  · rw [if_pos a] at h; cases h
  · rw [if_neg a] at h
    by_cases b : i = 5
    · rw [if_pos b] at h
      injection h with h; rw [← h]; exact Or.inl rfl
    · rw [if_neg b] at h
      by_cases c : m = 2 ∧ (FP.d2l (if has = true then d else FP.dconst0) < nLeast i ∨ nMost i < FP.d2l (if has = true then d else FP.dconst0))
      · rw [if_pos c] at h; cases h
      · rw [if_neg c] at h
        injection h with h; rw [← h]; exact Or.inr rfl
theorem cvP_kd {τ : Ty} {kd : Int32} {has : Bool} {w : Int64} {d : UInt64} {t : List Int32} {r : Rv} (h : cvP τ kd has w d t = some r) : (r.1 = 5 → r.2.2.2 = t) ∧ (r.1 = 6 → kd = 6) ∧ (isAny τ kd = true → r.1 = kd) := by
  unfold cvP at h
  split at h
  · rename_i c
    injection h with h
    rw [← h]
    exact ⟨fun z => absurd z (by decide), fun z => absurd z (by decide), fun z => by
      unfold isAny at z
      exact absurd c (of_decide_eq_true z).2⟩
  · split at h
    · injection h with h
      rw [← h]
      exact ⟨fun _ => rfl, id, fun _ => rfl⟩
    · rename_i n7
      have na : isAny τ kd = true → r.1 = kd := fun z => by
        unfold isAny at z
        exact absurd (of_decide_eq_true z).1 n7
      split at h
      · injection h with h
        refine ⟨fun z => ?_, fun z => ?_, na⟩ <;> rw [← h] at z <;> exact absurd z (by show ¬ (2 : Int32) = _; decide)
      · split at h
        · have k := cvN_kd h
          refine ⟨fun z => ?_, fun z => ?_, na⟩ <;> rw [z] at k <;> exact absurd k (by decide)
        · split at h
          · cases h
          · injection h with h
            refine ⟨fun _ => by rw [← h], fun z => ?_, na⟩
            rw [← h] at z; exact absurd z (by show ¬ (5 : Int32) = _; decide)
theorem mR_sz {p : Nat} {k : Int32} {j : Int64} {d : UInt64} {w : List Int32} {z z' : Int32} (hk : k ≠ 6) (m : mR N p k j d w z) : mR N p k j d w z' := by
  obtain ⟨a, b, c, e⟩ := m
  refine ⟨a, ?_, c, e⟩
  rw [b]; unfold whl
  split
  · rfl
  · split
    · rfl
    · rfl
theorem vis_miss {k : Nat} (m : mR N' k 0 0 FP.dconst0 [] 0) (h : isRv I' J' D' W' (48 * cv + k) (0, 0, FP.dconst0, [])) (e : I' 85 (48 * cv + k) = 0) : vis N' I' J' D' W' cv k := by
  obtain ⟨a, b, c, d⟩ := h
  unfold vis
  rw [a, b, c, d, e]
  exact ⟨m, fun z => absurd z (by decide), Or.inl ⟨by decide, rfl⟩⟩
theorem vis_conv (hs : s < 8) (hcv : cv = 1 ∨ cv = 2) (hv : (vT N I J D W s ∧ n = 0) ∨ vL N I J D W s n) (m : mCb 0 N' g I J D W n s) (c : cvOk g I J D W n s I' J' D' W' (48 * cv + s)) : vis N' I' J' D' W' cv s := by
  have n5 : n ≤ 5 := by
    rcases hv with ⟨-, e⟩ | h
    · omega
    · exact h.2.2.2.1
  have nzs : nz (W s) := (val_nz (hv.elim (fun z => Or.inl z.1) (fun z => Or.inr ⟨n, z⟩))).1
  have it : ∀ j, j < n → vT N I J D W (itm s j) := fun j hj => by
    rcases hv with ⟨-, e⟩ | h
    · omega
    · exact (h.2.2.2.2.2.2.2.2.2 j hj).1
  have rm16 : ∀ j, j < 5 → rm (itm (48 * cv + s) j) = 16 := fun j hj => by
    have h1 := itm_lt (t := 48 * cv + s) (j := j) (by omega) (by omega) hj
    unfold rm
    rw [if_neg (by omega), if_neg (by omega)]
  obtain ⟨t, ht⟩ : ∃ t, t = 48 * cv + s := ⟨_, rfl⟩
  obtain ⟨m1, m2, m3⟩ := m
  obtain ⟨c1, c2, c3⟩ := c
  by_cases hm : missC g (I 80 s)
  · have mm := m1 hm
    rw [Nat.zero_add] at mm
    exact vis_miss mm (c1 hm).1 (c1 hm).2
  · by_cases hp : plainC g (I 80 s)
    · obtain ⟨r, e1, a1, a2⟩ := m2 hm hp
      obtain ⟨r', e2, b1, b2, b3⟩ := c2 hm hp
      rw [e1] at e2
      injection e2 with e2
      subst e2
      rw [Nat.zero_add] at a1
      obtain ⟨k1, k2, k3⟩ := cvP_kd e1
      obtain ⟨x1, x2, x3, x4⟩ := b1
      unfold vis
      rw [x1, x2, x3, x4]
      have hn5 : r.1 = 5 → nz r.2.2.2 := fun z => by rw [k1 z]; exact nzs
      cases ha : isAny g.2.2.1 (I 80 s) with
      | false =>
        rw [ha] at a1
        have e0 := b2 ha
        rw [e0]
        refine ⟨a1, hn5, ?_⟩
        by_cases y : r.1 = 6
        · exact Or.inr ⟨y, 0, Nat.zero_le _, rfl, fun j hj => absurd hj (Nat.not_lt_zero j)⟩
        · exact Or.inl ⟨y, rfl⟩
      | true =>
        rw [ha] at a1
        obtain ⟨e0, cp⟩ := b3 ha
        have a2' := a2 ha
        rw [e0]
        refine ⟨a1, hn5, ?_⟩
        by_cases y : r.1 = 6
        · refine Or.inr ⟨y, n, n5, rfl, fun j hj => ?_⟩
          obtain ⟨q1, q2, q3, q4, q5⟩ := cp j hj
          have vi := it j hj
          rw [rm16 j (by omega), List.take_of_length_le (Nat.le_trans (vT_len vi) (by decide))] at q5
          rw [q1, q3, q4, q5]
          have mm := a2' j hj
          rw [Nat.zero_add] at mm
          exact ⟨mR_sz (vT_kd vi).2 mm, fun _ => (val_nz (Or.inl vi)).1⟩
        · refine Or.inl ⟨y, ?_⟩
          rcases hv with ⟨-, e⟩ | h
          · rw [e]; rfl
          · exact absurd ((k3 ha).trans h.2.1) y
    · have hσ : ∃ σ, g.2.2.2 = some σ := by
        cases e : g.2.2.2 with
        | none => exact absurd (Or.inl e) hp
        | some σ => exact ⟨σ, rfl⟩
      obtain ⟨σ, eσ⟩ := hσ
      obtain ⟨-, a1, a2⟩ := m3 hm hp σ eσ
      obtain ⟨-, ⟨x1, x2, x3, x4⟩, e0, b2⟩ := c3 hm hp σ eσ
      rw [Nat.zero_add] at a1
      unfold vis
      rw [x1, x2, x3, x4, e0]
      refine ⟨a1, fun z => absurd z (by show ¬ (6 : Int32) = 5; decide), Or.inr ⟨rfl, n, n5, rfl, fun j hj => ?_⟩⟩
      obtain ⟨r, e1, f1⟩ := a2 j hj
      obtain ⟨r', e2, y1, y2, y3, y4⟩ := b2 j hj
      rw [e1] at e2
      injection e2 with e2
      subst e2
      obtain ⟨k1, k2, k3⟩ := cvP_kd e1
      have vi := it j hj
      rw [y1, y2, y3, y4]
      rw [Nat.zero_add] at f1
      exact ⟨mR_sz (fun z => (vT_kd vi).2 (k2 z)) f1, fun z => by rw [k1 z]; exact (val_nz (Or.inl vi)).1⟩
end SNC
