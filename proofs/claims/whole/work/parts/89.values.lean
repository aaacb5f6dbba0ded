/-! the values of both, and what changes them -/
theorem gd_0 : gd FP.dconst0 := by
  unfold gd
  decide +kernel
theorem gd_1 : gd FP.dconst1 := by
  unfold gd
  decide +kernel
def LV (N : RM) (I : Nat → Nat → Int32) (J : Nat → Int64) (D : Nat → UInt64) (W : Nat → List Int32) (cv P : Nat) (nn : Nat → Nat) : Prop :=
  vA N I J D W nn ∧ (∀ v, v < 48 → I 83 v = bI (hasB (I 83 v))) ∧ (∀ i, i < 8 → I 85 i = nI (nn i) ∧ nn i ≤ 5 ∧ ∀ j, j < nn i → I 85 (itm i j) = 0) ∧ rI N 18 = nI P ∧ P ≤ 8 ∧ ∀ k, k < P → vis N I J D W cv k
section LVS
variable {N N' : RM} {I I' : Nat → Nat → Int32} {J J' : Nat → Int64} {D D' : Nat → UInt64} {W W' : Nat → List Int32} {cv P v n j : Nat} {nn : Nat → Nat}
theorem jnW_eq : ∀ n, (∀ j, j < n → I' 80 (itm v j) = I 80 (itm v j) ∧ W' (itm v j) = W (itm v j)) → jnW I' W' v n = jnW I W v n
  | 0, _ => rfl
  | n + 1, h => by
    unfold jnW
    rw [jnW_eq n (fun j hj => h j (by omega)), (h n (Nat.lt_succ_self n)).1, (h n (Nat.lt_succ_self n)).2]
theorem vL_pt (k : kP v N N') (s : sam I J D W I' J' D' W' v) (ki : ∀ j, j < n → kP (itm v j) N N') (si : ∀ j, j < n → sam I J D W I' J' D' W' (itm v j)) (h : vL N I J D W v n) : vL N' I' J' D' W' v n := by
  obtain ⟨a, b, c, d, e, f, g, i, l, m⟩ := h
  refine ⟨a, (s.1 80).trans b, k.1.trans c, d, (s.1 85).trans e, k.2.2.1.trans f, ?_, ?_, ?_, fun x hx => ⟨vT_pt (ki x hx) (si x hx) (m x hx).1, ((si x hx).1 85).trans (m x hx).2⟩⟩
  · rw [s.2.2.2, g, jnW_eq n (fun j hj => ⟨(si j hj).1 80, (si j hj).2.2.2⟩)]
  · rw [s.1 83, s.2.2.2]; exact i
  · rw [s.2.2.1, s.2.2.2]; exact l
theorem vT_83 (h : vT N I J D W v) : I 83 v = bI (hasB (I 83 v)) := by
  rcases h with ⟨-, -, -, e⟩ | ⟨-, -, -, e, -⟩ | ⟨b, -, -, -, -, -, e, -⟩ | ⟨m, -, -, -, -, -, e⟩ | ⟨-, -, -, e, -⟩
  · rw [e]; rfl
  · rw [e]; rfl
  · rw [e]; rfl
  · rw [e]; rfl
  · rw [e, hasB_b]
theorem vL_83 (h : vL N I J D W v n) : I 83 v = bI (hasB (I 83 v)) := by
  rw [h.2.2.2.2.2.2.2.1, hasB_b]
theorem vT_gd (h : vT N I J D W v) : gd (dV I D v) := by
  unfold dV
  rcases h with ⟨-, -, -, e⟩ | ⟨-, -, -, e, d⟩ | ⟨b, -, -, -, -, -, e, d⟩ | ⟨m, -, -, -, d, -, e⟩ | ⟨-, -, ⟨-, l, -⟩, e, d, -⟩
  · rw [e]; exact gd_0
  · rw [e, d]; exact gd_0
  · rw [e, d]; cases b
    · exact gd_0
    · exact gd_1
  · rw [e, d]; exact gd_nv m
  · rw [e, d]
    split
    · exact gd_num (Or.inl (by omega))
    · exact gd_0
theorem vL_gd (h : vL N I J D W v n) : gd (dV I D v) := by
  unfold dV
  obtain ⟨a, b, c, d, e, f, g, i, l, m⟩ := h
  rw [l]
  split
  · refine gd_num ?_
    rw [g]
    exact jn_num d (fun j hj => vT_len (m j hj).1)
  · exact gd_0
theorem mR_fr (h19 : rA N' 19 = rA N 19) (h22 : rA N' 22 = rA N 22) (h20 : rJ N' 20 = rJ N 20) (h21 : rD N' 21 = rD N 21) {p : Nat} {k : Int32} {x : Int64} {d : UInt64} {w : List Int32} {z : Int32} (m : mR N p k x d w z) : mR N' p k x d w z := by
  unfold mR at m ⊢
  rw [h19, h22, h20, h21]; exact m
theorem itm_48 {t j : Nat} (ht : t % 48 < 8) (hj : j < 5) (h : 48 ≤ t) : 48 ≤ itm t j := by have := itm_div (t := t) (j := j) ht hj; omega
theorem vis_fr (h19 : rA N' 19 = rA N 19) (h22 : rA N' 22 = rA N 22) (h20 : rJ N' 20 = rJ N 20) (h21 : rD N' 21 = rD N 21) (hcv : cv = 1 ∨ cv = 2) {k : Nat} (hk : k < 8) (s : ∀ v, 48 ≤ v → v < 144 → sam I J D W I' J' D' W' v) (h : vis N I J D W cv k) : vis N' I' J' D' W' cv k := by
  have s0 := s (48 * cv + k) (by omega) (by omega)
  obtain ⟨a, b, c⟩ := h
  unfold vis
  rw [s0.1 80, s0.1 85, s0.2.1, s0.2.2.1, s0.2.2.2]
  refine ⟨mR_fr h19 h22 h20 h21 a, b, c.imp id (fun ⟨c6, n, n5, e, f⟩ => ⟨c6, n, n5, e, fun j hj => ?_⟩)⟩
  have sj := s (itm (48 * cv + k) j) (itm_48 (by omega) (by omega) (by omega)) (itm_lt (t := 48 * cv + k) (j := j) (by omega) (by omega) (by omega)).1
  rw [sj.1 80, sj.1 85, sj.2.1, sj.2.2.1, sj.2.2.2]
  exact ⟨mR_fr h19 h22 h20 h21 (f j hj).1, (f j hj).2⟩
theorem kSl_mR {S : Nat → Prop} (k : kSl S N N') : rA N' 19 = rA N 19 ∧ rA N' 22 = rA N 22 ∧ rJ N' 20 = rJ N 20 ∧ rD N' 21 = rD N 21 := by
  refine ⟨k.2.1 19 (by decide) (by decide) (by decide) (by decide), k.2.1 22 (by decide) (by decide) (by decide) (by decide), ?_, k.2.2.2.1 21 (by decide)⟩
  show N'.2.2.1 20 = N.2.2.1 20
  rw [k.2.2.1]
theorem LV_upd {S : Nat → Prop} {n' : Nat} (hcv : cv = 1 ∨ cv = 2) (hj : j < 8) (h : LV N I J D W cv P nn) (kk : kSl S N N') (s : ∀ v, ¬ S v → sam I J D W I' J' D' W' v) (hS : ∀ v, S v → v = j ∨ ∃ x, x < 5 ∧ v = itm j x) (hv : (vT N' I' J' D' W' j ∧ n' = 0) ∨ vL N' I' J' D' W' j n') (e85 : I' 85 j = nI n' ∧ n' ≤ 5 ∧ ∀ x, x < n' → I' 85 (itm j x) = 0) (g : ∀ v, S v → gd (dV I' D' v) ∧ I' 83 v = bI (hasB (I' 83 v))) : LV N' I' J' D' W' cv P (uF nn j n') := by
  obtain ⟨⟨a1, a2⟩, b, c, d, e, f⟩ := h
  have ns : ∀ v, 48 ≤ v → ¬ S v := fun v hv z => by
    rcases hS v z with y | ⟨x, hx, y⟩
    · omega
    · rw [itm_v hj] at y; omega
  have no : ∀ i, i < 8 → i ≠ j → ¬ S i ∧ ∀ x, x < 5 → ¬ S (itm i x) := fun i hi hn => ⟨fun z => by
    rcases hS _ z with y | ⟨x, hx, y⟩
    · exact hn y
    · rw [itm_v hj] at y; omega, fun x hx z => by
    rcases hS _ z with y | ⟨x', hx', y⟩
    · rw [itm_v hi] at y; omega
    · rw [itm_v hi, itm_v hj] at y; omega⟩
  refine ⟨⟨fun i hi => ?_, fun v hv => ?_⟩, fun v hv => ?_, fun i hi => ?_, (kk.1 18 (by decide)).trans d, e, fun k hk => ?_⟩
  · unfold uF
    by_cases y : i = j
    · rw [if_pos y, y]; exact hv
    · rw [if_neg y]
      obtain ⟨n0, nx⟩ := no i hi y
      rcases a1 i hi with ⟨z, z2⟩ | z
      · exact Or.inl ⟨vT_pt (kk.2.2.2.2 i n0) (s i n0) z, z2⟩
      · have n5 := z.2.2.2.1
        exact Or.inr (vL_pt (kk.2.2.2.2 i n0) (s i n0) (fun x hx => kk.2.2.2.2 _ (nx x (by omega))) (fun x hx => s _ (nx x (by omega))) z)
  · by_cases y : S v
    · exact (g v y).1
    · have sv := s v y
      have q := a2 v hv
      unfold dV at q ⊢
      rw [sv.1 83, sv.2.2.1]; exact q
  · by_cases y : S v
    · exact (g v y).2
    · rw [(s v y).1 83]; exact b v hv
  · unfold uF
    by_cases y : i = j
    · rw [if_pos y, y]; exact e85
    · rw [if_neg y]
      obtain ⟨n0, nx⟩ := no i hi y
      obtain ⟨c1, c2, c3⟩ := c i hi
      exact ⟨((s i n0).1 85).trans c1, c2, fun x hx => ((s _ (nx x (by omega))).1 85).trans (c3 x hx)⟩
  · obtain ⟨m1, m2, m3, m4⟩ := kSl_mR kk
    exact vis_fr m1 m2 m3 m4 hcv (by omega) (fun v hv _ => s v (ns v hv)) (f k hk)
def kW (N N' : RM) : Prop := (∀ f, 12 < f → rA N' f = rA N f) ∧ N'.2.2 = N.2.2 ∧ rI N' 18 = rI N 18
theorem LV_fr (hcv : cv = 1 ∨ cv = 2) (k : kW N N') (s : ∀ v, v < 144 → sam I J D W I' J' D' W' v) (h : LV N I J D W cv P nn) : LV N' I' J' D' W' cv P nn := by
  obtain ⟨⟨a1, a2⟩, b, c, d, e, f⟩ := h
  obtain ⟨k1, k2, k3⟩ := k
  have hD : ∀ f, rD N' f = rD N f := fun f => by show N'.2.2.2 f = N.2.2.2 f; rw [k2]
  have hJ : ∀ f, rJ N' f = rJ N f := fun f => by show N'.2.2.1 f = N.2.2.1 f; rw [k2]
  have kp : ∀ v, kP v N N' := fun v => ⟨by rw [k1 13 (by decide)], by rw [k1 14 (by decide)], by rw [k1 16 (by decide)], by rw [hD], fun i _ => by rw [k1 17 (by decide)]⟩
  refine ⟨⟨fun i hi => ?_, fun v hv => ?_⟩, fun v hv => ?_, fun i hi => ?_, k3.trans d, e, fun x hx => vis_fr (k1 19 (by decide)) (k1 22 (by decide)) (hJ 20) (hD 21) hcv (by omega) (fun v _ hv => s v hv) (f x hx)⟩
  · rcases a1 i hi with ⟨z, z2⟩ | z
    · exact Or.inl ⟨vT_pt (kp i) (s i (by omega)) z, z2⟩
    · have n5 := z.2.2.2.1
      exact Or.inr (vL_pt (kp i) (s i (by omega)) (fun x hx => kp _) (fun x hx => s _ (by rw [itm_v hi]; omega)) z)
  · have sv := s v (by omega)
    have q := a2 v hv
    unfold dV at q ⊢
    rw [sv.1 83, sv.2.2.1]; exact q
  · rw [(s v (by omega)).1 83]; exact b v hv
  · obtain ⟨c1, c2, c3⟩ := c i hi
    exact ⟨((s i (by omega)).1 85).trans c1, c2, fun x hx => ((s _ (by rw [itm_v hi]; omega)).1 85).trans (c3 x hx)⟩
theorem LV_sz (h : LV N I J D W cv P nn) : szOk I cv P := by
  obtain ⟨a, b, c, d, e, f⟩ := h
  refine ⟨fun j hj => ⟨nn j, (c j hj).2.1, (c j hj).1⟩, fun k hk => ?_⟩
  rcases (f k hk).2.2 with ⟨-, y⟩ | ⟨-, n, n5, y, -⟩
  · exact ⟨0, Nat.zero_le _, y⟩
  · exact ⟨n, n5, y⟩
end LVS
