section SLT
variable {g : Ag} {I I1 I2 I' : Nat → Nat → Int32} {J J1 J2 J' : Nat → Int64} {D D1 D2 D' : Nat → UInt64} {W W1 W2 W' : Nat → List Int32} {t u n : Nat}
theorem isRv_tr {r : Rv} (h : isRv I' J' D' W' t r) (s : sam I' J' D' W' I2 J2 D2 W2 t) : isRv I2 J2 D2 W2 t r := ⟨(s.1 80).trans h.1, s.2.1.trans h.2.1, s.2.2.1.trans h.2.2.1, s.2.2.2.trans h.2.2.2⟩
/-- what a conversion left stands as long as the thing and its items do -/
theorem cvOk_dst (h : cvOk g I J D W n u I' J' D' W' t) (s0 : sam I' J' D' W' I2 J2 D2 W2 t) (sj : ∀ j, j < n → sam I' J' D' W' I2 J2 D2 W2 (itm t j)) : cvOk g I J D W n u I2 J2 D2 W2 t := by
  refine ⟨fun c => ⟨isRv_tr (h.1 c).1 s0, (s0.1 85).trans (h.1 c).2⟩, fun c d => ?_, fun c d σ e => ?_⟩
  · obtain ⟨r, e, q1, q2, q3⟩ := h.2.1 c d
    exact ⟨r, e, isRv_tr q1 s0, fun z => (s0.1 85).trans (q2 z), fun z => ⟨(s0.1 85).trans (q3 z).1, fun j hj => cpd_tr ((q3 z).2 j hj) (sj j hj)⟩⟩
  · obtain ⟨a, b, c', f⟩ := h.2.2 c d σ e
    refine ⟨a, isRv_tr b s0, (s0.1 85).trans c', fun j hj => ?_⟩
    obtain ⟨r, e1, e2⟩ := f j hj
    exact ⟨r, e1, isRv_tr e2 (sj j hj)⟩
/-- the value converted is what it was before -/
theorem cvOk_src (h : cvOk g I1 J1 D1 W1 n u I' J' D' W' t) (s0 : sam I J D W I1 J1 D1 W1 u) (sj : ∀ j, j < n → sam I J D W I1 J1 D1 W1 (itm u j)) : cvOk g I J D W n u I' J' D' W' t := by
  unfold cvOk at h ⊢
  rw [s0.1 80, s0.1 83, s0.2.1, s0.2.2.1, s0.2.2.2] at h
  refine ⟨h.1, fun c d => ?_, fun c d σ e => ?_⟩
  · obtain ⟨r, e, q1, q2, q3⟩ := h.2.1 c d
    exact ⟨r, e, q1, q2, fun z => ⟨(q3 z).1, fun j hj => sam_cpd (sj j hj) ((q3 z).2 j hj)⟩⟩
  · obtain ⟨a, b, c', f⟩ := h.2.2 c d σ e
    refine ⟨a, b, c', fun j hj => ?_⟩
    obtain ⟨r, e1, e2⟩ := f j hj
    have s := sj j hj
    rw [s.1 80, s.1 83, s.2.1, s.2.2.1, s.2.2.2] at e1
    exact ⟨r, e1, e2⟩
theorem cvNo_src (h : cvNo g I1 J1 D1 W1 n u) (s0 : sam I J D W I1 J1 D1 W1 u) (sj : ∀ j, j < n → sam I J D W I1 J1 D1 W1 (itm u j)) : cvNo g I J D W n u := by
  unfold cvNo at h ⊢
  rw [s0.1 80, s0.1 83, s0.2.1, s0.2.2.1, s0.2.2.2] at h
  refine ⟨h.1, h.2.elim Or.inl (fun z => Or.inr ⟨z.1, z.2.elim Or.inl (fun z2 => Or.inr ?_)⟩)⟩
  obtain ⟨σ, j, e, hj, q⟩ := z2
  have s := sj j hj
  rw [s.1 80, s.1 83, s.2.1, s.2.2.1, s.2.2.2] at q
  exact ⟨σ, j, e, hj, q⟩
end SLT
/-! the first part of the object's operations -/
section CLR
variable {T : LY} {M : CM} {px : Nat}
/-- the row of the operations: OA o is operation o -/
def SQ (T : LY) (M : CM) (px : Nat) (OA : Nat → Nat → Nat) : Prop := tg T px = 11 ∧ ∃ r, cR M 102 px = some r ∧ tg T r = 27 ∧ ln T r = 6 ∧ ∀ o, o < 6 → xR M r o = some (OA o 0)
theorem s_operationAt {OA : Nat → Nat → Nat} (h : SQ T M px OA) (a : Int32) {Q : Option Nat → CM → Prop} (h1 : ∀ o, o < 6 → a = nI o → Q (some (OA o 0)) M) (h0 : (a < 0 ∨ 6 ≤ a) → Q none M) : fc_X10_operationAt T px a M Q := by
  obtain ⟨h11, r, a1, a2, a3, a4⟩ := h
  unfold fc_X10_operationAt fc_X10_operationAt_b22 fc_X10_operationAt_b23
  refine br_c (fun c => h0 (Or.inl c)) (fun c => ⟨h11, r, a1, a2, ?_⟩)
  rw [a3]
  obtain ⟨j, hj, rfl⟩ := nI_of c
  refine pk_le 6 j (fun d => h0 (Or.inr (nI_le (a := 6) d hj))) (fun d => ⟨vp_in_nI d (by decide), ?_⟩)
  rw [nI_clamp hj, a4 j d]
  exact h1 j d rfl
theorem s_place (h : tg T px = 11) {Q : Int32 → CM → Prop} (k : Q (cI M 108 px) M) : fc_X10_place T px M Q := ⟨h, k⟩
end CLR
