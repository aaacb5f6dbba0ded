/-! types (name, mode, nullable, the codes of the words; no codes: no enum), arguments (optional, variadic, type, the type of a list's values) -/
def bI (b : Bool) : Int32 := if b then 1 else 0
theorem bI_0 {b : Bool} : bI b = 0 ↔ b = false := by cases b <;> decide
theorem bI_z (b : Bool) : nZ (bI b) := by cases b <;> exact ⟨rfl, rfl⟩
theorem bI_i {b d : Bool} : bI b = bI d ↔ b = d := by cases b <;> cases d <;> decide
abbrev Ty : Type := Nat × Int32 × Bool × List Int64
abbrev Ag : Type := Bool × Bool × Ty × Option Ty
def wds (T : LY) (M : CM) (r : Option Nat) (l : List Int64) : Prop := (l = [] ∧ r = none) ∨ (l ≠ [] ∧ ∃ p, r = some p ∧ tg T p = 23 ∧ ln T p = l.length ∧ l.length = 5 ∧ ∀ i, i < l.length → xJ M p i = l.getD i 0)
def tyc (nm : Nat → Nat) (T : LY) (M : CM) (a : Nat) (τ : Ty) (e : Option Nat) : Prop := tg T a = 10 ∧ τ.1 < 10 ∧ cR M 90 a = some (nm τ.1) ∧ cI M 91 a = τ.2.1 ∧ cI M 92 a = bI τ.2.2.1 ∧ wds T M (cR M 93 a) τ.2.2.2 ∧ cR M 94 a = e
def arc (nm : Nat → Nat) (T : LY) (M : CM) (a : Nat) (g : Ag) : Prop := tg T a = 1 ∧ cI M 1 a = bI g.1 ∧ cI M 2 a = bI g.2.1 ∧ ∃ ta, cR M 0 a = some ta ∧ ((g.2.2.2 = none ∧ tyc nm T M ta g.2.2.1 none) ∨ ∃ e σ, g.2.2.2 = some σ ∧ tyc nm T M ta g.2.2.1 (some e) ∧ tyc nm T M e σ none)
def miss (g : Ag) : Bool := g.1 || g.2.1
section TYP
variable {nm : Nat → Nat} {T : LY} {M : CM} {a b : Nat} {l l' : List Int64} {τ σ : Ty} {g g' : Ag} {x y : Option Nat}
theorem getD_ext {l l' : List Int64} (h : l.length = l'.length) (k : ∀ j, j < l.length → l.getD j 0 = l'.getD j 0) : l = l' := by
  apply List.ext_getElem h
  intro j h1 h2
  have := k j h1
  rw [List.getD_eq_getElem?_getD, List.getD_eq_getElem?_getD, List.getElem?_eq_getElem h1, List.getElem?_eq_getElem h2] at this
  exact this
theorem s_X9_sameWords (ha : tg T a = 10) (hb : tg T b = 10) (hx : wds T M (cR M 93 a) l) (hy : wds T M (cR M 93 b) l') {Q : Int32 → CM → Prop} (h1 : l = l' → Q 1 M) (h0 : l ≠ l' → Q 0 M) : fc_X9_hasSameWords T a (some b) M Q := by
  unfold fc_X9_hasSameWords fc_X9_hasSameWords_b14 fc_X9_hasSameWords_b32 fc_X9_hasSameWords_b33
  rcases hx with ⟨ex, rx⟩ | ⟨nx, p, rx, tx, lx, l5, vx⟩
  · rw [rx]
    refine ⟨ha, fun _ => ⟨ha, fun q => absurd rfl q, fun _ => ⟨b, rfl, hb, ?_⟩⟩, fun q => absurd rfl q⟩
    rcases hy with ⟨ey, ry⟩ | ⟨ny, p', ry, -⟩
    · rw [ry]
      exact ⟨fun q => absurd rfl q, fun _ => ⟨nZ_1, h1 (ex.trans ey.symm)⟩⟩
    · rw [ry]
      exact ⟨fun _ => ⟨nZ_0, h0 (fun z => ny (z ▸ ex))⟩, fun q => by cases q⟩
  · have rx' := rx
    rw [rx]
    refine ⟨ha, fun q => (by cases q), fun _ => ⟨b, rfl, hb, ?_⟩⟩
    rcases hy with ⟨ey, ry⟩ | ⟨ny, p', ry, ty, ly, l5', vy⟩
    · rw [ry]
      exact ⟨fun q => absurd rfl q, fun _ => ⟨ha, fun _ => ⟨nZ_0, h0 (fun z => nx (z.trans ey))⟩, fun q => (by cases q)⟩⟩
    · have ry' := ry
      rw [ry]
      refine ⟨fun _ => ⟨p, rfl, tx, p', rfl, ty, ?_⟩, fun q => (by cases q)⟩
      rw [lx, ly]
      refine pk_eq l.length l'.length (fun e => ⟨l.length + 1, ?_⟩) (fun e => h0 (fun z => e (by rw [z])))
      have k : ∀ m i, i + m = l.length → (∀ j, j < i → l.getD j 0 = l'.getD j 0) → fc_X9_hasSameWords_l51 T a Q (m + 1) (some b) (nI i) M := by
        intro m
        induction m with
        | zero =>
          intro i hi he
          show fc_X9_hasSameWords_c51 T a Q _ _ _ M
          unfold fc_X9_hasSameWords_c51 fc_X9_hasSameWords_b93
          rw [rx']
          refine ⟨ha, p, rfl, tx, ?_⟩
          rw [lx]
          exact br_t (nI_le (by omega) (by omega)) (h1 (getD_ext e (fun j hj => he j (by omega))))
        | succ m ih =>
          intro i hi he
          show fc_X9_hasSameWords_c51 T a Q (fc_X9_hasSameWords_l51 T a Q (m + 1)) _ _ M
          unfold fc_X9_hasSameWords_c51
          rw [rx']
          refine ⟨ha, p, rfl, tx, ?_⟩
          rw [lx]
          refine br_f (nI_ge (by omega) (by omega)) ⟨b, rfl, hb, ?_⟩
          rw [ry']
          refine ⟨p', rfl, ty, ?_⟩
          rw [ly]
          refine br_f (nI_ge (by omega) (by omega)) ⟨vp_in_nI (by omega) (by omega), vp_in_nI (by omega) (by omega), ?_⟩
          rw [nI_clamp (by omega), vx i (by omega), vy i (by omega)]
          refine ⟨fun q => nm_e ?_, fun q => h0 (fun z => q (by rw [z]; exact (lg_cmp_eq _ _).mpr rfl))⟩
          rw [nI_1]
          refine ih (i + 1) (by omega) (fun j hj => ?_)
          by_cases c : j = i
          · rw [c]; exact (lg_cmp_eq _ _).mp q
          · exact he j (by omega)
      exact k l.length 0 (by omega) (fun j hj => absurd hj (Nat.not_lt_zero j))
theorem s_X9_sameBut (hnm : ∀ i j, i < 10 → j < 10 → nm i = nm j → i = j) (hx : tyc nm T M a τ x) (hy : tyc nm T M b σ y) {Q : Int32 → CM → Prop} (h1 : τ = σ → Q 1 M) (h0 : τ ≠ σ → Q 0 M) : fc_X9_isSameButElement T a (some b) M Q := by
  obtain ⟨a1, a2, a3, a4, a5, a6, a7⟩ := hx
  obtain ⟨b1, b2, b3, b4, b5, b6, b7⟩ := hy
  obtain ⟨τ1, τ2, τ3, τ4⟩ := τ
  obtain ⟨σ1, σ2, σ3, σ4⟩ := σ
  dsimp only at a2 a3 a4 a5 a6 b2 b3 b4 b5 b6
  unfold fc_X9_isSameButElement fc_X9_isSameButElement_b45 fc_X9_isSameButElement_b46
  refine ⟨a1, b, rfl, b1, ?_⟩
  rw [a3, b3, a4, b4, a5, b5]
  refine ⟨fun c => ⟨nZ_0, h0 (fun z => c ?_)⟩, fun c => ⟨fun d => ⟨nZ_0, h0 (fun z => d ?_)⟩, fun d => ⟨fun e => ⟨nZ_0, h0 (fun z => e ?_)⟩, fun e => s_X9_sameWords a1 b1 a6 b6 (fun f => ⟨fun q => absurd q (by decide), fun _ => ⟨nZ_1, h1 ?_⟩⟩) (fun f => ⟨fun _ => ⟨nZ_0, h0 (fun z => f ?_)⟩, fun q => absurd rfl q⟩)⟩⟩⟩
  · cases z; rfl
  · cases z; rfl
  · cases z; rfl
  · have c1 := hnm _ _ a2 b2 (Option.some.inj c)
    have e1 := bI_i.mp e
    rw [c1, d, e1, f]
  · cases z; rfl
theorem s_X9_distinct (hx : tyc nm T M a τ x) (hy : tyc nm T M b σ y) (hnm : ∀ i j, i < 10 → j < 10 → nm i = nm j → i = j) {Q : Int32 → CM → Prop} (h : Q (bI (decide (nSort τ.1 ≠ 0 ∧ nSort σ.1 ≠ 0 ∧ ¬ (τ.2.2.1 = true ∧ σ.2.2.1 = true) ∧ nSort τ.1 ≠ nSort σ.1))) M) : fc_X9_isDistinctFrom nm T a (some b) M Q := by
  obtain ⟨a1, a2, a3, a4, a5, a6, a7⟩ := hx
  obtain ⟨b1, b2, b3, b4, b5, b6, b7⟩ := hy
  have k0 : ¬ (nSort τ.1 ≠ 0 ∧ nSort σ.1 ≠ 0 ∧ ¬ (τ.2.2.1 = true ∧ σ.2.2.1 = true) ∧ nSort τ.1 ≠ nSort σ.1) → Q 0 M := fun c => by rw [decide_eq_false c] at h; exact h
  have k1 : (nSort τ.1 ≠ 0 ∧ nSort σ.1 ≠ 0 ∧ ¬ (τ.2.2.1 = true ∧ σ.2.2.1 = true) ∧ nSort τ.1 ≠ nSort σ.1) → Q 1 M := fun c => by rw [decide_eq_true c] at h; exact h
  unfold fc_X9_isDistinctFrom fc_X9_isDistinctFrom_b34 fc_X9_isDistinctFrom_b36 fc_X9_isDistinctFrom_b58
  rw [a3, a5]
  have kb : nSort τ.1 ≠ 0 → nSort σ.1 ≠ 0 → ¬ (τ.2.2.1 = true ∧ σ.2.2.1 = true) → (tg T a = 10 ∧ ∃ i2 : Nat, some (nm τ.1) = some (nm i2) ∧ i2 < 10 ∧ ∃ p3 : Nat, some b = some p3 ∧ (tg T p3 = 10 ∧ ∃ i5 : Nat, cR M 90 p3 = some (nm i5) ∧ i5 < 10 ∧ ((nSort i2 = nSort i5 → nZ 0 ∧ Q 0 M) ∧ (¬ nSort i2 = nSort i5 → nZ 1 ∧ Q 1 M)))) := by
    intro c d e
    exact ⟨a1, τ.1, rfl, a2, b, rfl, b1, σ.1, b3, b2, fun f => ⟨nZ_0, k0 (fun z => z.2.2.2 f)⟩, fun f => ⟨nZ_1, k1 ⟨c, d, e, f⟩⟩⟩
  refine ⟨a1, τ.1, rfl, a2, fun c => k0 (fun z => z.1 c), fun c => ⟨b, rfl, b1, σ.1, b3, b2, fun d => k0 (fun z => z.2.1 d), fun d => ⟨fun e => kb c d (fun z => ?_), fun e => ?_⟩⟩⟩
  · rw [bI_0] at e; rw [e] at z; exact absurd z.1 (by decide)
  · rw [b5]
    refine ⟨fun f => kb c d (fun z => ?_), fun f => k0 (fun z => z.2.2.1 ⟨?_, ?_⟩)⟩
    · rw [bI_0] at f; rw [f] at z; exact absurd z.2 (by decide)
    · rw [bI_0] at e; cases q : τ.2.2.1 with
      | true => rfl
      | false => exact absurd q e
    · rw [bI_0] at f; cases q : σ.2.2.1 with
      | true => rfl
      | false => exact absurd q f
theorem s_X0_canBeMissing (hx : arc nm T M a g) {Q : Int32 → CM → Prop} (h1 : miss g = true → Q 1 M) (h0 : miss g = false → Q 0 M) : fc_X0_canBeMissing T a M Q := by
  obtain ⟨a1, a2, a3, -⟩ := hx
  unfold fc_X0_canBeMissing fc_X0_canBeMissing_b14 fc_X0_canBeMissing_b19
  rw [a2, a3]
  refine ⟨a1, fun c => ⟨nZ_1, h1 ?_⟩, fun c => ⟨fun d => ⟨nZ_0, h0 ?_⟩, fun d => ⟨nZ_1, h1 ?_⟩⟩⟩
  · rw [bI_0] at c
    unfold miss
    cases q : g.1 with
    | true => rfl
    | false => exact absurd q c
  · rw [bI_0] at c d
    unfold miss; rw [c, d]; rfl
  · rw [bI_0] at d
    unfold miss
    cases q : g.2.1 with
    | true => rw [Bool.or_true]
    | false => exact absurd q d
theorem s_X0_isSameAs (hnm : ∀ i j, i < 10 → j < 10 → nm i = nm j → i = j) (hx : arc nm T M a g) (hy : arc nm T M b g') {Q : Int32 → CM → Prop} (h1 : g = g' → Q 1 M) (h0 : g ≠ g' → Q 0 M) : fc_X0_isSameAs T a (some b) M Q := by
  obtain ⟨a1, a2, a3, ta, a4, a5⟩ := hx
  obtain ⟨b1, b2, b3, tb, b4, b5⟩ := hy
  obtain ⟨o, v, τ, el⟩ := g
  obtain ⟨o', v', τ', el'⟩ := g'
  dsimp only at a2 a3 a5 b2 b3 b5
  unfold fc_X0_isSameAs fc_X0_isSameAs_b40 fc_X0_isSameAs_b41
  have hta : tg T ta = 10 := a5.elim (fun z => z.2.1) (fun ⟨_, _, _, z, _⟩ => z.1)
  have htb : tg T tb = 10 := b5.elim (fun z => z.2.1) (fun ⟨_, _, _, z, _⟩ => z.1)
  refine ⟨a1, b, rfl, b1, ?_⟩
  rw [a2, a3, b2, b3, a4, b4]
  refine ⟨fun c => ⟨nZ_0, h0 (fun z => c (by cases z; rfl))⟩, fun c => ⟨fun d => ⟨nZ_0, h0 (fun z => d (by cases z; rfl))⟩, fun d => ⟨ta, rfl, hta, ?_⟩⟩⟩
  have c1 := bI_i.mp c
  have d1 := bI_i.mp d
  subst c1 d1
  unfold fc_X9_isSameAs fc_X9_isSameAs_b14 fc_X9_isSameAs_b40 fc_X9_isSameAs_b41 fc_X9_isSameAs_b68 fc_X9_isSameAs_b69
  have q1 : τ = τ' → el = el' → (nZ 1 ∧ ((1 : Int32) = 0 → nZ 0 ∧ Q 0 M) ∧ (¬ (1 : Int32) = 0 → nZ 1 ∧ Q 1 M)) := fun e f => ⟨nZ_1, fun z => absurd z (by decide), fun _ => ⟨nZ_1, h1 (by rw [e, f])⟩⟩
  have q0 : (τ ≠ τ' ∨ el ≠ el') → (nZ 0 ∧ ((0 : Int32) = 0 → nZ 0 ∧ Q 0 M) ∧ (¬ (0 : Int32) = 0 → nZ 1 ∧ Q 1 M)) := fun e => ⟨nZ_0, fun _ => ⟨nZ_0, h0 (fun z => e.elim (fun e => e (by cases z; rfl)) (fun e => e (by cases z; rfl)))⟩, fun z => absurd rfl z⟩
  refine ⟨hta, ?_⟩
  rcases a5 with ⟨e1, t1⟩ | ⟨e, s, e1, t1, t2⟩
  · rw [t1.2.2.2.2.2.2]
    refine ⟨fun _ => ⟨hta, fun z => absurd rfl z, fun _ => ⟨tb, rfl, htb, ?_⟩⟩, fun z => absurd rfl z⟩
    rcases b5 with ⟨f1, u1⟩ | ⟨f, s', f1, u1, u2⟩
    · rw [u1.2.2.2.2.2.2]
      refine ⟨fun z => absurd rfl z, fun _ => s_X9_sameBut hnm t1 u1 (fun w => ⟨fun z => absurd z (by decide), fun _ => q1 w (e1.trans f1.symm)⟩) (fun w => ⟨fun _ => q0 (Or.inl w), fun z => absurd rfl z⟩)⟩
    · rw [u1.2.2.2.2.2.2]
      exact ⟨fun _ => q0 (Or.inr (by rw [e1, f1]; exact fun z => by cases z)), fun z => by cases z⟩
  · rw [t1.2.2.2.2.2.2]
    refine ⟨fun z => (by cases z), fun _ => ⟨tb, rfl, htb, ?_⟩⟩
    rcases b5 with ⟨f1, u1⟩ | ⟨f, s', f1, u1, u2⟩
    · rw [u1.2.2.2.2.2.2]
      exact ⟨fun z => absurd rfl z, fun _ => ⟨hta, fun _ => q0 (Or.inr (by rw [e1, f1]; exact fun z => by cases z)), fun z => by cases z⟩⟩
    · rw [u1.2.2.2.2.2.2]
      refine ⟨fun _ => s_X9_sameBut hnm t1 u1 (fun w => ⟨fun z => absurd z (by decide), fun _ => ⟨e, t1.2.2.2.2.2.2, t2.1, ?_⟩⟩) (fun w => ⟨fun _ => q0 (Or.inl w), fun z => absurd rfl z⟩), fun z => by cases z⟩
      rw [u1.2.2.2.2.2.2]
      refine s_X9_sameBut hnm t2 u2 (fun w2 => ⟨fun z => absurd z (by decide), fun _ => q1 w (by rw [e1, f1, w2])⟩) (fun w2 => ⟨fun _ => q0 (Or.inr (fun z => w2 ?_)), fun z => absurd rfl z⟩)
      rw [e1, f1] at z; exact Option.some.inj z
end TYP
