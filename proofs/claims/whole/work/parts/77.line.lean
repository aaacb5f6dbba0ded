/-! frames for what is told to the reference -/
/-- forms and values stand -/
def kU (N N' : RM) : Prop := (∀ f, 4 ≤ f → f ≤ 17 → rA N' f = rA N f) ∧ rD N' 15 = rD N 15
theorem kV_kU {N N' : RM} (h : kV N N') : kU N N' := ⟨fun f a b => h.1 f (by omega) (by omega) (by omega), h.2 15 (by decide)⟩
/-- what was made stands -/
def kMd (N N' : RM) : Prop := rA N' 19 = rA N 19 ∧ rA N' 22 = rA N 22 ∧ rJ N' 20 = rJ N 20 ∧ rD N' 21 = rD N 21
theorem kMd_mR {N N' : RM} (h : kMd N N') {p : Nat} {k : Int32} {j : Int64} {d : UInt64} {w : List Int32} {sz : Int32} (m : mR N p k j d w sz) : mR N' p k j d w sz := by
  unfold mR at m ⊢
  rw [h.1, h.2.1, h.2.2.1, h.2.2.2]; exact m
section VAL
variable {N : RM} {I : Nat → Nat → Int32} {J : Nat → Int64} {D : Nat → UInt64} {W : Nat → List Int32} {v n : Nat} {L : List Int32} {nn : Nat → Nat}
theorem kU_vT {N' : RM} (k : kU N N') (h : vT N I J D W v) : vT N' I J D W v := by
  unfold vT at h ⊢
  rw [k.1 13 (by decide) (by decide), k.1 14 (by decide) (by decide), k.1 16 (by decide) (by decide), k.1 17 (by decide) (by decide), k.2]
  exact h
theorem kU_vL {N' : RM} (k : kU N N') (h : vL N I J D W v n) : vL N' I J D W v n := by
  obtain ⟨a, b, c, d, e, f, g, i, j, l⟩ := h
  refine ⟨a, b, ?_, d, e, ?_, g, i, j, fun x hx => ⟨kU_vT k (l x hx).1, (l x hx).2⟩⟩
  · rw [k.1 13 (by decide) (by decide)]; exact c
  · rw [k.1 16 (by decide) (by decide)]; exact f
theorem kU_rWd {N' : RM} (k : kU N N') {x : Nat} {l : List Int32} (h : rWd N x l) : rWd N' x l := by
  unfold rWd at h ⊢
  rw [k.1 12 (by decide) (by decide)]; exact h
theorem kU_rTy {N' : RM} (k : kU N N') {t : Nat} {τ : Ty} (h : rTy N t τ) : rTy N' t τ := by
  obtain ⟨a, b, c, d, e⟩ := h
  refine ⟨a, ?_, ?_, ?_, e.imp id (fun ⟨x, Ls, l1, l5, y, z, w⟩ => ⟨x, Ls, l1, l5, ?_, z, fun j hj => kU_rWd k (w j hj)⟩)⟩
  · rw [k.1 8 (by decide) (by decide)]; exact b
  · rw [k.1 9 (by decide) (by decide)]; exact c
  · rw [k.1 10 (by decide) (by decide)]; exact d
  · rw [k.1 11 (by decide) (by decide)]; exact y
theorem kU_rAg {N' : RM} (k : kU N N') {a : Nat} {g : Ag} (h : rAg N a g) : rAg N' a g := by
  obtain ⟨x, y, z, w⟩ := h
  refine ⟨?_, ?_, kU_rTy k z, w.imp id (fun ⟨σ, a, b, c, d⟩ => ⟨σ, a, b, c, kU_rTy k d⟩)⟩
  · rw [k.1 6 (by decide) (by decide)]; exact x
  · rw [k.1 7 (by decide) (by decide)]; exact y
theorem kU_rFm {N' : RM} (k : kU N N') {f : Nat} {φ : List Ag} (h : rFm N f φ) : rFm N' f φ := by
  obtain ⟨x, y, z⟩ := h
  refine ⟨x, ?_, fun i hi => kU_rAg k (z i hi)⟩
  rw [k.1 5 (by decide) (by decide)]; exact y
theorem kU_rOp {N' : RM} (k : kU N N') {o : Nat} {fs : List (List Ag)} (h : rOp N o fs) : rOp N' o fs := by
  obtain ⟨x, y, z⟩ := h
  refine ⟨x, ?_, fun i hi => kU_rFm k (z i hi)⟩
  rw [k.1 4 (by decide) (by decide)]; exact y
theorem kU_vA {N' : RM} (k : kU N N') (h : vA N I J D W nn) : vA N' I J D W nn := ⟨fun s hs => (h.1 s hs).imp (fun z => ⟨kU_vT k z.1, z.2⟩) (fun z => kU_vL k z), h.2⟩
/-- the line -/
def zLP (N : RM) (w : List Int32) : Prop := rI N 2 = nI w.length ∧ ∀ i, i < w.length → i < 100 → rA N 1 i = w.getD i 0
/-- nothing but the line is other -/
def kLn (N N' : RM) : Prop := (∀ f, f ≠ 2 → rI N' f = rI N f) ∧ (∀ f, f ≠ 1 → rA N' f = rA N f) ∧ N'.2.2 = N.2.2
theorem kLn_rf (N : RM) : kLn N N := ⟨fun _ _ => rfl, fun _ _ => rfl, rfl⟩
theorem kLn_tr {N N1 N2 : RM} (h : kLn N N1) (k : kLn N1 N2) : kLn N N2 := ⟨fun f n => (k.1 f n).trans (h.1 f n), fun f n => (k.2.1 f n).trans (h.2.1 f n), k.2.2.trans h.2.2⟩
theorem low8 (x : Int32) : x.toBitVec.toNat % 256 = (x.toInt.emod 256).toNat := by
  have h : x.toInt = x.toBitVec.toInt := rfl
  have h2 := BitVec.toInt_eq_toNat_cond x.toBitVec
  have h3 := x.toBitVec.isLt
  rw [h, h2]
  show _ = (Int.emod _ 256).toNat
  have e : ∀ y : Int, y.emod 256 = y % 256 := fun _ => rfl
  rw [e]
  split <;> omega
theorem by8_r (a : Int32) : (a >>> ((24 : Int32) &&& 31)) &&& 255 = by8 a 24 ∧ (a >>> ((16 : Int32) &&& 31)) &&& 255 = by8 a 16 ∧ (a >>> ((8 : Int32) &&& 31)) &&& 255 = by8 a 8 ∧ (a >>> ((0 : Int32) &&& 31)) &&& 255 = by8 a 0 := by
  have key : ∀ (s s' : Int32) (k : Nat), k = 0 ∨ k = 8 ∨ k = 16 ∨ k = 24 → (s.toBitVec.smod 32).toNat = k → ((s'.toUInt32 &&& Int32.toUInt32 31).toBitVec % 32).toNat = k → (a >>> s) &&& 255 = by8 a s' := by
    intro s s' k hk h1 h2
    unfold by8
    rw [pk_and _ 8 (by decide), pk_and _ 8 (by decide)]
    congr 1
    have e1 := pk_shr a s k h1
    have e2 := pk_ushr a s' k h2
    show (a >>> s).toBitVec.toNat % 256 = _ % 256
    rw [e2, low8, e1, Int.shiftRight_eq_div_pow]
    have h3 : a.toInt = a.toBitVec.toInt := rfl
    have h4 := BitVec.toInt_eq_toNat_cond a.toBitVec
    have h5 := a.toBitVec.isLt
    rw [h3, h4]
    have e : ∀ y : Int, y.emod 256 = y % 256 := fun _ => rfl
    rw [e]
    rcases hk with z | z | z | z <;> subst z <;> split <;> omega
  exact ⟨key _ _ 24 (by omega) (by decide) (by decide), key _ _ 16 (by omega) (by decide) (by decide), key _ _ 8 (by omega) (by decide) (by decide), key _ _ 0 (by omega) (by decide) (by decide)⟩
theorem by8_k (a s : Int32) : ∃ k, k < 256 ∧ by8 a s = nI k := by
  unfold by8
  exact pk_andE _ 8 (by decide)
theorem r_put (h : zLP N L) (hl : L.length < 1000) {a s : Int32} (e : (a >>> (s &&& 31)) &&& 255 = by8 a s) {Q : RM → Prop} (q : ∀ N', kLn N N' → zLP N' (L ++ sg1 (by8 a s)) → Q N') : fm_put a s N Q := by
  obtain ⟨k, hk, ek⟩ := by8_k a s
  unfold fm_put fm_put_b32 fm_put_b42
  refine nm_r e ?_
  have hc := by8_c a s
  have hn := by8_n a s
  rw [hc, nC_nar hn]
  rw [ek] at q ⊢
  refine pk_le k 0 (fun c => ?_) (fun c => ?_)
  · have k0 : k = 0 := by omega
    have := q N (kLn_rf N)
    unfold sg1 at this
    rw [if_pos (by rw [k0]; rfl), List.append_nil] at this
    exact this h
  · have ne : ¬ nI k = 0 := nI_ne0 (by omega) (by omega)
    unfold sg1 at q
    rw [if_neg ne] at q
    rw [h.1]
    refine pk_le 100 L.length (fun c2 => nm_r (e' := wI N 2 (nI (L.length + 1))) (by rw [nI_1]) (q _ ⟨fun f n => if_neg n, fun _ _ => rfl, rfl⟩ ⟨?_, fun i hi h100 => ?_⟩)) (fun c2 => ⟨vp_in_nI c2 (by omega), nm_e (nm_r (e' := wI (wA N 1 (nI L.length).toNatClampNeg (nI k)) 2 (nI (L.length + 1))) (by rw [rI_wA, h.1, nI_1]) (q _ ⟨fun f n => if_neg n, fun f n => ?_, rfl⟩ ⟨?_, fun i hi h100 => ?_⟩))⟩)
    · rw [rI_wI, if_pos rfl, List.length_append]; rfl
    · rw [rA_wI, snocI, if_neg (by omega)]
      rw [List.length_append, List.length_singleton] at hi
      exact h.2 i (by omega) h100
    · funext x; rw [rA_wI, rA_wA, if_neg (fun z => n z.1)]
    · rw [rI_wI, if_pos rfl, List.length_append]; rfl
    · rw [List.length_append, List.length_singleton] at hi
      rw [rA_wI, rA_wA, snocI, nI_clamp (by omega)]
      by_cases y : i = L.length
      · rw [if_pos ⟨rfl, y⟩, if_pos y]
      · rw [if_neg (fun z => y z.2), if_neg y]; exact h.2 i (by omega) h100
theorem sg4_len (a : Int32) : (sg4 a).length ≤ 4 := by
  have s1 : ∀ c, (sg1 c).length ≤ 1 := fun c => by unfold sg1; split <;> simp
  have := s1 (by8 a 24); have := s1 (by8 a 16); have := s1 (by8 a 8); have := s1 (by8 a 0)
  unfold sg4; simp only [List.length_append]; omega
theorem r_put4 (h : zLP N L) (hl : L.length < 900) (v1 v2 v3 v4 v5 v6 v7 a : Int32) {Q : Int32 → RM → Prop} {k9 : Int32 → Int32 → Int32 → Int32 → Int32 → Int32 → Int32 → RM → Prop} {v7' : Int32} (e7 : v7 + 1 = v7') (q : ∀ N', kLn N N' → zLP N' (L ++ sg4 a) → k9 v1 v2 v3 v4 v5 v6 v7' N') : fm_type_b57 Q k9 v1 v2 v3 v4 v5 v6 v7 a N := by
  have s1 : ∀ c, (sg1 c).length ≤ 1 := fun c => by unfold sg1; split <;> simp
  have l1 := s1 (by8 a 24); have l2 := s1 (by8 a 16); have l3 := s1 (by8 a 8)
  obtain ⟨e1, e2, e3, e4⟩ := by8_r a
  refine ⟨5, ?_⟩
  show fm_type_c63 Q k9 (fm_type_l63 Q k9 4) v1 v2 v3 v4 v5 v6 v7 a 24 N
  unfold fm_type_c63
  refine br_f (by decide) (r_put h (by omega) e1 (fun N1 k1 h1 => nm_r (by decide : (24 : Int32) - 8 = 16) ?_))
  show fm_type_c63 Q k9 (fm_type_l63 Q k9 3) v1 v2 v3 v4 v5 v6 v7 a 16 N1
  unfold fm_type_c63
  refine br_f (by decide) (r_put h1 (by rw [List.length_append]; omega) e2 (fun N2 k2 h2 => nm_r (by decide : (16 : Int32) - 8 = 8) ?_))
  show fm_type_c63 Q k9 (fm_type_l63 Q k9 2) v1 v2 v3 v4 v5 v6 v7 a 8 N2
  unfold fm_type_c63
  refine br_f (by decide) (r_put h2 (by simp only [List.length_append]; omega) e3 (fun N3 k3 h3 => nm_r (by decide : (8 : Int32) - 8 = 0) ?_))
  show fm_type_c63 Q k9 (fm_type_l63 Q k9 1) v1 v2 v3 v4 v5 v6 v7 a 0 N3
  unfold fm_type_c63
  refine br_f (by decide) (r_put h3 (by simp only [List.length_append]; omega) e4 (fun N4 k4 h4 => nm_r (by decide : (0 : Int32) - 8 = -8) ?_))
  show fm_type_c63 Q k9 _ v1 v2 v3 v4 v5 v6 v7 a (-8) N4
  unfold fm_type_c63
  refine br_t (by decide) (nm_r e7 (q N4 (kLn_tr k1 (kLn_tr k2 (kLn_tr k3 k4))) ?_))
  unfold sg4
  simp only [List.append_assoc] at h4
  exact h4
theorem zLP_pre {N' : RM} {M : List Int32} (h : zLP N' (L ++ M)) (hl : L.length ≤ 100) : ∀ i, i < L.length → rA N' 1 i = L.getD i 0 := by
  intro i hi
  have := h.2 i (by rw [List.length_append]; omega) (by omega)
  rw [this, List.getD_eq_getElem?_getD, List.getD_eq_getElem?_getD, List.getElem?_append_left hi]
theorem r_type (h : zLP N L) (hl : L.length ≤ 100) (a b c d e : Int32) {Q : Int32 → RM → Prop}
    (q1 : (L ++ (sg4 a ++ (sg4 b ++ (sg4 c ++ (sg4 d ++ sg4 e))))).length ≤ 100 → ∀ N', kLn (wI N 0 0) N' → zLP N' (L ++ (sg4 a ++ (sg4 b ++ (sg4 c ++ (sg4 d ++ sg4 e))))) → Q (nI (L ++ (sg4 a ++ (sg4 b ++ (sg4 c ++ (sg4 d ++ sg4 e))))).length) N')
    (q0 : 100 < (L ++ (sg4 a ++ (sg4 b ++ (sg4 c ++ (sg4 d ++ sg4 e))))).length → ∀ N', kLn (wI N 0 1) N' → zLP N' L → Q 0 N') : fm_type a b c d e N Q := by
  have la := sg4_len a; have lb := sg4_len b; have lc := sg4_len c; have ld := sg4_len d; have le := sg4_len e
  unfold fm_type
  refine nm_r h.1 ⟨6, ?_⟩
  show fm_type_c9 Q (fm_type_l9 Q 5) a b c d e _ 0 N
  unfold fm_type_c9
  refine br_f (by decide) ⟨fun z => absurd rfl z, fun _ => r_put4 h (by omega) a b c d e _ 0 a (by decide : (0 : Int32) + 1 = 1) (fun N1 k1 h1 => ?_)⟩
  show fm_type_c9 Q (fm_type_l9 Q 4) a b c d e _ 1 N1
  unfold fm_type_c9
  refine br_f (by decide) ⟨fun _ => ⟨fun z => absurd rfl z, fun _ => r_put4 h1 (by rw [List.length_append]; omega) a b c d e _ 1 b (by decide : (1 : Int32) + 1 = 2) (fun N2 k2 h2 => ?_)⟩, fun z => absurd z (by decide)⟩
  show fm_type_c9 Q (fm_type_l9 Q 3) a b c d e _ 2 N2
  unfold fm_type_c9
  refine br_f (by decide) ⟨fun _ => ⟨fun _ => ⟨fun z => absurd rfl z, fun _ => r_put4 h2 (by simp only [List.length_append]; omega) a b c d e _ 2 c (by decide : (2 : Int32) + 1 = 3) (fun N3 k3 h3 => ?_)⟩, fun z => absurd z (by decide)⟩, fun z => absurd z (by decide)⟩
  show fm_type_c9 Q (fm_type_l9 Q 2) a b c d e _ 3 N3
  unfold fm_type_c9
  refine br_f (by decide) ⟨fun _ => ⟨fun _ => ⟨fun _ => ⟨fun z => absurd rfl z, fun _ => r_put4 h3 (by simp only [List.length_append]; omega) a b c d e _ 3 d (by decide : (3 : Int32) + 1 = 4) (fun N4 k4 h4 => ?_)⟩, fun z => absurd z (by decide)⟩, fun z => absurd z (by decide)⟩, fun z => absurd z (by decide)⟩
  show fm_type_c9 Q (fm_type_l9 Q 1) a b c d e _ 4 N4
  unfold fm_type_c9
  refine br_f (by decide) ⟨fun _ => ⟨fun _ => ⟨fun _ => ⟨fun _ => r_put4 h4 (by simp only [List.length_append]; omega) a b c d e _ 4 e (by decide : (4 : Int32) + 1 = 5) (fun N5 k5 h5 => ?_), fun z => absurd z (by decide)⟩, fun z => absurd z (by decide)⟩, fun z => absurd z (by decide)⟩, fun z => absurd z (by decide)⟩
  show fm_type_c9 Q _ a b c d e _ 5 N5
  have kk := kLn_tr k1 (kLn_tr k2 (kLn_tr k3 (kLn_tr k4 k5)))
  simp only [List.append_assoc] at h5
  unfold fm_type_c9 fm_type_b107
  rw [h5.1]
  have llen : (L ++ (sg4 a ++ (sg4 b ++ (sg4 c ++ (sg4 d ++ sg4 e))))).length < 1000 := by simp only [List.length_append]; omega
  have fr : ∀ x : Int32, kLn (wI N 0 x) (wI N5 0 x) := fun x => ⟨fun f n => by
    rw [rI_wI, rI_wI]
    by_cases y : f = 0
    · rw [if_pos y, if_pos y]
    · rw [if_neg y, if_neg y]; exact kk.1 f n, kk.2.1, kk.2.2⟩
  refine br_t (by decide) (pk_le (L ++ (sg4 a ++ (sg4 b ++ (sg4 c ++ (sg4 d ++ sg4 e))))).length 100 (fun c => r_refused ⟨fun _ => ?_, fun z => absurd rfl z⟩) (fun c => r_refused ⟨fun z => absurd z (by decide), fun _ => nm_e ?_⟩))
  · rw [rI_wI, if_neg (by decide), h5.1]
    exact q1 c _ (fr 0) ⟨by rw [rI_wI, if_neg (by decide)]; exact h5.1, h5.2⟩
  · refine q0 c _ (kLn_tr (fr 1) ⟨fun f n => if_neg n, fun _ _ => rfl, rfl⟩) ⟨by rw [rI_wI, if_pos rfl], fun i hi h100 => ?_⟩
    exact zLP_pre h5 hl i hi
theorem r_erase (h : zLP N L) {Q : Int32 → RM → Prop} (q : ∀ N', kLn (wI N 0 0) N' → zLP N' [] → Q (nI L.length) N') : fm_erase N Q := by
  unfold fm_erase
  refine nm_e (nm_r (e' := nI L.length) (by rw [rI_wI, if_neg (by decide)]; exact h.1) (nm_e (q _ ⟨fun f n => if_neg n, fun _ _ => rfl, rfl⟩ ⟨by rw [rI_wI, if_pos rfl]; rfl, fun i hi => absurd hi (Nat.not_lt_zero i)⟩)))
end VAL
