/-! the reference's reader: words -/
def iSh (c : Int64) : Nat → Int64
  | 0 => c
  | k + 1 => iSh c k >>> ((8 : Int32).toInt64 &&& 63)
def cBy (c : Int64) (n i : Nat) : Int32 := ((((c >>> ((8 * ((nI n - 1) - nI i)).toInt64 &&& 63)) &&& 255).toInt32).toUInt32 % 65536).toInt32
def pkd (c : Int64) (L : List Int32) : Prop := L.all isL = true ∧ (1 ≤ L.length ∧ L.length ≤ 8) ∧ (∀ k, k < L.length → iSh c k ≠ 0) ∧ iSh c L.length = 0 ∧ ∀ i, i < L.length → cBy c L.length i = L.getD i 0
theorem pkd_all : pkd 27707072068280686 (sText 0) ∧ pkd 1652126821 (sText 1) ∧ pkd 478409942388 (sText 2) ∧ pkd 495673373300 (sText 3) ∧ pkd 1819242087 (sText 4) ∧ pkd 110429873532005 (sText 5) ∧ pkd 126943972912743 (sText 6) ∧ pkd 6385273 (sText 7) ∧ pkd 1701737837 (sText 8) ∧ pkd 1818850164 (sText 9) ∧ pkd 8030046131791487340 (sText 10) := by
  refine ⟨?_, ?_, ?_, ?_, ?_, ?_, ?_, ?_, ?_, ?_, ?_⟩ <;> (unfold pkd; decide +kernel)
theorem zwL_len (w : List Int32) (s n : Nat) : (zwL w s n).length = n := by unfold zwL; rw [List.length_map, List.length_range]
theorem zwL_g (w : List Int32) (s n i : Nat) (h : i < n) : (zwL w s n).getD i 0 = zsg w (s + i) := by
  unfold zwL
  rw [List.getD_eq_getElem?_getD, List.getElem?_map, List.getElem?_range h]; rfl
theorem zwL_all {w : List Int32} {a : Nat} (h : a ≤ zcn w) : (zwL w a (zE w a - a)).all isL = true := by
  have E := (zE_c (w := w) h).1
  rw [List.all_eq_true]
  intro x hx
  unfold zwL at hx
  obtain ⟨i, hi, e⟩ := List.mem_map.mp hx
  rw [← e]; exact (E i (List.mem_range.mp hi)).2.1
theorem zC_0 {w : List Int32} {a : Nat} (h : a ≤ zcn w) : zC w a = 0 ↔ (zE w a - a < 1 ∨ 8 < zE w a - a) := by
  unfold zC
  by_cases c : zE w a - a ≤ 8
  · rw [if_pos c]
    refine ⟨fun e => ?_, fun e => ?_⟩
    · apply Decidable.byContradiction
      intro d
      exact wcode_ne0 (zwL_all h) (by rw [zwL_len]; omega) (by rw [zwL_len]; omega) e
    · rw [show zE w a - a = 0 by omega]; rfl
  · rw [if_neg c]; exact ⟨fun _ => Or.inr (by omega), fun _ => rfl⟩
theorem zC_L {w : List Int32} {a : Nat} (h : a ≤ zcn w) {L : List Int32} (al : L.all isL = true) (l1 : 1 ≤ L.length) (l8 : L.length ≤ 8) : zC w a = wcode L ↔ (zE w a - a = L.length ∧ ∀ i, i < L.length → zsg w (a + i) = L.getD i 0) := by
  refine ⟨fun e => ?_, fun e => ?_⟩
  · have n0 : zC w a ≠ 0 := fun z => wcode_ne0 al l8 l1 (e ▸ z)
    have m := fun z => n0 ((zC_0 h).mpr z)
    have c : zE w a - a ≤ 8 := by
      apply Decidable.byContradiction; intro d; exact m (Or.inr (by omega))
    unfold zC at e
    rw [if_pos c] at e
    have q := (wcode_inj (zwL_all h) al (by rw [zwL_len]; exact c) l8).mp e
    have ql : zE w a - a = L.length := by rw [← q, zwL_len]
    refine ⟨ql, fun i hi => ?_⟩
    rw [← q, zwL_g _ _ _ _ (by omega)]
  · unfold zC
    rw [if_pos (by omega)]
    congr 1
    apply List.ext_getElem (by rw [zwL_len]; exact e.1)
    intro i h1 h2
    have q := (zwL_g w a (zE w a - a) i (by omega)).trans (e.2 i h2)
    rw [List.getD_eq_getElem?_getD, List.getD_eq_getElem?_getD, List.getElem?_eq_getElem h1, List.getElem?_eq_getElem h2] at q
    exact q
section RDW
variable {N : RM} {w : List Int32} {a : Nat}
theorem r_isWord (hw : gL w) (h : RZ N w a) {c : Int64} {L : List Int32} (hp : pkd c L) {Q : Int32 → RM → Prop} (q1 : zC w a = wcode L → ∀ N', zK cO N N' → RX N' w a → Q 1 N') (q0 : zC w a ≠ wcode L → ∀ N', zK cO N N' → RX N' w a → Q 0 N') : fm_isWord c N Q := by
  obtain ⟨al, ⟨l1, l8⟩, p1, p2, p3⟩ := hp
  have E := zE_c (w := w) h.2.2.1
  have E2 := E.2.1
  have E3 := zst_le w (zE w a)
  have hw1 := hw.1
  rw [zC_L h.2.2.1 al l1 l8] at q1
  rw [show (zC w a ≠ wcode L) = ¬ (zE w a - a = L.length ∧ ∀ i, i < L.length → zsg w (a + i) = L.getD i 0) from by rw [Ne, zC_L h.2.2.1 al l1 l8]] at q0
  have tail : ∀ N1, zK cO N N1 → RX N1 w a → ∀ b : Bool, (b = true ↔ zE w a - a = L.length) → fm_isWord_b43 Q c (nI L.length) (bI b) N1 := by
    intro N1 k1 x1 b hb
    have lp : ∀ m i (v : Bool), i + m = L.length → (v = true → zE w a - a = L.length ∧ ∀ j, j < i → zsg w (a + j) = L.getD j 0) → (v = false → ¬ (zE w a - a = L.length ∧ ∀ i, i < L.length → zsg w (a + i) = L.getD i 0)) → fm_isWord_l48 Q (m + 1) c (nI L.length) (bI v) (nI i) N1 := by
      intro m
      induction m with
      | zero =>
        intro i v hi e1 e0
        show fm_isWord_c48 Q _ _ _ _ _ N1
        unfold fm_isWord_c48 fm_isWord_b104
        refine br_t (nI_le (by omega) (by omega)) ⟨bI_z v, ?_⟩
        cases v with
        | true => exact q1 ⟨(e1 rfl).1, fun j hj => (e1 rfl).2 j (by omega)⟩ N1 k1 x1
        | false => exact q0 (e0 rfl) N1 k1 x1
      | succ m ih =>
        intro i v hi e1 e0
        show fm_isWord_c48 Q (fm_isWord_l48 Q (m + 1)) _ _ _ _ N1
        unfold fm_isWord_c48 fm_isWord_b104 fm_isWord_b96
        cases v with
        | false => exact br_f (nI_ge (by omega) (by omega)) ⟨fun _ => ⟨nZ_0, q0 (e0 rfl) N1 k1 x1⟩, fun z => absurd rfl z⟩
        | true =>
          have ee := e1 rfl
          have g := E.1 i (by omega)
          refine br_f (nI_ge (by omega) (by omega)) ⟨fun z => absurd z (by decide), fun _ => ?_⟩
          rw [x1.2.2.2, nI_add, nI_1]
          refine ⟨vp_in_nI (by omega) (by omega), ?_⟩
          rw [nI_clamp (by omega), x1.2.1.2 _ g.2.2.2 (by omega), g.2.2.1]
          have pc : zsg w (a + i) = L.getD i 0 ↔ zsg w (a + i) = cBy c L.length i := by rw [p3 i (by omega)]
          refine ⟨fun d => nm_e (ih (i + 1) false (by omega) (fun z => by cases z) (fun _ z => d (pc.mp (z.2 i (by omega))))), fun d => nm_e (ih (i + 1) true (by omega) (fun _ => ⟨ee.1, fun j hj => ?_⟩) (fun z => by cases z))⟩
          by_cases y : j = i
          · rw [y]; exact pc.mpr d
          · exact ee.2 j (by omega)
    refine ⟨L.length + 1, lp L.length 0 b (Nat.zero_add _) (fun z => ⟨hb.mp z, fun j hj => absurd hj (Nat.not_lt_zero j)⟩) (fun z y => ?_)⟩
    rw [hb.mpr y.1] at z; cases z
  have lp : ∀ m k, k + m = L.length → fm_isWord_l5 Q (m + 1) c (nI k) (iSh c k) N := by
    intro m
    induction m with
    | zero =>
      intro k hk
      have ek : k = L.length := by omega
      show fm_isWord_c5 Q _ _ _ _ N
      unfold fm_isWord_c5
      rw [ek, p2]
      refine ⟨fun _ => r_wordEnd hw h (fun N1 k1 x1 => ?_), fun z => absurd ((lg_cmp_eq _ _).mpr rfl) z⟩
      rw [x1.2.2.2, pk_sub (by omega), show zst w a + (zE w a - a) - zst w a = zE w a - a by omega]
      refine ⟨fun d => tail N1 k1 x1 false ⟨fun z => absurd z (by decide), fun z => absurd (congrArg nI z) d⟩, fun d => tail N1 k1 x1 true ⟨fun _ => (nI_eq (by omega) (by omega)).mp d, fun _ => rfl⟩⟩
    | succ m ih =>
      intro k hk
      show fm_isWord_c5 Q (fm_isWord_l5 Q (m + 1)) _ _ _ N
      unfold fm_isWord_c5
      exact ⟨fun z => absurd ((lg_cmp_eq _ _).mp z) (p1 k (by omega)), fun _ => nm_r (nI_1 k) (nm_e (ih (k + 1) (by omega)))⟩
  exact ⟨L.length + 1, lp L.length 0 (Nat.zero_add _)⟩
def nmI (o : Option Nat) : Int32 := match o with
  | some i => nI i
  | none => -1
theorem zdT {c d : Int64} (e : c = d) : decide (d = c) = true := decide_eq_true e.symm
theorem zdF {c d : Int64} (e : c ≠ d) : ¬ decide (d = c) = true := fun z => e (of_decide_eq_true z).symm
theorem fst_no {P : Nat → Bool} {m i : Nat} (h : ¬ P i = true) : fstI P (m + 1) i = fstI P m (i + 1) := by rw [fstI, if_neg h]
theorem fst_ye {P : Nat → Bool} {m i : Nat} (h : P i = true) : fstI P (m + 1) i = some i := by rw [fstI, if_pos h]
theorem r_typeHere (hw : gL w) (h : RZ N w a) {Q : Int32 → RM → Prop} (q : ∀ N', zK cO N N' → RX N' w a → Q (nmI (nmO (zC w a))) N') : fm_typeHere N Q := by
  obtain ⟨p0, p1, p2, p3, p4, p5, p6, p7, p8, p9, -⟩ := pkd_all
  unfold fm_typeHere
  simp only [fm_typeHere_b145]
  refine r_isWord hw h p0 (fun e M0 k0 x0 => ⟨fun z => absurd z (by decide), fun _ => ?_⟩) (fun n0 M0 k0 x0 => ⟨fun _ => ?_, fun z => absurd rfl z⟩)
  · have en : nmO (zC w a) = some 0 := fst_ye (zdT e)
    have qq := q M0 k0 x0
    rw [en] at qq
    exact qq
  refine r_isWord hw (RX_Z x0) p1 (fun e M1 k1 x1 => ⟨fun z => absurd z (by decide), fun _ => ?_⟩) (fun n1 M1 k1 x1 => ⟨fun _ => ?_, fun z => absurd rfl z⟩)
  · have en : nmO (zC w a) = some 1 := (fst_no (zdF n0)).trans (fst_ye (zdT e))
    have qq := q M1 (zK_tr k0 k1) x1
    rw [en] at qq
    exact qq
  refine r_isWord hw (RX_Z x1) p2 (fun e M2 k2 x2 => ⟨fun z => absurd z (by decide), fun _ => ?_⟩) (fun n2 M2 k2 x2 => ⟨fun _ => ?_, fun z => absurd rfl z⟩)
  · have en : nmO (zC w a) = some 2 := (fst_no (zdF n0)).trans ((fst_no (zdF n1)).trans (fst_ye (zdT e)))
    have qq := q M2 (zK_tr (zK_tr k0 k1) k2) x2
    rw [en] at qq
    exact qq
  refine r_isWord hw (RX_Z x2) p3 (fun e M3 k3 x3 => ⟨fun z => absurd z (by decide), fun _ => ?_⟩) (fun n3 M3 k3 x3 => ⟨fun _ => ?_, fun z => absurd rfl z⟩)
  · have en : nmO (zC w a) = some 3 := (fst_no (zdF n0)).trans ((fst_no (zdF n1)).trans ((fst_no (zdF n2)).trans (fst_ye (zdT e))))
    have qq := q M3 (zK_tr (zK_tr (zK_tr k0 k1) k2) k3) x3
    rw [en] at qq
    exact qq
  refine r_isWord hw (RX_Z x3) p4 (fun e M4 k4 x4 => ⟨fun z => absurd z (by decide), fun _ => ?_⟩) (fun n4 M4 k4 x4 => ⟨fun _ => ?_, fun z => absurd rfl z⟩)
  · have en : nmO (zC w a) = some 4 := (fst_no (zdF n0)).trans ((fst_no (zdF n1)).trans ((fst_no (zdF n2)).trans ((fst_no (zdF n3)).trans (fst_ye (zdT e)))))
    have qq := q M4 (zK_tr (zK_tr (zK_tr (zK_tr k0 k1) k2) k3) k4) x4
    rw [en] at qq
    exact qq
  refine r_isWord hw (RX_Z x4) p5 (fun e M5 k5 x5 => ⟨fun z => absurd z (by decide), fun _ => ?_⟩) (fun n5 M5 k5 x5 => ⟨fun _ => ?_, fun z => absurd rfl z⟩)
  · have en : nmO (zC w a) = some 5 := (fst_no (zdF n0)).trans ((fst_no (zdF n1)).trans ((fst_no (zdF n2)).trans ((fst_no (zdF n3)).trans ((fst_no (zdF n4)).trans (fst_ye (zdT e))))))
    have qq := q M5 (zK_tr (zK_tr (zK_tr (zK_tr (zK_tr k0 k1) k2) k3) k4) k5) x5
    rw [en] at qq
    exact qq
  refine r_isWord hw (RX_Z x5) p6 (fun e M6 k6 x6 => ⟨fun z => absurd z (by decide), fun _ => ?_⟩) (fun n6 M6 k6 x6 => ⟨fun _ => ?_, fun z => absurd rfl z⟩)
  · have en : nmO (zC w a) = some 6 := (fst_no (zdF n0)).trans ((fst_no (zdF n1)).trans ((fst_no (zdF n2)).trans ((fst_no (zdF n3)).trans ((fst_no (zdF n4)).trans ((fst_no (zdF n5)).trans (fst_ye (zdT e)))))))
    have qq := q M6 (zK_tr (zK_tr (zK_tr (zK_tr (zK_tr (zK_tr k0 k1) k2) k3) k4) k5) k6) x6
    rw [en] at qq
    exact qq
  refine r_isWord hw (RX_Z x6) p7 (fun e M7 k7 x7 => ⟨fun z => absurd z (by decide), fun _ => ?_⟩) (fun n7 M7 k7 x7 => ⟨fun _ => ?_, fun z => absurd rfl z⟩)
  · have en : nmO (zC w a) = some 7 := (fst_no (zdF n0)).trans ((fst_no (zdF n1)).trans ((fst_no (zdF n2)).trans ((fst_no (zdF n3)).trans ((fst_no (zdF n4)).trans ((fst_no (zdF n5)).trans ((fst_no (zdF n6)).trans (fst_ye (zdT e))))))))
    have qq := q M7 (zK_tr (zK_tr (zK_tr (zK_tr (zK_tr (zK_tr (zK_tr k0 k1) k2) k3) k4) k5) k6) k7) x7
    rw [en] at qq
    exact qq
  refine r_isWord hw (RX_Z x7) p8 (fun e M8 k8 x8 => ⟨fun z => absurd z (by decide), fun _ => ?_⟩) (fun n8 M8 k8 x8 => ⟨fun _ => ?_, fun z => absurd rfl z⟩)
  · have en : nmO (zC w a) = some 8 := (fst_no (zdF n0)).trans ((fst_no (zdF n1)).trans ((fst_no (zdF n2)).trans ((fst_no (zdF n3)).trans ((fst_no (zdF n4)).trans ((fst_no (zdF n5)).trans ((fst_no (zdF n6)).trans ((fst_no (zdF n7)).trans (fst_ye (zdT e)))))))))
    have qq := q M8 (zK_tr (zK_tr (zK_tr (zK_tr (zK_tr (zK_tr (zK_tr (zK_tr k0 k1) k2) k3) k4) k5) k6) k7) k8) x8
    rw [en] at qq
    exact qq
  refine r_isWord hw (RX_Z x8) p9 (fun e M9 k9 x9 => ⟨fun z => absurd z (by decide), fun _ => ?_⟩) (fun n9 M9 k9 x9 => ⟨fun _ => ?_, fun z => absurd rfl z⟩)
  · have en : nmO (zC w a) = some 9 := (fst_no (zdF n0)).trans ((fst_no (zdF n1)).trans ((fst_no (zdF n2)).trans ((fst_no (zdF n3)).trans ((fst_no (zdF n4)).trans ((fst_no (zdF n5)).trans ((fst_no (zdF n6)).trans ((fst_no (zdF n7)).trans ((fst_no (zdF n8)).trans (fst_ye (zdT e))))))))))
    have qq := q M9 (zK_tr (zK_tr (zK_tr (zK_tr (zK_tr (zK_tr (zK_tr (zK_tr (zK_tr k0 k1) k2) k3) k4) k5) k6) k7) k8) k9) x9
    rw [en] at qq
    exact qq
  have en : nmO (zC w a) = none := (fst_no (zdF n0)).trans ((fst_no (zdF n1)).trans ((fst_no (zdF n2)).trans ((fst_no (zdF n3)).trans ((fst_no (zdF n4)).trans ((fst_no (zdF n5)).trans ((fst_no (zdF n6)).trans ((fst_no (zdF n7)).trans ((fst_no (zdF n8)).trans ((fst_no (zdF n9)).trans (rfl))))))))))
  have qq := q M9 (zK_tr (zK_tr (zK_tr (zK_tr (zK_tr (zK_tr (zK_tr (zK_tr (zK_tr k0 k1) k2) k3) k4) k5) k6) k7) k8) k9) x9
  rw [en] at qq
  exact qq
end RDW
