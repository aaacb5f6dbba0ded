/-! zone A: the 144 things, their 144 texts, and the line (text 144). G 0 t: the thing, G 1 t: its text, G 2 t: the text's row, G 3 t: its items' row -/
def rm (t : Nat) : Nat := if t = 144 then 100 else if t % 48 < 8 then 84 else 16
def itm (t j : Nat) : Nat := t / 48 * 48 + 8 + 5 * (t % 48) + j
def SA (G : Nat → Nat → Nat) (T : LY) (M : CM) : Prop :=
  (∀ t, t < 145 → tg T (G 1 t) = 8 ∧ cR M 70 (G 1 t) = some (G 2 t) ∧ tg T (G 2 t) = 20 ∧ ln T (G 2 t) = rm t) ∧
  (∀ t, t < 144 → tg T (G 0 t) = 9 ∧ cR M 84 (G 0 t) = some (G 1 t) ∧ cR M 86 (G 0 t) = some (G 3 t) ∧ tg T (G 3 t) = 28 ∧ ln T (G 3 t) = (if t % 48 < 8 then 5 else 0)) ∧
  (∀ t, t < 144 → t % 48 < 8 → ∀ j, j < 5 → xR M (G 3 t) j = some (G 0 (itm t j))) ∧
  (∀ t u, t < 144 → u < 144 → G 0 t = G 0 u → t = u) ∧ (∀ t u, t < 145 → u < 145 → G 1 t = G 1 u → t = u) ∧ (∀ t u, t < 145 → u < 145 → G 2 t = G 2 u → t = u)
def VA (G : Nat → Nat → Nat) (M : CM) (I : Nat → Nat → Int32) (J : Nat → Int64) (D : Nat → UInt64) (W : Nat → List Int32) : Prop :=
  (∀ t, t < 144 → (cI M 80 (G 0 t) = I 80 t ∧ cI M 83 (G 0 t) = I 83 t ∧ cI M 85 (G 0 t) = I 85 t) ∧ cJ M 81 (G 0 t) = J t ∧ cD M 82 (G 0 t) = D t ∧ nZ (I 83 t)) ∧
  (∀ t, t < 145 → cI M 71 (G 1 t) = nI (W t).length ∧ (W t).length ≤ rm t ∧ ∀ i, i < (W t).length → xI M (G 2 t) i = (W t).getD i 0 ∧ nC ((W t).getD i 0))
/-- nothing but zone A is other -/
def zA (G : Nat → Nat → Nat) (M M' : CM) : Prop :=
  (∀ f a, f ≠ 71 → f / 10 ≠ 8 → cI M' f a = cI M f a) ∧ (∀ f a, f ≠ 81 → cJ M' f a = cJ M f a) ∧ (∀ f a, f ≠ 82 → cD M' f a = cD M f a) ∧ (∀ f a, cR M' f a = cR M f a) ∧ (∀ a i, (∀ t, t < 145 → a ≠ G 2 t) → xI M' a i = xI M a i) ∧ (∀ a i, xJ M' a i = xJ M a i) ∧ (∀ a i, xR M' a i = xR M a i)
theorem zA_rf (G : Nat → Nat → Nat) (M : CM) : zA G M M := ⟨fun _ _ _ _ => rfl, fun _ _ _ => rfl, fun _ _ _ => rfl, fun _ _ => rfl, fun _ _ _ => rfl, fun _ _ => rfl, fun _ _ => rfl⟩
theorem zA_tr {G : Nat → Nat → Nat} {M M1 M2 : CM} (h : zA G M M1) (k : zA G M1 M2) : zA G M M2 :=
  ⟨fun f a n m => (k.1 f a n m).trans (h.1 f a n m), fun f a n => (k.2.1 f a n).trans (h.2.1 f a n), fun f a n => (k.2.2.1 f a n).trans (h.2.2.1 f a n), fun f a => (k.2.2.2.1 f a).trans (h.2.2.2.1 f a), fun a i n => (k.2.2.2.2.1 a i n).trans (h.2.2.2.2.1 a i n), fun a i => (k.2.2.2.2.2.1 a i).trans (h.2.2.2.2.2.1 a i), fun a i => (k.2.2.2.2.2.2 a i).trans (h.2.2.2.2.2.2 a i)⟩
theorem zA_SA {G : Nat → Nat → Nat} {T : LY} {M M' : CM} (h : zA G M M') (hS : SA G T M) : SA G T M' := by
  obtain ⟨h1, h2, h3, h4⟩ := hS
  refine ⟨fun t ht => ?_, fun t ht => ?_, fun t ht m j hj => ?_, h4⟩
  · rw [h.2.2.2.1]; exact h1 t ht
  · rw [h.2.2.2.1, h.2.2.2.1]; exact h2 t ht
  · rw [h.2.2.2.2.2.2]; exact h3 t ht m j hj
theorem zA_sI (G : Nat → Nat → Nat) (M : CM) (f a : Nat) (v : Int32) (hf : f = 71 ∨ f / 10 = 8) : zA G M (sI M f a v) := by
  refine ⟨fun g b n m => ?_, fun _ _ _ => rfl, fun _ _ _ => rfl, fun _ _ => rfl, fun _ _ _ => rfl, fun _ _ => rfl, fun _ _ => rfl⟩
  rw [cI_sI, if_neg (fun z => by obtain ⟨z1, -⟩ := z; subst z1; omega)]
theorem zA_sJ (G : Nat → Nat → Nat) (M : CM) (a : Nat) (v : Int64) : zA G M (sJ M 81 a v) := by
  refine ⟨fun _ _ _ _ => rfl, fun g b n => ?_, fun _ _ _ => rfl, fun _ _ => rfl, fun _ _ _ => rfl, fun _ _ => rfl, fun _ _ => rfl⟩
  rw [cJ_sJ, if_neg (fun z => n z.1)]
theorem zA_sD (G : Nat → Nat → Nat) (M : CM) (a : Nat) (v : UInt64) : zA G M (sD M 82 a v) := by
  refine ⟨fun _ _ _ _ => rfl, fun _ _ _ => rfl, fun g b n => ?_, fun _ _ => rfl, fun _ _ _ => rfl, fun _ _ => rfl, fun _ _ => rfl⟩
  rw [cD_sD, if_neg (fun z => n z.1)]
theorem zA_yI (G : Nat → Nat → Nat) (M : CM) (t i : Nat) (v : Int32) (ht : t < 145) : zA G M (yI M (G 2 t) i v) := by
  refine ⟨fun _ _ _ _ => rfl, fun _ _ _ => rfl, fun _ _ _ => rfl, fun _ _ => rfl, fun a j n => ?_, fun _ _ => rfl, fun _ _ => rfl⟩
  rw [xI_yI, if_neg (fun z => n t ht z.1)]
def upI (I : Nat → Nat → Int32) (f t : Nat) (v : Int32) : Nat → Nat → Int32 := fun g u => if g = f ∧ u = t then v else I g u
theorem VA_sI {G : Nat → Nat → Nat} {T : LY} {M : CM} {I : Nat → Nat → Int32} {J : Nat → Int64} {D : Nat → UInt64} {W : Nat → List Int32} (hS : SA G T M) (hV : VA G M I J D W) {t : Nat} (ht : t < 144) {f : Nat} (v : Int32) (hf : f / 10 = 8) (hz : f = 83 → nZ v) : VA G (sI M f (G 0 t) v) (upI I f t v) J D W := by
  refine ⟨fun u hu => ?_, fun u hu => ?_⟩
  · obtain ⟨⟨a1, a2, a3⟩, a4, a5, a6⟩ := hV.1 u hu
    have e : ∀ g : Nat, (g = f ∧ G 0 u = G 0 t) ↔ (g = f ∧ u = t) := fun g => ⟨fun z => ⟨z.1, hS.2.2.2.1 u t hu ht z.2⟩, fun z => ⟨z.1, by rw [z.2]⟩⟩
    have k : ∀ g : Nat, cI M g (G 0 u) = I g u → cI (sI M f (G 0 t) v) g (G 0 u) = upI I f t v g u := by
      intro g hg
      rw [cI_sI]
      show _ = if g = f ∧ u = t then v else I g u
      by_cases z : g = f ∧ u = t
      · rw [if_pos z, if_pos ((e g).mpr z)]
      · rw [if_neg z, if_neg (fun y => z ((e g).mp y))]; exact hg
    refine ⟨⟨k 80 a1, k 83 a2, k 85 a3⟩, a4, a5, ?_⟩
    show nZ (if 83 = f ∧ u = t then v else I 83 u)
    by_cases z : 83 = f ∧ u = t
    · rw [if_pos z]; exact hz z.1.symm
    · rw [if_neg z]; exact a6
  · obtain ⟨b1, b2, b3⟩ := hV.2 u hu
    refine ⟨?_, b2, b3⟩
    rw [cI_sI, if_neg (fun z => by omega)]; exact b1
theorem VA_sJ {G : Nat → Nat → Nat} {T : LY} {M : CM} {I : Nat → Nat → Int32} {J : Nat → Int64} {D : Nat → UInt64} {W : Nat → List Int32} (hS : SA G T M) (hV : VA G M I J D W) {t : Nat} (ht : t < 144) (v : Int64) : VA G (sJ M 81 (G 0 t) v) I (va_up J t v) D W := by
  refine ⟨fun u hu => ?_, fun u hu => hV.2 u hu⟩
  obtain ⟨a1, a4, a5⟩ := hV.1 u hu
  refine ⟨a1, ?_, a5⟩
  rw [cJ_sJ]
  show _ = if u = t then v else J u
  by_cases z : u = t
  · rw [if_pos z, if_pos ⟨rfl, by rw [z]⟩]
  · rw [if_neg z, if_neg (fun y => z (hS.2.2.2.1 u t hu ht y.2))]; exact a4
theorem VA_sD {G : Nat → Nat → Nat} {T : LY} {M : CM} {I : Nat → Nat → Int32} {J : Nat → Int64} {D : Nat → UInt64} {W : Nat → List Int32} (hS : SA G T M) (hV : VA G M I J D W) {t : Nat} (ht : t < 144) (v : UInt64) : VA G (sD M 82 (G 0 t) v) I J (va_up D t v) W := by
  refine ⟨fun u hu => ?_, fun u hu => hV.2 u hu⟩
  obtain ⟨a1, a4, a5, a6⟩ := hV.1 u hu
  refine ⟨a1, a4, ?_, a6⟩
  rw [cD_sD]
  show _ = if u = t then v else D u
  by_cases z : u = t
  · rw [if_pos z, if_pos ⟨rfl, by rw [z]⟩]
  · rw [if_neg z, if_neg (fun y => z (hS.2.2.2.1 u t hu ht y.2))]; exact a5
/-- a text cut off -/
theorem VA_cut {G : Nat → Nat → Nat} {T : LY} {M : CM} {I : Nat → Nat → Int32} {J : Nat → Int64} {D : Nat → UInt64} {W : Nat → List Int32} (hS : SA G T M) (hV : VA G M I J D W) {t : Nat} (ht : t < 145) : VA G (sI M 71 (G 1 t) 0) I J D (va_up W t []) := by
  refine ⟨fun u hu => ?_, fun u hu => ?_⟩
  · obtain ⟨⟨a1, a2, a3⟩, a4⟩ := hV.1 u hu
    refine ⟨⟨?_, ?_, ?_⟩, a4⟩
    · rw [cI_sI, if_neg (fun z => by omega)]; exact a1
    · rw [cI_sI, if_neg (fun z => by omega)]; exact a2
    · rw [cI_sI, if_neg (fun z => by omega)]; exact a3
  · obtain ⟨b1, b2, b3⟩ := hV.2 u hu
    by_cases z : u = t
    · subst z
      have e : va_up W u [] u = [] := if_pos rfl
      rw [e]
      refine ⟨?_, Nat.zero_le _, fun i hi => absurd hi (Nat.not_lt_zero i)⟩
      rw [cI_sI, if_pos ⟨rfl, rfl⟩]; rfl
    · have e : va_up W t [] u = W u := if_neg z
      rw [e]
      refine ⟨?_, b2, b3⟩
      rw [cI_sI, if_neg (fun y => z (hS.2.2.2.2.1 u t hu ht y.2))]; exact b1
/-- a text longer by a sign -/
theorem VA_app {G : Nat → Nat → Nat} {T : LY} {M : CM} {I : Nat → Nat → Int32} {J : Nat → Int64} {D : Nat → UInt64} {W : Nat → List Int32} (hS : SA G T M) (hV : VA G M I J D W) {t : Nat} (ht : t < 145) {c : Int32} (hc : nC c) (hr : (W t).length < rm t) : VA G (sI (yI M (G 2 t) (W t).length c) 71 (G 1 t) (nI ((W t).length + 1))) I J D (va_up W t (W t ++ [c])) := by
  refine ⟨fun u hu => ?_, fun u hu => ?_⟩
  · obtain ⟨⟨a1, a2, a3⟩, a4⟩ := hV.1 u hu
    refine ⟨⟨?_, ?_, ?_⟩, a4⟩
    · rw [cI_sI, if_neg (fun z => by omega)]; exact a1
    · rw [cI_sI, if_neg (fun z => by omega)]; exact a2
    · rw [cI_sI, if_neg (fun z => by omega)]; exact a3
  · obtain ⟨b1, b2, b3⟩ := hV.2 u hu
    by_cases z : u = t
    · subst z
      have e : va_up W u (W u ++ [c]) u = W u ++ [c] := if_pos rfl
      rw [e]
      refine ⟨?_, by simp only [List.length_append, List.length_singleton]; omega, fun i hi => ?_⟩
      · rw [cI_sI, if_pos ⟨rfl, rfl⟩, List.length_append]; rfl
      · rw [List.length_append, List.length_singleton] at hi
        show xI (yI M (G 2 u) (W u).length c) (G 2 u) i = _ ∧ _
        rw [xI_yI]
        by_cases y : i = (W u).length
        · subst y
          rw [if_pos ⟨rfl, rfl⟩]
          have e2 : (W u ++ [c]).getD (W u).length 0 = c := by simp
          rw [e2]; exact ⟨rfl, hc⟩
        · rw [if_neg (fun x => y x.2)]
          have e2 : (W u ++ [c]).getD i 0 = (W u).getD i 0 := by
            rw [List.getD_eq_getElem?_getD, List.getD_eq_getElem?_getD, List.getElem?_append_left (by omega)]
          rw [e2]; exact b3 i (by omega)
    · have e : va_up W t (W t ++ [c]) u = W u := if_neg z
      rw [e]
      refine ⟨?_, b2, fun i hi => ?_⟩
      · rw [cI_sI, if_neg (fun y => z (hS.2.2.2.2.1 u t hu ht y.2))]; exact b1
      · show xI (yI M (G 2 t) (W t).length c) (G 2 u) i = _ ∧ _
        rw [xI_yI, if_neg (fun y => z (hS.2.2.2.2.2 u t hu ht y.1))]; exact b3 i hi
