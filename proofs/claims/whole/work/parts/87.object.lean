/-! the whole object, and what leaves it as it was -/
def kY (T : LY) (M M' : CM) : Prop := (∀ f a, f ≠ 21 → f ≠ 51 → f ≠ 53 → f ≠ 107 → f ≠ 108 → cI M' f a = cI M f a) ∧ (∀ f a, cJ M' f a = cJ M f a) ∧ (∀ f a, cD M' f a = cD M f a) ∧ (∀ f a, cR M' f a = cR M f a) ∧ (∀ a i, xI M' a i = xI M a i) ∧ (∀ a i, ln T a = 5 → xJ M' a i = xJ M a i) ∧ (∀ a i, tg T a ≠ 26 → xR M' a i = xR M a i)
theorem kY_rf (T : LY) (M : CM) : kY T M M := ⟨fun _ _ _ _ _ _ _ => rfl, fun _ _ => rfl, fun _ _ => rfl, fun _ _ => rfl, fun _ _ => rfl, fun _ _ _ => rfl, fun _ _ _ => rfl⟩
theorem kY_tr {T : LY} {M M1 M2 : CM} (h : kY T M M1) (k : kY T M1 M2) : kY T M M2 := ⟨fun f a x1 x2 x3 x4 x5 => (k.1 f a x1 x2 x3 x4 x5).trans (h.1 f a x1 x2 x3 x4 x5), fun f a => (k.2.1 f a).trans (h.2.1 f a), fun f a => (k.2.2.1 f a).trans (h.2.2.1 f a), fun f a => (k.2.2.2.1 f a).trans (h.2.2.2.1 f a), fun f a => (k.2.2.2.2.1 f a).trans (h.2.2.2.2.1 f a), fun a i n => (k.2.2.2.2.2.1 a i n).trans (h.2.2.2.2.2.1 a i n), fun a i n => (k.2.2.2.2.2.2 a i n).trans (h.2.2.2.2.2.2 a i n)⟩
theorem kY_sI (T : LY) (M : CM) {f : Nat} (a : Nat) (v : Int32) (hf : f = 21 ∨ f = 51 ∨ f = 53 ∨ f = 107 ∨ f = 108) : kY T M (sI M f a v) := ⟨fun g b x1 x2 x3 x4 x5 => by rw [cI_sI, if_neg (fun z => by omega)], fun _ _ => rfl, fun _ _ => rfl, fun _ _ => rfl, fun _ _ => rfl, fun _ _ _ => rfl, fun _ _ _ => rfl⟩
theorem kY_yJ {T : LY} (M : CM) {a : Nat} (i : Nat) (v : Int64) (h : ln T a = 1) : kY T M (yJ M a i v) := ⟨fun _ _ _ _ _ _ _ => rfl, fun _ _ => rfl, fun _ _ => rfl, fun _ _ => rfl, fun _ _ => rfl, fun b j n => by rw [xJ_yJ, if_neg (fun z => by rw [z.1, h] at n; omega)], fun _ _ _ => rfl⟩
theorem kY_yR {T : LY} (M : CM) {a : Nat} (i : Nat) (v : Option Nat) (h : tg T a = 26) : kY T M (yR M a i v) := ⟨fun _ _ _ _ _ _ _ => rfl, fun _ _ => rfl, fun _ _ => rfl, fun _ _ => rfl, fun _ _ => rfl, fun _ _ _ => rfl, fun b j n => by rw [xR_yR, if_neg (fun z => n (by rw [z.1]; exact h))]⟩
theorem kG_kY {O : Nat → Nat} {T : LY} {M M' : CM} (h2 : tg T (O 2) = 26) (h : kG O M M') : kY T M M' := ⟨fun f a x1 x2 x3 x4 x5 => h.1 f a (fun z => x3 z.1), h.2.1, h.2.2.1, h.2.2.2.1, h.2.2.2.2.1, fun a i _ => h.2.2.2.2.2.1 a i, fun a i n => h.2.2.2.2.2.2 a i (fun z => n (by rw [z]; exact h2))⟩
theorem kY_wds {T : LY} {M M' : CM} (h : kY T M M') {r : Option Nat} {l : List Int64} (k : wds T M r l) : wds T M' r l := by
  rcases k with k | ⟨a, p, b, c, d, e, f⟩
  · exact Or.inl k
  · exact Or.inr ⟨a, p, b, c, d, e, fun i hi => by rw [h.2.2.2.2.2.1 p i (by omega)]; exact f i hi⟩
theorem kY_tyc {nm : Nat → Nat} {T : LY} {M M' : CM} (h : kY T M M') {a : Nat} {τ : Ty} {e : Option Nat} (k : tyc nm T M a τ e) : tyc nm T M' a τ e := by
  obtain ⟨a1, a2, a3, a4, a5, a6, a7⟩ := k
  refine ⟨a1, a2, by rw [h.2.2.2.1]; exact a3, by rw [h.1 _ _ (by decide) (by decide) (by decide) (by decide) (by decide)]; exact a4, by rw [h.1 _ _ (by decide) (by decide) (by decide) (by decide) (by decide)]; exact a5, ?_, by rw [h.2.2.2.1]; exact a7⟩
  rw [h.2.2.2.1]; exact kY_wds h a6
theorem kY_arc {nm : Nat → Nat} {T : LY} {M M' : CM} (h : kY T M M') {a : Nat} {g : Ag} (k : arc nm T M a g) : arc nm T M' a g := by
  obtain ⟨a1, a2, a3, ta, a4, a5⟩ := k
  refine ⟨a1, by rw [h.1 _ _ (by decide) (by decide) (by decide) (by decide) (by decide)]; exact a2, by rw [h.1 _ _ (by decide) (by decide) (by decide) (by decide) (by decide)]; exact a3, ta, by rw [h.2.2.2.1]; exact a4, ?_⟩
  rcases a5 with ⟨b1, b2⟩ | ⟨e, s, b1, b2, b3⟩
  · exact Or.inl ⟨b1, kY_tyc h b2⟩
  · exact Or.inr ⟨e, s, b1, kY_tyc h b2, kY_tyc h b3⟩
theorem kY_fmc {nm : Nat → Nat} {T : LY} {M M' : CM} (h : kY T M M') {a : Nat} {φ : List Ag} (k : fmc nm T M a φ) : fmc nm T M' a φ := by
  obtain ⟨a1, a2, a3, a4, r, a5, a6, a7, a8⟩ := k
  refine ⟨a1, a2, by rw [h.1 _ _ (by decide) (by decide) (by decide) (by decide) (by decide)]; exact a3, by rw [h.1 _ _ (by decide) (by decide) (by decide) (by decide) (by decide)]; exact a4, r, by rw [h.2.2.2.1]; exact a5, a6, a7, fun i hi => ?_⟩
  obtain ⟨p, b1, b2⟩ := a8 i hi
  exact ⟨p, by rw [h.2.2.2.2.2.2 _ _ (by rw [a6]; decide)]; exact b1, kY_arc h b2⟩
def CS (G : Nat → Nat → Nat) (T : LY) (M : CM) (px hN : Nat) (RW : Nat → Nat) (cv : Nat) (OA : Nat → Nat → Nat) (hr rs rp po : Nat) : Prop :=
  SX G T M px hN RW cv ∧ SA G T M ∧ SQ T M px OA ∧ (∀ o, o < 6 → SO T M (OA o)) ∧ RE G T M hr rs rp ∧ cR M 101 px = some hr ∧ (tg T po = 23 ∧ ln T po = 1) ∧ ∀ o o', o < 6 → o' < 6 → o ≠ o' → OA o 0 ≠ OA o' 0 ∧ OA o 1 ≠ OA o' 1 ∧ OA o 1 ≠ OA o' 2 ∧ OA o 2 ≠ OA o' 1 ∧ OA o 2 ≠ OA o' 2
def CF (nm : Nat → Nat) (T : LY) (M : CM) (OA : Nat → Nat → Nat) (F H : Nat → List (Nat × List Ag)) : Prop := (∀ o, o < 6 → VO nm T M (OA o) (F o) (H o)) ∧ ∀ o, o < 6 → ∀ i, i < (F o).length → cI M 21 ((F o).getD i (0, [])).1 = nI i
def uF {α : Type} (F : Nat → α) (o : Nat) (v : α) : Nat → α := fun x => if x = o then v else F x
section OBJ
variable {nm : Nat → Nat} {G : Nat → Nat → Nat} {T T' : LY} {M M' : CM} {I : Nat → Nat → Int32} {J : Nat → Int64} {D : Nat → UInt64} {W : Nat → List Int32} {px hN cv hr rs rp po : Nat} {RW : Nat → Nat} {OA : Nat → Nat → Nat} {F H : Nat → List (Nat × List Ag)}
theorem CS_fr (hc : ∀ f a, cR M' f a = cR M f a) (hx : ∀ a i, tg T a ≠ 26 → xR M' a i = xR M a i) (h : CS G T M px hN RW cv OA hr rs rp po) : CS G T M' px hN RW cv OA hr rs rp po := by
  obtain ⟨⟨a1, a2, a3, a4, a5, a6, a7, a8, a9⟩, ⟨b1, b2, b3, b4⟩, ⟨c1, r, c2, c3, c4, c5⟩, d, e, f, g⟩ := h
  refine ⟨⟨a1, by rw [hc]; exact a2, by rw [hc]; exact a3, by rw [hc]; exact a4, a5, by rw [hc]; exact a6, by rw [hc]; exact a7, a8, fun r hr => ⟨(a9 r hr).1, (a9 r hr).2.1, fun i hi => ?_⟩⟩, ⟨fun t ht => ?_, fun t ht => ?_, fun t ht m j hj => ?_, b4⟩, ⟨c1, r, by rw [hc]; exact c2, c3, c4, fun o ho => ?_⟩, fun o ho => ?_, ?_, by rw [hc]; exact f, g⟩
  · rw [hx _ _ (by rw [(a9 r hr).1]; decide)]; exact (a9 r hr).2.2 i hi
  · rw [hc]; exact b1 t ht
  · rw [hc, hc]; exact b2 t ht
  · rw [hx _ _ (by rw [(b2 t ht).2.2.2.1]; decide)]; exact b3 t ht m j hj
  · rw [hx _ _ (by rw [c3]; decide)]; exact c5 o ho
  · obtain ⟨s1, s2, s3, s4, s5, s6, s7, s8⟩ := d o ho
    exact ⟨s1, by rw [hc]; exact s2, s3, s4, by rw [hc]; exact s5, s6, s7, s8⟩
  · obtain ⟨⟨e1, e2, e3, e4, e5, e6, e7⟩, e8⟩ := e
    exact ⟨⟨e1, by rw [hc]; exact e2, e3, e4, by rw [hc]; exact e5, e6, e7⟩, e8⟩
theorem CS_Y (k : kY T M M') (h : CS G T M px hN RW cv OA hr rs rp po) : CS G T M' px hN RW cv OA hr rs rp po := CS_fr k.2.2.2.1 k.2.2.2.2.2.2 h
theorem CS_zA (k : zA G M M') (h : CS G T M px hN RW cv OA hr rs rp po) : CS G T M' px hN RW cv OA hr rs rp po := CS_fr k.2.2.2.1 (fun a i _ => k.2.2.2.2.2.2 a i) h
theorem CS_xT (k : xT hr T M T' M') (h : CS G T M px hN RW cv OA hr rs rp po) : CS G T' M' px hN RW cv OA hr rs rp po := by
  obtain ⟨a, b, c, d, e, f, g, i⟩ := h
  have n : tg T px ≠ 0 := by rw [a.1]; decide
  have n2 : tg T po ≠ 0 := by rw [g.1]; decide
  exact ⟨xT_SX k a, xT_SA k b, xT_SQ k c, fun o ho => xT_SO k (d o ho), xT_RE k e, (k.2.2.2.2.1 _ _ n).trans f, ⟨(k.1 _ n2).1.trans g.1, (k.1 _ n2).2.trans g.2⟩, i⟩
theorem VA_Y (k : kY T M M') (h : VA G M I J D W) : VA G M' I J D W := by
  have e : ∀ {f a}, f = 71 ∨ f / 10 = 8 → cI M' f a = cI M f a := fun z => k.1 _ _ (by omega) (by omega) (by omega) (by omega) (by omega)
  refine ⟨fun t ht => ?_, fun t ht => ?_⟩
  · obtain ⟨⟨a, b, c⟩, d, x, f⟩ := h.1 t ht
    exact ⟨⟨(e (Or.inr rfl)).trans a, (e (Or.inr rfl)).trans b, (e (Or.inr rfl)).trans c⟩, (k.2.1 _ _).trans d, (k.2.2.1 _ _).trans x, f⟩
  · obtain ⟨a, b, c⟩ := h.2 t ht
    exact ⟨(e (Or.inl rfl)).trans a, b, fun i hi => by rw [k.2.2.2.2.1]; exact c i hi⟩
theorem CF_Y (k : kY T M M') (e21 : ∀ a, tg T a = 3 → cI M' 21 a = cI M 21 a) (e5 : ∀ o, o < 6 → cI M' 51 (OA o 0) = cI M 51 (OA o 0) ∧ cI M' 53 (OA o 0) = cI M 53 (OA o 0) ∧ ∀ i, xR M' (OA o 1) i = xR M (OA o 1) i ∧ xR M' (OA o 2) i = xR M (OA o 2) i) (h : CF nm T M OA F H) : CF nm T M' OA F H := by
  refine ⟨fun o ho => ?_, fun o ho i hi => (e21 _ ((h.1 o ho).2.2.1 i hi).2.1).trans (h.2 o ho i hi)⟩
  obtain ⟨v1, v2, v3, v4, v5, v6⟩ := h.1 o ho
  obtain ⟨x1, x2, x3⟩ := e5 o ho
  exact ⟨v1, x1.trans v2, fun i hi => ⟨(x3 i).1.trans (v3 i hi).1, kY_fmc k (v3 i hi).2⟩, v4, x2.trans v5, fun i hi => ⟨(x3 i).2.trans (v6 i hi).1, kY_fmc k (v6 i hi).2⟩⟩
theorem CF_s108 {f a : Nat} (v : Int32) (hf : f = 107 ∨ f = 108) (h : CF nm T M OA F H) : CF nm T (sI M f a v) OA F H := CF_Y (kY_sI T M a v (by omega)) (fun b _ => by rw [cI_sI, if_neg (fun z => by omega)]) (fun o _ => ⟨by rw [cI_sI, if_neg (fun z => by omega)], by rw [cI_sI, if_neg (fun z => by omega)], fun _ => ⟨rfl, rfl⟩⟩) h
theorem CF_yJ {i : Nat} (v : Int64) (hp : ln T po = 1) (h : CF nm T M OA F H) : CF nm T (yJ M po i v) OA F H := CF_Y (kY_yJ M i v hp) (fun _ _ => rfl) (fun _ _ => ⟨rfl, rfl, fun _ => ⟨rfl, rfl⟩⟩) h
theorem CF_G {o : Nat} (ho : o < 6) (hS : CS G T M px hN RW cv OA hr rs rp po) (k : kG (OA o) M M') {gs' : List (Nat × List Ag)} (v : VO nm T M' (OA o) (F o) gs') (h : CF nm T M OA F H) : CF nm T M' OA F (uF H o gs') := by
  have t2 := (hS.2.2.2.1 o ho).2.2.2.2.2.1
  have ky := kG_kY t2 k
  refine ⟨fun o' ho' => ?_, fun o' ho' i hi => (k.1 _ _ (fun z => by omega)).trans (h.2 o' ho' i hi)⟩
  unfold uF
  by_cases e : o' = o
  · rw [if_pos e, e]; exact v
  · rw [if_neg e]
    have d := hS.2.2.2.2.2.2.2 o' o ho' ho e
    obtain ⟨v1, v2, v3, v4, v5, v6⟩ := h.1 o' ho'
    exact ⟨v1, (k.1 _ _ (fun z => d.1 z.2)).trans v2, fun i hi => ⟨(k.2.2.2.2.2.2 _ _ d.2.2.1).trans (v3 i hi).1, kY_fmc ky (v3 i hi).2⟩, v4, (k.1 _ _ (fun z => d.1 z.2)).trans v5, fun i hi => ⟨(k.2.2.2.2.2.2 _ _ d.2.2.2.2).trans (v6 i hi).1, kY_fmc ky (v6 i hi).2⟩⟩
theorem CF_zA (k : zA G M M') (h : CF nm T M OA F H) : CF nm T M' OA F H := by
  have kt : kT T M M' := zA_kT k
  refine ⟨fun o ho => ?_, fun o ho i hi => (k.1 _ _ (by decide) (by decide)).trans (h.2 o ho i hi)⟩
  obtain ⟨v1, v2, v3, v4, v5, v6⟩ := h.1 o ho
  exact ⟨v1, (k.1 _ _ (by decide) (by decide)).trans v2, fun i hi => ⟨(k.2.2.2.2.2.2 _ _).trans (v3 i hi).1, kT_fmc kt (v3 i hi).2⟩, v4, (k.1 _ _ (by decide) (by decide)).trans v5, fun i hi => ⟨(k.2.2.2.2.2.2 _ _).trans (v6 i hi).1, kT_fmc kt (v6 i hi).2⟩⟩
theorem CF_L (k : kL hr rs rp M M') (h7 : tg T hr = 7) (h : CF nm T M OA F H) : CF nm T M' OA F H := by
  have kt : kT T M M' := kL_kT k
  refine ⟨fun o ho => ?_, fun o ho i hi => (k.1 _ _ (fun z => by omega)).trans (h.2 o ho i hi)⟩
  obtain ⟨v1, v2, v3, v4, v5, v6⟩ := h.1 o ho
  exact ⟨v1, (k.1 _ _ (fun z => by omega)).trans v2, fun i hi => ⟨(k.2.2.2.2.2.2 _ _).trans (v3 i hi).1, kT_fmc kt (v3 i hi).2⟩, v4, (k.1 _ _ (fun z => by omega)).trans v5, fun i hi => ⟨(k.2.2.2.2.2.2 _ _).trans (v6 i hi).1, kT_fmc kt (v6 i hi).2⟩⟩
theorem CF_xT (k : xT hr T M T' M') (hS : CS G T M px hN RW cv OA hr rs rp po) (h : CF nm T M OA F H) : CF nm T' M' OA F H := by
  refine ⟨fun o ho => xT_VO k (hS.2.2.2.1 o ho) (h.1 o ho), fun o ho i hi => ?_⟩
  have t3 := ((h.1 o ho).2.2.1 i hi).2.1
  exact (k.2.1 _ _ (by rw [t3]; decide) (fun z => by omega)).trans (h.2 o ho i hi)
theorem CF_clear {o : Nat} (ho : o < 6) (hS : CS G T M px hN RW cv OA hr rs rp po) (v : VO nm T (sI M 51 (OA o 0) 0) (OA o) [] (H o)) (h : CF nm T M OA F H) : CF nm T (sI M 51 (OA o 0) 0) OA (uF F o []) H := by
  have ky := kY_sI T M (f := 51) (OA o 0) 0 (by decide)
  refine ⟨fun o' ho' => ?_, fun o' ho' i hi => ?_⟩
  · unfold uF
    by_cases e : o' = o
    · rw [if_pos e, e]; exact v
    · rw [if_neg e]
      have d := hS.2.2.2.2.2.2.2 o' o ho' ho e
      obtain ⟨v1, v2, v3, v4, v5, v6⟩ := h.1 o' ho'
      exact ⟨v1, by rw [cI_sI, if_neg (fun z => d.1 z.2)]; exact v2, fun i hi => ⟨(v3 i hi).1, kY_fmc ky (v3 i hi).2⟩, v4, by rw [cI_sI, if_neg (fun z => d.1 z.2)]; exact v5, fun i hi => ⟨(v6 i hi).1, kY_fmc ky (v6 i hi).2⟩⟩
  · unfold uF at hi ⊢
    by_cases e : o' = o
    · rw [if_pos e] at hi; exact absurd hi (Nat.not_lt_zero i)
    · rw [if_neg e] at hi ⊢
      rw [cI_sI, if_neg (fun z => by omega)]; exact h.2 o' ho' i hi
theorem CF_append {o : Nat} (ho : o < 6) (hS : CS G T M px hN RW cv OA hr rs rp po) {p : Nat × List Ag} (hp : ∀ o', o' < 6 → ∀ i, i < (F o').length → ((F o').getD i (0, [])).1 ≠ p.1) (em : M' = sI (yR (sI M 21 p.1 (nI (F o).length)) (OA o 1) (F o).length (some p.1)) 51 (OA o 0) (nI ((F o).length + 1))) (v : VO nm T M' (OA o) (F o ++ [p]) (H o)) (e21 : cI M' 21 p.1 = nI (F o).length) (h : CF nm T M OA F H) : kY T M M' ∧ CF nm T M' OA (uF F o (F o ++ [p])) H := by
  have t1 := (hS.2.2.2.1 o ho).2.2.1
  have ky : kY T M M' := by
    rw [em]
    exact kY_tr (kY_sI T M p.1 _ (by decide)) (kY_tr (kY_yR _ _ _ t1) (kY_sI T _ _ _ (by decide)))
  have e5 : ∀ f a, f ≠ 21 → ¬ (f = 51 ∧ a = OA o 0) → cI M' f a = cI M f a := fun f a n1 n2 => by
    rw [em, cI_sI, if_neg n2]
    show cI (sI M 21 p.1 (nI (F o).length)) f a = _
    rw [cI_sI, if_neg (fun z => n1 z.1)]
  have eR : ∀ a i, a ≠ OA o 1 → xR M' a i = xR M a i := fun a i n => by
    rw [em]
    show xR (yR (sI M 21 p.1 (nI (F o).length)) (OA o 1) (F o).length (some p.1)) a i = _
    rw [xR_yR, if_neg (fun z => n z.1)]; rfl
  have e2 : ∀ a, a ≠ p.1 → cI M' 21 a = cI M 21 a := fun a n => by
    rw [em, cI_sI, if_neg (fun z => by omega)]
    show cI (sI M 21 p.1 (nI (F o).length)) 21 a = _
    rw [cI_sI, if_neg (fun z => n z.2)]
  refine ⟨ky, fun o' ho' => ?_, fun o' ho' i hi => ?_⟩
  · unfold uF
    by_cases e : o' = o
    · rw [if_pos e, e]; exact v
    · rw [if_neg e]
      have d := hS.2.2.2.2.2.2.2 o' o ho' ho e
      obtain ⟨v1, v2, v3, v4, v5, v6⟩ := h.1 o' ho'
      exact ⟨v1, (e5 _ _ (by decide) (fun z => d.1 z.2)).trans v2, fun i hi => ⟨(eR _ _ d.2.1).trans (v3 i hi).1, kY_fmc ky (v3 i hi).2⟩, v4, (e5 _ _ (by decide) (fun z => d.1 z.2)).trans v5, fun i hi => ⟨(eR _ _ d.2.2.2.1).trans (v6 i hi).1, kY_fmc ky (v6 i hi).2⟩⟩
  · unfold uF at hi ⊢
    by_cases e : o' = o
    · rw [if_pos e] at hi ⊢
      rw [List.length_append, List.length_singleton] at hi
      by_cases y : i = (F o).length
      · have ed : (F o ++ [p]).getD i (0, []) = p := by rw [y]; simp
        rw [ed, e21, y]
      · have ed : (F o ++ [p]).getD i (0, []) = (F o).getD i (0, []) := by
          rw [List.getD_eq_getElem?_getD, List.getD_eq_getElem?_getD, List.getElem?_append_left (by omega)]
        rw [ed, e2 _ (hp o ho i (by omega))]
        exact h.2 o ho i (by omega)
    · rw [if_neg e] at hi ⊢
      rw [e2 _ (hp o' ho' i hi)]
      exact h.2 o' ho' i hi
end OBJ
