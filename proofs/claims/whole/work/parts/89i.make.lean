/-! making: what was there stands, but for the fields of E -/
def sm7 (M M' : CM) (a : Nat) : Prop := (∀ f, cI M' f a = cI M f a) ∧ (∀ f, cJ M' f a = cJ M f a) ∧ (∀ f, cD M' f a = cD M f a) ∧ (∀ f, cR M' f a = cR M f a) ∧ (∀ i, xI M' a i = xI M a i) ∧ (∀ i, xJ M' a i = xJ M a i) ∧ ∀ i, xR M' a i = xR M a i
theorem sm7_rf (M : CM) (a : Nat) : sm7 M M a := ⟨fun _ => rfl, fun _ => rfl, fun _ => rfl, fun _ => rfl, fun _ => rfl, fun _ => rfl, fun _ => rfl⟩
theorem sm7_tr {M M1 M2 : CM} {a : Nat} (h : sm7 M M1 a) (k : sm7 M1 M2 a) : sm7 M M2 a := ⟨fun f => (k.1 f).trans (h.1 f), fun f => (k.2.1 f).trans (h.2.1 f), fun f => (k.2.2.1 f).trans (h.2.2.1 f), fun f => (k.2.2.2.1 f).trans (h.2.2.2.1 f), fun f => (k.2.2.2.2.1 f).trans (h.2.2.2.2.1 f), fun f => (k.2.2.2.2.2.1 f).trans (h.2.2.2.2.2.1 f), fun f => (k.2.2.2.2.2.2 f).trans (h.2.2.2.2.2.2 f)⟩
def xE (E : Nat → Prop) (T : LY) (M : CM) (T' : LY) (M' : CM) : Prop := ∀ a, tg T a ≠ 0 → (tg T' a = tg T a ∧ ln T' a = ln T a) ∧ (¬ E a → sm7 M M' a)
theorem xE_rf (E : Nat → Prop) (T : LY) (M : CM) : xE E T M T M := fun a _ => ⟨⟨rfl, rfl⟩, fun _ => sm7_rf M a⟩
theorem xE_tr {E : Nat → Prop} {T T1 T2 : LY} {M M1 M2 : CM} (h : xE E T M T1 M1) (k : xE E T1 M1 T2 M2) : xE E T M T2 M2 := fun a n => by
  have ha := h a n
  have n1 : tg T1 a ≠ 0 := by rw [ha.1.1]; exact n
  have ka := k a n1
  exact ⟨⟨ka.1.1.trans ha.1.1, ka.1.2.trans ha.1.2⟩, fun e => sm7_tr (ha.2 e) (ka.2 e)⟩
/-- exceptions that were not there may be forgotten -/
theorem xE_dr {E E' : Nat → Prop} {T T' : LY} {M M' : CM} (h : xE E T M T' M') (he : ∀ e, E e → tg T e = 0 ∨ E' e) : xE E' T M T' M' := fun a n => ⟨(h a n).1, fun e => (h a n).2 (fun z => (he a z).elim n e)⟩
theorem xE_mk {E : Nat → Prop} {T : LY} (M : CM) {q : Nat} (k n : Nat) (h : tg T q = 0) : xE E T M (mkT T k n q) (mkM M q) := fun a z => by
  have ne : a ≠ q := fun e => z (e ▸ h)
  refine ⟨⟨by rw [tg_mk, if_neg ne], by rw [ln_mk, if_neg ne]⟩, fun _ => ⟨fun f => by rw [cI_mkM, if_neg ne], fun f => by rw [cJ_mkM, if_neg ne], fun f => by rw [cD_mkM, if_neg ne], fun f => by rw [cR_mkM, if_neg ne], fun i => by rw [xI_mkM, if_neg ne], fun i => by rw [xJ_mkM, if_neg ne], fun i => by rw [xR_mkM, if_neg ne]⟩⟩
section MK
variable {E : Nat → Prop} {T T' : LY} {M M' : CM} {q : Nat}
theorem xE_sI (f : Nat) (v : Int32) (hq : E q) : xE E T M T (sI M f q v) := fun a _ => ⟨⟨rfl, rfl⟩, fun n => ⟨fun g => by rw [cI_sI, if_neg (fun (z : _ ∧ a = q) => n (by rw [z.2]; exact hq))], fun _ => rfl, fun _ => rfl, fun _ => rfl, fun _ => rfl, fun _ => rfl, fun _ => rfl⟩⟩
theorem xE_sJ (f : Nat) (v : Int64) (hq : E q) : xE E T M T (sJ M f q v) := fun a _ => ⟨⟨rfl, rfl⟩, fun n => ⟨fun _ => rfl, fun g => by rw [cJ_sJ, if_neg (fun (z : _ ∧ a = q) => n (by rw [z.2]; exact hq))], fun _ => rfl, fun _ => rfl, fun _ => rfl, fun _ => rfl, fun _ => rfl⟩⟩
theorem xE_sD (f : Nat) (v : UInt64) (hq : E q) : xE E T M T (sD M f q v) := fun a _ => ⟨⟨rfl, rfl⟩, fun n => ⟨fun _ => rfl, fun _ => rfl, fun g => by rw [cD_sD, if_neg (fun (z : _ ∧ a = q) => n (by rw [z.2]; exact hq))], fun _ => rfl, fun _ => rfl, fun _ => rfl, fun _ => rfl⟩⟩
theorem xE_sR (f : Nat) (v : Option Nat) (hq : E q) : xE E T M T (sR M f q v) := fun a _ => ⟨⟨rfl, rfl⟩, fun n => ⟨fun _ => rfl, fun _ => rfl, fun _ => rfl, fun g => by rw [cR_sR, if_neg (fun (z : _ ∧ a = q) => n (by rw [z.2]; exact hq))], fun _ => rfl, fun _ => rfl, fun _ => rfl⟩⟩
theorem xE_yI (i : Nat) (v : Int32) (hq : E q) : xE E T M T (yI M q i v) := fun a _ => ⟨⟨rfl, rfl⟩, fun n => ⟨fun _ => rfl, fun _ => rfl, fun _ => rfl, fun _ => rfl, fun j => by rw [xI_yI, if_neg (fun (z : a = q ∧ _) => n (by rw [z.1]; exact hq))], fun _ => rfl, fun _ => rfl⟩⟩
theorem xE_yR (i : Nat) (v : Option Nat) (hq : E q) : xE E T M T (yR M q i v) := fun a _ => ⟨⟨rfl, rfl⟩, fun n => ⟨fun _ => rfl, fun _ => rfl, fun _ => rfl, fun _ => rfl, fun _ => rfl, fun _ => rfl, fun j => by rw [xR_yR, if_neg (fun (z : a = q ∧ _) => n (by rw [z.1]; exact hq))]⟩⟩
theorem nIn {n : Nat} (hn : n < 1000) : (if nI n < 0 then (0 : Int32) else nI n) = nI n ∧ (nI n).toNatClampNeg = n := ⟨if_neg (nI_pos (by omega)), nI_clamp (by omega)⟩
theorem s_X7_init {h n : Nat} (th : tg T h = 8) (hn : n < 1000) {Q : LY → CM → Prop} (k : ∀ T' M' q, xE (fun a => a = h) T M T' M' → tg T q = 0 → tg T' q = 20 → ln T' q = n → cR M' 70 h = some q → cI M' 71 h = 0 → Q T' M') : fc_X7_init 1 n h (nI n) T M Q := by
  obtain ⟨e1, e2⟩ := nIn hn
  unfold fc_X7_init
  rw [e1, e2]
  refine ⟨th, nm_e ⟨nI_pos (by omega), by omega, by omega, by omega, fun q T4 M5 hq eT eM => ?_⟩⟩
  subst eT
  subst eM
  have ne : h ≠ q := fun z => by rw [z, hq] at th; exact absurd th (by decide)
  refine ⟨by rw [tg_mk, if_neg ne]; exact th, nm_e ⟨by omega, by omega, k _ _ q (xE_tr (xE_sI 71 0 rfl) (xE_tr (xE_mk _ 20 n hq) (xE_sR 70 (some q) rfl))) hq (by rw [tg_mk, if_pos rfl]) (by rw [ln_mk, if_pos rfl]) (by rw [cR_sR, if_pos ⟨rfl, rfl⟩]) ?_⟩⟩
  show cI (mkM (sI M 71 h 0) q) 71 h = 0
  rw [cI_mkM, if_neg ne, cI_sI, if_pos ⟨rfl, rfl⟩]
/-- a thing newly made: h with text x and its row q of n, items' row it -/
def NT (T : LY) (M : CM) (h x q n : Nat) (it : Option Nat) : Prop := (tg T h = 9 ∧ tg T x = 8 ∧ tg T q = 20 ∧ ln T q = n) ∧ cR M 84 h = some x ∧ cR M 86 h = it ∧ cR M 70 x = some q ∧ cI M 71 x = 0 ∧ (cI M 80 h = 7 ∧ cI M 83 h = 0 ∧ cI M 85 h = 0) ∧ cJ M 81 h = 0 ∧ cD M 82 h = FP.dconst0
theorem xE_NT {h x y n : Nat} {it : Option Nat} (k : xE E T M T' M') (h1 : ¬ E h) (h2 : ¬ E x) (t : NT T M h x y n it) : NT T' M' h x y n it := by
  obtain ⟨⟨a1, a2, a3, a4⟩, b, c, d, e, ⟨f1, f2, f3⟩, g, i⟩ := t
  have kh := k h (by rw [a1]; decide)
  have kx := k x (by rw [a2]; decide)
  have ky := k y (by rw [a3]; decide)
  have sh := kh.2 h1
  have sx := kx.2 h2
  exact ⟨⟨kh.1.1.trans a1, kx.1.1.trans a2, ky.1.1.trans a3, ky.1.2.trans a4⟩, (sh.2.2.2.1 _).trans b, (sh.2.2.2.1 _).trans c, (sx.2.2.2.1 _).trans d, (sx.1 _).trans e, ⟨(sh.1 _).trans f1, (sh.1 _).trans f2, (sh.1 _).trans f3⟩, (sh.2.1 _).trans g, (sh.2.2.1 _).trans i⟩
theorem s_X8_init {h n : Nat} (th : tg T h = 9) (hn : n < 1000) (it : Option Nat) {Q : LY → CM → Prop} (k : ∀ T' M' x y, xE (fun a => a = h) T M T' M' → tg T x = 0 → tg T y = 0 → NT T' M' h x y n it → Q T' M') : fc_X8_init 2 (2 + n) h (nI n) it T M Q := by
  unfold fc_X8_init
  refine ⟨th, nm_e (nm_e (nm_e ⟨nZ_0, nm_e (nm_e ⟨by omega, by omega, fun x T9 M10 hx eT eM => ?_⟩)⟩))⟩
  subst eT
  subst eM
  obtain ⟨M1, hM1⟩ : ∃ M1, M1 = sI (sI (sD (sJ (sI M 80 h 7) 81 h 0) 82 h FP.dconst0) 83 h 0) 85 h 0 := ⟨_, rfl⟩
  rw [← hM1]
  have x1 : xE (fun a => a = h) T M T M1 := by
    rw [hM1]
    exact xE_tr (xE_sI 80 7 rfl) (xE_tr (xE_sJ 81 0 rfl) (xE_tr (xE_sD 82 FP.dconst0 rfl) (xE_tr (xE_sI 83 0 rfl) (xE_sI 85 0 rfl))))
  have ne : h ≠ x := fun z => by rw [z, hx] at th; exact absurd th (by decide)
  have i1 : cI M1 80 h = 7 ∧ cI M1 83 h = 0 ∧ cI M1 85 h = 0 := by
    rw [hM1]
    refine ⟨?_, ?_, ?_⟩
    · rw [cI_sI, if_neg (fun z => absurd z.1 (by decide)), cI_sI, if_neg (fun z => absurd z.1 (by decide))]
      show cI (sI M 80 h 7) 80 h = 7
      rw [cI_sI, if_pos ⟨rfl, rfl⟩]
    · rw [cI_sI, if_neg (fun z => absurd z.1 (by decide)), cI_sI, if_pos ⟨rfl, rfl⟩]
    · rw [cI_sI, if_pos ⟨rfl, rfl⟩]
  have j1 : cJ M1 81 h = 0 := by
    rw [hM1]
    show cJ (sJ (sI M 80 h 7) 81 h 0) 81 h = 0
    rw [cJ_sJ, if_pos ⟨rfl, rfl⟩]
  have d1 : cD M1 82 h = FP.dconst0 := by
    rw [hM1]
    show cD (sD (sJ (sI M 80 h 7) 81 h 0) 82 h FP.dconst0) 82 h = _
    rw [cD_sD, if_pos ⟨rfl, rfl⟩]
  have th2 : tg (mkT T 8 0 x) h = 9 := by rw [tg_mk, if_neg ne]; exact th
  have tx : tg (mkT T 8 0 x) x = 8 := by rw [tg_mk, if_pos rfl]
  refine ⟨tx, 1, n, by omega, by omega, s_X7_init tx hn (fun T3 M3 y k3 hy ty ly c70 c71 => ?_)⟩
  have kh := k3 h (by rw [th2]; decide)
  have kx := k3 x (by rw [tx]; decide)
  have sh := kh.2 ne
  have hy0 : tg T y = 0 := by
    rw [tg_mk] at hy
    by_cases c : y = x
    · rw [if_pos c] at hy; exact absurd hy (by decide)
    · rw [if_neg c] at hy; exact hy
  have m1 : sm7 M1 (mkM M1 x) h := ((xE_mk (E := fun _ => False) (T := T) M1 8 0 hx) h (by rw [th]; decide)).2 (fun z => z)
  have sh2 := sm7_tr m1 sh
  refine ⟨kh.1.1.trans th2, nm_e (nm_e ⟨by omega, by omega, k _ _ x y ?_ hx hy0 ⟨⟨kh.1.1.trans th2, kx.1.1.trans tx, ty, ly⟩, ?_, ?_, ?_, ?_, ⟨?_, ?_, ?_⟩, ?_, ?_⟩⟩)⟩
  · refine xE_dr (E := fun a => a = h ∨ a = x) (xE_tr (xE_dr x1 (fun e he => Or.inr (Or.inl he))) (xE_tr (xE_mk M1 8 0 hx) (xE_tr (xE_dr k3 (fun e he => Or.inr (Or.inr he))) (xE_tr (xE_sR 84 (some x) (Or.inl rfl)) (xE_sR 86 it (Or.inl rfl)))))) (fun e he => he.elim Or.inr (fun z => Or.inl (by rw [z]; exact hx)))
  · rw [cR_sR, if_neg (fun z => absurd z.1 (by decide)), cR_sR, if_pos ⟨rfl, rfl⟩]
  · rw [cR_sR, if_pos ⟨rfl, rfl⟩]
  · rw [cR_sR, if_neg (fun z => absurd z.1 (by decide)), cR_sR, if_neg (fun z => absurd z.1 (by decide))]; exact c70
  · exact c71
  · exact (sh2.1 80).trans i1.1
  · exact (sh2.1 83).trans i1.2.1
  · exact (sh2.1 85).trans i1.2.2
  · exact (sh2.2.1 81).trans j1
  · exact (sh2.2.2.1 82).trans d1
end MK
