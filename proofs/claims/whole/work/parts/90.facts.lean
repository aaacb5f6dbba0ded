/-! the start: what the Statement gives of it -/
abbrev stG : Cond := Jvm.Cond.and given_1 narrow_1
def stO (i : Nat) : String := if i < 10 then "IdlCaller$Name" else if i = 10 then RX6 else if i = 11 then RX8 else RX10
def stK (i : Nat) : Nat := ([71, 77, 84, 89, 96, 103, 106, 109, 112, 115, 99, 46, 117, 125, 138, 140, 69, 102, 115, 156, 165, 167, 175, 180, 221] : List Nat).getD i 0
def stT (i : Nat) : Term := .string (stO i) (stK i)
def stV (i : Nat) : Term := .field (stT i) "java/lang/String" "value" "[B"
def stE (i : Nat) : Term := .static "IdlCaller$Name" (nmN.getD i "") "LIdlCaller$Name;"
def stN : Term := .static RX10 "NAMES" "[LIdlCaller$Name;"
def st_pE (i : Nat) : Nat := ([44, 56, 62, 68, 74, 50, 80, 36, 30, 24] : List Nat).getD i 0
def st_pO (i : Nat) : Nat := ([45, 57, 63, 69, 75, 51, 81, 37, 31, 25] : List Nat).getD i 0
def st_pL (i : Nat) : Nat := ([46, 58, 64, 70, 76, 52, 82, 38, 32, 26] : List Nat).getD i 0
def st_pS (i : Nat) : Nat := ([47, 59, 65, 71, 77, 53, 83, 39, 33, 27] : List Nat).getD i 0
def st_pA (i : Nat) : Nat := ([48, 60, 66, 72, 78, 54, 84, 40, 34, 28] : List Nat).getD i 0
def st_pM (i : Nat) : Nat := ([49, 61, 67, 73, 79, 55, 85, 41, 35, 29] : List Nat).getD i 0
def st_pN (i : Nat) : Nat := ([14, 15, 16, 17, 18, 19, 20, 21, 22, 23] : List Nat).getD i 0
def st_pT (i : Nat) : Nat := ([606, 627, 635, 644, 653, 617, 661, 599, 591, 583, 123, 110, 263, 277, 285, 294, 135, 183, 214, 302, 368, 394, 418, 477, 528] : List Nat).getD i 0
theorem st_at {args : Array Value} {s : State} (h : stG.before args s = true) {k : Nat} {c : Cond} (e : (flatC stG)[k]? = some c) : c.before args s = true := flat_of_before _ h _ (List.mem_of_getElem? e)
theorem st_fE {i : Nat} (hi : i < 10) : (flatC stG)[st_pE i]? = some (Cond.exactly (stE i) "IdlCaller$Name") := co_dec (N := 10) (P := fun i => (flatC stG)[st_pE i]? = some (Cond.exactly (stE i) "IdlCaller$Name")) (by decide +kernel) hi
theorem st_fO {i : Nat} (hi : i < 10) : (flatC stG)[st_pO i]? = some (Cond.eq (.field (stE i) "java/lang/Enum" "ordinal" "I") (.int (Int32.ofNat i))) := co_dec (N := 10) (P := fun i => (flatC stG)[st_pO i]? = some (Cond.eq (.field (stE i) "java/lang/Enum" "ordinal" "I") (.int (Int32.ofNat i)))) (by decide +kernel) hi
theorem st_fL {i : Nat} (hi : i < 10) : (flatC stG)[st_pL i]? = some (Cond.eq (.field (stE i) "IdlCaller$Name" "letters" "Ljava/lang/String;") (stT i)) := co_dec (N := 10) (P := fun i => (flatC stG)[st_pL i]? = some (Cond.eq (.field (stE i) "IdlCaller$Name" "letters" "Ljava/lang/String;") (stT i))) (by decide +kernel) hi
theorem st_fS {i : Nat} (hi : i < 10) : (flatC stG)[st_pS i]? = some (Cond.eq (.field (stE i) "IdlCaller$Name" "sort" "I") (.int (nSort i))) := co_dec (N := 10) (P := fun i => (flatC stG)[st_pS i]? = some (Cond.eq (.field (stE i) "IdlCaller$Name" "sort" "I") (.int (nSort i)))) (by decide +kernel) hi
theorem st_fA {i : Nat} (hi : i < 10) : (flatC stG)[st_pA i]? = some (Cond.eq (.field (stE i) "IdlCaller$Name" "least" "J") (.long (nLeast i))) := co_dec (N := 10) (P := fun i => (flatC stG)[st_pA i]? = some (Cond.eq (.field (stE i) "IdlCaller$Name" "least" "J") (.long (nLeast i)))) (by decide +kernel) hi
theorem st_fM {i : Nat} (hi : i < 10) : (flatC stG)[st_pM i]? = some (Cond.eq (.field (stE i) "IdlCaller$Name" "most" "J") (.long (nMost i))) := co_dec (N := 10) (P := fun i => (flatC stG)[st_pM i]? = some (Cond.eq (.field (stE i) "IdlCaller$Name" "most" "J") (.long (nMost i)))) (by decide +kernel) hi
theorem st_fN {i : Nat} (hi : i < 10) : (flatC stG)[st_pN i]? = some (Cond.eq (.elem stN (.int (Int32.ofNat i))) (stE i)) := co_dec (N := 10) (P := fun i => (flatC stG)[st_pN i]? = some (Cond.eq (.elem stN (.int (Int32.ofNat i))) (stE i))) (by decide +kernel) hi
theorem st_fT {i : Nat} (hi : i < 25) : (flatC stG)[st_pT i]? = some (Cond.exactly (stT i) "java/lang/String") := co_dec (N := 25) (P := fun i => (flatC stG)[st_pT i]? = some (Cond.exactly (stT i) "java/lang/String")) (by decide +kernel) hi
theorem st_fC {i : Nat} (hi : i < 16) : (flatC stG)[st_pT i + 1]? = some (Cond.eq (.field (stT i) "java/lang/String" "coder" "B") (.int 0)) := co_dec (N := 16) (P := fun i => (flatC stG)[st_pT i + 1]? = some (Cond.eq (.field (stT i) "java/lang/String" "coder" "B") (.int 0))) (by decide +kernel) hi
theorem st_fB {i : Nat} (hi : i < 16) : (flatC stG)[st_pT i + 2]? = some (Cond.arrayOf (stV i) .byte) := co_dec (N := 16) (P := fun i => (flatC stG)[st_pT i + 2]? = some (Cond.arrayOf (stV i) .byte)) (by decide +kernel) hi
theorem st_fG {i : Nat} (hi : i < 16) : (flatC stG)[st_pT i + 3]? = some (Cond.eq (.length (stV i)) (.int (Int32.ofNat (sLen i)))) := co_dec (N := 16) (P := fun i => (flatC stG)[st_pT i + 3]? = some (Cond.eq (.length (stV i)) (.int (Int32.ofNat (sLen i))))) (by decide +kernel) hi
theorem st_fJ {i j : Nat} (hi : i < 16) (hj : j < sLen i) : (flatC stG)[st_pT i + 4 + j]? = some (Cond.eq (.elem (stV i) (.int (Int32.ofNat j))) (.int (sByte i j))) := by
  have h1 := co_dec (N := 16) (P := fun i => (List.range (sLen i)).all (fun j => decide ((flatC stG)[st_pT i + 4 + j]? = some (Cond.eq (.elem (stV i) (.int (Int32.ofNat j))) (.int (sByte i j))))) = true) (by decide +kernel) hi
  exact co_dec (P := fun j => (flatC stG)[st_pT i + 4 + j]? = some (Cond.eq (.elem (stV i) (.int (Int32.ofNat j))) (.int (sByte i j)))) h1 hj
theorem st_OF {args : Array Value} {s : State} {t : Term} {a : Nat} {o n d : String} {v : Value} {A : Nat → Prop} (ht : t.eval args s none [] s = some (.ref a)) (hv : (Term.field t o n d).eval args s none [] s = some v) (hA : ∀ a : Nat, a < s.heap.size → ¬ A a) : va_OF o n d v a A s s.heap := by
  cases hfo : s.fieldFound? o n d with
  | none =>
    rw [va_fe ht] at hv
    simp [State.fieldOf?, State.fieldNamed?, hfo] at hv
  | some x =>
    obtain ⟨cf, k, fi, f⟩ := x
    obtain ⟨g1, cell, g2, g3, -, -, g6⟩ := Term.field_spec hfo ht hv
    exact ⟨cf, k, fi, f, cell, hfo, g1, g2, g3, g6, hA _ (Array.getElem?_eq_some_iff.mp g2).1⟩
theorem st_ex {args : Array Value} {s : State} {t : Term} {E : String} {A : Nat → Prop} (h : (Cond.exactly t E).before args s = true) (hA : ∀ a : Nat, a < s.heap.size → ¬ A a) : ∃ a : Nat, t.eval args s none [] s = some (.ref a) ∧ va_O E a A s s.heap := by
  obtain ⟨a, c, cell, k, q1, q2, q3, q4, q5, q6, -⟩ := Cond.exactly_spec h
  exact ⟨a, q1, cell, q3, q5, by rw [q6]; exact q2, hA a (Array.getElem?_eq_some_iff.mp q3).1⟩
theorem st_prim {args : Array Value} {s : State} {ty : FieldType} (h : (Cond.arrayClass ty).before args s = true) : ∃ c : ClassId, ArrOfT s c ty ∧ s.vm.findClass ("[" ++ ty.toString) = some c := by
  obtain ⟨c, k, comp, h1, h2, h3⟩ := Cond.arrayClass_spec h
  exact ⟨c, fun n z => ⟨fun k z => (by cases z), k, h2, comp, h3⟩, h1⟩
theorem st_over {args : Array Value} {s : State} {C : String} (h : (Cond.arrayOver (.object C)).before args s = true) : ∃ c : ClassId, ArrOfT s c (.object C) ∧ va_RA s c (.object C) := by
  obtain ⟨comp, c, k, h1, h2, h3, h4, h5⟩ := Cond.arrayOver_spec h
  exact ⟨c, fun n z => ⟨fun k z => (by cases z), k, h3, comp, h4⟩, k, comp, h3, h4, h1, h5⟩
theorem st_kA {args : Array Value} {s : State} (hts : ∀ w ∈ lw_tbl, w.before args s = true) : ∃ kA : Nat → ClassId, ∀ (k : Nat) (q : ClassId × FieldType), (ty_all kA)[k]? = some q → ArrOfT s q.1 q.2 ∧ va_RA s q.1 q.2 := by
  obtain ⟨c0, a0, b0⟩ := st_prim (hts _ (List.mem_append_right _ (List.mem_of_getElem? (i := 52) (by decide +kernel))) : (Cond.arrayClass .char).before args s = true)
  obtain ⟨c1, a1, b1⟩ := st_prim (hts _ (List.mem_append_right _ (List.mem_of_getElem? (i := 1009) (by decide +kernel))) : (Cond.arrayClass .double).before args s = true)
  obtain ⟨c2, a2, b2⟩ := st_prim (hts _ (List.mem_append_right _ (List.mem_of_getElem? (i := 82) (by decide +kernel))) : (Cond.arrayClass .int).before args s = true)
  obtain ⟨c3, a3, b3⟩ := st_prim (hts _ (List.mem_append_right _ (List.mem_of_getElem? (i := 406) (by decide +kernel))) : (Cond.arrayClass .long).before args s = true)
  obtain ⟨c4, a4, b4⟩ := st_prim (hts _ (List.mem_append_right _ (List.mem_of_getElem? (i := 1008) (by decide +kernel))) : (Cond.arrayClass .boolean).before args s = true)
  obtain ⟨c5, a5, b5⟩ := st_over (hts _ (List.mem_append_right _ (List.mem_of_getElem? (i := 299) (by decide +kernel))) : (Cond.arrayOver (.object "IdlCaller$Argument")).before args s = true)
  obtain ⟨c6, a6, b6⟩ := st_over (hts _ (List.mem_append_right _ (List.mem_of_getElem? (i := 217) (by decide +kernel))) : (Cond.arrayOver (.object "IdlCaller$Form")).before args s = true)
  obtain ⟨c7, a7, b7⟩ := st_over (hts _ (List.mem_append_right _ (List.mem_of_getElem? (i := 84) (by decide +kernel))) : (Cond.arrayOver (.object "IdlCaller$Operation")).before args s = true)
  obtain ⟨c8, a8, b8⟩ := st_over (hts _ (List.mem_append_right _ (List.mem_of_getElem? (i := 89) (by decide +kernel))) : (Cond.arrayOver (.object "IdlCaller$Thing")).before args s = true)
  refine ⟨fun k => match k with | 0 => c0 | 1 => c1 | 2 => c2 | 3 => c3 | 4 => c4 | 5 => c5 | 6 => c6 | 7 => c7 | _ => c8, fun k q hq => ?_⟩
  match k, hq with
  | 0, hq => cases hq; exact ⟨a0, b0⟩
  | 1, hq => cases hq; exact ⟨a1, b1⟩
  | 2, hq => cases hq; exact ⟨a2, b2⟩
  | 3, hq => cases hq; exact ⟨a3, b3⟩
  | 4, hq => cases hq; exact ⟨a4, b4⟩
  | 5, hq => cases hq; exact ⟨a5, b5⟩
  | 6, hq => cases hq; exact ⟨a6, b6⟩
  | 7, hq => cases hq; exact ⟨a7, b7⟩
  | 8, hq => cases hq; exact ⟨a8, b8⟩
  | k + 9, hq => exact absurd hq (by simp [ty_all])
theorem st_D {args : Array Value} {s : State} (hts : ∀ w ∈ lw_tbl, w.before args s = true) : ∃ D : va_G, ∀ (k : Nat) (q : vw_C), vwCl[k]? = some q → u_Kn s q.1 q.2.1 q.2.2 (D.1 k) (D.2 k) := by
  obtain ⟨c0, i0, h0⟩ := u_known (C := RX0) (T := TX0) (N := 3) (n := 3) hts wsL_in_wsX00 (hts _ (List.mem_append_right _ (List.mem_of_getElem? (i := 408) (by decide +kernel))))
  obtain ⟨c1, i1, h1⟩ := u_known (C := RX2) (T := TX2) (N := 5) (n := 5) hts wsL_in_wsX20 (hts _ (List.mem_append_right _ (List.mem_of_getElem? (i := 293) (by decide +kernel))))
  obtain ⟨c2, i2, h2⟩ := u_known (C := RX4) (T := TX4) (N := 1) (n := 1) hts wsL_in_wsX40 (hts _ (List.mem_append_right _ (List.mem_of_getElem? (i := 200) (by decide +kernel))))
  obtain ⟨c3, i3, h3⟩ := u_known (C := RX5) (T := TX5) (N := 4) (n := 4) hts wsL_in_wsX50 (hts _ (List.mem_append_right _ (List.mem_of_getElem? (i := 211) (by decide +kernel))))
  obtain ⟨c4, i4, h4⟩ := u_known (C := RX6) (T := TX6) (N := 7) (n := 7) hts wsL_in_wsX60 (hts _ (List.mem_append_right _ (List.mem_of_getElem? (i := 54) (by decide +kernel))))
  obtain ⟨c5, i5, h5⟩ := u_known (C := RX7) (T := TX7) (N := 2) (n := 2) hts wsL_in_wsX70 (hts _ (List.mem_append_right _ (List.mem_of_getElem? (i := 33) (by decide +kernel))))
  obtain ⟨c6, i6, h6⟩ := u_known (C := RX8) (T := TX8) (N := 7) (n := 7) hts wsL_in_wsX80 (hts _ (List.mem_append_right _ (List.mem_of_getElem? (i := 94) (by decide +kernel))))
  obtain ⟨c7, i7, h7⟩ := u_known (C := RX9) (T := TX9) (N := 5) (n := 5) hts wsL_in_wsX90 (hts _ (List.mem_append_right _ (List.mem_of_getElem? (i := 379) (by decide +kernel))))
  obtain ⟨c8, i8, h8⟩ := u_known (C := RX10) (T := TX10) (N := 9) (n := 9) hts wsL_in_wsX100 (hts _ (List.mem_append_right _ (List.mem_of_getElem? (i := 25) (by decide +kernel))))
  obtain ⟨c9, i9, h9⟩ := u_known (C := RX11) (T := TX11) (N := 28) (n := 28) hts wsL_in_wsX110 (hts _ (List.mem_append_right _ (List.mem_of_getElem? (i := 918) (by decide +kernel))))
  refine ⟨(fun k => match k with | 0 => c0 | 1 => c1 | 2 => c2 | 3 => c3 | 4 => c4 | 5 => c5 | 6 => c6 | 7 => c7 | 8 => c8 | _ => c9, fun k => match k with | 0 => i0 | 1 => i1 | 2 => i2 | 3 => i3 | 4 => i4 | 5 => i5 | 6 => i6 | 7 => i7 | 8 => i8 | _ => i9), fun k q hq => ?_⟩
  match k, hq with
  | 0, hq => cases hq; exact h0
  | 1, hq => cases hq; exact h1
  | 2, hq => cases hq; exact h2
  | 3, hq => cases hq; exact h3
  | 4, hq => cases hq; exact h4
  | 5, hq => cases hq; exact h5
  | 6, hq => cases hq; exact h6
  | 7, hq => cases hq; exact h7
  | 8, hq => cases hq; exact h8
  | 9, hq => cases hq; exact h9
  | k + 10, hq => exact absurd hq (by simp [vwCl])
set_option maxHeartbeats 4000000 in
theorem st_cSt {args : Array Value} {s : State} (hts : ∀ w ∈ lw_tbl, w.before args s = true) (hG : stG.before args s = true) : ∃ (nm : Nat → Nat) (na : Nat) (sa sv : Nat → Nat), cSt nm na sa sv (fun q : Nat => s.heap.size ≤ q) s s.heap ∧ ∀ i j, i < 10 → j < 10 → nm i = nm j → i = j := by
  have hA : ∀ a : Nat, a < s.heap.size → ¬ (fun q : Nat => s.heap.size ≤ q) a := fun a h => Nat.not_le.mpr h
  obtain ⟨nm, hnm⟩ := Classical.axiomOfChoice (r := fun (i t : Nat) => i < 10 → (stE i).eval args s none [] s = some (.ref t) ∧ va_O "IdlCaller$Name" t (fun q : Nat => s.heap.size ≤ q) s s.heap) (fun i => by
    by_cases hi : i < 10
    · obtain ⟨a, h1, h2⟩ := st_ex (st_at hG (st_fE hi)) hA
      exact ⟨a, fun _ => ⟨h1, h2⟩⟩
    · exact ⟨0, fun h => absurd h hi⟩)
  obtain ⟨sa, hsa⟩ := Classical.axiomOfChoice (r := fun (i t : Nat) => i < 25 → (stT i).eval args s none [] s = some (.ref t) ∧ va_O "java/lang/String" t (fun q : Nat => s.heap.size ≤ q) s s.heap) (fun i => by
    by_cases hi : i < 25
    · obtain ⟨a, h1, h2⟩ := st_ex (st_at hG (st_fT hi)) hA
      exact ⟨a, fun _ => ⟨h1, h2⟩⟩
    · exact ⟨0, fun h => absurd h hi⟩)
  obtain ⟨sv, hsv⟩ := Classical.axiomOfChoice (r := fun (i t : Nat) => i < 16 → (stV i).eval args s none [] s = some (.ref t) ∧ va_T .byte t (sLen i) (fun j => .int (sByte i j)) (fun q : Nat => s.heap.size ≤ q) s s.heap) (fun i => by
    by_cases hi : i < 16
    · obtain ⟨a, h1, h2⟩ := va_Tof (tm := stV i) (N := sLen i) (f := fun j => .int (sByte i j)) (Nat.lt_of_le_of_lt (sLen_le hi) (by decide)) (st_at hG (st_fB hi)) (va_eqt (st_at hG (st_fG hi))) (fun j hj => va_eqt (st_at hG (st_fJ hi hj))) hA
      exact ⟨a, fun _ => ⟨h1, h2⟩⟩
    · exact ⟨0, fun h => absurd h hi⟩)
  have inj : ∀ i j, i < 10 → j < 10 → nm i = nm j → i = j := fun i j hi hj e => by
    have a := va_eqt (st_at hG (st_fO hi))
    have b := va_eqt (st_at hG (st_fO hj))
    rw [va_fe (hnm i hi).1, e] at a
    rw [va_fe (hnm j hj).1, a] at b
    have c : Int32.ofNat i = Int32.ofNat j := by
      have := Option.some.inj b
      injection this
    have d := congrArg Int32.toNatClampNeg c
    have f : ∀ k, k < 10 → (Int32.ofNat k).toNatClampNeg = k := fun k hk => co_dec (N := 10) (P := fun k => (Int32.ofNat k).toNatClampNeg = k) (by decide +kernel) hk
    rw [f i hi, f j hj] at d
    exact d
  obtain ⟨na, hna, hta⟩ := va_Tof (tm := stN) (ty := .object "IdlCaller$Name") (N := 10) (f := fun j => .ref (nm j)) (by decide) (st_at hG (k := 11) (by decide +kernel)) (va_eqt (st_at hG (k := 12) (by decide +kernel))) (fun j hj => va_eqv (st_at hG (st_fN hj)) (hnm j hj).1) hA
  have hlay : ∀ i, i < 10 → (Cond.laysStatic "IdlCaller$Name" (nmN.getD i "") "LIdlCaller$Name;").before args s = true := fun i hi => by
    match i, hi with
    | 0, _ => exact hts _ (List.mem_append_right _ (List.mem_of_getElem? (i := 836) (by decide +kernel)))
    | 1, _ => exact hts _ (List.mem_append_right _ (List.mem_of_getElem? (i := 1338) (by decide +kernel)))
    | 2, _ => exact hts _ (List.mem_append_right _ (List.mem_of_getElem? (i := 1339) (by decide +kernel)))
    | 3, _ => exact hts _ (List.mem_append_right _ (List.mem_of_getElem? (i := 1340) (by decide +kernel)))
    | 4, _ => exact hts _ (List.mem_append_right _ (List.mem_of_getElem? (i := 1341) (by decide +kernel)))
    | 5, _ => exact hts _ (List.mem_append_right _ (List.mem_of_getElem? (i := 846) (by decide +kernel)))
    | 6, _ => exact hts _ (List.mem_append_right _ (List.mem_of_getElem? (i := 1342) (by decide +kernel)))
    | 7, _ => exact hts _ (List.mem_append_right _ (List.mem_of_getElem? (i := 377) (by decide +kernel)))
    | 8, _ => exact hts _ (List.mem_append_right _ (List.mem_of_getElem? (i := 368) (by decide +kernel)))
    | 9, _ => exact hts _ (List.mem_append_right _ (List.mem_of_getElem? (i := 366) (by decide +kernel)))
  have hini : (Cond.initialized "IdlCaller$Name").before args s = true := hts _ (List.mem_append_right _ (List.mem_of_getElem? (i := 19) (by decide +kernel)))
  refine ⟨nm, na, sa, sv, ⟨⟨fun i hi => ⟨va_Zref (hlay i hi) hini (hnm i hi).1 hA, (hnm i hi).2, fun q hq => ?_⟩, fun i j hi hj => inj i j hi hj⟩, fun i hi => st_OF (hnm i hi).1 (va_eqtl (st_at hG (st_fA hi))) hA, fun i hi => st_OF (hnm i hi).1 (va_eqtl (st_at hG (st_fM hi))) hA, fun i hi => st_OF (hnm i hi).1 (va_eqv (st_at hG (st_fL hi)) (hsa i (by omega)).1) hA, va_Zref (hts _ (List.mem_append_right _ (List.mem_of_getElem? (i := 360) (by decide +kernel)))) (hts _ (List.mem_append_right _ (List.mem_of_getElem? (i := 1) (by decide +kernel)))) hna hA, hta, fun i hi => (hsa i (by omega)).2, fun i hi => st_OF (hsa i (by omega)).1 (va_eqt (st_at hG (st_fC hi))) hA, fun i hi => st_OF (hsa i (by omega)).1 (hsv i hi).1 hA, fun i hi => (hsv i hi).2, va_Zof (hts _ (List.mem_append_right _ (List.mem_of_getElem? (i := 156) (by decide +kernel)))) (hts _ (List.mem_append_right _ (List.mem_of_getElem? (i := 6) (by decide +kernel)))) (va_eqt (st_at hG (k := 4) (by decide +kernel))) hA, va_Zqof (hts _ (List.mem_append_right _ (List.mem_of_getElem? (i := 172) (by decide +kernel)))) (hts _ (List.mem_append_right _ (List.mem_of_getElem? (i := 8) (by decide +kernel)))) (st_at hG (k := 5) (by decide +kernel)) hA, vx_Zqof (hts _ (List.mem_append_right _ (List.mem_of_getElem? (i := 599) (by decide +kernel)))) (hts _ (List.mem_append_right _ (List.mem_of_getElem? (i := 13) (by decide +kernel)))) (st_at hG (k := 42) (by decide +kernel)) hA, vx_Zqof (hts _ (List.mem_append_right _ (List.mem_of_getElem? (i := 601) (by decide +kernel)))) (hts _ (List.mem_append_right _ (List.mem_of_getElem? (i := 13) (by decide +kernel)))) (st_at hG (k := 43) (by decide +kernel)) hA, ?_⟩, inj⟩
  · cases List.mem_singleton.mp hq
    exact st_OF (hnm i hi).1 (va_eqt (st_at hG (st_fS hi))) hA
  · exact ⟨va_Nw.of rfl (hts _ (List.mem_append_right _ (List.mem_of_getElem? (i := 55) (by decide +kernel)))), va_Nw.of rfl (hts _ (List.mem_append_right _ (List.mem_of_getElem? (i := 201) (by decide +kernel)))), va_Nw.of rfl (hts _ (List.mem_append_right _ (List.mem_of_getElem? (i := 212) (by decide +kernel)))), va_Nw.of rfl (hts _ (List.mem_append_right _ (List.mem_of_getElem? (i := 543) (by decide +kernel)))), va_Nw.of rfl (hts _ (List.mem_append_right _ (List.mem_of_getElem? (i := 359) (by decide +kernel)))), vk_R.of (hts _ (List.mem_append_right _ (List.mem_of_getElem? (i := 343) (by decide +kernel)))) (hsa 10 (by decide)).1, vk_R.of (hts _ (List.mem_append_right _ (List.mem_of_getElem? (i := 134) (by decide +kernel)))) (hsa 11 (by decide)).1, vk_R.of (hts _ (List.mem_append_right _ (List.mem_of_getElem? (i := 678) (by decide +kernel)))) (hsa 12 (by decide)).1, vk_R.of (hts _ (List.mem_append_right _ (List.mem_of_getElem? (i := 680) (by decide +kernel)))) (hsa 13 (by decide)).1, vk_R.of (hts _ (List.mem_append_right _ (List.mem_of_getElem? (i := 689) (by decide +kernel)))) (hsa 14 (by decide)).1, vk_R.of (hts _ (List.mem_append_right _ (List.mem_of_getElem? (i := 690) (by decide +kernel)))) (hsa 15 (by decide)).1, va_AO.of (hts _ (List.mem_append_right _ (List.mem_of_getElem? (i := 299) (by decide +kernel)))), va_AO.of (hts _ (List.mem_append_right _ (List.mem_of_getElem? (i := 217) (by decide +kernel)))), va_AO.of (hts _ (List.mem_append_right _ (List.mem_of_getElem? (i := 84) (by decide +kernel)))), va_AO.of (hts _ (List.mem_append_right _ (List.mem_of_getElem? (i := 89) (by decide +kernel)))), va_Nw.of rfl (hts _ (List.mem_append_right _ (List.mem_of_getElem? (i := 652) (by decide +kernel)))), va_Nw.of rfl (hts _ (List.mem_append_right _ (List.mem_of_getElem? (i := 574) (by decide +kernel)))), va_Nc.of (st_at hG (k := 105) (by decide +kernel)), va_Nw.of rfl (hts _ (List.mem_append_right _ (List.mem_of_getElem? (i := 576) (by decide +kernel)))), va_Nw.of rfl (hts _ (List.mem_append_right _ (List.mem_of_getElem? (i := 578) (by decide +kernel)))), va_Nw.of rfl (hts _ (List.mem_append_right _ (List.mem_of_getElem? (i := 580) (by decide +kernel)))), vk_R.of (hts _ (List.mem_append_right _ (List.mem_of_getElem? (i := 612) (by decide +kernel)))) (hsa 16 (by decide)).1, vk_R.of (hts _ (List.mem_append_right _ (List.mem_of_getElem? (i := 659) (by decide +kernel)))) (hsa 17 (by decide)).1, vk_R.of (hts _ (List.mem_append_right _ (List.mem_of_getElem? (i := 677) (by decide +kernel)))) (hsa 18 (by decide)).1, vk_R.of (hts _ (List.mem_append_right _ (List.mem_of_getElem? (i := 732) (by decide +kernel)))) (hsa 19 (by decide)).1, vk_R.of (hts _ (List.mem_append_right _ (List.mem_of_getElem? (i := 760) (by decide +kernel)))) (hsa 20 (by decide)).1, vk_R.of (hts _ (List.mem_append_right _ (List.mem_of_getElem? (i := 768) (by decide +kernel)))) (hsa 21 (by decide)).1, vk_R.of (hts _ (List.mem_append_right _ (List.mem_of_getElem? (i := 769) (by decide +kernel)))) (hsa 22 (by decide)).1, vk_R.of (hts _ (List.mem_append_right _ (List.mem_of_getElem? (i := 799) (by decide +kernel)))) (hsa 23 (by decide)).1, vk_R.of (hts _ (List.mem_append_right _ (List.mem_of_getElem? (i := 910) (by decide +kernel)))) (hsa 24 (by decide)).1⟩
