/-- both worlds, apart -/
def lH (D : va_G) (kA : Nat → ClassId) (hm : Nat) (ad : Nat → Nat) (A : Nat → Prop) (H0 : Heap) (T : LY) (M : CM) (N : RM) (H : Heap) (locs : List Loc) : Prop := cP D kA A T M H ∧ va_P D vwCl (rw_W kA hm ad N) H ∧ va_D A (rw_W kA hm ad N) ∧ (∀ (k : Nat) (q : Nat × va_E), (rw_W kA hm ad N)[k]? = some q → tg T q.1 = 0) ∧ va_S A H0 H locs
section LAWW
variable {p : Program} {l : Launch} {e : Env} {R : Room} {s : State} {m : MethodId} {args : Array Value} {below : List Frame} {meth : Method} {c : Code} {H : Heap} {locs : List Loc} {cells slots : Nat} {Q : State → Prop}
variable {pc : Nat} {ls : Array Slot} {rest : List Value} {D : va_G} {kA : Nat → ClassId} {hm : Nat} {ad : Nat → Nat} {A : Nat → Prop} {T : LY} {M : CM} {N : RM} {H0 : Heap}
theorem lH_toC (h : lH D kA hm ad A H0 T M N H locs) : cH D kA A H0 T M H locs := ⟨h.1, h.2.2.2.2⟩
theorem lH_toR (h : lH D kA hm ad A H0 T M N H locs) : rH D kA hm ad A H0 N H locs := ⟨h.2.1, h.2.2.1, h.2.2.2.2⟩
theorem rw_addr {N1 : RM} {k : Nat} {q : Nat × va_E} (h : (rw_W kA hm ad N1)[k]? = some q) : ∃ e, (rw_W kA hm ad N)[k]? = some (q.1, e) := by
  have h1 : ((rw_W kA hm ad N1).map Prod.fst)[k]? = some q.1 := by rw [List.getElem?_map, h]; rfl
  have h2 : (rw_W kA hm ad N1).map Prod.fst = (rw_W kA hm ad N).map Prod.fst := rfl
  rw [h2, List.getElem?_map] at h1
  cases hq : (rw_W kA hm ad N)[k]? with
  | none => rw [hq] at h1; cases h1
  | some z =>
    rw [hq] at h1
    obtain ⟨a, e⟩ := z
    have : a = q.1 := Option.some.inj h1
    exact ⟨e, by rw [this]⟩
theorem l_fromC (hH : lH D kA hm ad A H0 T M N H locs) (hA : ∀ q, H0.size ≤ q → A q) {T1 : LY} {M1 : CM} {H1 : Heap} {locs1 : List Loc} (hk : ∀ q : Nat, q < H.size → ¬ cF T H.size q → H1[q]? = H[q]?) (hB : cP D kA (cF T H.size) T1 M1 H1) (hS : va_S A H0 H1 locs1) : lH D kA hm ad A H0 T1 M1 N H1 locs1 := by
  have hn : ∀ (k : Nat) (q : Nat × va_E), (rw_W kA hm ad N)[k]? = some q → ¬ cF T H.size q.1 := fun k q hq z => by
    have hlt := (hH.2.1 k q hq).lt
    rcases z with z | z
    · exact z (hH.2.2.2.1 k q hq)
    · omega
  refine ⟨hB.weaken (c_free (lH_toC hH) hA), hH.2.1.kept (fun k q hq => hk q.1 ((hH.2.1 k q hq).lt) (hn k q hq)), hH.2.2.1, fun k q hq => ?_, hS⟩
  obtain ⟨L, hP1, hD1, hL1⟩ := hB
  by_cases hz : tg T1 q.1 = 0
  · exact hz
  · obtain ⟨j, hj⟩ := va_pl_get (X := []) (f := Ent kA T1 M1) ((hL1 q.1).mp hz)
    exact absurd (hD1.2 j _ hj) (hn k q hq)
theorem l_fromR (hH : lH D kA hm ad A H0 T M N H locs) (hA : ∀ q, H0.size ≤ q → A q) {N1 : RM} {H1 : Heap} {locs1 : List Loc} (hk : ∀ q : Nat, q < H.size → ¬ rF kA hm ad N H.size q → H1[q]? = H[q]?) (hP1 : va_P D vwCl (rw_W kA hm ad N1) H1) (hD1 : va_D (rF kA hm ad N H.size) (rw_W kA hm ad N1)) (hS : va_S A H0 H1 locs1) : lH D kA hm ad A H0 T M N1 H1 locs1 := by
  refine ⟨?_, hP1, hD1.weaken (fun _ q _ hq => r_free (lH_toR hH) hA q.1 hq), fun k q hq => ?_, hS⟩
  · obtain ⟨L, hP, hD, hL⟩ := hH.1
    refine ⟨L, hP.kept (fun k q hq => hk q.1 ((hP k q hq).lt) (fun z => ?_)), hD, hL⟩
    have hlt := (hP k q hq).lt
    rw [List.nil_append] at hq
    obtain ⟨b, hb, e⟩ := List.mem_map.mp (List.mem_of_getElem? hq)
    have hq0 : tg T q.1 ≠ 0 := by rw [← e]; exact (hL b).mpr hb
    rcases z with ⟨j, e9, hj⟩ | z
    · exact hq0 (hH.2.2.2.1 j (q.1, e9) hj)
    · omega
  · obtain ⟨e, he⟩ := rw_addr (N := N) hq
    exact hH.2.2.2.1 k (q.1, e) he
theorem lc_calli {st0 : List Value} {a : Array Value} {mc ms : Nat} {Qr : Int32 → CM → Prop} (hr : va_Run p l e R s m args below meth c H locs cells slots mc ms (F0 m pc ls st0) rest (va_Qi Qr (cB D kA (cF T H.size) T) (cF T H.size) a) (cF T H.size)) (hH : lH D kA hm ad A H0 T M N H locs) (hA : ∀ q, H0.size ≤ q → A q) (kk : ∀ (r : Int32) (M1 : CM) (H1 : Heap) (locs1 : List Loc), Qr r M1 → lH D kA hm ad A H0 T M1 N H1 locs1 → W p l e R s m args below meth c H1 locs1 (cells + mc) (slots + ms) Q (F0 m (pc + 3) ls (.int r :: rest))) : W p l e R s m args below meth c H locs cells slots Q (F0 m pc ls st0) :=
  va_calli hr hH.2.2.2.2 (fun q _ hq => c_free (lH_toC hH) hA q hq) (c_free (lH_toC hH) hA) (fun r u t H1 locs1 ht _ hw hB _ hk hS => kk r u H1 locs1 hw (l_fromC hH hA hk (ht ▸ hB.1) hS))
theorem lr_calli {st0 : List Value} {a : Array Value} {mc ms : Nat} {Qr : Int32 → RM → Prop} (hr : va_Run p l e R s m args below meth c H locs cells slots mc ms (F0 m pc ls st0) rest (va_Qi Qr (rB D kA hm ad (rF kA hm ad N H.size)) (rF kA hm ad N H.size) a) (rF kA hm ad N H.size)) (hH : lH D kA hm ad A H0 T M N H locs) (hA : ∀ q, H0.size ≤ q → A q) (kk : ∀ (r : Int32) (N1 : RM) (H1 : Heap) (locs1 : List Loc), Qr r N1 → lH D kA hm ad A H0 T M N1 H1 locs1 → W p l e R s m args below meth c H1 locs1 (cells + mc) (slots + ms) Q (F0 m (pc + 3) ls (.int r :: rest))) : W p l e R s m args below meth c H locs cells slots Q (F0 m pc ls st0) :=
  va_calli hr hH.2.2.2.2 (fun q _ hq => r_free (lH_toR hH) hA q hq) (r_free (lH_toR hH) hA) (fun r u t H1 locs1 ht _ hw hB _ hk hS => kk r u H1 locs1 hw (l_fromR hH hA hk (ht ▸ hB.1) hB.2.2 hS))
theorem lc_calll {st0 : List Value} {a : Array Value} {mc ms : Nat} {Qr : Int64 → CM → Prop} (hr : va_Run p l e R s m args below meth c H locs cells slots mc ms (F0 m pc ls st0) rest (va_Ql Qr (cB D kA (cF T H.size) T) (cF T H.size) a) (cF T H.size)) (hH : lH D kA hm ad A H0 T M N H locs) (hA : ∀ q, H0.size ≤ q → A q) (kk : ∀ (r : Int64) (M1 : CM) (H1 : Heap) (locs1 : List Loc), Qr r M1 → lH D kA hm ad A H0 T M1 N H1 locs1 → W p l e R s m args below meth c H1 locs1 (cells + mc) (slots + ms) Q (F0 m (pc + 3) ls (.long r :: rest))) : W p l e R s m args below meth c H locs cells slots Q (F0 m pc ls st0) :=
  va_calll hr hH.2.2.2.2 (fun q _ hq => c_free (lH_toC hH) hA q hq) (c_free (lH_toC hH) hA) (fun r u t H1 locs1 ht _ hw hB _ hk hS => kk r u H1 locs1 hw (l_fromC hH hA hk (ht ▸ hB.1) hS))
theorem lr_calll {st0 : List Value} {a : Array Value} {mc ms : Nat} {Qr : Int64 → RM → Prop} (hr : va_Run p l e R s m args below meth c H locs cells slots mc ms (F0 m pc ls st0) rest (va_Ql Qr (rB D kA hm ad (rF kA hm ad N H.size)) (rF kA hm ad N H.size) a) (rF kA hm ad N H.size)) (hH : lH D kA hm ad A H0 T M N H locs) (hA : ∀ q, H0.size ≤ q → A q) (kk : ∀ (r : Int64) (N1 : RM) (H1 : Heap) (locs1 : List Loc), Qr r N1 → lH D kA hm ad A H0 T M N1 H1 locs1 → W p l e R s m args below meth c H1 locs1 (cells + mc) (slots + ms) Q (F0 m (pc + 3) ls (.long r :: rest))) : W p l e R s m args below meth c H locs cells slots Q (F0 m pc ls st0) :=
  va_calll hr hH.2.2.2.2 (fun q _ hq => r_free (lH_toR hH) hA q hq) (r_free (lH_toR hH) hA) (fun r u t H1 locs1 ht _ hw hB _ hk hS => kk r u H1 locs1 hw (l_fromR hH hA hk (ht ▸ hB.1) hB.2.2 hS))
theorem lc_calld {st0 : List Value} {a : Array Value} {mc ms : Nat} {Qr : UInt64 → CM → Prop} (hr : va_Run p l e R s m args below meth c H locs cells slots mc ms (F0 m pc ls st0) rest (va_Qd Qr (cB D kA (cF T H.size) T) (cF T H.size) a) (cF T H.size)) (hH : lH D kA hm ad A H0 T M N H locs) (hA : ∀ q, H0.size ≤ q → A q) (kk : ∀ (r : UInt64) (M1 : CM) (H1 : Heap) (locs1 : List Loc), Qr r M1 → lH D kA hm ad A H0 T M1 N H1 locs1 → W p l e R s m args below meth c H1 locs1 (cells + mc) (slots + ms) Q (F0 m (pc + 3) ls (.double r :: rest))) : W p l e R s m args below meth c H locs cells slots Q (F0 m pc ls st0) :=
  va_calld hr hH.2.2.2.2 (fun q _ hq => c_free (lH_toC hH) hA q hq) (c_free (lH_toC hH) hA) (fun r u t H1 locs1 ht _ hw hB _ hk hS => kk r u H1 locs1 hw (l_fromC hH hA hk (ht ▸ hB.1) hS))
theorem lr_calld {st0 : List Value} {a : Array Value} {mc ms : Nat} {Qr : UInt64 → RM → Prop} (hr : va_Run p l e R s m args below meth c H locs cells slots mc ms (F0 m pc ls st0) rest (va_Qd Qr (rB D kA hm ad (rF kA hm ad N H.size)) (rF kA hm ad N H.size) a) (rF kA hm ad N H.size)) (hH : lH D kA hm ad A H0 T M N H locs) (hA : ∀ q, H0.size ≤ q → A q) (kk : ∀ (r : UInt64) (N1 : RM) (H1 : Heap) (locs1 : List Loc), Qr r N1 → lH D kA hm ad A H0 T M N1 H1 locs1 → W p l e R s m args below meth c H1 locs1 (cells + mc) (slots + ms) Q (F0 m (pc + 3) ls (.double r :: rest))) : W p l e R s m args below meth c H locs cells slots Q (F0 m pc ls st0) :=
  va_calld hr hH.2.2.2.2 (fun q _ hq => r_free (lH_toR hH) hA q hq) (r_free (lH_toR hH) hA) (fun r u t H1 locs1 ht _ hw hB _ hk hS => kk r u H1 locs1 hw (l_fromR hH hA hk (ht ▸ hB.1) hB.2.2 hS))
theorem lc_callTi {st0 : List Value} {a : Array Value} {mc ms : Nat} {Qr : Int32 → LY → CM → Prop} (hr : va_Run p l e R s m args below meth c H locs cells slots mc ms (F0 m pc ls st0) rest (va_Qi (fun r (u : LY × CM) => Qr r u.1 u.2) (cBT D kA (cF T H.size)) (cF T H.size) a) (cF T H.size)) (hH : lH D kA hm ad A H0 T M N H locs) (hA : ∀ q, H0.size ≤ q → A q) (kk : ∀ (r : Int32) (T1 : LY) (M1 : CM) (H1 : Heap) (locs1 : List Loc), Qr r T1 M1 → lH D kA hm ad A H0 T1 M1 N H1 locs1 → W p l e R s m args below meth c H1 locs1 (cells + mc) (slots + ms) Q (F0 m (pc + 3) ls (.int r :: rest))) : W p l e R s m args below meth c H locs cells slots Q (F0 m pc ls st0) :=
  va_calli hr hH.2.2.2.2 (fun q _ hq => c_free (lH_toC hH) hA q hq) (c_free (lH_toC hH) hA) (fun r u t H1 locs1 ht _ hw hB _ hk hS => kk r u.1 u.2 H1 locs1 hw (l_fromC hH hA hk (ht ▸ hB.1) hS))
theorem lr_callv {st0 : List Value} {a : Array Value} {mc ms : Nat} {Qr : RM → Prop} (hr : va_Run p l e R s m args below meth c H locs cells slots mc ms (F0 m pc ls st0) rest (va_Qv Qr (rB D kA hm ad (rF kA hm ad N H.size)) (rF kA hm ad N H.size) a) (rF kA hm ad N H.size)) (hH : lH D kA hm ad A H0 T M N H locs) (hA : ∀ q, H0.size ≤ q → A q) (kk : ∀ (N1 : RM) (H1 : Heap) (locs1 : List Loc), Qr N1 → lH D kA hm ad A H0 T M N1 H1 locs1 → W p l e R s m args below meth c H1 locs1 (cells + mc) (slots + ms) Q (F0 m (pc + 3) ls rest)) : W p l e R s m args below meth c H locs cells slots Q (F0 m pc ls st0) :=
  va_callv hr hH.2.2.2.2 (fun q _ hq => r_free (lH_toR hH) hA q hq) (r_free (lH_toR hH) hA) (fun u t H1 locs1 ht _ hw hB _ hk hS => kk u H1 locs1 hw (l_fromR hH hA hk (ht ▸ hB.1) hB.2.2 hS))
end LAWW
