section MK
variable {nm : Nat → Nat} {T : LY} {M : CM} {N : RM} {x y px hN hr rs rp ro po : Nat} {gr : Nat → Nat → Nat → Nat → Nat} {er : Nat → Nat → Nat} {RW : Nat → Nat} {OA : Nat → Nat → Nat}
theorem CI_start (ho : ∀ r, r < 3 → RO T M (RW r) (gr r) (er r) 8) (hd : dd gr) (tl : TL T M x y) (hx : ∀ r, r < 3 → nf x (gr r)) (hy : ∀ r, r < 3 → nf y (gr r)) (hrs : ∀ r, r < 3 → nf rs (gr r)) (rsy : rs ≠ y) (rn : RN T M hr rs rp) (h5 : tg T hN = 5) (os : OS T M px ro OA 6) (c : cR M 100 px = some x ∧ cR M 101 px = some hr ∧ cR M 103 px = some (RW 0) ∧ cR M 104 px = some hN ∧ cR M 105 px = some (RW 1) ∧ cR M 106 px = some (RW 2) ∧ cI M 107 px = 0) (hp : tg T po = 23 ∧ ln T po = 1) : CI nm (gG x y gr er) T M (fun f _ => if f = 80 then 7 else 0) (fun _ => 0) (fun _ => FP.dconst0) W0 px hN RW 1 OA (fun _ => []) (fun _ => []) hr rs rp po 0 := by
  have l1 : gG x y gr er 1 144 = x := by unfold gG; rw [if_pos rfl, if_pos rfl]
  have l2 : gG x y gr er 2 144 = y := by unfold gG; rw [if_pos rfl, if_neg (by decide)]
  obtain ⟨c0, c1, c3, c4, c5, c6, c7⟩ := c
  refine ⟨⟨⟨os.1.1, by rw [l1]; exact c0, c3, c4, h5, c5, c6, Or.inl rfl, fun r hr => ⟨(ho r hr).1.1, (ho r hr).1.2, fun i hi => ?_⟩⟩, gG_SA ho hd tl hx hy, ⟨os.1.1, ro, os.1.2.1, os.1.2.2.1, os.1.2.2.2, fun o h => (os.2.1 o h).1⟩, fun o h => (os.2.1 o h).2.1, ⟨rn, fun t ht => ?_⟩, c1, hp, fun o o' h h' n => ?_⟩, gG_VA ho tl, ⟨fun o h => ?_, fun o h i hi => absurd hi (Nat.not_lt_zero i)⟩, c7⟩
  · rw [gG_k (by decide) (by omega)]
    have e1 : zr (48 * r + i) = r := by unfold zr; omega
    have e2 : (48 * r + i) % 48 < 8 := by omega
    have e3 : zs (48 * r + i) = i := by unfold zs; rw [if_pos e2]; omega
    have e4 : zm (48 * r + i) = 0 := by unfold zm; rw [if_pos e2]
    rw [e1, e3, e4]
    exact ((ho r hr).2.1 i hi).1
  · by_cases d : t = 144
    · rw [d, l2]; exact rsy
    · rw [gG_k (by decide) (by omega)]
      have zt := z_lt (t := t) (by omega)
      exact fun z => hrs _ zt.1 _ zt.2.1 2 (by decide) _ zt.2.2 z.symm
  · have u := os.2.2 o h o' h' n
    exact ⟨u 0 (by decide) 0 (by decide), u 1 (by decide) 1 (by decide), u 1 (by decide) 2 (by decide), u 2 (by decide) 1 (by decide), u 2 (by decide) 2 (by decide)⟩
  · have u := (os.2.1 o h).2
    exact ⟨Nat.zero_le _, u.2.1, fun i hi => absurd hi (Nat.not_lt_zero i), Nat.zero_le _, u.2.2, fun i hi => absurd hi (Nat.not_lt_zero i)⟩
theorem LI_start {G : Nat → Nat → Nat} (C : CI nm G T M (fun f _ => if f = 80 then 7 else 0) (fun _ => 0) (fun _ => FP.dconst0) W0 px hN RW 1 OA (fun _ => []) (fun _ => []) hr rs rp po 0) (h13 : ∀ s, s < 8 → rA N 13 s = 0) (h18 : rI N 18 = 0) (h3 : rI N 3 = cI M 108 px) (h2 : rI N 2 = 0) (h4 : ∀ o, o < 6 → rA N 4 o = 0) : LI nm G px hN RW OA hr rs rp po T M N := by
  have e144 : W0 144 = [] := by unfold W0; rw [if_neg (fun z => z.1 rfl)]
  refine ⟨_, _, _, _, 1, _, _, 0, fun _ => 0, C, ⟨⟨fun s hs => Or.inl ⟨Or.inl ⟨rfl, h13 s hs, ?_, rfl⟩, rfl⟩, fun v hv => gd_0⟩, fun v hv => rfl, fun i hi => ⟨rfl, Nat.zero_le 5, fun j hj => absurd hj (Nat.not_lt_zero j)⟩, h18, Nat.zero_le 8, fun k hk => absurd hk (Nat.not_lt_zero k)⟩, h3, ?_, fun o h => ⟨Nat.zero_le _, h4 o h, fun i hi => absurd hi (Nat.not_lt_zero i)⟩, fun o h n hn => told_nil n⟩
  · unfold W0
    rw [if_pos ⟨by omega, by omega⟩]
  · rw [e144]
    exact ⟨⟨h2, fun i hi => absurd hi (Nat.not_lt_zero i)⟩, by decide, fun x => by rw [List.getD_eq_getElem?_getD, List.getElem?_nil]; exact nC_0, fun x hx => absurd hx (Nat.not_lt_zero x)⟩
end MK
section MK
variable {nm : Nat → Nat} {T0 : LY} {M0 : CM} {px : Nat} {xs : Nat → Int32} {L : Nat}
/-- the constructor; then, with a row of one outcome made, the law's rounds from the two new objects -/
theorem law_start (hnm : ∀ i j, i < 10 → j < 10 → nm i = nm j → i = j) (hL : L ≤ 3072) (hp : tg T0 px = 11) {Q : LY → CM → Prop} (k : ∀ T' M', xE (fun a => a = px) T0 M0 T' M' → (∀ T M po, xE (fun _ => False) T' M' T M → tg T po = 23 → ln T po = 1 → fL_l23 nm xs L px po True 514 0 T M RM0) → Q T' M') : fc_X10_init 508 5794 px T0 M0 Q := by
  refine s_X10_init hp (fun T' M' x y hr rs rp r0 r1 r2 hN ro gs0 e0 gs1 e1 gs2 e2 OA xa c tl rn w0 w1 w2 h5 os d nx ny nrs => k T' M' xa (fun T M po xf t l => ?_))
  have F : ∀ {E : Prop}, False → E := fun z => z.elim
  have p11 := os.1.1
  have kp := xf px (by rw [p11]; decide)
  have sp := kp.2 (fun z => z)
  have kro := xf ro (by rw [os.1.2.2.1]; decide)
  have sro := kro.2 (fun z => z)
  have os' : OS T M px ro OA 6 := ⟨⟨kp.1.1.trans p11, (sp.2.2.2.1 _).trans os.1.2.1, kro.1.1.trans os.1.2.2.1, kro.1.2.trans os.1.2.2.2⟩, fun o ho => ⟨(sro.2.2.2.2.2.2 o).trans (os.2.1 o ho).1, xE_OP xf (fun z => z) (os.2.1 o ho).2⟩, os.2.2⟩
  have n5 : tg T hN = 5 := ((xf hN (by rw [h5]; decide)).1.1).trans h5
  have ho : ∀ r, r < 3 → RO T M ((fun r => if r = 0 then r0 else if r = 1 then r1 else r2) r) ((fun r => if r = 0 then gs0 else if r = 1 then gs1 else gs2) r) ((fun r => if r = 0 then e0 else if r = 1 then e1 else e2) r) 8 := fun r hr => by
    match r, hr with
    | 0, _ => exact xE_RO xf (fun a z => z.elim) w0
    | 1, _ => exact xE_RO xf (fun a z => z.elim) w1
    | 2, _ => exact xE_RO xf (fun a z => z.elim) w2
  have sy : ∀ {a b : Nat → Nat → Nat → Nat}, dj a b → dj b a := fun h s hs s' hs' k hk i hi i' hi' z => h s' hs' s hs k hk i' hi' i hi z.symm
  have hd : dd (fun r => if r = 0 then gs0 else if r = 1 then gs1 else gs2) := fun r hr r' hr' n => by
    match r, hr, r', hr', n with
    | 0, _, 0, _, n => exact absurd rfl n
    | 0, _, 1, _, _ => exact d.1
    | 0, _, 2, _, _ => exact d.2.1
    | 1, _, 0, _, _ => exact sy d.1
    | 1, _, 1, _, n => exact absurd rfl n
    | 1, _, 2, _, _ => exact d.2.2
    | 2, _, 0, _, _ => exact sy d.2.1
    | 2, _, 1, _, _ => exact sy d.2.2
    | 2, _, 2, _, n => exact absurd rfl n
  have three : ∀ {P : (Nat → Nat → Nat → Nat) → Prop}, P gs0 → P gs1 → P gs2 → ∀ r, r < 3 → P ((fun r => if r = 0 then gs0 else if r = 1 then gs1 else gs2) r) := fun a b c r hr => by
    match r, hr with
    | 0, _ => exact a
    | 1, _ => exact b
    | 2, _ => exact c
  have C := CI_start (nm := nm) (po := po) ho hd (xE_TL xf (fun z => z) tl) (three (P := nf x) nx.1 nx.2.1 nx.2.2) (three (P := nf y) ny.1 ny.2.1 ny.2.2) (three (P := nf rs) nrs.1 nrs.2.1 nrs.2.2.1) nrs.2.2.2 (xE_RN xf (fun z => z) rn) n5 os' ⟨(sp.2.2.2.1 _).trans c.1, (sp.2.2.2.1 _).trans c.2.1, (sp.2.2.2.1 _).trans c.2.2.1, (sp.2.2.2.1 _).trans c.2.2.2.1, (sp.2.2.2.1 _).trans c.2.2.2.2.1, (sp.2.2.2.1 _).trans c.2.2.2.2.2.1, (sp.1 _).trans c.2.2.2.2.2.2.1⟩ ⟨t, l⟩
  have li := LI_start (N := RM0) C (fun _ _ => rfl) rfl (by rw [sp.1, c.2.2.2.2.2.2.2]; rfl) rfl (fun _ _ => rfl)
  exact law_loop hnm hL 513 0 T M RM0 (by omega) (by omega) li
end MK
