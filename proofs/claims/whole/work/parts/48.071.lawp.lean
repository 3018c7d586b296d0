/-! lawp: the law's loop; written by gen_lawp.py -/
def LKP (P : Nat → List am_V → am_H → am_K → Prop) : Prop := ∀ (h : am_H) (K : am_K) (m w : Int), am_inI m → am_inI w → (0 ≤ h 20 15 ∧ h 20 15 ≤ 14) → (0 ≤ h 0 1 ∧ h 0 1 ≤ 511) → ((0 ≤ m ∧ m < h 20 15) → (0 ≤ w ∧ w ≤ 4) → K (0, 0) (am_st (am_st h 93 0 (h (27 + w.toNat) m.toNat)) 0 1 (h 0 1 + 1))) → ((0 ≤ m ∧ m < h 20 15) → ¬ (0 ≤ w ∧ w ≤ 4) → K (0, 2) (am_st h 0 1 (h 0 1 + 1))) → (¬ (0 ≤ m ∧ m < h 20 15) → K (0, 1) (am_st h 0 1 (h 0 1 + 1))) → P 223 [(2, 1), (0, m), (0, w), (2, 93)] h K
theorem am_lcmp_self (v : Int) : am_lcmp v v = 0 := by unfold am_lcmp; rw [if_neg (by omega), if_pos rfl]
section
variable {L : Nat} {xs : Nat → Int} {P : Nat → List am_V → am_H → am_K → Prop} {d : Nat} {h : am_H} {K : am_K}
theorem kX12_look {m w : Int} (h9 : 0 ≤ h 59 9 ∧ h 59 9 ≤ 14) (Hok : (0 ≤ m ∧ m < h 59 9) → (0 ≤ w ∧ w ≤ 4) → K (0, h 62 (5 * m + w).toNat) (am_st h 59 2 0)) (H2 : (0 ≤ m ∧ m < h 59 9) → ¬ (0 ≤ w ∧ w ≤ 4) → K (0, 0) (am_st (am_st h 59 2 0) 59 2 2)) (H1 : ¬ (0 ≤ m ∧ m < h 59 9) → K (0, 0) (am_st (am_st h 59 2 0) 59 2 1)) : am_C true L xs P (d + 2) 217 [(2, 59), (0, m), (0, w)] h K := by
  refine eX12_look (bX12_look_0 ⟨fun z => bX12_look_17 (kX12_fails (d := d) (H1 (fun q => by omega))), fun z => ⟨fun z2 => bX12_look_23 (kX12_isIn (d := d) (fun q => ⟨fun _ => bX12_look_45 (kX12_fails (d := d) (bX12_look_50 (H2 ⟨by omega, z2⟩ q))), fun y => absurd rfl y⟩) (fun q => ⟨fun y => absurd y (by decide), fun _ => ⟨by omega, by omega, by omega, bX12_look_50 ?_⟩⟩)), fun z2 => bX12_look_17 (kX12_fails (d := d) (H1 (fun q => by omega)))⟩⟩)
  rw [st_ne (by decide)]
  exact Hok ⟨by omega, z2⟩ q
/-- nothing but what a look may leave -/
theorem Inv.look {g : am_H} (I : Inv h) (o : ∀ i, ¬ i = 0 → ¬ i = 59 → ¬ i = 93 → g i = h i) (m : ∀ j, ¬ j = 2 → g 59 j = h 59 j) : Inv g := by
  obtain ⟨⟨N, nb, n⟩, ⟨nm, r⟩, ⟨c, np, nq, p, s⟩, t, f, l, y, w⟩ := I
  have ag : ∀ D : List (Nat × Option Nat), D.all (fun p => !(p.1 == 0) && !(p.1 == 93) && (!(p.1 == 59) || (match p.2 with | none => false | some i => !(i == 2)))) = true → agree D h g := by
    intro D hD p hp
    have y := (List.all_eq_true.mp hD) p hp
    revert y
    cases p.2 with
    | none =>
      intro y
      simp at y
      exact o p.1 (by omega) (by omega) (by omega)
    | some i =>
      intro y
      simp at y
      show g p.1 i = h p.1 i
      by_cases e : p.1 = 59
      · rw [e]
        exact m i (y.2.resolve_left (fun z => z e))
      · rw [o p.1 (by omega) e (by omega)]
  exact ⟨⟨N, nb, n.cg (ag _ rfl)⟩, ⟨nm, r.cg (ag _ rfl)⟩, ⟨c, np, nq, p.cg (ag _ rfl), s.cg p.hc (ag _ rfl)⟩, t.cg (ag _ rfl), f.cg (ag _ rfl), l.cg (ag _ rfl), y.cg (ag _ rfl), w.cg (ag _ rfl)⟩
theorem pr_look {m w : Int} {Q : Int → Int → Int → am_H → Prop} (hl : LKP P) (I : Inv h) (h01 : 0 ≤ h 0 1 ∧ h 0 1 ≤ 511) (hm : am_inI m) (hw : am_inI w) (H0 : ∀ g v, Inv g → g 0 0 = h 0 0 → g 0 1 = h 0 1 + 1 → g 93 0 = v → Q 0 v 0 g) (H1 : ∀ g k v, ¬ k = 0 → Inv g → g 0 0 = h 0 0 → g 0 1 = h 0 1 + 1 → Q k v k g) : am_C true L xs P (d + 24) 223 [(2, 1), (0, m), (0, w), (2, 93)] h (fun r1 h1 => am_C true L xs P (d + 24) 217 [(2, 59), (0, m), (0, w)] h1 (fun r2 h2 => am_C true L xs P (d + 24) 145 [(2, 59)] h2 (fun r3 h3 => Q r1.2 r2.2 r3.2 h3))) := by
  show P 223 [(2, 1), (0, m), (0, w), (2, 93)] h _
  obtain ⟨nm, r⟩ := I.r
  have m1 := r.m1
  have m2 := r.m2
  have m14 := r.m14
  refine hl h _ m w hm hw (by omega) h01 (fun a b => ?_) (fun a b => ?_) (fun a => ?_)
  · generalize hg : am_st (am_st h 93 0 (h (27 + w.toNat) m.toNat)) 0 1 (h 0 1 + 1) = g
    have o : ∀ i, ¬ i = 93 → ¬ i = 0 → g i = h i := fun i hi h0 => by rw [← hg, st_ne h0, st_ne hi]
    refine kX12_look (d := d + 22) (by rw [o 59 (by decide) (by decide)]; omega) (fun a2 b2 => ?_) (fun a2 b2 => absurd b b2) (fun a2 => absurd (by rw [o 59 (by decide) (by decide)]; omega) a2)
    refine kX12_thrown (d := d + 23) ?_
    dsimp only
    rw [st_at]
    refine H0 _ _ (I.look (fun i h0 h5 h9 => by rw [st_ne h5, o i h9 h0]) (fun j hj => by rw [st_nj hj, o 59 (by decide) (by decide)])) (by rw [st_ne (by decide), ← hg, st_nj (by decide), st_ne (by decide)]) (by rw [st_ne (by decide), ← hg, st_at]) ?_
    rw [st_ne (by decide), ← hg, st_ne (by decide), st_at, st_ne (by decide), st_ne (by decide)]
    obtain ⟨a', ha⟩ : ∃ a' : Nat, m = a' := ⟨m.toNat, by omega⟩
    have mn := r.mn a' (by omega)
    rw [ha, Int.toNat_natCast]
    have hw5 : w = 0 ∨ w = 1 ∨ w = 2 ∨ w = 3 ∨ w = 4 := by omega
    rcases hw5 with e | e | e | e | e <;> rw [e]
    · rw [show (5 * (a' : Int) + 0).toNat = 5 * a' by omega]; exact mn.1
    · rw [show (5 * (a' : Int) + 1).toNat = 5 * a' + 1 by omega]; exact mn.2.1
    · rw [show (5 * (a' : Int) + 2).toNat = 5 * a' + 2 by omega]; exact mn.2.2.1
    · rw [show (5 * (a' : Int) + 3).toNat = 5 * a' + 3 by omega]; exact mn.2.2.2.1
    · rw [show (5 * (a' : Int) + 4).toNat = 5 * a' + 4 by omega]; exact mn.2.2.2.2
  · generalize hg : am_st h 0 1 (h 0 1 + 1) = g
    have o : ∀ i, ¬ i = 0 → g i = h i := fun i hi => by rw [← hg, st_ne hi]
    refine kX12_look (d := d + 22) (by rw [o 59 (by decide)]; omega) (fun a2 b2 => absurd b2 b) (fun a2 b2 => ?_) (fun a2 => absurd (by rw [o 59 (by decide)]; omega) a2)
    refine kX12_thrown (d := d + 23) ?_
    dsimp only
    rw [st_at]
    exact H1 _ 2 _ (by decide) (I.look (fun i h0 h5 h9 => by rw [st_ne h5, st_ne h5, o i h0]) (fun j hj => by rw [st_nj hj, st_nj hj, o 59 (by decide)])) (by rw [st_ne (by decide), st_ne (by decide), ← hg, st_nj (by decide)]) (by rw [st_ne (by decide), st_ne (by decide), ← hg, st_at])
  · generalize hg : am_st h 0 1 (h 0 1 + 1) = g
    have o : ∀ i, ¬ i = 0 → g i = h i := fun i hi => by rw [← hg, st_ne hi]
    refine kX12_look (d := d + 22) (by rw [o 59 (by decide)]; omega) (fun a2 b2 => absurd (by rw [o 59 (by decide)] at a2; omega) a) (fun a2 b2 => absurd (by rw [o 59 (by decide)] at a2; omega) a) (fun a2 => ?_)
    refine kX12_thrown (d := d + 23) ?_
    dsimp only
    rw [st_at]
    exact H1 _ 1 _ (by decide) (I.look (fun i h0 h5 h9 => by rw [st_ne h5, st_ne h5, o i h0]) (fun j hj => by rw [st_nj hj, st_nj hj, o 59 (by decide)])) (by rw [st_ne (by decide), st_ne (by decide), ← hg, st_nj (by decide)]) (by rw [st_ne (by decide), st_ne (by decide), ← hg, st_at])
set_option maxHeartbeats 4000000 in
theorem law_loop {lim : Int} (hP : LWP P) (hl : LKP P) (hL : L ≤ 3072) (hxs : ∀ j, am_inI (xs j)) (hK : ∀ g : am_H, g 0 0 = 93 → 0 ≤ g 0 1 → g 0 1 ≤ 512 → K (0, 1) g) : ∀ (n x : Nat) (v5 v6 : am_V) (h : am_H), L < x + 6 * n + 6 → x ≤ 3072 → Inv h → h 0 0 = 93 → 0 ≤ h 0 1 → 6 * h 0 1 ≤ x → tL_law lim L xs (am_C true L xs P (d + 24)) K 23 [(7, 0), (2, 1), (2, 59), (2, 93), (0, (x : Int)), v5, v6] [] h := by
  intro n
  induction n with
  | zero =>
    intro x v5 v6 h hn hx I h00 h01 h01x
    refine bL_23 ⟨by omega, fun _ => bL_1277 ⟨by decide, hK h h00 h01 (by omega)⟩, fun z => by omega⟩
  | succ n ih =>
    intro x v5 v6 h hn hx I h00 h01 h01x
    refine bL_23 ⟨by omega, fun _ => bL_1277 ⟨by decide, hK h h00 h01 (by omega)⟩, fun z => ?_⟩
    have nxt : ∀ (g : am_H) (w5 w6 : am_V), Inv g → g 0 0 = 93 → 0 ≤ g 0 1 → 6 * g 0 1 ≤ x + 6 → tL_law lim L xs (am_C true L xs P (d + 24)) K 1271 [(7, 0), (2, 1), (2, 59), (2, 93), (0, (x : Int)), w5, w6] [] g := by
      intro g w5 w6 Ig g0 g1 g2
      refine bL_1271 ⟨by omega, ?_⟩
      rw [show (x : Int) + 6 = ((x + 6 : Nat) : Int) by omega]
      exact ih (x + 6) w5 w6 g (by omega) (by omega) Ig g0 g1 (by omega)
    have nx : ∀ g : am_H, Inv g → g 0 = h 0 → tL_law lim L xs (am_C true L xs P (d + 24)) K 1271 [(7, 0), (2, 1), (2, 59), (2, 93), (0, (x : Int)), v5, v6] [] g := fun g Ig e => nxt g v5 v6 Ig (by rw [e]; exact h00) (by rw [e]; exact h01) (by rw [e]; omega)
    have i1 : am_inI ((x : Int) + 1) = True := eq_true (by omega)
    have i2 : am_inI ((x : Int) + 2) = True := eq_true (by omega)
    have i3 : am_inI ((x : Int) + 3) = True := eq_true (by omega)
    have i4 : am_inI ((x : Int) + 4) = True := eq_true (by omega)
    have i5 : am_inI ((x : Int) + 5) = True := eq_true (by omega)
    have b1 : (0 ≤ (x : Int) + 1 ∧ (x : Int) + 1 < (L : Nat)) = True := eq_true (by omega)
    have b2 : (0 ≤ (x : Int) + 2 ∧ (x : Int) + 2 < (L : Nat)) = True := eq_true (by omega)
    have b3 : (0 ≤ (x : Int) + 3 ∧ (x : Int) + 3 < (L : Nat)) = True := eq_true (by omega)
    have b4 : (0 ≤ (x : Int) + 4 ∧ (x : Int) + 4 < (L : Nat)) = True := eq_true (by omega)
    have b5 : (0 ≤ (x : Int) + 5 ∧ (x : Int) + 5 < (L : Nat)) = True := eq_true (by omega)
    have c176 : tL_law lim L xs (am_C true L xs P (d + 24)) K 176 [(7, 0), (2, 1), (2, 59), (2, 93), (0, (x : Int)), v5, v6] [] h := by
      refine bL_176 ?_
      simp only [i1, i2, i3, i4, i5, b1, b2, b3, b4, b5, true_and]
      exact pr_feed I (fun v g Ig eg => ⟨fun _ => nx g Ig eg, fun q => absurd rfl q⟩)
    have c249 : tL_law lim L xs (am_C true L xs P (d + 24)) K 249 [(7, 0), (2, 1), (2, 59), (2, 93), (0, (x : Int)), v5, v6] [] h := by
      refine bL_249 ?_
      simp only [i1, i2, i3, i4, i5, b1, b2, b3, b4, b5, true_and]
      exact pr_charter hP I (fun v g Ig eg => ⟨fun _ => nx g Ig eg, fun q => absurd rfl q⟩)
    have c274 : tL_law lim L xs (am_C true L xs P (d + 24)) K 274 [(7, 0), (2, 1), (2, 59), (2, 93), (0, (x : Int)), v5, v6] [] h := by
      refine bL_274 ?_
      simp only [i1, i2, i3, i4, i5, b1, b2, b3, b4, b5, true_and]
      exact pr_letter I (fun v g Ig eg => ⟨fun _ => nx g Ig eg, fun q => absurd rfl q⟩)
    have c299 : tL_law lim L xs (am_C true L xs P (d + 24)) K 299 [(7, 0), (2, 1), (2, 59), (2, 93), (0, (x : Int)), v5, v6] [] h := by
      refine bL_299 ?_
      simp only [i1, i2, i3, i4, i5, b1, b2, b3, b4, b5, true_and]
      exact pr_fault I (fun v g Ig eg => ⟨fun _ => nx g Ig eg, fun q => absurd rfl q⟩)
    have c324 : tL_law lim L xs (am_C true L xs P (d + 24)) K 324 [(7, 0), (2, 1), (2, 59), (2, 93), (0, (x : Int)), v5, v6] [] h := by
      refine bL_324 ?_
      simp only [i1, i2, i3, i4, i5, b1, b2, b3, b4, b5, true_and]
      exact pr_line I (fun v g Ig eg => ⟨fun _ => nx g Ig eg, fun q => absurd rfl q⟩)
    have c349 : tL_law lim L xs (am_C true L xs P (d + 24)) K 349 [(7, 0), (2, 1), (2, 59), (2, 93), (0, (x : Int)), v5, v6] [] h := by
      refine bL_349 ?_
      simp only [i1, i2, i3, i4, i5, b1, b2, b3, b4, b5, true_and]
      exact pr_land I (fun v g Ig eg => ⟨fun _ => nx g Ig eg, fun q => absurd rfl q⟩)
    have c386 : tL_law lim L xs (am_C true L xs P (d + 24)) K 386 [(7, 0), (2, 1), (2, 59), (2, 93), (0, (x : Int)), v5, v6] [] h := by
      refine bL_386 ?_
      simp only [i1, i2, i3, i4, i5, b1, b2, b3, b4, b5, true_and]
      exact pr_stand I (fun v g Ig eg => ⟨fun _ => nx g Ig eg, fun q => absurd rfl q⟩)
    have c447 : tL_law lim L xs (am_C true L xs P (d + 24)) K 447 [(7, 0), (2, 1), (2, 59), (2, 93), (0, (x : Int)), v5, v6] [] h := by
      refine bL_447 ?_
      simp only [i1, i2, i3, i4, i5, b1, b2, b3, b4, b5, true_and]
      exact pr_man I (fun v g Ig eg => ⟨fun _ => nx g Ig eg, fun q => absurd rfl q⟩)
    have c520 : tL_law lim L xs (am_C true L xs P (d + 24)) K 520 [(7, 0), (2, 1), (2, 59), (2, 93), (0, (x : Int)), v5, v6] [] h := by
      refine bL_520 ?_
      simp only [i1, i2, i3, i4, i5, b1, b2, b3, b4, b5, true_and]
      exact pr_body I (fun v g Ig eg => ⟨fun _ => nx g Ig eg, fun q => absurd rfl q⟩)
    have c545 : tL_law lim L xs (am_C true L xs P (d + 24)) K 545 [(7, 0), (2, 1), (2, 59), (2, 93), (0, (x : Int)), v5, v6] [] h := by
      refine bL_545 ?_
      simp only [i1, i2, i3, i4, i5, b1, b2, b3, b4, b5, true_and]
      exact pr_read I (fun v g Ig eg => ⟨fun _ => nx g Ig eg, fun q => absurd rfl q⟩)
    have c606 : tL_law lim L xs (am_C true L xs P (d + 24)) K 606 [(7, 0), (2, 1), (2, 59), (2, 93), (0, (x : Int)), v5, v6] [] h := by
      refine bL_606 ?_
      simp only [i1, i2, i3, i4, i5, b1, b2, b3, b4, b5, true_and]
      exact pr_dig I (fun v g Ig eg => ⟨fun _ => nx g Ig eg, fun q => absurd rfl q⟩)
    have c631 : tL_law lim L xs (am_C true L xs P (d + 24)) K 631 [(7, 0), (2, 1), (2, 59), (2, 93), (0, (x : Int)), v5, v6] [] h := by
      refine bL_631 ?_
      simp only [i1, i2, i3, i4, i5, b1, b2, b3, b4, b5, true_and]
      exact pr_strike I (fun v g Ig eg => ⟨fun _ => nx g Ig eg, fun q => absurd rfl q⟩)
    have c656 : tL_law lim L xs (am_C true L xs P (d + 24)) K 656 [(7, 0), (2, 1), (2, 59), (2, 93), (0, (x : Int)), v5, v6] [] h := by
      refine bL_656 ?_
      simp only [i1, i2, i3, i4, i5, b1, b2, b3, b4, b5, true_and]
      exact pr_weeks I (fun v g Ig eg => ⟨fun _ => nx g Ig eg, fun q => absurd rfl q⟩)
    have c681 : tL_law lim L xs (am_C true L xs P (d + 24)) K 681 [(7, 0), (2, 1), (2, 59), (2, 93), (0, (x : Int)), v5, v6] [] h := by
      refine bL_681 ?_
      simp only [i1, i2, i3, i4, i5, b1, b2, b3, b4, b5, true_and]
      exact pr_near I (fun v g Ig eg => ⟨fun _ => nx g Ig eg, fun q => absurd rfl q⟩)
    have c718 : tL_law lim L xs (am_C true L xs P (d + 24)) K 718 [(7, 0), (2, 1), (2, 59), (2, 93), (0, (x : Int)), v5, v6] [] h := by
      refine bL_718 ?_
      simp only [i1, i2, i3, i4, i5, b1, b2, b3, b4, b5, true_and]
      exact pr_fits I (fun v g Ig eg => ⟨fun _ => nx g Ig eg, fun q => absurd rfl q⟩)
    have c767 : tL_law lim L xs (am_C true L xs P (d + 24)) K 767 [(7, 0), (2, 1), (2, 59), (2, 93), (0, (x : Int)), v5, v6] [] h := by
      refine bL_767 ?_
      simp only [i1, i2, i3, i4, i5, b1, b2, b3, b4, b5, true_and]
      exact pr_namings I (fun v g Ig eg => ⟨fun _ => nx g Ig eg, fun q => absurd (am_lcmp_self v) q⟩)
    have c805 : tL_law lim L xs (am_C true L xs P (d + 24)) K 805 [(7, 0), (2, 1), (2, 59), (2, 93), (0, (x : Int)), v5, v6] [] h := by
      refine bL_805 ?_
      simp only [i1, i2, i3, i4, i5, b1, b2, b3, b4, b5, true_and]
      exact pr_who I (fun v g Ig eg => ⟨fun _ => nx g Ig eg, fun q => absurd rfl q⟩)
    have c842 : tL_law lim L xs (am_C true L xs P (d + 24)) K 842 [(7, 0), (2, 1), (2, 59), (2, 93), (0, (x : Int)), v5, v6] [] h := by
      refine bL_842 ?_
      simp only [i1, i2, i3, i4, i5, b1, b2, b3, b4, b5, true_and]
      exact pr_named I (fun v g Ig eg => ⟨fun _ => nx g Ig eg, fun q => absurd rfl q⟩)
    have c879 : tL_law lim L xs (am_C true L xs P (d + 24)) K 879 [(7, 0), (2, 1), (2, 59), (2, 93), (0, (x : Int)), v5, v6] [] h := by
      refine bL_879 ?_
      simp only [i1, i2, i3, i4, i5, b1, b2, b3, b4, b5, true_and]
      exact pr_next I (fun v g Ig eg => ⟨fun _ => nx g Ig eg, fun q => absurd rfl q⟩)
    have c916 : tL_law lim L xs (am_C true L xs P (d + 24)) K 916 [(7, 0), (2, 1), (2, 59), (2, 93), (0, (x : Int)), v5, v6] [] h := by
      refine bL_916 ?_
      simp only [i1, i2, i3, i4, i5, b1, b2, b3, b4, b5, true_and]
      exact pr_missing I (fun v g Ig eg => ⟨fun _ => nx g Ig eg, fun q => absurd rfl q⟩)
    have c941 : tL_law lim L xs (am_C true L xs P (d + 24)) K 941 [(7, 0), (2, 1), (2, 59), (2, 93), (0, (x : Int)), v5, v6] [] h := by
      refine bL_941 ?_
      simp only [i1, i2, i3, i4, i5, b1, b2, b3, b4, b5, true_and]
      exact pr_share I (fun v g Ig eg => ⟨fun _ => nx g Ig eg, fun q => absurd (am_lcmp_self v) q⟩)
    have c991 : tL_law lim L xs (am_C true L xs P (d + 24)) K 991 [(7, 0), (2, 1), (2, 59), (2, 93), (0, (x : Int)), v5, v6] [] h := by
      refine bL_991 ?_
      simp only [i1, i2, i3, i4, i5, b1, b2, b3, b4, b5, true_and]
      exact pr_likely I (fun v g Ig eg => ⟨fun _ => nx g Ig eg, fun q => absurd rfl q⟩)
    have c1016 : tL_law lim L xs (am_C true L xs P (d + 24)) K 1016 [(7, 0), (2, 1), (2, 59), (2, 93), (0, (x : Int)), v5, v6] [] h := by
      refine bL_1016 ?_
      skip
      exact pr_wall I (fun v g Ig eg => ⟨fun _ => nx g Ig eg, fun q => absurd rfl q⟩)
    have c1029 : tL_law lim L xs (am_C true L xs P (d + 24)) K 1029 [(7, 0), (2, 1), (2, 59), (2, 93), (0, (x : Int)), v5, v6] [] h := by
      refine bL_1029 ?_
      simp only [i1, i2, i3, i4, i5, b1, b2, b3, b4, b5, true_and]
      exact pr_field I (fun v g Ig eg => ⟨fun _ => nx g Ig eg, fun q => absurd rfl q⟩)
    have c1054 : tL_law lim L xs (am_C true L xs P (d + 24)) K 1054 [(7, 0), (2, 1), (2, 59), (2, 93), (0, (x : Int)), v5, v6] [] h := by
      refine bL_1054 ?_
      simp only [i1, i2, i3, i4, i5, b1, b2, b3, b4, b5, true_and]
      exact pr_kin I (fun v g Ig eg => ⟨fun _ => nx g Ig eg, fun q => absurd rfl q⟩)
    have c1103 : tL_law lim L xs (am_C true L xs P (d + 24)) K 1103 [(7, 0), (2, 1), (2, 59), (2, 93), (0, (x : Int)), v5, v6] [] h := by
      refine bL_1103 ?_
      simp only [i1, i2, i3, i4, i5, b1, b2, b3, b4, b5, true_and]
      exact pr_capacity I (fun v g Ig eg => ⟨fun _ => nx g Ig eg, fun q => absurd rfl q⟩)
    have c1128 : tL_law lim L xs (am_C true L xs P (d + 24)) K 1128 [(7, 0), (2, 1), (2, 59), (2, 93), (0, (x : Int)), v5, v6] [] h := by
      refine bL_1128 ?_
      simp only [i1, i2, i3, i4, i5, b1, b2, b3, b4, b5, true_and]
      exact pr_plan I (fun v g Ig eg => ⟨fun _ => nx g Ig eg, fun q => absurd rfl q⟩)
    have c1153 : tL_law lim L xs (am_C true L xs P (d + 24)) K 1153 [(7, 0), (2, 1), (2, 59), (2, 93), (0, (x : Int)), v5, v6] [] h := by
      refine bL_1153 ?_
      simp only [i1, i2, i3, i4, i5, b1, b2, b3, b4, b5, true_and]
      exact pr_judge I (fun v g Ig eg => ⟨fun _ => nx g Ig eg, fun q => absurd rfl q⟩)
    have c1246 : tL_law lim L xs (am_C true L xs P (d + 24)) K 1246 [(7, 0), (2, 1), (2, 59), (2, 93), (0, (x : Int)), v5, v6] [] h := by
      refine bL_1246 ?_
      simp only [i1, i2, i3, i4, i5, b1, b2, b3, b4, b5, true_and]
      exact pr_count I (fun v g Ig eg => ⟨fun _ => nx g Ig eg, fun q => absurd rfl q⟩)
    have c1178 : tL_law lim L xs (am_C true L xs P (d + 24)) K 1178 [(7, 0), (2, 1), (2, 59), (2, 93), (0, (x : Int)), v5, v6] [] h := by
      refine bL_1178 ?_
      simp only [i1, i2, i3, i4, i5, b1, b2, b3, b4, b5, true_and]
      refine pr_look (Q := fun k b t h3 => (t = k → tL_law lim L xs (am_C true L xs P (d + 24)) K 1226 [(7, 0), (2, 1), (2, 59), (2, 93), (0, (x : Int)), (0, k), (0, b)] [] h3) ∧ (¬ t = k → ((0 ≤ (0 : Int) ∧ (0 : Int) ≤ 1) ∧ K (0, (0 : Int)) h3))) hl I ⟨h01, by omega⟩ (hxs _) (hxs _) (fun g v Ig g0 g1 e93 => ⟨fun _ => ?_, fun q => absurd rfl q⟩) (fun g k v nk Ig g0 g1 => ⟨fun _ => ?_, fun q => absurd rfl q⟩)
      · refine bL_1226 ⟨fun q => absurd rfl q, fun _ => ⟨by decide, fun _ => bL_1243 (nxt g _ _ Ig (by rw [g0]; exact h00) (by omega) (by omega)), fun q => ?_⟩⟩
        rw [show Int.toNat 0 = 0 from rfl, e93] at q
        exact absurd (am_lcmp_self v) q
      · exact bL_1226 ⟨fun _ => bL_1243 (nxt g _ _ Ig (by rw [g0]; exact h00) (by omega) (by omega)), fun q => absurd nk q⟩
    exact ⟨by omega, fun _ => nx h I rfl, fun _ => c176, fun _ => c249, fun _ => c274, fun _ => c299, fun _ => c324, fun _ => c349, fun _ => c386, fun _ => c447, fun _ => c520, fun _ => c545, fun _ => c606, fun _ => c631, fun _ => c656, fun _ => c681, fun _ => c718, fun _ => c767, fun _ => c805, fun _ => c842, fun _ => c879, fun _ => c916, fun _ => c941, fun _ => c991, fun _ => c1016, fun _ => c1029, fun _ => c1054, fun _ => c1103, fun _ => c1128, fun _ => c1153, fun _ => c1178, fun _ => c1246, trivial⟩
end
