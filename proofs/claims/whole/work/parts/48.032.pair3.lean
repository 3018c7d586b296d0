/-! pair3: bodies, stands, men, fields, weeks -/
section
variable {L : Nat} {xs : Nat → Int} {P : Nat → List am_V → am_H → am_K → Prop} {d : Nat} {h : am_H} {Q : am_V → am_V → am_H → Prop}
def bodyC (h : am_H) (c : Int) : am_H := am_st (am_add h 0 (h 34 5) 0 c) 34 5 (h 34 5 + 1)
def bodyM (g : am_H) (c : Int) : am_H := am_st (am_st (am_tell (am_st (am_t0 g) 67 (Int.toNat (g 59 12)) c) 0 (g 59 12) 0 0) 68 (Int.toNat (g 59 12)) (g 59 11 + 1 - 1)) 59 12 (g 59 12 + 1)
theorem new_body {N nb : Nat} {c : Int} (l : LkN h N nb) : New h (bodyM (bodyC h c) c) N nb (nb + 1) 0 nb 0 c 0 ∧ bodyM (bodyC h c) c 67 nb = c ∧ bodyM (bodyC h c) c 68 nb = N := by
  have s1 := l.s1
  have s2 := l.s2
  have b1 := l.b1
  have b2 := l.b2
  unfold bodyM bodyC am_tell am_add am_t0
  refine ⟨⟨?_, ?_, ?_, ?_, fun j hj => ?_, ?_, fun b hb => ?_, ?_⟩, ?_, ?_⟩
  · simp [am_st, s1, s2, b1, b2]
  · simp [am_st, s1, s2, b1, b2]
  · simp [am_st, s1, s2, b1, b2]
  · simp [am_st, s1, s2, b1, b2]
  · simp [am_st, s1, s2, b1, b2, hj]
  · simp [am_st, s1, s2, b1, b2]
  · have : ¬ b = nb := by omega
    simp [am_st, s1, s2, b1, b2, this]
  · simp [am_st, s1, s2, b1, b2]
  · simp [am_st, s1, s2, b1, b2]
  · simp [am_st, s1, s2, b1, b2]
theorem agree.body {D : List (Nat × Option Nat)} {c : Int} (n0 : nd D 34 4 = true) (n1 : nd D 34 5 = true) (n2 : nd D 59 2 = true) (n3 : nd D 59 11 = true) (n4 : nd D 59 12 = true) (n : ∀ j, nd D 35 j = true ∧ nd D 36 j = true ∧ nd D 37 j = true ∧ nd D 38 j = true) (m : ∀ j, nd D 63 j = true ∧ nd D 64 j = true ∧ nd D 65 j = true ∧ nd D 66 j = true) (o : ∀ j, nd D 67 j = true ∧ nd D 68 j = true) : agree D h (bodyM (bodyC h c) c) :=
  ((((((agree.rf.add n0 n).st n1).t0 n2).st (o _).1).tell n3 m).st (o _).2).st n4
theorem pr_body {c : Int} (I : Inv h) (H : ∀ v g, Inv g → g 0 = h 0 → Q (0, v) (0, v) g) : am_C true L xs P (d + 24) 110 [(2, 1), (0, c)] h (fun r1 h1 => am_C true L xs P (d + 24) 171 [(2, 59), (0, c)] h1 (fun r2 h2 => Q r1 r2 h2)) := by
  obtain ⟨N, nb, l⟩ := I.n
  obtain ⟨nm, r⟩ := I.r
  have N90 := l.N90
  have s1 := l.s1
  have s2 := l.s2
  have b1 := l.b1
  have b2 := l.b2
  have nb10 := l.wn.nb10
  have cb := cells_bnd r
  have cl := r.cl
  refine kX11_body (d := d + 21) (by omega) (by omega) (fun w => ?_) (fun w => ?_)
  · have e : ∀ j, bodyC h c 59 j = h 59 j := fun j => by unfold bodyC; rw [st_ne (by decide), add_ne (by decide)]
    refine kX12_body (d := d + 22) (h := bodyC h c) (by rw [e]; exact r.w) (by rw [e]; exact r.t) (by rw [e, e]; omega) (by rw [e]; omega) (by rw [e]; omega) (fun _ => ?_) (fun w2 => absurd ?_ w2)
    · have nw := new_body (h := h) (c := c) l
      have i : Inv (bodyM (bodyC h c) c) := I.note ⟨_, _, l.push (by omega) nw.1 cb.2 (Or.inl ⟨rfl, rfl, by omega, rfl, w.1.1, w.1.2, nw.2.1, nw.2.2⟩)⟩ (agree.body rfl rfl rfl rfl rfl (fun _ => ⟨rfl, rfl, rfl, rfl⟩) (fun _ => ⟨rfl, rfl, rfl, rfl⟩) (fun _ => ⟨rfl, rfl⟩)) (agree.body rfl rfl rfl rfl rfl (fun _ => ⟨rfl, rfl, rfl, rfl⟩) (fun _ => ⟨rfl, rfl, rfl, rfl⟩) (fun _ => ⟨rfl, rfl⟩)) (agree.body rfl rfl rfl rfl rfl (fun _ => ⟨rfl, rfl, rfl, rfl⟩) (fun _ => ⟨rfl, rfl, rfl, rfl⟩) (fun _ => ⟨rfl, rfl⟩)) (agree.body rfl rfl rfl rfl rfl (fun _ => ⟨rfl, rfl, rfl, rfl⟩) (fun _ => ⟨rfl, rfl, rfl, rfl⟩) (fun _ => ⟨rfl, rfl⟩)) (agree.body rfl rfl rfl rfl rfl (fun _ => ⟨rfl, rfl, rfl, rfl⟩) (fun _ => ⟨rfl, rfl, rfl, rfl⟩) (fun _ => ⟨rfl, rfl⟩)) (agree.body rfl rfl rfl rfl rfl (fun _ => ⟨rfl, rfl, rfl, rfl⟩) (fun _ => ⟨rfl, rfl, rfl, rfl⟩) (fun _ => ⟨rfl, rfl⟩)) (agree.body rfl rfl rfl rfl rfl (fun _ => ⟨rfl, rfl, rfl, rfl⟩) (fun _ => ⟨rfl, rfl, rfl, rfl⟩) (fun _ => ⟨rfl, rfl⟩))
      have h0 : bodyM (bodyC h c) c 0 = h 0 := (agree.body (D := [(0, none)]) rfl rfl rfl rfl rfl (fun _ => ⟨rfl, rfl, rfl, rfl⟩) (fun _ => ⟨rfl, rfl, rfl, rfl⟩) (fun _ => ⟨rfl, rfl⟩)).c 0 rfl
      have := H (h 34 5 + 1 - 1) _ i h0
      have ev : bodyC h c 59 12 + 1 - 1 = h 34 5 + 1 - 1 := by rw [e, b1, b2]
      rw [ev]
      exact this
    · rw [e, e, e, e]; omega
  · refine kX12_body (d := d + 22) r.w r.t (by omega) (by omega) (by omega) (fun w2 => absurd ?_ w) (fun _ => H _ _ (I.xs MS.t0.xs) (XS.h0 MS.t0.xs))
    omega
theorem Inv.roll {h g : am_H} (I : Inv h) (r : ∃ nm, LkR g nm) (aN : agree DN h g) (aP : agree DP h g) (aT : agree DT h g) (aF : agree DF h g) (aL : agree DL h g) (aY : agree DY h g) (aW : agree DW h g) : Inv g := by
  obtain ⟨⟨N, nb, n⟩, _, ⟨c, np, nq, p, s⟩, t, f, l, y, w⟩ := I
  exact ⟨⟨N, nb, n.cg aN⟩, r, ⟨c, np, nq, p.cg aP, s.cg p.hc aP⟩, t.cg aT, f.cg aF, l.cg aL, y.cg aY, w.cg aW⟩
def standM (g : am_H) (u c f t : Int) : am_H := am_st (am_st (am_st (am_st (am_st (am_t0 g) 61 (Int.toNat (4 * g 59 7)) u) 61 (Int.toNat (4 * g 59 7 + 1)) c) 61 (Int.toNat (4 * g 59 7 + 2)) f) 61 (Int.toNat (4 * g 59 7 + 3)) t) 59 7 (g 59 7 + 1)
theorem agree.stand {D : List (Nat × Option Nat)} {u c f t u' c' f' t' : Int} (n0 : nd D 20 14 = true) (n1 : nd D 59 7 = true) (n2 : nd D 59 2 = true) (n : ∀ j, nd D 23 j = true ∧ nd D 24 j = true ∧ nd D 25 j = true ∧ nd D 26 j = true) (m : ∀ j, nd D 61 j = true) : agree D h (standM (am_adds h u c f t) u' c' f' t') :=
  ((((((((((agree.rf.st (n _).1).st (n _).2.1).st (n _).2.2.1).st (n _).2.2.2).st n0).t0 n2).st (m _)).st (m _)).st (m _)).st (m _)).st n1
theorem stand_at {u c f t : Int} {ns : Nat} (h1 : h 20 14 = ns) (h2 : h 59 7 = ns) : standM (am_adds h u c f t) u c f t 20 14 = (ns + 1 : Nat) ∧ standM (am_adds h u c f t) u c f t 59 7 = (ns + 1 : Nat) ∧ (∀ j, standM (am_adds h u c f t) u c f t 23 j = if j = ns then u else h 23 j) ∧ (∀ j, standM (am_adds h u c f t) u c f t 24 j = if j = ns then c else h 24 j) ∧ (∀ j, standM (am_adds h u c f t) u c f t 25 j = if j = ns then f else h 25 j) ∧ (∀ j, standM (am_adds h u c f t) u c f t 26 j = if j = ns then t else h 26 j) ∧ (∀ j, standM (am_adds h u c f t) u c f t 61 j = if j = 4 * ns + 3 then t else if j = 4 * ns + 2 then f else if j = 4 * ns + 1 then c else if j = 4 * ns then u else h 61 j) := by
  have t0 : Int.toNat (4 * (ns : Int)) = 4 * ns := by omega
  have t1 : Int.toNat (4 * (ns : Int) + 1) = 4 * ns + 1 := by omega
  have t2 : Int.toNat (4 * (ns : Int) + 2) = 4 * ns + 2 := by omega
  have t3 : Int.toNat (4 * (ns : Int) + 3) = 4 * ns + 3 := by omega
  unfold standM am_adds am_t0
  refine ⟨?_, ?_, fun j => ?_, fun j => ?_, fun j => ?_, fun j => ?_, fun j => ?_⟩
  · simp [am_st, h1, h2]
  · simp [am_st, h1, h2]
  · simp [am_st, h1, h2]
  · simp [am_st, h1, h2]
  · simp [am_st, h1, h2]
  · simp [am_st, h1, h2]
  · simp [am_st, h1, h2, t0, t1, t2, t3]
theorem pr_stand {u c f t : Int} (I : Inv h) (H : ∀ v g, Inv g → g 0 = h 0 → Q (0, v) (0, v) g) : am_C true L xs P (d + 24) 108 [(2, 1), (0, u), (0, c), (0, f), (0, t)] h (fun r1 h1 => am_C true L xs P (d + 24) 168 [(2, 59), (0, u), (0, c), (0, f), (0, t)] h1 (fun r2 h2 => Q r1 r2 h2)) := by
  obtain ⟨nm, r⟩ := I.r
  have cb := cells_bnd r
  have cl := r.cl
  have sb := r.sb
  have st := r.st
  refine kX11_stand (d := d + 21) (by omega) (fun w => ?_) (fun w => ?_)
  · have e : ∀ j, am_adds h u c f t 59 j = h 59 j := fun j => by unfold am_adds; rw [st_ne (by decide), st_ne (by decide), st_ne (by decide), st_ne (by decide), st_ne (by decide)]
    have ns : ∃ ns : Nat, h 20 14 = ns := ⟨(h 20 14).toNat, by omega⟩
    obtain ⟨ns, hns⟩ := ns
    obtain ⟨a1, a2, a3, a4, a5, a6, a7⟩ := stand_at (u := u) (c := c) (f := f) (t := t) hns (by omega)
    refine kX12_stand (d := d + 22) (h := am_adds h u c f t) (by rw [e]; exact r.w) (by rw [e]; exact r.t) (by rw [e, e]; omega) (by rw [e]; omega) (fun _ => ?_) (fun w2 => absurd ?_ w2)
    · have ev : am_adds h u c f t 59 7 + 1 - 1 = h 20 14 + 1 - 1 := by rw [e, st]
      have ag : ∀ D, nd D 20 14 = true → nd D 59 7 = true → nd D 59 2 = true → (∀ j, nd D 23 j = true ∧ nd D 24 j = true ∧ nd D 25 j = true ∧ nd D 26 j = true) → (∀ j, nd D 61 j = true) → agree D h (standM (am_adds h u c f t) u c f t) := fun D q1 q2 q3 q4 q5 => agree.stand q1 q2 q3 q4 q5
      have aR := ag [(59, some 3), (59, some 4), (59, some 9), (20, some 13), (20, some 15), (21, none), (22, none), (27, none), (28, none), (29, none), (30, none), (31, none), (32, none), (62, none)] rfl rfl rfl (fun _ => ⟨rfl, rfl, rfl, rfl⟩) (fun _ => rfl)
      have f3 := aR.f 59 3 rfl
      have f4 := aR.f 59 4 rfl
      have f9 := aR.f 59 9 rfl
      have f13 := aR.f 20 13 rfl
      have f15 := aR.f 20 15 rfl
      have e21 := aR.c 21 rfl
      have e22 := aR.c 22 rfl
      have e27 := aR.c 27 rfl
      have e28 := aR.c 28 rfl
      have e29 := aR.c 29 rfl
      have e30 := aR.c 30 rfl
      have e31 := aR.c 31 rfl
      have e32 := aR.c 32 rfl
      have e62 := aR.c 62 rfl
      have et : ∀ m t', tM (standM (am_adds h u c f t) u c f t) m t' = tM h m t' := fun m t' => by unfold tM; rw [e62]
      have lr : LkR (standM (am_adds h u c f t) u c f t) nm := by
        refine ⟨by rw [f3]; exact r.w, by rw [f4]; exact r.t, by rw [f13, f3, f4]; exact r.cl, by rw [a1, a2], by rw [a2]; omega, by rw [f15]; exact r.m1, by rw [f9]; exact r.m2, r.m14, by rw [f13, f3, e21, e22]; exact r.co, by rw [e21, e22]; exact r.c25, fun j hj => ?_, fun i hi => ?_, by rw [e27, e28, e29, e30, e31, e62]; exact r.mn, by rw [e62]; exact r.mv, fun m t' hm ht => by rw [e32, et]; exact r.tr m t' hm ht, by rw [e32]; exact r.tv⟩
        · rw [a4, a7]
          have := r.s25 j hj
          by_cases ej : j = ns
          · rw [if_pos ej, if_neg (by omega), if_neg (by omega), if_pos (by omega)]; omega
          · rw [if_neg ej, if_neg (by omega), if_neg (by omega), if_neg (by omega), if_neg (by omega)]; exact this
        · rw [a2] at hi
          rw [a3, a4, a5, a6, a7, a7, a7, a7, f13]
          by_cases ej : i = ns
          · rw [if_pos ej, if_pos ej, if_pos ej, if_pos ej]
            rw [if_neg (by omega), if_neg (by omega), if_neg (by omega), if_pos (by omega)]
            rw [if_neg (by omega), if_neg (by omega), if_pos (by omega)]
            rw [if_neg (by omega), if_pos (by omega)]
            rw [if_pos (by omega)]
            exact ⟨rfl, rfl, rfl, rfl, by omega⟩
          · rw [if_neg ej, if_neg ej, if_neg ej, if_neg ej]
            rw [if_neg (by omega), if_neg (by omega), if_neg (by omega), if_neg (by omega)]
            rw [if_neg (by omega), if_neg (by omega), if_neg (by omega), if_neg (by omega)]
            rw [if_neg (by omega), if_neg (by omega), if_neg (by omega), if_neg (by omega)]
            rw [if_neg (by omega), if_neg (by omega), if_neg (by omega), if_neg (by omega)]
            exact r.sd i (by omega)
      have i : Inv (standM (am_adds h u c f t) u c f t) := I.roll ⟨nm, lr⟩ (ag _ rfl rfl rfl (fun _ => ⟨rfl, rfl, rfl, rfl⟩) (fun _ => rfl)) (ag _ rfl rfl rfl (fun _ => ⟨rfl, rfl, rfl, rfl⟩) (fun _ => rfl)) (ag _ rfl rfl rfl (fun _ => ⟨rfl, rfl, rfl, rfl⟩) (fun _ => rfl)) (ag _ rfl rfl rfl (fun _ => ⟨rfl, rfl, rfl, rfl⟩) (fun _ => rfl)) (ag _ rfl rfl rfl (fun _ => ⟨rfl, rfl, rfl, rfl⟩) (fun _ => rfl)) (ag _ rfl rfl rfl (fun _ => ⟨rfl, rfl, rfl, rfl⟩) (fun _ => rfl)) (ag _ rfl rfl rfl (fun _ => ⟨rfl, rfl, rfl, rfl⟩) (fun _ => rfl))
      have := H (h 20 14 + 1 - 1) _ i ((ag [(0, none)] rfl rfl rfl (fun _ => ⟨rfl, rfl, rfl, rfl⟩) (fun _ => rfl)).c 0 rfl)
      rw [ev]
      exact this
    · rw [e, e, e]; omega
  · refine kX12_stand (d := d + 22) r.w r.t (by omega) (by omega) (fun w2 => absurd ?_ w) (fun _ => H _ _ (I.xs MS.t0.xs) (XS.h0 MS.t0.xs))
    omega
end
