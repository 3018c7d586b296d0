/-! pair2: notes -/
theorem agree.add {D : List (Nat × Option Nat)} {h g : am_H} {k s t v : Int} (a : agree D h g) (n0 : nd D 34 4 = true) (n : ∀ j, nd D 35 j = true ∧ nd D 36 j = true ∧ nd D 37 j = true ∧ nd D 38 j = true) : agree D h (am_add g k s t v) :=
  ((((a.st (n _).1).st (n _).2.1).st (n _).2.2.1).st (n _).2.2.2).st n0
theorem agree.tell {D : List (Nat × Option Nat)} {h g : am_H} {k s t v : Int} (a : agree D h g) (n0 : nd D 59 11 = true) (n : ∀ j, nd D 63 j = true ∧ nd D 64 j = true ∧ nd D 65 j = true ∧ nd D 66 j = true) : agree D h (am_tell g k s t v) :=
  ((((a.st (n _).1).st (n _).2.1).st (n _).2.2.1).st (n _).2.2.2).st n0
theorem agree.t0 {D : List (Nat × Option Nat)} {h g : am_H} (a : agree D h g) (n : nd D 59 2 = true) : agree D h (am_t0 g) := a.st n
theorem add_ne {h : am_H} {k s t v : Int} {i : Nat} (hi : ¬ (34 ≤ i ∧ i ≤ 38)) : am_add h k s t v i = h i := by
  unfold am_add
  rw [st_ne (by omega), st_ne (by omega), st_ne (by omega), st_ne (by omega), st_ne (by omega)]
theorem add_at {h : am_H} {k s t v : Int} : am_add h k s t v 34 4 = h 34 4 + 1 ∧ (∀ j, ¬ j = 4 → am_add h k s t v 34 j = h 34 j) ∧ (∀ j, am_add h k s t v 35 j = if j = (h 34 4).toNat then k else h 35 j) ∧ (∀ j, am_add h k s t v 36 j = if j = (h 34 4).toNat then s else h 36 j) ∧ (∀ j, am_add h k s t v 37 j = if j = (h 34 4).toNat then t else h 37 j) ∧ (∀ j, am_add h k s t v 38 j = if j = (h 34 4).toNat then v else h 38 j) := by
  unfold am_add
  refine ⟨st_at, fun j hj => ?_, fun j => ?_, fun j => ?_, fun j => ?_, fun j => ?_⟩
  · rw [st_nj hj, st_ne (by decide), st_ne (by decide), st_ne (by decide), st_ne (by decide)]
  · rw [st_ne (by decide), st_ne (by decide), st_ne (by decide), st_ne (by decide), st_ap]
  · rw [st_ne (by decide), st_ne (by decide), st_ne (by decide), st_ap, st_ne (by decide)]
  · rw [st_ne (by decide), st_ne (by decide), st_ap, st_ne (by decide), st_ne (by decide)]
  · rw [st_ne (by decide), st_ap, st_ne (by decide), st_ne (by decide), st_ne (by decide)]
theorem tell_ne {h : am_H} {k s t v : Int} {i : Nat} (hi : ¬ i = 59 ∧ ¬ (63 ≤ i ∧ i ≤ 66)) : am_tell h k s t v i = h i := by
  unfold am_tell
  rw [st_ne (by omega), st_ne (by omega), st_ne (by omega), st_ne (by omega), st_ne (by omega)]
theorem tell_at {h : am_H} {k s t v : Int} : am_tell h k s t v 59 11 = h 59 11 + 1 ∧ (∀ j, ¬ j = 11 → am_tell h k s t v 59 j = h 59 j) ∧ (∀ j, am_tell h k s t v 63 j = if j = (h 59 11).toNat then k else h 63 j) ∧ (∀ j, am_tell h k s t v 64 j = if j = (h 59 11).toNat then s else h 64 j) ∧ (∀ j, am_tell h k s t v 65 j = if j = (h 59 11).toNat then t else h 65 j) ∧ (∀ j, am_tell h k s t v 66 j = if j = (h 59 11).toNat then v else h 66 j) := by
  unfold am_tell
  refine ⟨st_at, fun j hj => ?_, fun j => ?_, fun j => ?_, fun j => ?_, fun j => ?_⟩
  · rw [st_nj hj, st_ne (by decide), st_ne (by decide), st_ne (by decide), st_ne (by decide)]
  · rw [st_ne (by decide), st_ne (by decide), st_ne (by decide), st_ne (by decide), st_ap]
  · rw [st_ne (by decide), st_ne (by decide), st_ne (by decide), st_ap, st_ne (by decide)]
  · rw [st_ne (by decide), st_ne (by decide), st_ap, st_ne (by decide), st_ne (by decide)]
  · rw [st_ne (by decide), st_ap, st_ne (by decide), st_ne (by decide), st_ne (by decide)]
/-- one note more in both -/
def New (h g : am_H) (N nb nb' : Nat) (k s t v u : Int) : Prop := (g 34 4 = (N + 1 : Nat)) ∧ (g 59 11 = (N + 1 : Nat)) ∧ (g 34 5 = nb') ∧ (g 59 12 = nb') ∧ (∀ j, ¬ j = N → g 35 j = h 35 j ∧ g 36 j = h 36 j ∧ g 37 j = h 37 j ∧ g 38 j = h 38 j ∧ g 63 j = h 63 j ∧ g 64 j = h 64 j ∧ g 65 j = h 65 j ∧ g 66 j = h 66 j) ∧ (g 35 N = k ∧ g 36 N = s ∧ g 37 N = t ∧ g 38 N = v ∧ g 63 N = k ∧ g 64 N = s ∧ g 65 N = t ∧ g 66 N = u) ∧ (∀ b, b < nb → g 67 b = h 67 b ∧ g 68 b = h 68 b) ∧ (g 20 13 = h 20 13)
theorem New.s1 {h g : am_H} {N nb nb' : Nat} {k s t v u : Int} (s_ : New h g N nb nb' k s t v u) : g 34 4 = (N + 1 : Nat) := s_.1
theorem New.s2 {h g : am_H} {N nb nb' : Nat} {k s t v u : Int} (s_ : New h g N nb nb' k s t v u) : g 59 11 = (N + 1 : Nat) := s_.2.1
theorem New.b1 {h g : am_H} {N nb nb' : Nat} {k s t v u : Int} (s_ : New h g N nb nb' k s t v u) : g 34 5 = nb' := s_.2.2.1
theorem New.b2 {h g : am_H} {N nb nb' : Nat} {k s t v u : Int} (s_ : New h g N nb nb' k s t v u) : g 59 12 = nb' := s_.2.2.2.1
theorem New.old {h g : am_H} {N nb nb' : Nat} {k s t v u : Int} (s_ : New h g N nb nb' k s t v u) : ∀ j, ¬ j = N → g 35 j = h 35 j ∧ g 36 j = h 36 j ∧ g 37 j = h 37 j ∧ g 38 j = h 38 j ∧ g 63 j = h 63 j ∧ g 64 j = h 64 j ∧ g 65 j = h 65 j ∧ g 66 j = h 66 j := s_.2.2.2.2.1
theorem New.new {h g : am_H} {N nb nb' : Nat} {k s t v u : Int} (s_ : New h g N nb nb' k s t v u) : g 35 N = k ∧ g 36 N = s ∧ g 37 N = t ∧ g 38 N = v ∧ g 63 N = k ∧ g 64 N = s ∧ g 65 N = t ∧ g 66 N = u := s_.2.2.2.2.2.1
theorem New.bod {h g : am_H} {N nb nb' : Nat} {k s t v u : Int} (s_ : New h g N nb nb' k s t v u) : ∀ b, b < nb → g 67 b = h 67 b ∧ g 68 b = h 68 b := s_.2.2.2.2.2.2.1
theorem New.cel {h g : am_H} {N nb nb' : Nat} {k s t v u : Int} (s_ : New h g N nb nb' k s t v u) : g 20 13 = h 20 13 := s_.2.2.2.2.2.2.2
theorem LkN.push {h g : am_H} {N nb nb' : Nat} {k s t v u : Int} (l : LkN h N nb) (hN : N < 90) (w : New h g N nb nb' k s t v u) (c25 : h 20 13 ≤ 25) (hk : (k = 0 ∧ nb' = nb + 1 ∧ nb < 10 ∧ s = nb ∧ 0 ≤ v ∧ v < h 20 13 ∧ g 67 nb = v ∧ g 68 nb = N) ∨ (nb' = nb ∧ ((k = 1 ∧ 0 ≤ s ∧ s < nb ∧ 0 ≤ t ∧ t < 14 ∧ 0 ≤ v ∧ v ≤ 9 ∧ u = v) ∨ (k = 2 ∧ 0 ≤ s ∧ s < h 20 13) ∨ (k = 3 ∧ 0 ≤ s ∧ s < N)))) : LkN g (N + 1) nb' := by
  have nbb : nb ≤ nb' ∧ nb' ≤ 10 := by have := l.wn.nb10; omega
  have k03 : 0 ≤ k ∧ k ≤ 3 := by omega
  have sp : ∀ j, j < N + 1 → ¬ j = N → j < N := fun j h1 h2 => by omega
  obtain ⟨n1, n2, n3, n4, n5, n6, n7, n8⟩ := w.new
  refine ⟨w.s1, w.s2, by omega, w.b1, w.b2, fun j hj => ?_, fun j hj => ?_, fun j hj => ?_, fun j hj h1 => ?_, fun j hj h0 => ?_, fun b hb => ?_, ⟨nbb.2, fun j hj => ?_, fun j hj h0 => ?_, fun j hj h0 => ?_, fun j hj h0 => ?_, fun j hj h0 => ?_, fun j j' hj hj' h0 h0' he => ?_⟩, fun j hj h0 => ?_, fun j hj h0 => ?_⟩
  · by_cases e : j = N
    · rw [e, n1, n5]
    · have o := w.old j e; rw [o.1, o.2.2.2.2.1]; exact l.kd j (sp j hj e)
  · by_cases e : j = N
    · rw [e, n2, n6]
    · have o := w.old j e; rw [o.2.1, o.2.2.2.2.2.1]; exact l.sj j (sp j hj e)
  · by_cases e : j = N
    · rw [e, n3, n7]
    · have o := w.old j e; rw [o.2.2.1, o.2.2.2.2.2.2.1]; exact l.th j (sp j hj e)
  · by_cases e : j = N
    · rw [e, n4, n8]; rw [e, n1] at h1; omega
    · have o := w.old j e; rw [o.2.2.2.1, o.2.2.2.2.2.2.2]; rw [o.1] at h1; exact l.v1 j (sp j hj e) h1
  · by_cases e : j = N
    · rw [e, n1] at h0
      rw [e, n4, n2]
      rcases hk with z | z
      · rw [z.2.2.2.1, Int.toNat_natCast, z.2.2.2.2.2.2.1, z.2.2.2.2.2.2.2]; exact ⟨rfl, rfl⟩
      · omega
    · have o := w.old j e
      rw [o.1] at h0
      have a := l.v0 j (sp j hj e) h0
      have b := l.wn.k0 j (sp j hj e) h0
      have c := w.bod (h 36 j).toNat (by omega)
      rw [o.2.2.2.1, o.2.1, c.1, c.2]; exact a
  · by_cases e : b < nb
    · have a := l.no b e
      have c := w.bod b e
      rw [c.2]
      have o := w.old (h 68 b).toNat (by omega)
      rw [o.1, o.2.1]
      exact ⟨a.1, by omega, a.2.2.1, a.2.2.2⟩
    · rcases hk with z | z
      · have eb : b = nb := by omega
        rw [eb, z.2.2.2.2.2.2.2, Int.toNat_natCast, n1, n2]
        exact ⟨by omega, by omega, z.1, z.2.2.2.1⟩
      · omega
  · by_cases e : j = N
    · rw [e, n1]; exact k03
    · rw [(w.old j e).1]; exact l.wn.kds j (sp j hj e)
  · by_cases e : j = N
    · rw [e, n1] at h0
      rw [e, n2, n4]
      omega
    · have o := w.old j e
      rw [o.1] at h0
      have a := l.wn.k0 j (sp j hj e) h0
      rw [o.2.1, o.2.2.2.1]
      omega
  · by_cases e : j = N
    · rw [e, n1] at h0
      rw [e, n2, n3, n4]
      omega
    · have o := w.old j e
      rw [o.1] at h0
      have a := l.wn.k1 j (sp j hj e) h0
      rw [o.2.1, o.2.2.1, o.2.2.2.1]
      omega
  · by_cases e : j = N
    · rw [e, n1] at h0
      rw [e, n2]
      omega
    · have o := w.old j e
      rw [o.1] at h0
      have a := l.wn.k2 j (sp j hj e) h0
      rw [o.2.1]
      omega
  · by_cases e : j = N
    · rw [e, n1] at h0
      rw [e, n2]
      omega
    · have o := w.old j e
      rw [o.1] at h0
      have a := l.wn.k3 j (sp j hj e) h0
      rw [o.2.1]
      omega
  · by_cases e : j = N
    · by_cases e' : j' = N
      · omega
      · exfalso
        have o := w.old j' e'
        rw [e, n1] at h0
        rw [o.1] at h0'
        have a := l.wn.k0 j' (sp j' hj' e') h0'
        rw [e, n2, o.2.1] at he
        omega
    · by_cases e' : j' = N
      · exfalso
        have o := w.old j e
        rw [e', n1] at h0'
        rw [o.1] at h0
        have a := l.wn.k0 j (sp j hj e) h0
        rw [e', n2, o.2.1] at he
        omega
      · have o := w.old j e
        have o' := w.old j' e'
        rw [o.1] at h0
        rw [o'.1] at h0'
        rw [o.2.1, o'.2.1] at he
        exact l.wn.one j j' (sp j hj e) (sp j' hj' e') h0 h0' he
  · rw [w.cel]
    by_cases e : j = N
    · rw [e, n1] at h0
      rw [e, n4]
      omega
    · have o := w.old j e
      rw [o.1] at h0
      rw [o.2.2.2.1]; exact l.ce j (sp j hj e) h0
  · rw [w.cel]
    by_cases e : j = N
    · rw [e, n1] at h0
      rw [e, n2]
      omega
    · have o := w.old j e
      rw [o.1] at h0
      rw [o.2.1]; exact l.du j (sp j hj e) h0
theorem Inv.note {h g : am_H} (I : Inv h) (n : ∃ N nb, LkN g N nb) (aR : agree DR h g) (aP : agree DP h g) (aT : agree DT h g) (aF : agree DF h g) (aL : agree DL h g) (aY : agree DY h g) (aW : agree DW h g) : Inv g := by
  obtain ⟨_, ⟨nm, r⟩, ⟨c, np, nq, p, s⟩, t, f, l, y, w⟩ := I
  exact ⟨n, ⟨nm, r.cg aR⟩, ⟨c, np, nq, p.cg aP, s.cg p.hc aP⟩, t.cg aT, f.cg aF, l.cg aL, y.cg aY, w.cg aW⟩
section
variable {L : Nat} {xs : Nat → Int} {P : Nat → List am_V → am_H → am_K → Prop} {d : Nat} {h : am_H} {Q : am_V → am_V → am_H → Prop}
theorem new_of {N nb : Nat} {k s t v u : Int} (l : LkN h N nb) : New h (am_tell (am_t0 (am_add h k s t v)) k s t u) N nb nb k s t v u := by
  have x2 : am_t0 (am_add h k s t v) 59 11 = N := by
    show am_st (am_add h k s t v) 59 2 0 59 11 = N
    rw [st_nj (by decide), add_ne (by decide)]; exact l.s2
  have tn : ∀ i, ¬ i = 59 → am_t0 (am_add h k s t v) i = am_add h k s t v i := fun i hi => st_ne hi
  have T := tell_at (h := am_t0 (am_add h k s t v)) (k := k) (s := s) (t := t) (v := u)
  have A := add_at (h := h) (k := k) (s := s) (t := t) (v := v)
  rw [x2, Int.toNat_natCast] at T
  rw [l.s1, Int.toNat_natCast] at A
  refine ⟨?_, ?_, ?_, ?_, fun j hj => ?_, ?_, fun b hb => ?_, ?_⟩
  · rw [tell_ne (by decide), tn 34 (by decide), A.1]; omega
  · rw [T.1]; omega
  · rw [tell_ne (by decide), tn 34 (by decide), A.2.1 5 (by decide)]; exact l.b1
  · rw [T.2.1 12 (by decide)]
    show am_st (am_add h k s t v) 59 2 0 59 12 = nb
    rw [st_nj (by decide), add_ne (by decide)]; exact l.b2
  · rw [tell_ne (i := 35) (by decide), tell_ne (i := 36) (by decide), tell_ne (i := 37) (by decide), tell_ne (i := 38) (by decide), tn 35 (by decide), tn 36 (by decide), tn 37 (by decide), tn 38 (by decide), A.2.2.1, A.2.2.2.1, A.2.2.2.2.1, A.2.2.2.2.2, T.2.2.1, T.2.2.2.1, T.2.2.2.2.1, T.2.2.2.2.2, tn 63 (by decide), tn 64 (by decide), tn 65 (by decide), tn 66 (by decide), add_ne (i := 63) (by decide), add_ne (i := 64) (by decide), add_ne (i := 65) (by decide), add_ne (i := 66) (by decide)]
    simp only [if_neg hj, and_self]
  · rw [tell_ne (i := 35) (by decide), tell_ne (i := 36) (by decide), tell_ne (i := 37) (by decide), tell_ne (i := 38) (by decide), tn 35 (by decide), tn 36 (by decide), tn 37 (by decide), tn 38 (by decide), A.2.2.1, A.2.2.2.1, A.2.2.2.2.1, A.2.2.2.2.2, T.2.2.1, T.2.2.2.1, T.2.2.2.2.1, T.2.2.2.2.2]
    simp only [if_true, and_self]
  · rw [tell_ne (i := 67) (by decide), tell_ne (i := 68) (by decide), tn 67 (by decide), tn 68 (by decide), add_ne (by decide), add_ne (by decide)]; exact ⟨rfl, rfl⟩
  · rw [tell_ne (by decide), tn 20 (by decide), add_ne (by decide)]
theorem inv_note {N nb : Nat} {k s t v u : Int} (I : Inv h) (l : LkN h N nb) (hN : N < 90) (hk : (k = 1 ∧ 0 ≤ s ∧ s < nb ∧ 0 ≤ t ∧ t < 14 ∧ 0 ≤ v ∧ v ≤ 9 ∧ u = v) ∨ (k = 2 ∧ 0 ≤ s ∧ s < h 20 13) ∨ (k = 3 ∧ 0 ≤ s ∧ s < N)) : Inv (am_tell (am_t0 (am_add h k s t v)) k s t u) ∧ am_tell (am_t0 (am_add h k s t v)) k s t u 0 = h 0 := by
  obtain ⟨nm, r⟩ := I.r
  refine ⟨I.note ⟨_, _, l.push hN (new_of l) (cells_bnd r).2 (Or.inr ⟨rfl, hk⟩)⟩ ?_ ?_ ?_ ?_ ?_ ?_ ?_, ?_⟩
  · exact ((agree.rf.add rfl (fun _ => ⟨rfl, rfl, rfl, rfl⟩)).t0 rfl).tell rfl (fun _ => ⟨rfl, rfl, rfl, rfl⟩)
  · exact ((agree.rf.add rfl (fun _ => ⟨rfl, rfl, rfl, rfl⟩)).t0 rfl).tell rfl (fun _ => ⟨rfl, rfl, rfl, rfl⟩)
  · exact ((agree.rf.add rfl (fun _ => ⟨rfl, rfl, rfl, rfl⟩)).t0 rfl).tell rfl (fun _ => ⟨rfl, rfl, rfl, rfl⟩)
  · exact ((agree.rf.add rfl (fun _ => ⟨rfl, rfl, rfl, rfl⟩)).t0 rfl).tell rfl (fun _ => ⟨rfl, rfl, rfl, rfl⟩)
  · exact ((agree.rf.add rfl (fun _ => ⟨rfl, rfl, rfl, rfl⟩)).t0 rfl).tell rfl (fun _ => ⟨rfl, rfl, rfl, rfl⟩)
  · exact ((agree.rf.add rfl (fun _ => ⟨rfl, rfl, rfl, rfl⟩)).t0 rfl).tell rfl (fun _ => ⟨rfl, rfl, rfl, rfl⟩)
  · exact ((agree.rf.add rfl (fun _ => ⟨rfl, rfl, rfl, rfl⟩)).t0 rfl).tell rfl (fun _ => ⟨rfl, rfl, rfl, rfl⟩)
  · rw [tell_ne (by decide)]
    show am_st _ 59 2 0 0 = h 0
    rw [st_ne (by decide), add_ne (by decide)]
theorem pr_dig {c : Int} (I : Inv h) (H : ∀ v g, Inv g → g 0 = h 0 → Q (0, v) (0, v) g) : am_C true L xs P (d + 24) 112 [(2, 1), (0, c)] h (fun r1 h1 => am_C true L xs P (d + 24) 173 [(2, 59), (0, c)] h1 (fun r2 h2 => Q r1 r2 h2)) := by
  obtain ⟨N, nb, l⟩ := I.n
  obtain ⟨nm, r⟩ := I.r
  have N90 := l.N90
  have s1 := l.s1
  have s2 := l.s2
  have cb := cells_bnd r
  have cl := r.cl
  refine kX11_dig (d := d + 22) (by omega) (fun w => ?_) (fun w => ?_)
  · have e : ∀ j, am_add h 2 c 0 0 59 j = h 59 j := fun j => by rw [add_ne (by decide)]
    refine kX12_dig (d := d + 22) (by rw [e]; exact r.w) (by rw [e]; exact r.t) (by rw [e, e]; omega) (by rw [e]; omega) (fun _ => ?_) (fun w2 => absurd ?_ w2)
    · have i := inv_note (u := 0) I l (by omega) (Or.inr (Or.inl ⟨rfl, w.1.1, w.1.2⟩)) (t := 0) (v := 0)
      rw [e, s1, s2]
      exact H _ _ i.1 i.2
    · rw [e, e, e]; omega
  · refine kX12_dig (d := d + 22) r.w r.t (by omega) (by omega) (fun w2 => absurd ?_ w) (fun _ => H _ _ (I.xs MS.t0.xs) (XS.h0 MS.t0.xs))
    omega
theorem pr_strike {c : Int} (I : Inv h) (H : ∀ v g, Inv g → g 0 = h 0 → Q (0, v) (0, v) g) : am_C true L xs P (d + 24) 113 [(2, 1), (0, c)] h (fun r1 h1 => am_C true L xs P (d + 24) 174 [(2, 59), (0, c)] h1 (fun r2 h2 => Q r1 r2 h2)) := by
  obtain ⟨N, nb, l⟩ := I.n
  have N90 := l.N90
  have s1 := l.s1
  have s2 := l.s2
  refine kX11_strike (d := d + 22) (by omega) (fun w => ?_) (fun w => ?_)
  · have e : ∀ j, am_add h 3 c 0 0 59 j = h 59 j := fun j => by rw [add_ne (by decide)]
    refine kX12_strike (d := d + 22) (by rw [e]; omega) (fun _ => ?_) (fun w2 => absurd ?_ w2)
    · have i := inv_note (u := 0) I l (by omega) (Or.inr (Or.inr ⟨rfl, w.1.1, by omega⟩)) (t := 0) (v := 0)
      rw [e, s1, s2]
      exact H _ _ i.1 i.2
    · rw [e]; omega
  · exact kX12_strike (d := d + 22) (by omega) (fun w2 => absurd (by omega) w) (fun _ => H _ _ (I.xs MS.t0.xs) (XS.h0 MS.t0.xs))
theorem pr_read {b k p v : Int} (I : Inv h) (H : ∀ v g, Inv g → g 0 = h 0 → Q (0, v) (0, v) g) : am_C true L xs P (d + 24) 111 [(2, 1), (0, b), (0, k), (0, p), (0, v)] h (fun r1 h1 => am_C true L xs P (d + 24) 172 [(2, 59), (0, b), (0, k), (0, p), (0, v)] h1 (fun r2 h2 => Q r1 r2 h2)) := by
  obtain ⟨N, nb, l⟩ := I.n
  have N90 := l.N90
  have s1 := l.s1
  have s2 := l.s2
  have b1 := l.b1
  have b2 := l.b2
  have go : ∀ t t' : Int, t' = t → 0 ≤ t ∧ t < 14 → (0 ≤ b ∧ b < nb) → (0 ≤ v ∧ v ≤ 9) → N < 90 → Q (0, h 34 4 + 1 - 1) (0, am_add h 1 b t v 59 11 + 1 - 1) (am_tell (am_t0 (am_add h 1 b t v)) 1 b t' v) := by
    intro t t' et ht hb hv hN
    rw [et]
    have i := inv_note (u := v) I l hN (Or.inl ⟨rfl, hb.1, hb.2, ht.1, ht.2, hv.1, hv.2, rfl⟩) (t := t)
    rw [add_ne (by decide), s1, s2]
    exact H _ _ i.1 i.2
  have e : ∀ t j, am_add h 1 b t v 59 j = h 59 j := fun t j => by rw [add_ne (by decide)]
  have mm : (((0 ≤ b ∧ b < h 34 5) ∧ ((k = 0 ∧ 0 ≤ p ∧ p ≤ 3) ∨ k = 1 ∨ k = 2 ∨ (k = 3 ∧ 0 ≤ p ∧ p ≤ 7)) ∧ ((k = 1 → 0 ≤ v ∧ v ≤ 5) ∧ (k = 3 → 0 ≤ v ∧ v ≤ 1) ∧ (0 ≤ v ∧ v ≤ 9)) ∧ ¬ h 34 4 = 90) ↔ ((0 ≤ b ∧ b < h 59 12) ∧ ((k = 0 ∧ 0 ≤ p ∧ p ≤ 3) ∨ k = 1 ∨ k = 2 ∨ (k = 3 ∧ 0 ≤ p ∧ p ≤ 7)) ∧ ((k = 1 → 0 ≤ v ∧ v ≤ 5) ∧ (k = 3 → 0 ≤ v ∧ v ≤ 1) ∧ (0 ≤ v ∧ v ≤ 9)) ∧ ¬ h 59 11 = 90)) := by rw [b1, b2, s1, s2]
  refine kX11_read (d := d + 20) (by omega) (fun w => ?_) (fun w => ?_) (fun w => ?_) (fun w => ?_) (fun w => ?_)
  · refine kX12_read (d := d + 22) (by rw [e]; omega) (fun _ => go p p rfl (by omega) (by omega) w.1.2.2.1.2.2 (by omega)) (fun w2 => by omega) (fun w2 => by omega) (fun w2 => by omega) (fun w2 => absurd ?_ w2)
    rw [e, e]; exact mm.mp w.1
  · refine kX12_read (d := d + 22) (by rw [e]; omega) (fun w2 => by omega) (fun _ => go 4 (3 + k) (by omega) (by omega) (by omega) w.1.2.2.1.2.2 (by omega)) (fun w2 => by omega) (fun w2 => by omega) (fun w2 => absurd ?_ w2)
    rw [e, e]; exact mm.mp w.1
  · refine kX12_read (d := d + 22) (by rw [e]; omega) (fun w2 => by omega) (fun w2 => by omega) (fun _ => go 5 (3 + k) (by omega) (by omega) (by omega) w.1.2.2.1.2.2 (by omega)) (fun w2 => by omega) (fun w2 => absurd ?_ w2)
    rw [e, e]; exact mm.mp w.1
  · refine kX12_read (d := d + 22) (by rw [e]; omega) (fun w2 => by omega) (fun w2 => by omega) (fun w2 => by omega) (fun _ => go (6 + p) (6 + p) rfl (by omega) (by omega) w.1.2.2.1.2.2 (by omega)) (fun w2 => absurd ?_ w2)
    rw [e, e]; exact mm.mp w.1
  · exact kX12_read (d := d + 22) (by omega) (fun w2 => absurd (mm.mpr w2.1) w) (fun w2 => absurd (mm.mpr w2.1) w) (fun w2 => absurd (mm.mpr w2.1) w) (fun w2 => absurd (mm.mpr w2.1) w) (fun _ => H _ _ (I.xs MS.t0.xs) (XS.h0 MS.t0.xs))
end
