/-! pair1: the questions, class and model one after the other -/
section
variable {L : Nat} {xs : Nat → Int} {P : Nat → List am_V → am_H → am_K → Prop} {d : Nat} {h : am_H} {Q : am_V → am_V → am_H → Prop}
theorem both {g1 g2 : am_H} {N nb nm c np k : Nat} (a : LkN h N nb) (r : LkR h nm) (p : LkP h c np) (cs : CS h g1) (ng : NG k c np nm g1) (ms : MS g1 g2) : LkN g2 N nb ∧ LkR g2 nm ∧ LkP g2 c np ∧ NG k c np nm g2 ∧ XS h g2 := by
  have x := cs.xs.tr ms.xs
  exact ⟨a.cg (x.ag rfl), r.cg (x.ag rfl), p.cg (x.ag rfl), ng.fr p.hc (fun i h1 h2 => ms.1 i (by omega) (by omega)), x⟩
theorem known_lt {k : am_H} {n N nb : Nat} (hn : n ≤ N) (a : LkN k N nb) (x : KC n k) {b : Nat} (h : bt (k 39 4) b = true) : b < nb := by
  obtain ⟨j, _, j1, j2, j3, j4⟩ := (x.bo b).mp h
  have := a.wn.k0 j (by omega) j3
  omega
theorem pr_who {n b : Int} (I : Inv h) (H : ∀ v g, Inv g → g 0 = h 0 → Q (0, v) (0, v) g) : am_C true L xs P (d + 24) 118 [(2, 1), (0, n), (0, b)] h (fun r1 h1 => am_C true L xs P (d + 24) 195 [(2, 59), (0, n), (0, b)] h1 (fun r2 h2 => Q r1 r2 h2)) := by
  obtain ⟨N, nb, a⟩ := I.n
  obtain ⟨nm, r⟩ := I.r
  obtain ⟨c, np, nq, p, s⟩ := I.p
  have nb10 := a.wn.nb10
  have fin : ∀ (v : Int) g, XS h g → Q (0, v) (0, v) g := fun v g x => H v g (I.xs x) x.h0
  refine kX11_who (d := d + 8) (lkC a r p) (fun w => ?_) (fun w g1 cs ng w1 => ?_) (fun w g1 cs ng w1 => ?_)
  · exact kX12_who (d := d + 17) (lkL a r p) (fun g x _ => fin _ g x.xs) (fun z => absurd z.1 w) (fun z => absurd z.1 w)
  · refine kX12_who (d := d + 17) (lkL (a.cg (cs.xs.ag rfl)) (r.cg (cs.xs.ag rfl)) (p.cg (cs.xs.ag rfl))) (fun g x _ => fin _ g (cs.xs.tr x.xs)) (fun _ g x _ _ => fin _ g (cs.xs.tr x.xs)) (fun w2 g v x ld kk vI vb => ?_)
    obtain ⟨a2, r2, p2, ng2, x2⟩ := both a r p cs ng x
    have := (lk_known (by omega) a2 ng2.kc ld.kd b.toNat).mpr kk
    rw [x.1 39 (by decide) (by decide)] at this
    exact absurd ⟨w2.2.1, by omega, this⟩ w1
  · have hlt := known_lt (by omega) (a.cg (cs.xs.ag rfl)) ng.kc w1.2.2
    refine kX12_who (d := d + 17) (lkL (a.cg (cs.xs.ag rfl)) (r.cg (cs.xs.ag rfl)) (p.cg (cs.xs.ag rfl))) (fun g x w2 => absurd ⟨w, by omega⟩ w2) (fun _ g x ld nk => ?_) (fun w2 g v x ld kk vI vb => ?_)
    · obtain ⟨a2, r2, p2, ng2, x2⟩ := both a r p cs ng x
      exact absurd ((lk_known (by omega) a2 ng2.kc ld.kd b.toNat).mp (by rw [x.1 39 (by decide) (by decide)]; exact w1.2.2)) nk
    · obtain ⟨a2, r2, p2, ng2, x2⟩ := both a r p cs ng x
      have e : g1 47 b.toNat = v := by
        rw [← x.1 47 (by decide) (by decide)]
        refine bt_ext (ng2.se.whoI _ (by omega)) vI (fun m _ => ?_)
        rw [Bool.eq_iff_iff, vb, lk_who (by omega) a2 r2 p2 ng2 ld hlt m]
      rw [e]
      exact fin v g x2
theorem pr_named {n b : Int} (I : Inv h) (H : ∀ v g, Inv g → g 0 = h 0 → Q (0, v) (0, v) g) : am_C true L xs P (d + 24) 119 [(2, 1), (0, n), (0, b)] h (fun r1 h1 => am_C true L xs P (d + 24) 196 [(2, 59), (0, n), (0, b)] h1 (fun r2 h2 => Q r1 r2 h2)) := by
  obtain ⟨N, nb, a⟩ := I.n
  obtain ⟨nm, r⟩ := I.r
  obtain ⟨c, np, nq, p, s⟩ := I.p
  have nb10 := a.wn.nb10
  have fin : ∀ (v : Int) g, XS h g → Q (0, v) (0, v) g := fun v g x => H v g (I.xs x) x.h0
  refine kX11_named (d := d + 8) (lkC a r p) (fun w => ?_) (fun w g1 cs ng w1 => ?_) (fun w g1 cs ng w1 => ?_)
  · exact kX12_named (d := d + 17) (lkL a r p) (fun g x _ => fin _ g x.xs) (fun z => absurd z.1 w) (fun z => absurd z.1 w) (fun z => absurd z.1 w)
  · have no : ∀ g, MS g1 g → LD n.toNat N nb np nm g → ((0 ≤ n ∧ n ≤ N) ∧ (0 ≤ b ∧ b < nb)) → ¬ Km g nb b.toNat := by
      intro g x ld w2 kk
      obtain ⟨a2, r2, p2, ng2, x2⟩ := both a r p cs ng x
      have := (lk_known (by omega) a2 ng2.kc ld.kd b.toNat).mpr kk
      rw [x.1 39 (by decide) (by decide)] at this
      exact absurd ⟨w2.2.1, by omega, this⟩ w1
    exact kX12_named (d := d + 17) (lkL (a.cg (cs.xs.ag rfl)) (r.cg (cs.xs.ag rfl)) (p.cg (cs.xs.ag rfl))) (fun g x _ => fin _ g (cs.xs.tr x.xs)) (fun _ g x _ _ => fin _ g (cs.xs.tr x.xs)) (fun w2 g x ld kk _ => absurd kk (no g x ld w2)) (fun w2 g _ x ld kk _ => absurd kk (no g x ld w2))
  · have hlt := known_lt (by omega) (a.cg (cs.xs.ag rfl)) ng.kc w1.2.2
    refine kX12_named (d := d + 17) (lkL (a.cg (cs.xs.ag rfl)) (r.cg (cs.xs.ag rfl)) (p.cg (cs.xs.ag rfl))) (fun g x w2 => absurd ⟨w, by omega⟩ w2) (fun _ g x ld nk => ?_) (fun w2 g x ld kk vb => ?_) (fun w2 g m x ld kk vb => ?_)
    · obtain ⟨a2, r2, p2, ng2, x2⟩ := both a r p cs ng x
      exact absurd ((lk_known (by omega) a2 ng2.kc ld.kd b.toNat).mp (by rw [x.1 39 (by decide) (by decide)]; exact w1.2.2)) nk
    · obtain ⟨a2, r2, p2, ng2, x2⟩ := both a r p cs ng x
      have := (lk_n1 (by omega) a2 r2 p2 ng2 ld hlt).mpr vb
      rw [x.1 48 (by decide) (by decide)] at this
      rw [this]
      exact fin _ g x2
    · obtain ⟨a2, r2, p2, ng2, x2⟩ := both a r p cs ng x
      have := (lk_named (by omega) a2 r2 p2 ng2 ld hlt m).mpr vb
      rw [x.1 48 (by decide) (by decide)] at this
      rw [this]
      exact fin _ g x2
theorem lk_miss {k : am_H} {n N nb np nm c : Nat} {v w : Int} (hn : n ≤ N) (a : LkN k N nb) (r : LkR k nm) (p : LkP k c np) (x : NG n c np nm k) (y : LD n N nb np nm k) (vI : am_inI v) (wI : am_inI w) (hv : ∀ m, bt v m = true ↔ m < nm ∧ ¬ ∃ b, b < 10 ∧ k 48 b = m) (hw : ∀ m, bt w m = true ↔ m < nm ∧ ¬ ∃ b, Km k nb b ∧ Nb k nb nm b m) : v = w := by
  refine bt_ext vI wI (fun m _ => ?_)
  rw [Bool.eq_iff_iff, hv, hw]
  refine and_congr_right (fun hm => not_congr ⟨fun ⟨b, hb, h48⟩ => ?_, fun ⟨b, hk, hN⟩ => ?_⟩)
  · -- named: then it may be someone, so it is known
    have nd := x.se.named b hb
    have hl : ¬ (Loose 10 nm (k 50) (Ch k) b ∨ ¬ k 47 b = 2 ^ (k 49 b).toNat) := fun z => by have := nd.2 z; omega
    have h47 : k 47 b = 2 ^ (k 49 b).toNat := Classical.not_not.mp (fun z => hl (Or.inr z))
    have h49 := nd.1 (fun z => hl (Or.inl z)) h47
    have hm14 := r.m14
    have hbit : bt (k 47 b) (k 49 b).toNat = true := by rw [h47, bt_p2 _ (by omega)]; simp
    have hE := ((x.se.who b hb _).mp hbit).2.1
    have hb2 := ((lk_E hn a r p x y hb _).mp hE).1
    have hkn : bt (k 39 4) b = true := by
      rcases (x.ey b hb _).mp hE with z | z
      · exact z.2.1.1
      · exact z.2.1.1
    exact ⟨b, (lk_known hn a x.kc y.kd b).mp hkn, (lk_named hn a r p x y hb2 m).mp h48⟩
  · exact ⟨b, Nat.lt_of_lt_of_le hk.1 a.wn.nb10, (lk_named hn a r p x y hk.1 m).mpr hN⟩
theorem pr_missing {n : Int} (I : Inv h) (H : ∀ v g, Inv g → g 0 = h 0 → Q (0, v) (0, v) g) : am_C true L xs P (d + 24) 121 [(2, 1), (0, n)] h (fun r1 h1 => am_C true L xs P (d + 24) 199 [(2, 59), (0, n)] h1 (fun r2 h2 => Q r1 r2 h2)) := by
  obtain ⟨N, nb, a⟩ := I.n
  obtain ⟨nm, r⟩ := I.r
  obtain ⟨c, np, nq, p, s⟩ := I.p
  have fin : ∀ (v : Int) g, XS h g → Q (0, v) (0, v) g := fun v g x => H v g (I.xs x) x.h0
  refine kX11_missing (d := d + 8) (lkC a r p) (fun w => ?_) (fun w g1 v cs ng vI vb => ?_)
  · exact kX12_missing (d := d + 17) (lkL a r p) (fun g x _ => fin _ g x.xs) (fun z => absurd z w)
  · refine kX12_missing (d := d + 17) (lkL (a.cg (cs.xs.ag rfl)) (r.cg (cs.xs.ag rfl)) (p.cg (cs.xs.ag rfl))) (fun g x w2 => absurd w w2) (fun w2 g u x ld uI ub => ?_)
    obtain ⟨a2, r2, p2, ng2, x2⟩ := both a r p cs ng x
    have e : v = u := lk_miss (by omega) a2 r2 p2 ng2 ld vI uI (by rw [x.1 48 (by decide) (by decide)]; exact vb) ub
    rw [e]
    exact fin _ g x2
theorem pr_namings {n wh : Int} (I : Inv h) (H : ∀ v g, Inv g → g 0 = h 0 → Q (1, v) (1, v) g) : am_C true L xs P (d + 24) 117 [(2, 1), (0, n), (0, wh)] h (fun r1 h1 => am_C true L xs P (d + 24) 191 [(2, 59), (0, n), (0, wh)] h1 (fun r2 h2 => Q r1 r2 h2)) := by
  obtain ⟨N, nb, a⟩ := I.n
  obtain ⟨nm, r⟩ := I.r
  obtain ⟨c, np, nq, p, s⟩ := I.p
  have fin : ∀ (v : Int) g, XS h g → Q (1, v) (1, v) g := fun v g x => H v g (I.xs x) x.h0
  refine kX11_namings (d := d + 8) (lkC a r p) (fun w => ?_) (fun w w0 g1 cs ng => ?_) (fun w w0 g1 cs ng => ?_)
  · exact kX12_namings (d := d + 18) (lkL a r p) (fun g x _ => fin _ g x.xs) (fun z1 z2 => absurd ⟨z1, by omega⟩ w) (fun z1 z2 => absurd ⟨z1, by omega⟩ w)
  · refine kX12_namings (d := d + 18) (lkL (a.cg (cs.xs.ag rfl)) (r.cg (cs.xs.ag rfl)) (p.cg (cs.xs.ag rfl))) (fun g x w2 => absurd ⟨w, by omega⟩ w2) (fun _ _ g x ld => ?_) (fun _ w2 => by omega)
    obtain ⟨a2, r2, p2, ng2, x2⟩ := both a r p cs ng x
    have e := (lk_most (by omega) a2 r2 p2 ng2 ld).2
    rw [x.1 44 (by decide) (by decide)] at e
    rw [e]
    exact fin _ g x2
  · refine kX12_namings (d := d + 18) (lkL (a.cg (cs.xs.ag rfl)) (r.cg (cs.xs.ag rfl)) (p.cg (cs.xs.ag rfl))) (fun g x w2 => absurd ⟨w, by omega⟩ w2) (fun _ w2 => by omega) (fun _ _ g x ld => ?_)
    obtain ⟨a2, r2, p2, ng2, x2⟩ := both a r p cs ng x
    have e := lk_count (by omega) a2 r2 p2 ng2 ld
    rw [x.1 44 (by decide) (by decide), Ey_congr (x.1 46 (by decide) (by decide))] at e
    rw [e]
    exact fin _ g x2
theorem pr_next {n b : Int} (I : Inv h) (H : ∀ v g, Inv g → g 0 = h 0 → Q (0, v) (0, v) g) : am_C true L xs P (d + 24) 120 [(2, 1), (0, n), (0, b)] h (fun r1 h1 => am_C true L xs P (d + 24) 197 [(2, 59), (0, n), (0, b)] h1 (fun r2 h2 => Q r1 r2 h2)) := by
  obtain ⟨N, nb, a⟩ := I.n
  obtain ⟨nm, r⟩ := I.r
  obtain ⟨c, np, nq, p, s⟩ := I.p
  have nb10 := a.wn.nb10
  have fin : ∀ (v : Int) g, XS h g → Q (0, v) (0, v) g := fun v g x => H v g (I.xs x) x.h0
  refine kX11_next (d := d + 8) (lkC a r p) r.tv (fun w => ?_) (fun w g1 cs ng w1 => ?_) (fun w g1 v f cs ng w1 w48 w47 bs => ?_)
  · exact kX12_next (d := d + 17) (lkL a r p) (fun g x _ => fin _ g x.xs) (fun z => absurd z.1 w) (fun z => absurd z.1 w)
  · refine kX12_next (d := d + 17) (lkL (a.cg (cs.xs.ag rfl)) (r.cg (cs.xs.ag rfl)) (p.cg (cs.xs.ag rfl))) (fun g x _ => fin _ g (cs.xs.tr x.xs)) (fun _ g x _ _ => fin _ g (cs.xs.tr x.xs)) (fun w2 g v f x ld kk nn ex _ => ?_)
    obtain ⟨a2, r2, p2, ng2, x2⟩ := both a r p cs ng x
    have hk := (lk_known (by omega) a2 ng2.kc ld.kd b.toNat).mpr kk
    rw [x.1 39 (by decide) (by decide)] at hk
    have hlt : b.toNat < nb := by omega
    rcases w1 with w1 | ⟨_, w1⟩
    · exact absurd ⟨w2.2.1, by omega, hk⟩ w1
    · rcases w1 with w1 | w1
      · have := (lk_n1 (by omega) a2 r2 p2 ng2 ld hlt).mpr nn
        rw [x.1 48 (by decide) (by decide)] at this
        exact absurd this w1
      · obtain ⟨m, hm⟩ := ex
        have := (lk_who (by omega) a2 r2 p2 ng2 ld hlt m).mpr hm
        rw [x.1 47 (by decide) (by decide), w1, bt_0] at this
        exact absurd this (by decide)
  · have hlt := known_lt (by omega) (a.cg (cs.xs.ag rfl)) ng.kc w1.2.2
    refine kX12_next (d := d + 17) (lkL (a.cg (cs.xs.ag rfl)) (r.cg (cs.xs.ag rfl)) (p.cg (cs.xs.ag rfl))) (fun g x w2 => absurd ⟨w, by omega⟩ w2) (fun w2 g x ld z => ?_) (fun w2 g u f2 x ld kk nn ex bs2 => ?_)
    · obtain ⟨a2, r2, p2, ng2, x2⟩ := both a r p cs ng x
      exfalso
      rcases z with z | ⟨_, z⟩
      · exact z ((lk_known (by omega) a2 ng2.kc ld.kd b.toNat).mp (by rw [x.1 39 (by decide) (by decide)]; exact w1.2.2))
      · rcases z with ⟨m, hm⟩ | z
        · have := (lk_named (by omega) a2 r2 p2 ng2 ld hlt m).mpr hm
          rw [x.1 48 (by decide) (by decide)] at this
          omega
        · apply w47
          have : g 47 b.toNat = 0 := by
            refine bt_ext (ng2.se.whoI _ (by omega)) (by decide) (fun m _ => ?_)
            rw [bt_0]
            exact bt_f.mpr (fun q => z m ((lk_who (by omega) a2 r2 p2 ng2 ld hlt m).mp q))
          rw [x.1 47 (by decide) (by decide)] at this
          exact this
    · obtain ⟨a2, r2, p2, ng2, x2⟩ := both a r p cs ng x
      have e : v = u := by
        refine Bst_uniq (fun t ht => ?_) (fun t ht _ => ?_) bs bs2
        · rw [← x.1 41 (by decide) (by decide), lk_read (by omega) a2 ng2.kc ld.kd kk ht]
        · refine aF_congr (fun m hm => ?_) (fun m hm => ?_) nm (Nat.le_refl _)
          · rw [← x.1 47 (by decide) (by decide)]
            exact lk_who (by omega) a2 r2 p2 ng2 ld hlt m
          · rw [← x.1 32 (by decide) (by decide)]
            exact r2.tr m t hm ht
      rw [e]
      exact fin _ g x2
theorem pr_fits {n b m : Int} (I : Inv h) (H : ∀ v g, Inv g → g 0 = h 0 → Q (0, v) (0, v) g) : am_C true L xs P (d + 24) 116 [(2, 1), (0, n), (0, b), (0, m)] h (fun r1 h1 => am_C true L xs P (d + 24) 186 [(2, 59), (0, n), (0, b), (0, m)] h1 (fun r2 h2 => Q r1 r2 h2)) := by
  obtain ⟨N, nb, a⟩ := I.n
  obtain ⟨nm, r⟩ := I.r
  obtain ⟨c, np, nq, p, s⟩ := I.p
  have nb10 := a.wn.nb10
  have fin : ∀ (v : Int) g, XS h g → Q (0, v) (0, v) g := fun v g x => H v g (I.xs x) x.h0
  refine kX11_fits (d := d + 18) (lkC a r p) (fun w => ?_) (fun w g1 sv cs w1 => ?_) (fun w g1 sv cs w1 => ?_)
  · exact kX12_fits (d := d + 19) (lkL a r p) (fun g x _ => fin _ g x.xs) (fun z => absurd z.1 w) (fun z => absurd z.1 w)
  · refine kX12_fits (d := d + 19) (lkL (a.cg (cs.xs.ag rfl)) (r.cg (cs.xs.ag rfl)) (p.cg (cs.xs.ag rfl))) (fun g x _ => fin _ g (cs.xs.tr x.xs)) (fun _ g x _ _ => fin _ g (cs.xs.tr x.xs)) (fun w2 g x kd kk => ?_)
    have x2 := cs.xs.tr x.xs
    have kc : KC n.toNat g := sv.kc.congr (fun i h1 h2 => x.1 i (by omega) (by omega))
    have hk := (lk_known (by omega) (a.cg (x2.ag rfl)) kc kd b.toNat).mpr kk
    rw [x.1 39 (by decide) (by decide)] at hk
    exact absurd ⟨⟨w2.2.1.1, by omega, hk⟩, w2.2.2⟩ w1
  · have hlt := known_lt (by omega) (a.cg (cs.xs.ag rfl)) sv.kc w1.1.2.2
    refine kX12_fits (d := d + 19) (lkL (a.cg (cs.xs.ag rfl)) (r.cg (cs.xs.ag rfl)) (p.cg (cs.xs.ag rfl))) (fun g x w2 => absurd ⟨w, by omega, w1.2⟩ w2) (fun _ g x kd nk => ?_) (fun w2 g x kd kk => ?_)
    · have x2 := cs.xs.tr x.xs
      have kc : KC n.toNat g := sv.kc.congr (fun i h1 h2 => x.1 i (by omega) (by omega))
      exact absurd ((lk_known (by omega) (a.cg (x2.ag rfl)) kc kd b.toNat).mp (by rw [x.1 39 (by decide) (by decide)]; exact w1.1.2.2)) nk
    · have x2 := cs.xs.tr x.xs
      have kc : KC n.toNat g := sv.kc.congr (fun i h1 h2 => x.1 i (by omega) (by omega))
      have e := lk_fit (by omega) (a.cg (x2.ag rfl)) (r.cg (x2.ag rfl)) (p.cg (x2.ag rfl)) kc kd kk (m := m.toNat) (by omega)
      rw [FC_congr2 p.hc (fun i h1 h2 => x.1 i (by omega) (by omega))] at e
      rw [e]
      exact fin _ g x2
theorem pr_near {m c : Int} (I : Inv h) (H : ∀ v g, Inv g → g 0 = h 0 → Q (0, v) (0, v) g) : am_C true L xs P (d + 24) 115 [(2, 1), (0, m), (0, c)] h (fun r1 h1 => am_C true L xs P (d + 24) 179 [(2, 59), (0, m), (0, c)] h1 (fun r2 h2 => Q r1 r2 h2)) := by
  obtain ⟨nm, r⟩ := I.r
  have cb := cells_bnd r
  have fin : ∀ (v : Int), Q (0, v) (0, v) (am_t0 h) := fun v => H v _ (I.xs MS.t0.xs) (XS.h0 MS.t0.xs)
  refine kX11_near (d := d + 20) r.okR cb.2 (fun w => ?_) (fun w => ?_)
  · refine kX12_near (d := d + 21) r.okM r.t (by rw [← r.cl]; omega) (fun _ => fin _) (fun w2 => absurd ?_ w)
    rw [r.m1, r.cl]; rw [r.m2] at w2; exact w2
  · refine kX12_near (d := d + 21) r.okM r.t (by rw [← r.cl]; omega) (fun w2 => absurd ?_ w2) (fun _ => ?_)
    · rw [r.m2, ← r.cl]; rw [r.m1] at w; exact w
    · rw [lk_near r (by have := r.m1; omega) w.2]
      exact fin _
theorem pr_fault {w : Int} (I : Inv h) (H : ∀ v g, Inv g → g 0 = h 0 → Q (0, v) (0, v) g) : am_C true L xs P (d + 24) 105 [(2, 1), (0, w)] h (fun r1 h1 => am_C true L xs P (d + 24) 165 [(2, 59), (0, w)] h1 (fun r2 h2 => Q r1 r2 h2)) := by
  have fin : ∀ (v : Int), Q (0, v) (0, v) (am_t0 h) := fun v => H v _ (I.xs MS.t0.xs) (XS.h0 MS.t0.xs)
  have f := I.f
  refine kX11_fault (d := d + 23) (fun w0 => ?_) (fun w0 => ?_) (fun w0 => ?_)
  · refine kX12_fault (d := d + 23) (fun _ => ?_) (fun w1 => by omega) (fun w1 => absurd w0 w1.1)
    rw [f.1]; exact fin _
  · refine kX12_fault (d := d + 23) (fun w1 => by omega) (fun _ => ?_) (fun w1 => absurd w0 w1.2)
    rw [f.2]; exact fin _
  · exact kX12_fault (d := d + 23) (fun w1 => absurd w1 w0.1) (fun w1 => absurd w1 w0.2) (fun _ => fin _)
theorem pr_line {w : Int} (I : Inv h) (H : ∀ v g, Inv g → g 0 = h 0 → Q (0, v) (0, v) g) : am_C true L xs P (d + 24) 106 [(2, 1), (0, w)] h (fun r1 h1 => am_C true L xs P (d + 24) 166 [(2, 59), (0, w)] h1 (fun r2 h2 => Q r1 r2 h2)) := by
  have fin : ∀ (v : Int), Q (0, v) (0, v) (am_t0 h) := fun v => H v _ (I.xs MS.t0.xs) (XS.h0 MS.t0.xs)
  have l := I.l
  refine kX11_line (d := d + 23) (by rw [l.n]; exact l.n6.2) (fun w0 => ?_) (fun w0 => ?_)
  · rw [l.n] at w0
    refine kX12_line (d := d + 23) l.n6.2 (fun _ => ?_) (fun w1 => absurd w0 w1)
    rw [l.li _ (by omega)]; exact fin _
  · rw [l.n] at w0
    exact kX12_line (d := d + 23) l.n6.2 (fun w1 => absurd w1 w0) (fun _ => fin _)
theorem pr_wall (I : Inv h) (H : ∀ v g, Inv g → g 0 = h 0 → Q (0, v) (0, v) g) : am_C true L xs P (d + 24) 124 [(2, 1)] h (fun r1 h1 => am_C true L xs P (d + 24) 207 [(2, 59)] h1 (fun r2 h2 => Q r1 r2 h2)) := by
  refine kX11_wall (d := d + 23) (kX12_wall (d := d + 23) ?_)
  rw [I.w.wl]
  exact H _ _ (I.xs MS.t0.xs) (XS.h0 MS.t0.xs)
end
