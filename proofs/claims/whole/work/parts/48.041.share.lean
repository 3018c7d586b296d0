/-! share: shares and the likeliest cell -/
section
variable {L : Nat} {xs : Nat → Int} {P : Nat → List am_V → am_H → am_K → Prop} {d : Nat} {h : am_H} {K : am_K} {Q : am_V → am_V → am_H → Prop}
def okS (h : am_H) (N nb np nm nc : Nat) : Prop := (okL h N nb np nm) ∧ (2 ≤ h 59 4 ∧ h 59 4 ≤ 5) ∧ (h 59 3 * h 59 4 = nc) ∧ (nc ≤ 25) ∧ (∀ k, k < N → h 63 k = 2 → 0 ≤ h 64 k ∧ h 64 k < 25) ∧ (∀ k, k < N → h 63 k = 0 → (0 ≤ h 64 k ∧ h 64 k < 10) ∧ 0 ≤ h 67 (h 64 k).toNat ∧ h 67 (h 64 k).toNat < 25) ∧ (∀ m c : Nat, m < nm → c < nc → Nmo h m (c : Int) < 99)
theorem okS.o {h : am_H} {N nb np nm nc : Nat} (s_ : okS h N nb np nm nc) : okL h N nb np nm := s_.1
theorem okS.t {h : am_H} {N nb np nm nc : Nat} (s_ : okS h N nb np nm nc) : 2 ≤ h 59 4 ∧ h 59 4 ≤ 5 := s_.2.1
theorem okS.c {h : am_H} {N nb np nm nc : Nat} (s_ : okS h N nb np nm nc) : h 59 3 * h 59 4 = nc := s_.2.2.1
theorem okS.c25 {h : am_H} {N nb np nm nc : Nat} (s_ : okS h N nb np nm nc) : nc ≤ 25 := s_.2.2.2.1
theorem okS.k2 {h : am_H} {N nb np nm nc : Nat} (s_ : okS h N nb np nm nc) : ∀ k, k < N → h 63 k = 2 → 0 ≤ h 64 k ∧ h 64 k < 25 := s_.2.2.2.2.1
theorem okS.k0 {h : am_H} {N nb np nm nc : Nat} (s_ : okS h N nb np nm nc) : ∀ k, k < N → h 63 k = 0 → (0 ≤ h 64 k ∧ h 64 k < 10) ∧ 0 ≤ h 67 (h 64 k).toNat ∧ h 67 (h 64 k).toNat < 25 := s_.2.2.2.2.2.1
theorem okS.f {h : am_H} {N nb np nm nc : Nat} (s_ : okS h N nb np nm nc) : ∀ m c : Nat, m < nm → c < nc → Nmo h m (c : Int) < 99 := s_.2.2.2.2.2.2
theorem okS.ms {N nb np nm nc : Nat} {g : am_H} (o : okS h N nb np nm nc) (x : MS h g) : okS g N nb np nm nc := by
  obtain ⟨o, t, c, c25, k2, k0, f⟩ := o
  refine ⟨o.ms x, ?_, ?_, c25, ?_, ?_, fun m c hm hc => ?_⟩
  · rw [x.2 4 (by decide) (by decide) (by decide)]; exact t
  · rw [x.2 3 (by decide) (by decide) (by decide), x.2 4 (by decide) (by decide) (by decide)]; exact c
  · rw [x.1 63 (by decide) (by decide), x.1 64 (by decide) (by decide)]; exact k2
  · rw [x.1 63 (by decide) (by decide), x.1 64 (by decide) (by decide), x.1 67 (by decide) (by decide)]; exact k0
  · have := f m c hm hc
    unfold Nmo at this ⊢
    rw [x.2 7 (by decide) (by decide) (by decide), am_mr_congr (h := h) (x.1 61 (by decide) (by decide)) (x.1 62 (by decide) (by decide)) (x.2 3 (by decide) (by decide) (by decide))]
    exact this
theorem lkS {N nb np nm c : Nat} (a : LkN h N nb) (r : LkR h nm) (p : LkP h c np) : okS h N nb np nm (h 20 13).toNat := by
  have cb := cells_bnd r
  refine ⟨lkL a r p, r.t, by rw [← r.cl]; omega, by omega, fun k hk h2 => ?_, fun k hk h0 => ?_, fun m c hm hc => ?_⟩
  · rw [← a.kd k hk] at h2
    rw [← a.sj k hk]
    exact a.wn.k2 k hk h2
  · rw [← a.kd k hk] at h0
    rw [← a.sj k hk]
    have h1 := a.wn.k0 k hk h0
    have h3 := a.v0 k hk h0
    have := a.wn.nb10
    rw [← h3.1]
    omega
  · rw [← lk_near r hm (by omega)]
    have := nr_bnd (m := m) (c := (c : Int)) r.okR (by omega)
    omega
theorem kX12_share {N nb np nm nc : Nat} {n c wh : Int} (hS : okS h N nb np nm nc) (Ha : ∀ g, MS h g → ¬ ((0 ≤ n ∧ n ≤ N) ∧ (0 ≤ c ∧ c < nc) ∧ (0 ≤ wh ∧ wh ≤ 1)) → K (1, -1) g) (Hb : (0 ≤ n ∧ n ≤ N) → (0 ≤ c ∧ c < nc) → wh = 0 → ∀ g w, MS h g → SH n.toNat N nb np nm nc g w → K (1, g 88 c.toNat) g) (Hc : (0 ≤ n ∧ n ≤ N) → (0 ≤ c ∧ c < nc) → wh = 1 → ∀ g w, MS h g → SH n.toNat N nb np nm nc g w → K (1, g 89 c.toNat) g) : am_C true L xs P (d + 8) 203 [(2, 59), (0, n), (0, c), (0, wh)] h K := by
  have s1 := hS.ms (MS.t0 (h := h))
  have hN : am_st h 59 2 0 59 11 = N := s1.o.notes
  have hC : am_st h 59 2 0 59 3 * am_st h 59 2 0 59 4 = nc := s1.c
  have c25 := s1.c25
  refine eX12_share (bX12_share_0 (kX12_isKnowing (d := d + 6) (fun w => ?_) (fun w => ?_)))
  · rw [hN] at w
    exact ⟨fun _ => bX12_share_30 (Ha _ MS.t0 (fun z => w z.1)), fun z => absurd rfl z⟩
  · rw [hN] at w
    refine ⟨fun z => absurd z (by decide), fun _ => kX12_isCell (d := d + 6) s1.o.ok.w s1.t (by rw [hC]; omega) (fun w1 => ?_) (fun w1 => ?_)⟩
    · rw [hC] at w1
      exact ⟨fun _ => bX12_share_30 (Ha _ MS.t0 (fun z => w1 z.2.1)), fun z => absurd rfl z⟩
    · rw [hC] at w1
      refine ⟨fun z => absurd z (by decide), fun _ => kX12_isIn (d := d + 6) (fun w2 => ?_) (fun w2 => ?_)⟩
      · exact ⟨fun z => absurd rfl z, fun _ => bX12_share_30 (Ha _ MS.t0 (fun z => w2 z.2.2))⟩
      · refine ⟨fun _ => bX12_share_34 ?_, fun z => absurd (by decide) z⟩
        have en : n = ((n.toNat : Nat) : Int) := by omega
        have lem : am_C true L xs P (d + 7) 201 [(2, 59), (0, ((n.toNat : Nat) : Int))] (am_st h 59 2 0) (fun _ h1 => (¬ wh = 0 → tX12_share (h 0 0 + (0 : Nat)) L xs (am_C true L xs P (d + 7)) K 52 [(2, 59), (0, n), (0, c), (0, wh)] [] h1) ∧ (¬ ¬ wh = 0 → (0 ≤ c ∧ c < 25) ∧ tX12_share (h 0 0 + (0 : Nat)) L xs (am_C true L xs P (d + 7)) K 58 [(2, 59), (0, n), (0, c), (0, wh)] [(1, h1 88 (Int.toNat c))] h1)) := by
          refine kX12_layShares (d := d) (by omega) s1.o s1.c s1.c25 s1.k2 s1.k0 s1.f (fun g w' x sh => ?_)
          exact ⟨fun z => bX12_share_52 ⟨by omega, bX12_share_58 (Hc w w1 (by omega) g w' (MS.t0.tr x) sh)⟩, fun z => ⟨by omega, bX12_share_58 (Hb w w1 (Classical.not_not.mp z) g w' (MS.t0.tr x) sh)⟩⟩
        rw [← en] at lem
        exact lem
theorem kX12_likely {N nb np nm nc : Nat} {n : Int} (hS : okS h N nb np nm nc) (Ha : ∀ g, MS h g → ¬ (0 ≤ n ∧ n ≤ N) → K (0, -1) g) (Hb : (0 ≤ n ∧ n ≤ N) → ∀ g w b, MS h g → SH n.toNat N nb np nm nc g w → Fst (PT (OpM g n.toNat) (fun m c => Nmo g m (c : Int)) (fun m => bt w m = true) nc nm) nc b → K (0, b) g) : am_C true L xs P (d + 8) 205 [(2, 59), (0, n)] h K := by
  have s1 := hS.ms (MS.t0 (h := h))
  have hN : am_st h 59 2 0 59 11 = N := s1.o.notes
  have c25 := s1.c25
  refine eX12_likely (bX12_likely_0 (kX12_isKnowing (d := d + 6) (fun w => ?_) (fun w => ?_)))
  · rw [hN] at w
    exact ⟨fun z => absurd rfl z, fun _ => Ha _ MS.t0 w⟩
  · rw [hN] at w
    refine ⟨fun _ => bX12_likely_15 ?_, fun z => absurd (by decide) z⟩
    have en : n = ((n.toNat : Nat) : Int) := by omega
    have lem : am_C true L xs P (d + 7) 201 [(2, 59), (0, ((n.toNat : Nat) : Int))] (am_st h 59 2 0) (fun _ h1 => tX12_likely (h 0 0 + (0 : Nat)) L xs (am_C true L xs P (d + 7)) K 24 [(2, 59), (0, n), (0, -1), (0, 0)] [] h1) := by
      refine kX12_layShares (d := d) (by omega) s1.o s1.c s1.c25 s1.k2 s1.k0 s1.f (fun g w' x sh => ?_)
      have hC : g 59 3 * g 59 4 = nc := (s1.ms x).c
      have rel := sh.rel
      generalize hp : PT (OpM g n.toNat) (fun m c => Nmo g m (c : Int)) (fun m => bt w' m = true) nc nm = p at *
      refine upto (σ := Int) (N := nc) (I := fun i b => Fst p i b ∧ (b = -1 ∨ (0 ≤ b ∧ b < i))) (G := fun i b => tX12_likely (h 0 0 + (0 : Nat)) L xs (am_C true L xs P (d + 7)) K 24 [(2, 59), (0, n), (0, b), (0, (i : Int))] [] g) ?_ ?_ nc 0 (-1) (by omega) ⟨Or.inl ⟨rfl, fun c hc => by omega⟩, Or.inl rfl⟩
      · intro i b hi ⟨e1, e2⟩ ih
        have ri := rel i hi
        refine bX12_likely_24 ?_
        rw [hC, Int.toNat_natCast, lcmp_le]
        refine ⟨⟨by omega, by omega⟩, fun z => by omega, fun _ => ⟨by omega, fun z => ?_, fun z => ⟨fun z2 => ?_, fun z2 => ?_⟩⟩⟩
        · refine bX12_likely_85 ⟨by omega, ih b ⟨Fst_old e1 (Or.inl ?_), by omega⟩⟩
          have := ri.pos
          omega
        · have h0 : 0 < p i := ri.pos.mp (by omega)
          refine bX12_likely_83 (bX12_likely_85 ⟨by omega, ih (i : Int) ⟨Fst_new e1 h0 (fun y => absurd z2 y), by omega⟩⟩)
        · have h0 : 0 < p i := ri.pos.mp (by omega)
          have hb := e2.resolve_left z2
          have rb := rel b.toNat (by omega)
          refine ⟨by omega, by omega, by omega, by omega, kX12_isMore (d := d + 6) ri.u0 (by have := ri.l1; omega) rb.u0 (by have := rb.l1; omega) (fun y => ?_) (fun y => ?_)⟩
          · rw [ri.more rb] at y
            exact ⟨fun _ => bX12_likely_85 ⟨by omega, ih b ⟨Fst_old e1 (Or.inr ⟨z2, by omega⟩), by omega⟩⟩, fun q => absurd rfl q⟩
          · rw [ri.more rb] at y
            exact ⟨fun q => absurd q (by decide), fun _ => bX12_likely_83 (bX12_likely_85 ⟨by omega, ih (i : Int) ⟨Fst_new e1 h0 (fun _ => y), by omega⟩⟩)⟩
      · intro b ⟨e1, e2⟩
        refine bX12_likely_24 ?_
        rw [hC]
        refine ⟨⟨by omega, by omega⟩, fun _ => bX12_likely_91 (Hb w g w' b (MS.t0.tr x) sh ?_), fun z => by omega⟩
        rw [hp]; exact e1
    rw [← en] at lem
    exact lem
theorem lk_open {k : am_H} {n N nb : Nat} (hn : n ≤ N) (a : LkN k N nb) (x : KC n k) (y : KD n N k) (c : Nat) : Op k c ↔ OpM k n c := by
  have al := lk_al hn a x y
  unfold Op OpM
  rw [x.du, x.bc]
  refine not_congr ⟨fun z => ?_, fun ⟨j, j1, j2, j3⟩ => ?_⟩
  · rcases z with ⟨j, _, j1, j2, j3, j4⟩ | ⟨j, _, j1, j2, j3, j4⟩
    · exact ⟨j, j1, (al j j1).mp j2, Or.inl ⟨by rw [← a.kd j (by omega)]; exact j3, by rw [← a.sj j (by omega)]; exact j4⟩⟩
    · refine ⟨j, j1, (al j j1).mp j2, Or.inr ⟨by rw [← a.kd j (by omega)]; exact j3, ?_⟩⟩
      rw [← a.sj j (by omega), ← (a.v0 j (by omega) j3).1]; exact j4
  · rcases j3 with ⟨z1, z2⟩ | ⟨z1, z2⟩
    · rw [← a.kd j (by omega)] at z1
      rw [← a.sj j (by omega)] at z2
      exact Or.inl ⟨j, by omega, j1, (al j j1).mpr j2, z1, z2⟩
    · rw [← a.kd j (by omega)] at z1
      rw [← a.sj j (by omega), ← (a.v0 j (by omega) z1).1] at z2
      exact Or.inr ⟨j, by omega, j1, (al j j1).mpr j2, z1, z2⟩
/-- the class's parts are the model's sums -/
theorem lk_parts {g1 g2 g3 : am_H} {n N nb nm np c : Nat} {v w : Int} (hn : n ≤ N) (a : LkN h N nb) (r : LkR h nm) (p : LkP h c np) (cs : CS h g1) (ng : NG n c np nm g1) (f : Fr [54] g1 g2) (ms : MS g2 g3) (sh : SH n N nb np nm (h 20 13).toNat g3 w) (vI : am_inI v) (vb : ∀ m, bt v m = true ↔ m < nm ∧ ¬ ∃ b, b < 10 ∧ g1 48 b = m) {x : Nat} (hp : ∀ c, c < 25 → g2 54 c = PT (Op g1) (fun m c => Ncl g1 m (c : Int)) (fun m => bt v m = true) (h 20 13).toNat nm c) (hx : x < (h 20 13).toNat) : g2 54 x = PT (OpM g3 n) (fun m c => Nmo g3 m (c : Int)) (fun m => bt w m = true) (h 20 13).toNat nm x := by
  have cb := cells_bnd r
  have cs2 := cs.tr (CS.of f (by decide))
  have ng2 := ng.fr p.hc (fun i h1 h2 => f i (by simp; omega))
  obtain ⟨a3, r3, p3, ng3, x3⟩ := both a r p cs2 ng2 ms
  have e31 : ∀ i, ¬ i = 54 → i < 59 → g3 i = g1 i := fun i h1 h2 => by rw [ms.1 i (by omega) (by omega), f i (by simpa using h1)]
  have evw : v = w := lk_miss hn a3 r3 p3 ng3 sh.ld vI sh.wI (by rw [e31 48 (by decide) (by decide)]; exact vb) sh.wb
  rw [hp x (by omega), evw]
  refine PT_congr (fun c hc => ?_) (fun m c hm hc => ?_) (fun _ _ => Iff.rfl) nm (Nat.le_refl _)
  · rw [← lk_open hn a3 ng3.kc sh.ld.kd c]
    unfold Op
    rw [e31 39 (by decide) (by decide)]
  · rw [← lk_near r3 hm (by rw [x3.1 20 (by decide) (by decide) (by decide) (by decide) (by decide)]; omega)]
    unfold Ncl
    rw [e31 20 (by decide) (by decide)]
    exact (am_nr_congr (e31 23 (by decide) (by decide)) (e31 24 (by decide) (by decide)) (e31 25 (by decide) (by decide)) (e31 26 (by decide) (by decide)) (e31 27 (by decide) (by decide)) (e31 29 (by decide) (by decide)) (e31 21 (by decide) (by decide)) (e31 22 (by decide) (by decide)) _ _ _).symm
theorem pr_share {n x wh : Int} (I : Inv h) (H : ∀ v g, Inv g → g 0 = h 0 → Q (1, v) (1, v) g) : am_C true L xs P (d + 24) 122 [(2, 1), (0, n), (0, x), (0, wh)] h (fun r1 h1 => am_C true L xs P (d + 24) 203 [(2, 59), (0, n), (0, x), (0, wh)] h1 (fun r2 h2 => Q r1 r2 h2)) := by
  obtain ⟨N, nb, a⟩ := I.n
  obtain ⟨nm, r⟩ := I.r
  obtain ⟨c, np, nq, p, s⟩ := I.p
  have cb := cells_bnd r
  have hS := lkS a r p
  have fin : ∀ (v : Int) g, XS h g → Q (1, v) (1, v) g := fun v g x => H v g (I.xs x) x.h0
  have no : ¬ ((0 ≤ n ∧ n ≤ N) ∧ (0 ≤ x ∧ x < (h 20 13).toNat) ∧ (0 ≤ wh ∧ wh ≤ 1)) → am_C true L xs P (d + 24) 203 [(2, 59), (0, n), (0, x), (0, wh)] h (fun r2 h2 => Q (1, -1) r2 h2) := fun z => kX12_share (d := d + 16) hS (fun g y _ => fin _ g y.xs) (fun z1 z2 z3 => absurd ⟨z1, z2, by omega⟩ z) (fun z1 z2 z3 => absurd ⟨z1, z2, by omega⟩ z)
  refine eX11_share (bX11_share_0 (kX6_hasCell (d := d + 22) (fun z => ?_) (fun z => ?_)))
  · exact ⟨fun _ => bX11_share_28 (no (fun y => by omega)), fun y => absurd rfl y⟩
  · refine ⟨fun y => absurd y (by decide), fun _ => kX11_within (d := d + 22) (fun z1 => ?_) (fun z1 => ?_)⟩
    · exact ⟨fun _ => bX11_share_28 (no (fun y => z1 y.2.2)), fun y => absurd rfl y⟩
    · refine ⟨fun y => absurd y (by decide), fun _ => kX11_nameAll (d := d + 8) (lkC a r p) (fun z2 => ?_) (fun z2 g1 na => ?_)⟩
      · exact ⟨fun y => absurd rfl y, fun _ => bX11_share_28 (no (fun y => z2 y.1))⟩
      · have cs := na.cs
        have r1 := r.cg (cs.xs.ag rfl)
        have h20 : g1 20 = h 20 := cs 20 (by decide) (by decide) (by decide)
        refine ⟨fun _ => bX11_share_32 ?_, fun y => absurd (by decide) y⟩
        refine kX11_missingMen (d := d + 21) r.m14 r1.m1 na.se (fun v vI vb => ?_)
        refine kX7_divide (d := d + 18) (nm := nm) (n := (h 20 13).toNat) r1.okR r1.m1 r.m14 (by rw [h20]; omega) (by omega) (fun g2 f hp => ?_)
        have cs2 := cs.tr (CS.of f (by decide))
        have S2 := lkS (a.cg (cs2.xs.ag rfl)) (r.cg (cs2.xs.ag rfl)) (p.cg (cs2.xs.ag rfl))
        have c2 : g2 20 13 = h 20 13 := by rw [f 20 (by decide), h20]
        rw [c2] at S2
        have hx : x = ((x.toNat : Nat) : Int) := by omega
        have pb := PT_bnd (op := Op g1) (F := fun m c => Ncl g1 m (c : Int)) (ms := fun m => bt v m = true) (n := (h 20 13).toNat) (c := x.toNat) nm
        rw [← hp x.toNat (by omega)] at pb
        have WHv : WH = 26771144400 := rfl
        have m14 := r.m14
        rw [WHv] at pb
        have p40 : g2 54 x.toNat < 2 ^ 40 := by
          have : (2 : Int) ^ 40 = 1099511627776 := by decide
          omega
        obtain ⟨u, l, ul⟩ := Rel_ex pb.1
        have eq : ∀ g3 w, MS g2 g3 → SH n.toNat N nb np nm (h 20 13).toNat g3 w → g3 88 x.toNat = u ∧ g3 89 x.toNat = l := by
          intro g3 w ms sh
          have e := lk_parts (by omega) a r p cs na.ng f ms sh vI vb hp (x := x.toNat) (by omega)
          have rr := sh.rel x.toNat (by omega)
          rw [← e] at rr
          exact Rel_uniq rr ul
        refine ⟨fun y => bX11_share_66 ?_, fun y => ?_⟩
        · rw [hx]
          refine kX7_lower (d := d + 21) (by omega) ul p40 (bX11_share_74 ?_)
          rw [← hx]
          refine kX12_share (d := d + 16) S2 (fun g _ q => absurd ⟨z2, by omega, z1⟩ q) (fun _ _ q => by omega) (fun _ _ _ g3 w ms sh => ?_)
          rw [(eq g3 w ms sh).2]
          exact fin _ g3 (cs2.xs.tr ms.xs)
        · rw [hx]
          refine kX7_upper (d := d + 21) (by omega) ul p40 (bX11_share_74 ?_)
          rw [← hx]
          refine kX12_share (d := d + 16) S2 (fun g _ q => absurd ⟨z2, by omega, z1⟩ q) (fun _ _ _ g3 w ms sh => ?_) (fun _ _ q => by omega)
          rw [(eq g3 w ms sh).1]
          exact fin _ g3 (cs2.xs.tr ms.xs)
theorem pr_likely {n : Int} (I : Inv h) (H : ∀ v g, Inv g → g 0 = h 0 → Q (0, v) (0, v) g) : am_C true L xs P (d + 24) 123 [(2, 1), (0, n)] h (fun r1 h1 => am_C true L xs P (d + 24) 205 [(2, 59), (0, n)] h1 (fun r2 h2 => Q r1 r2 h2)) := by
  obtain ⟨N, nb, a⟩ := I.n
  obtain ⟨nm, r⟩ := I.r
  obtain ⟨c, np, nq, p, s⟩ := I.p
  have cb := cells_bnd r
  have hS := lkS a r p
  have fin : ∀ (v : Int) g, XS h g → Q (0, v) (0, v) g := fun v g x => H v g (I.xs x) x.h0
  refine eX11_likely (bX11_likely_0 (kX11_nameAll (d := d + 8) (lkC a r p) (fun z2 => ?_) (fun z2 g1 na => ?_)))
  · exact ⟨fun y => absurd rfl y, fun _ => kX12_likely (d := d + 16) hS (fun g y _ => fin _ g y.xs) (fun z => absurd z z2)⟩
  · have cs := na.cs
    have r1 := r.cg (cs.xs.ag rfl)
    have h20 : g1 20 = h 20 := cs 20 (by decide) (by decide) (by decide)
    refine ⟨fun _ => bX11_likely_10 ?_, fun y => absurd (by decide) y⟩
    refine kX11_missingMen (d := d + 21) r.m14 r1.m1 na.se (fun v vI vb => ?_)
    refine kX7_divide (d := d + 18) (nm := nm) (n := (h 20 13).toNat) r1.okR r1.m1 r.m14 (by rw [h20]; omega) (by omega) (fun g2 f hp => ?_)
    have cs2 := cs.tr (CS.of f (by decide))
    have S2 := lkS (a.cg (cs2.xs.ag rfl)) (r.cg (cs2.xs.ag rfl)) (p.cg (cs2.xs.ag rfl))
    have c2 : g2 20 13 = h 20 13 := by rw [f 20 (by decide), h20]
    rw [c2] at S2
    rw [c2, show h 20 13 = (((h 20 13).toNat : Nat) : Int) by omega]
    refine kX7_richest (d := d + 22) (by omega) (fun b fb => ?_)
    refine kX12_likely (d := d + 16) S2 (fun g _ q => absurd z2 q) (fun _ g3 w b' ms sh fb' => ?_)
    have e : b = b' := Fst_uniq (fun x hx => lk_parts (by omega) a r p cs na.ng f ms sh vI vb hp hx) fb fb'
    rw [e]
    exact fin _ g3 (cs2.xs.tr ms.xs)
end
