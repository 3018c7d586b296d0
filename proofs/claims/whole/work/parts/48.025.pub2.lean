/-! pub2: the model's fits, next; near -/
def KD (n N : Nat) (g : am_H) : Prop := (∀ k, k < N → g 79 k = 0 ∨ g 79 k = 1) ∧ (∀ k, n ≤ k → k < N → g 79 k = 0) ∧ (AL (g 63) (g 64) n (fun k => g 79 k = 1)) ∧ (∀ b t : Nat, b < 10 → t < 14 → Lst (fun k => g 79 k = 1 ∧ g 63 k = 1 ∧ g 64 k = b ∧ g 65 k = t ∧ g 79 (g 68 b).toNat = 1) (g 66) 0 n (g 80 (14 * b + t)))
theorem KD.c01 {n N : Nat} {g : am_H} (s_ : KD n N g) : ∀ k, k < N → g 79 k = 0 ∨ g 79 k = 1 := s_.1
theorem KD.out {n N : Nat} {g : am_H} (s_ : KD n N g) : ∀ k, n ≤ k → k < N → g 79 k = 0 := s_.2.1
theorem KD.al {n N : Nat} {g : am_H} (s_ : KD n N g) : AL (g 63) (g 64) n (fun k => g 79 k = 1) := s_.2.2.1
theorem KD.re {n N : Nat} {g : am_H} (s_ : KD n N g) : ∀ b t : Nat, b < 10 → t < 14 → Lst (fun k => g 79 k = 1 ∧ g 63 k = 1 ∧ g 64 k = b ∧ g 65 k = t ∧ g 79 (g 68 b).toNat = 1) (g 66) 0 n (g 80 (14 * b + t)) := s_.2.2.2
theorem LD.kd {n N nb np nm : Nat} {g : am_H} (l : LD n N nb np nm g) : KD n N g := ⟨l.c01, l.out, l.al, l.re⟩
theorem KM.kd {n N : Nat} {h g : am_H} (l : KM n N h g) : KD n N g := by
  have y (j : Nat) (hj : j ∉ [79, 80]) : h j = g j := (l.fr j hj).symm
  have a := l.al
  have b := l.re
  rw [y 63 (by decide), y 64 (by decide)] at a
  rw [y 63 (by decide), y 64 (by decide), y 65 (by decide), y 66 (by decide), y 68 (by decide)] at b
  exact ⟨l.c01, l.out, a, b⟩
theorem kX12_fits {L : Nat} {xs : Nat → Int} {P : Nat → List am_V → am_H → am_K → Prop} {d : Nat} {h : am_H} {K : am_K} {N nb np nm : Nat} {n b m : Int} (hO : okL h N nb np nm) (Ha : ∀ g, MS h g → ¬ ((0 ≤ n ∧ n ≤ N) ∧ (0 ≤ b ∧ b < nb) ∧ (0 ≤ m ∧ m < nm)) → K (0, -1) g) (Hb : ((0 ≤ n ∧ n ≤ N) ∧ (0 ≤ b ∧ b < nb) ∧ (0 ≤ m ∧ m < nm)) → ∀ g, MS h g → KD n.toNat N g → ¬ Km g nb b.toNat → K (0, -1) g) (Hc : ((0 ≤ n ∧ n ≤ N) ∧ (0 ≤ b ∧ b < nb) ∧ (0 ≤ m ∧ m < nm)) → ∀ g, MS h g → KD n.toNat N g → Km g nb b.toNat → K (0, FM g np nm b.toNat m.toNat) g) : am_C true L xs P (d + 5) 186 [(2, 59), (0, n), (0, b), (0, m)] h K := by
  have hnb := hO.wm.nb10
  have o1 := hO.ms (MS.t0 (h := h))
  have hN : am_st h 59 2 0 59 11 = N := o1.notes
  have hB : am_st h 59 2 0 59 12 = nb := o1.bodies
  have hM : am_st h 59 2 0 59 9 = nm := o1.men
  have hm14 := o1.ok.mn.2
  rw [o1.men] at hm14
  refine eX12_fits (bX12_fits_0 (kX12_isKnowing (d := d + 3) (fun w => ?_) (fun w => ?_)))
  · rw [hN] at w
    exact ⟨fun _ => bX12_fits_37 (Ha _ MS.t0 (fun z => w z.1)), fun z => absurd rfl z⟩
  · rw [hN] at w
    refine ⟨fun z => absurd z (by decide), fun _ => ⟨fun w1 => bX12_fits_37 (Ha _ MS.t0 (fun z => by omega)), fun w1 => ?_⟩⟩
    rw [hB, hM]
    refine ⟨fun w2 => bX12_fits_37 (Ha _ MS.t0 (fun z => by omega)), fun w2 => ⟨fun w3 => bX12_fits_37 (Ha _ MS.t0 (fun z => by omega)), fun w3 => ⟨fun w4 => bX12_fits_39 ?_, fun w4 => bX12_fits_37 (Ha _ MS.t0 (fun z => by omega))⟩⟩⟩
    have in' : (0 ≤ n ∧ n ≤ N) ∧ (0 ≤ b ∧ b < nb) ∧ (0 ≤ m ∧ m < nm) := ⟨w, ⟨by omega, by omega⟩, by omega, w4⟩
    rw [show n = ((n.toNat : Nat) : Int) by omega, show b = ((b.toNat : Nat) : Int) by omega, show m = ((m.toNat : Nat) : Int) by omega]
    refine kX12_know (d := d + 2) (N := N) (nb := nb) (by omega) hO.N90 hN (o1.wm.mono (by omega)) (fun g k => ?_)
    have x : MS h g := MS.t0.tr (MS.of k.fr (by decide))
    have o2 := hO.ms x
    have h1 := o2.wm.no b.toNat (by omega)
    have h2 := o2.N90
    refine kX12_isKnown (d := d + 3) (by omega) (by rw [Int.toNat_natCast]; omega) (fun gk => ?_) (fun gk => ?_)
    · rw [Int.toNat_natCast] at gk
      exact ⟨fun _ => bX12_fits_61 (bX12_fits_62 (Hb in' g x k.kd (fun z => by have := z.2; omega))), fun z => absurd rfl z⟩
    · rw [Int.toNat_natCast] at gk
      refine ⟨fun z => absurd z (by decide), fun _ => kX12_fitOf (d := d) o2.ok (by omega) (by omega) o2.np12 o2.proofs o2.men (o2.cells _ (by omega)) ?_⟩
      exact bX12_fits_62 (Hc in' g x k.kd ⟨by omega, gk⟩)
theorem and_bits {r : Int} {m o : Nat} (hm : m < 32) (ho : o < 32) (hr : 0 ≤ r) : am_and (am_and (r / 2 ^ m) (r / 2 ^ o)) 1 = 1 ↔ bt r m = true ∧ bt r o = true := by
  have b1 : bt (1 : Int) 0 = true := by decide
  have key : ∀ x : Int, am_and x 1 = 1 ↔ bt x 0 = true := by
    intro x
    have := bt_t1 (x := x) (k := 0) (by decide)
    rw [show x / 2 ^ 0 = x by rw [Int.pow_zero, Int.ediv_one]] at this
    exact this
  have sh : ∀ k, k < 32 → bt (r / 2 ^ k) 0 = bt r k := by
    intro k hk
    rw [bt_eq _ (by decide), bt_eq _ hk, Int.pow_zero, Int.ediv_one]
  rw [key, bt_and, Bool.and_eq_true, sh m hm, sh o ho]
theorem kX12_next {L : Nat} {xs : Nat → Int} {P : Nat → List am_V → am_H → am_K → Prop} {d : Nat} {h : am_H} {K : am_K} {N nb np nm : Nat} {n b : Int} (hO : okL h N nb np nm) (Ha : ∀ g, MS h g → ¬ ((0 ≤ n ∧ n ≤ N) ∧ (0 ≤ b ∧ b < nb)) → K (0, -1) g) (Hb : ((0 ≤ n ∧ n ≤ N) ∧ (0 ≤ b ∧ b < nb)) → ∀ g, MS h g → LD n.toNat N nb np nm g → (¬ Km g nb b.toNat ∨ (Km g nb b.toNat ∧ ((∃ m, Nb g nb nm b.toNat m) ∨ ∀ m, ¬ Wm g nb nm b.toNat m))) → K (0, -1) g) (Hc : ((0 ≤ n ∧ n ≤ N) ∧ (0 ≤ b ∧ b < nb)) → ∀ g r f, MS h g → LD n.toNat N nb np nm g → Km g nb b.toNat → (∀ m, ¬ Nb g nb nm b.toNat m) → (∃ m, Wm g nb nm b.toNat m) → Bst (fun t => g 80 (14 * b.toNat + t) = -1) (fun t => aF (fun m => Wm g nb nm b.toNat m) (fun m => tM g m t) nm nm) 14 r f → K (0, r) g) : am_C true L xs P (d + 7) 197 [(2, 59), (0, n), (0, b)] h K := by
  have hnb := hO.wm.nb10
  refine eX12_next (bX12_next_0 (kX12_isBody (d := d) (hO.ms MS.t0) (fun w => ?_) (fun w g x l k => ?_) (fun w g x l k => ?_)))
  · exact ⟨fun _ => bX12_next_23 (Ha _ MS.t0 w), fun z => absurd rfl z⟩
  · exact ⟨fun _ => bX12_next_23 (Hb w _ (MS.t0.tr x) l (Or.inl k)), fun z => absurd rfl z⟩
  · have o2 := (hO.ms MS.t0).ms x
    have hm := o2.ok.mn.2
    rw [o2.men] at hm
    refine ⟨fun z => absurd z (by decide), fun _ => ?_⟩
    have kk : ∀ g' : am_H, Fr [83, 84, 85] g g' → Km g' nb b.toNat := by
      intro g' e1
      unfold Km; rw [e1 79 (by decide), e1 68 (by decide)]; exact k
    rw [show b = ((b.toNat : Nat) : Int) by omega]
    generalize hB : b.toNat = B at *
    have hB10 : B < 10 := by omega
    refine kX12_namedOf (d := d + 1) (by omega) hnb o2.men o2.bodies (by omega) (fun g' e1 e2 => ?_) (fun g' m e1 e2 e3 => ?_)
    · refine ⟨fun _ => bX12_next_25 ?_, fun z => absurd rfl z⟩
      have e1' := e1
      have f59 : g' 59 = g 59 := e1 59 (by decide)
      refine kX12_whoOf (d := d + 2) (nm := nm) (by omega) hnb (by rw [f59]; exact o2.men) (by rw [f59]; exact o2.bodies) (by omega) (fun g2 r q1 q2 q3 => ?_)
      have fr := e1.tr q1
      have ms := (MS.t0.tr x).tr (MS.of fr (by decide))
      have ld := l.fr fr.w83
      have o3 := hO.ms ms
      have ok3 := o3.ok
      have n59 : g2 59 9 = nm := o3.men
      have no' : ∀ m, ¬ Nb g2 nb nm B m := fun m z => e2 m ((Nb_fr (fr 81 (by decide)) (by rw [fr 59 (by decide)])).mp z)
      have hr : ∀ m, bt r m = true ↔ Wm g2 nb nm B m := fun m => by
        rw [q3, Wm_fr (e1 81 (by decide)) (by rw [f59]), Wm_fr (fr 81 (by decide)) (by rw [fr 59 (by decide)])]
      have r0 : 0 ≤ r ∧ r < 2 ^ 14 := bt_lt q2 (by decide) (fun k hk _ => bt_f.mpr (fun z => by have := ((hr k).mp z).1; omega))
      dsimp only
      refine ⟨fun w2 => bX12_next_37 ?_, fun w2 => Hb w g2 ms ld (Or.inr ⟨kk g2 fr, Or.inr (fun m z => ?_)⟩)⟩
      · have ex : ∃ m, Wm g2 nb nm B m := by
          apply Classical.byContradiction
          intro hno
          apply w2
          refine bt_ext q2 (by decide) (fun k _ => ?_)
          rw [bt_0]
          exact bt_f.mpr (fun z => hno ⟨k, (hr k).mp z⟩)
        have aw : ∀ t, aF (fun m => bt r m = true) (fun m => tM g2 m t) nm nm = aF (fun m => Wm g2 nb nm B m) (fun m => tM g2 m t) nm nm := fun t => aF_congr (fun m _ => hr m) (fun _ _ => rfl) nm (Nat.le_refl _)
        refine upto (σ := Int × Int × am_V × am_V × am_V × am_V) (N := 14) (I := fun i s => Bst (fun t => g2 80 (14 * B + t) = -1) (fun t => aF (fun m => bt r m = true) (fun m => tM g2 m t) nm nm) i s.1 s.2.1) (G := fun i s => tX12_next (h 0 0 + (0 : Nat)) L xs (am_C true L xs P (d + 6)) K 46 [(2, 59), (0, n), (0, (B : Int)), (0, r), (0, s.1), (0, s.2.1), (0, (i : Int)), s.2.2.1, s.2.2.2.1, s.2.2.2.2.1, s.2.2.2.2.2] [] g2) ?_ ?_ 14 0 (-1, 0, (9, 0), (9, 0), (9, 0), (9, 0)) (by omega) (Or.inl ⟨rfl, fun t ht => by omega⟩)
        · intro i ⟨bb, f, v7, v8, v9, v10⟩ hi e ih
          dsimp only at e ⊢
          refine bX12_next_46 ⟨fun z => by omega, fun _ => ⟨⟨by omega, by omega⟩, ⟨by omega, by omega⟩, ⟨by omega, by omega⟩, ?_⟩⟩
          rw [show Int.toNat (14 * (B : Int) + (i : Int)) = 14 * B + i by omega]
          refine ⟨fun z => bX12_next_72 ?_, fun z => bX12_next_198 ⟨by omega, ih (bb, f, v7, v8, v9, v10) (Bst_skip e z)⟩⟩
          refine upto (σ := am_V × am_V) (N := nm) (I := fun _ _ => True) (G := fun m s => tX12_next (h 0 0 + (0 : Nat)) L xs (am_C true L xs P (d + 6)) K 78 [(2, 59), (0, n), (0, (B : Int)), (0, r), (0, bb), (0, f), (0, (i : Int)), (0, aF (fun m => bt r m = true) (fun m => tM g2 m i) nm m), (0, (m : Int)), s.1, s.2] [] g2) ?_ ?_ nm 0 (v9, v10) (by omega) trivial
          · intro m ⟨v9, v10⟩ hm' _ ihm
            dsimp only at ihm ⊢
            refine bX12_next_78 ⟨fun z => by rw [n59] at z; omega, fun _ => ?_⟩
            refine upto (σ := Int) (N := nm) (I := fun o s => s = sif (bt r m = true) (cnt (fun o => bt r o = true ∧ tM g2 m i = tM g2 o i) o : Nat)) (G := fun o s => tX12_next (h 0 0 + (0 : Nat)) L xs (am_C true L xs P (d + 6)) K 93 [(2, 59), (0, n), (0, (B : Int)), (0, r), (0, bb), (0, f), (0, (i : Int)), (0, aF (fun m => bt r m = true) (fun m => tM g2 m i) nm m), (0, (m : Int)), (0, s), (0, (o : Int))] [] g2) ?_ ?_ nm 0 0 (by omega) (by
              by_cases hw : bt r m = true
              · rw [sif_pos hw]; rfl
              · rw [sif_neg hw])
            · intro o s ho es iho
              subst es
              have cb := cnt_bnd (fun o => bt r o = true ∧ tM g2 m i = tM g2 o i) o
              have sb := sif_le (p := bt r m = true) (x := (cnt (fun o => bt r o = true ∧ tM g2 m i = tM g2 o i) o : Nat)) (by omega)
              have no : ¬ (bt r m = true ∧ bt r o = true ∧ tM g2 m i = tM g2 o i) → tX12_next (h 0 0 + (0 : Nat)) L xs (am_C true L xs P (d + 6)) K 142 [(2, 59), (0, n), (0, (B : Int)), (0, r), (0, bb), (0, f), (0, (i : Int)), (0, aF (fun m => bt r m = true) (fun m => tM g2 m i) nm m), (0, (m : Int)), (0, sif (bt r m = true) (cnt (fun o => bt r o = true ∧ tM g2 m i = tM g2 o i) o : Nat)), (0, (o : Int))] [(0, sif (bt r m = true) (cnt (fun o => bt r o = true ∧ tM g2 m i = tM g2 o i) o : Nat))] g2 := by
                intro hno
                refine bX12_next_142 (bX12_next_143 ⟨⟨by omega, by omega⟩, by omega, ?_⟩)
                rw [Int.add_zero]
                have := iho _ rfl
                by_cases hw : bt r m = true
                · rw [cnt_neg (p := fun o => bt r o = true ∧ tM g2 m i = tM g2 o i) (fun z => hno ⟨hw, z⟩)] at this
                  exact this
                · rw [sif_neg hw] at this ⊢
                  exact this
              refine bX12_next_93 ⟨fun z => by rw [n59] at z; omega, fun _ => ⟨by omega, by omega, ?_⟩⟩
              rw [Int.toNat_natCast, Int.toNat_natCast, and_bits (by omega) (by omega) r0.1]
              refine ⟨fun z => no (fun y => z ⟨y.1, y.2.1⟩), fun z => ?_⟩
              have z' := Classical.not_not.mp z
              refine kX12_thingOf (d := d + 5) (by omega) hi (ok3.mv m (by omega)).1 (kX12_thingOf (d := d + 5) (by omega) hi (ok3.mv o (by omega)).1 ?_)
              dsimp only
              refine ⟨fun y => no (fun q => y q.2.2), fun y => ?_⟩
              refine bX12_next_143 ⟨⟨by omega, by omega⟩, by omega, ?_⟩
              have := iho _ rfl
              rw [cnt_pos (p := fun o => bt r o = true ∧ tM g2 m i = tM g2 o i) ⟨z'.2, Classical.not_not.mp y⟩, sif_pos z'.1] at this
              rw [sif_pos z'.1]
              exact this
            · intro s es
              subst es
              refine bX12_next_93 ⟨fun _ => bX12_next_152 ⟨fun z => bX12_next_164 (bX12_next_166 ⟨by omega, ?_⟩), fun z => bX12_next_166 ⟨by omega, ?_⟩⟩, fun z => by rw [n59] at z; omega⟩
              · have := ihm ((0, sif (bt r m = true) (cnt (fun o => bt r o = true ∧ tM g2 m i = tM g2 o i) nm : Nat)), (0, (nm : Int))) trivial
                simp only [aF] at this
                rw [if_pos z] at this
                exact this
              · have := ihm ((0, sif (bt r m = true) (cnt (fun o => bt r o = true ∧ tM g2 m i = tM g2 o i) nm : Nat)), (0, (nm : Int))) trivial
                simp only [aF] at this
                rw [if_neg z] at this
                exact this
          · intro ⟨v9, v10⟩ _
            refine bX12_next_78 ⟨fun _ => bX12_next_174 ⟨fun y => bX12_next_190 (bX12_next_198 ⟨by omega, ih (_, _, _, _, _, _) (Bst_new e z (Or.inl y))⟩), fun y => ⟨fun y2 => bX12_next_190 (bX12_next_198 ⟨by omega, ih (_, _, _, _, _, _) (Bst_new e z (Or.inr y2))⟩), fun y2 => bX12_next_198 ⟨by omega, ih (bb, f, _, _, _, _) (Bst_old e ⟨y, (by show f ≤ aF (fun m => bt r m = true) (fun m => tM g2 m i) nm nm; omega)⟩)⟩⟩⟩, fun y => by rw [n59] at y; omega⟩
        · intro ⟨bb, f, v7, v8, v9, v10⟩ e
          dsimp only at e ⊢
          refine bX12_next_46 ⟨fun _ => bX12_next_204 (Hc w g2 bb f ms ld (kk g2 fr) no' ex ?_), fun z => by omega⟩
          have : (fun t => aF (fun m => bt r m = true) (fun m => tM g2 m t) nm nm) = fun t => aF (fun m => Wm g2 nb nm B m) (fun m => tM g2 m t) nm nm := funext aw
          rw [this] at e
          exact e
      · have := (hr m).mpr z
        rw [Classical.not_not.mp w2, bt_0] at this
        exact absurd this (by decide)
    · refine ⟨fun z => by dsimp only at z; omega, fun _ => bX12_next_23 (Hb w g' ((MS.t0.tr x).tr (MS.of e1 (by decide))) (l.fr e1.w83) (Or.inr ⟨kk g' e1, Or.inl ⟨m, (Nb_fr (e1 81 (by decide)) (by rw [e1 59 (by decide)])).mpr e2⟩⟩))⟩
theorem kX11_near {L : Nat} {xs : Nat → Int} {P : Nat → List am_V → am_H → am_K → Prop} {d : Nat} {h : am_H} {K : am_K} {m c : Int} (hR : am_okR h) (hc : h 20 13 ≤ 25) (H0 : ¬ ((0 ≤ m ∧ m < h 20 15) ∧ (0 ≤ c ∧ c < h 20 13)) → K (0, -1) h) (H1 : ((0 ≤ m ∧ m < h 20 15) ∧ (0 ≤ c ∧ c < h 20 13)) → K (0, Ncl h m.toNat c) h) : am_C true L xs P (d + 4) 115 [(2, 1), (0, m), (0, c)] h K := by
  have h14 := hR.2.1
  refine eX11_near (bX11_near_0 (kX6_hasMan (d := d + 2) (fun w => ?_) (fun w => ?_)))
  · exact ⟨fun _ => bX11_near_34 (bX11_near_35 (H0 (fun z => w z.1))), fun z => absurd rfl z⟩
  · refine ⟨fun z => absurd z (by decide), fun _ => kX6_hasCell (d := d + 2) (fun w1 => ?_) (fun w1 => ?_)⟩
    · exact ⟨fun _ => bX11_near_34 (bX11_near_35 (H0 (fun z => w1 z.2))), fun z => absurd rfl z⟩
    · refine ⟨fun z => absurd z (by decide), fun _ => kX6_nearest (d := d) hR (by omega) (by omega) (bX11_near_35 ?_)⟩
      have := H1 ⟨w, w1⟩
      unfold Ncl at this
      rw [show ((m.toNat : Nat) : Int) = m by omega] at this
      exact this
theorem kX12_near {L : Nat} {xs : Nat → Int} {P : Nat → List am_V → am_H → am_K → Prop} {d : Nat} {h : am_H} {K : am_K} {m c : Int} (hM : okM h) (ht : 2 ≤ h 59 4 ∧ h 59 4 ≤ 5) (hp : h 59 3 * h 59 4 ≤ 25 ∧ 0 ≤ h 59 3 * h 59 4) (H0 : ¬ ((0 ≤ m ∧ m < h 59 9) ∧ (0 ≤ c ∧ c < h 59 3 * h 59 4)) → K (0, -1) (am_t0 h)) (H1 : ((0 ≤ m ∧ m < h 59 9) ∧ (0 ≤ c ∧ c < h 59 3 * h 59 4)) → K (0, Nmo h m.toNat c) (am_t0 h)) : am_C true L xs P (d + 3) 179 [(2, 59), (0, m), (0, c)] h K := by
  have s (j : Nat) (hj : ¬ j = 2) : am_st h 59 2 0 59 j = h 59 j := st_nj hj
  have s1 (i : Nat) (hj : ¬ i = 59) : am_st h 59 2 0 i = h i := st_ne hj
  have oM : okM (am_st h 59 2 0) := by
    obtain ⟨a, b, c, d, e⟩ := hM
    exact ⟨by rw [s 3 (by decide)]; exact a, by rw [s 7 (by decide)]; exact b, by rw [s 9 (by decide)]; exact c, by rw [s1 61 (by decide)]; exact d, by rw [s1 62 (by decide)]; exact e⟩
  have hm14 := hM.mn
  refine eX12_near (bX12_near_0 ⟨fun w => bX12_near_25 (bX12_near_35 (H0 (fun z => by omega))), fun w => ⟨fun w1 => bX12_near_25 (bX12_near_35 (H0 (fun z => by omega))), fun w1 => kX12_isCell (d := d + 1) (by rw [s 3 (by decide)]; exact hM.w) (by rw [s 4 (by decide)]; exact ht) (by rw [s 3 (by decide), s 4 (by decide)]; exact hp) (fun w2 => ?_) (fun w2 => ?_)⟩⟩)
  · rw [s 3 (by decide), s 4 (by decide)] at w2
    exact ⟨fun z => absurd rfl z, fun _ => bX12_near_25 (bX12_near_35 (H0 (fun z => w2 z.2)))⟩
  · rw [s 3 (by decide), s 4 (by decide)] at w2
    refine ⟨fun _ => bX12_near_29 ?_, fun z => absurd (by decide) z⟩
    rw [show m = ((m.toNat : Nat) : Int) by omega]
    refine kX12_nearOf (d := d) oM (by omega) (by omega) (bX12_near_35 ?_)
    have := H1 ⟨by omega, w2⟩
    unfold Nmo at this
    rw [s 7 (by decide), am_mr_congr (h := h) (s1 61 (by decide)) (s1 62 (by decide)) (s 3 (by decide))]
    exact this
