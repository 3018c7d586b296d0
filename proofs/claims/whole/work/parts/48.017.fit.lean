/-! what fits: the class -/
noncomputable def pr (P S : Prop) : Int := by classical exact (if S then 3 else if P then 2 else 1)
noncomputable def vd (Q P S O : Prop) : Int := by classical exact (if Q then 0 else if ¬ P then 1 else if ¬ S then 2 else if O then 2 else 3)
theorem pr_congr {P P' S S' : Prop} (h1 : P ↔ P') (h2 : S ↔ S') : pr P S = pr P' S' := by
  have e1 : P = P' := propext h1
  have e2 : S = S' := propext h2
  rw [e1, e2]
theorem vd_congr {Q Q' P P' S S' O O' : Prop} (h0 : Q ↔ Q') (h1 : P ↔ P') (h2 : S ↔ S') (h3 : O ↔ O') : vd Q P S O = vd Q' P' S' O' := by
  rw [propext h0, propext h1, propext h2, propext h3]
/-- a proof's line holds -/
def Hc (h : am_H) (c b : Nat) (x : Int) (l : Nat) : Prop := (h (c + 4) l = -1 ∨ (¬ x = -1 ∧ x ≤ h (c + 4) l)) ∧ ∀ q, q < 4 → h (c + 3) (l * 4 + q) ≤ h 42 (b * 4 + q)
def Pc (h : am_H) (c b : Nat) (x : Int) (n : Nat) : Prop := ∃ l, l < n ∧ Hc h c b x l
def Sc (h : am_H) (c b : Nat) (x : Int) (n : Nat) : Prop := ∃ l, l < n ∧ Hc h c b x l ∧ h (c + 2) l = 1
def Qc (h : am_H) (b m : Nat) : Prop := ∃ t, t < 14 ∧ ¬ h 41 (b * 14 + t) = -1 ∧ ¬ h 41 (b * 14 + t) = h 32 (m * 14 + t)
theorem kX2_quarrels {L : Nat} {xs : Nat → Int} {P : Nat → List am_V → am_H → am_K → Prop} {d : Nat} {h : am_H} {K : am_K} {b m : Nat} (hb : b < 10) (hm : m < 14) (H0 : ¬ Qc h b m → K (0, 0) h) (H1 : Qc h b m → K (0, 1) h) : am_C true L xs P (d + 2) 28 [(2, 39), (0, (b : Int)), (2, 20), (0, (m : Int))] h K := by
  refine eX2_quarrels (bX2_quarrels_0 ?_)
  refine upto (σ := am_V) (N := 14) (I := fun i _ => ∀ t, t < i → ¬ (¬ h 41 (b * 14 + t) = -1 ∧ ¬ h 41 (b * 14 + t) = h 32 (m * 14 + t))) (G := fun i v => tX2_quarrels (h 0 0 + (0 : Nat)) L xs (am_C true L xs P (d + 1)) K 3 [(2, 39), (0, (b : Int)), (2, 20), (0, (m : Int)), (0, (i : Int)), v] [] h) ?_ ?_ 14 0 (9, 0) (by omega) (fun t ht => by omega)
  · intro i v hi e1 ih
    have i1 : ((b : Int) * 14 + (i : Int)).toNat = b * 14 + i := by omega
    have i2 : ((m : Int) * 14 + (i : Int)).toNat = m * 14 + i := by omega
    have next : ∀ w : Int, ¬ (¬ h 41 (b * 14 + i) = -1 ∧ ¬ h 41 (b * 14 + i) = h 32 (m * 14 + i)) → tX2_quarrels (h 0 0 + (0 : Nat)) L xs (am_C true L xs P (d + 1)) K 39 [(2, 39), (0, (b : Int)), (2, 20), (0, (m : Int)), (0, (i : Int)), (0, w)] [] h := by
      intro w hn
      refine bX2_quarrels_39 ⟨by omega, ih (0, w) (fun t ht => ?_)⟩
      by_cases e : t = i
      · subst e; exact hn
      · exact e1 t (by omega)
    refine bX2_quarrels_3 ⟨fun z => by omega, fun _ => kX2_reading (d := d) (by omega) (by omega) ?_⟩
    dsimp only
    rw [i1]
    refine ⟨fun gz => next _ (fun z => z.1 gz), fun gz => kX6_trait (d := d) (by omega) (by omega) ?_⟩
    dsimp only
    rw [i2]
    refine ⟨fun ge => next _ (fun z => z.2 ge), fun ge => ⟨by decide, H1 ⟨i, hi, gz, ge⟩⟩⟩
  · intro v e1
    exact bX2_quarrels_3 ⟨fun _ => bX2_quarrels_45 ⟨by decide, H0 (fun ⟨t, ht, z⟩ => e1 t ht z)⟩, fun z => by omega⟩
/-- NEAR by the class's rows -/
def Ncl (h : am_H) (m : Nat) (c : Int) : Int := am_nr h (m : Int) c (Int.toNat (h 20 14)) 0 (-1)
theorem am_nr_congr {g h : am_H} {m c : Int} (h23 : g 23 = h 23) (h24 : g 24 = h 24) (h25 : g 25 = h 25) (h26 : g 26 = h 26) (h27 : g 27 = h 27) (h29 : g 29 = h 29) (h21 : g 21 = h 21) (h22 : g 22 = h 22) : ∀ (n i : Nat) (acc : Int), am_nr g m c n i acc = am_nr h m c n i acc := by
  intro n
  induction n with
  | zero => intro i acc; rfl
  | succ n ih => intro i acc; simp only [am_nr]; rw [ih, h23, h24, h25, h26, h27, h29]; unfold am_fr; rw [h21, h22]
theorem kX0_proofHolds_0 {L : Nat} {xs : Nat → Int} {P : Nat → List am_V → am_H → am_K → Prop} {d : Nat} {h : am_H} {K : am_K} {b l : Nat} {x : Int} (hb : b < 10) (hl : l < 12) (H0 : ¬ Hc h 5 b x l → K (0, 0) h) (H1 : Hc h 5 b x l → K (0, 1) h) : am_C true L xs P (d + 1) 7 [(2, 5), (0, (l : Int)), (2, 39), (0, (b : Int)), (0, x)] h K := by
  refine eX0_proofHolds_0 (bX0_proofHolds_0_0 ⟨by omega, ?_⟩)
  rw [Int.toNat_natCast]
  have no : ¬ (h 9 l = -1 ∨ (¬ x = -1 ∧ x ≤ h 9 l)) → tX0_proofHolds (h 0 0 + (0 : Nat)) L xs (am_C true L xs P d) K 27 [(2, 5), (0, (l : Int)), (2, 39), (0, (b : Int)), (0, x), (9, 0)] [] h := fun hn => bX0_proofHolds_27_0 ⟨by decide, H0 (fun z => hn z.1)⟩
  have yes : (h 9 l = -1 ∨ (¬ x = -1 ∧ x ≤ h 9 l)) → tX0_proofHolds (h 0 0 + (0 : Nat)) L xs (am_C true L xs P d) K 29 [(2, 5), (0, (l : Int)), (2, 39), (0, (b : Int)), (0, x), (9, 0)] [] h := by
    intro hy
    refine bX0_proofHolds_29_0 ?_
    refine upto (σ := Unit) (N := 4) (I := fun i _ => ∀ q, q < i → h 8 (l * 4 + q) ≤ h 42 (b * 4 + q)) (G := fun i _ => tX0_proofHolds (h 0 0 + (0 : Nat)) L xs (am_C true L xs P d) K 32 [(2, 5), (0, (l : Int)), (2, 39), (0, (b : Int)), (0, x), (0, (i : Int))] [] h) ?_ ?_ 4 0 () (by omega) (fun q hq => by omega)
    · intro i _ hi e1 ih
      have i1 : ((b : Int) * 4 + (i : Int)).toNat = b * 4 + i := by omega
      have i2 : ((l : Int) * 4 + (i : Int)).toNat = l * 4 + i := by omega
      refine bX0_proofHolds_32_0 ⟨fun z => by omega, fun _ => ⟨by omega, by omega, by omega, by omega, by omega, by omega, ?_⟩⟩
      rw [i1, i2]
      refine ⟨fun gz => bX0_proofHolds_65_0 ⟨by omega, ih () (fun q hq => ?_)⟩, fun gz => ⟨by decide, H0 (fun z => gz (z.2 i hi))⟩⟩
      by_cases e : q = i
      · subst e; exact gz
      · exact e1 q (by omega)
    · intro _ e1
      exact bX0_proofHolds_32_0 ⟨fun _ => bX0_proofHolds_71_0 ⟨by decide, H1 ⟨hy, e1⟩⟩, fun z => by omega⟩
  refine ⟨fun z => yes (Or.inl z), fun z => ⟨fun z2 => no (fun w => w.elim z (fun w => w.1 z2)), fun z2 => ⟨by omega, ⟨fun z3 => yes (Or.inr ⟨z2, z3⟩), fun z3 => no (fun w => w.elim z (fun w => z3 w.2))⟩⟩⟩⟩
theorem kX0_proven_0 {L : Nat} {xs : Nat → Int} {P : Nat → List am_V → am_H → am_K → Prop} {d : Nat} {h : am_H} {K : am_K} {b n : Nat} {x : Int} (hb : b < 10) (hn : n ≤ 12) (h5 : h 5 5 = n) (H : K (0, pr (Pc h 5 b x n) (Sc h 5 b x n)) h) : am_C true L xs P (d + 2) 6 [(2, 5), (2, 39), (0, (b : Int)), (0, x)] h K := by
  refine eX0_proven_0 (bX0_proven_0_0 ?_)
  refine upto (σ := Int) (N := n) (I := fun i r => r = pr (Pc h 5 b x i) (Sc h 5 b x i)) (G := fun i r => tX0_proven (h 0 0 + (0 : Nat)) L xs (am_C true L xs P (d + 1)) K 6 [(2, 5), (2, 39), (0, (b : Int)), (0, x), (0, r), (0, (i : Int))] [] h) ?_ ?_ n 0 1 (by omega) ?_
  · intro i r hi er ih
    have step : ∀ (r' : Int), r' = pr (Pc h 5 b x (i + 1)) (Sc h 5 b x (i + 1)) → tX0_proven (h 0 0 + (0 : Nat)) L xs (am_C true L xs P (d + 1)) K 49 [(2, 5), (2, 39), (0, (b : Int)), (0, x), (0, r'), (0, (i : Int))] [] h := fun r' hr => bX0_proven_49_0 ⟨by omega, ih r' hr⟩
    refine bX0_proven_6_0 ⟨fun z => by omega, fun _ => kX0_proofHolds_0 (d := d) hb (by omega) (fun gh => ?_) (fun gh => ?_)⟩
    · refine ⟨fun _ => step r ?_, fun z => absurd rfl z⟩
      rw [er]
      refine pr_congr ⟨fun ⟨l, l1, l2⟩ => ⟨l, by omega, l2⟩, fun ⟨l, l1, l2⟩ => ⟨l, ?_, l2⟩⟩ ⟨fun ⟨l, l1, l2⟩ => ⟨l, by omega, l2⟩, fun ⟨l, l1, l2⟩ => ⟨l, ?_, l2⟩⟩
      · have : ¬ l = i := fun e => gh (e ▸ l2)
        omega
      · have : ¬ l = i := fun e => gh (e ▸ l2.1)
        omega
    · refine ⟨fun z => absurd z (by decide), fun _ => ⟨by omega, fun hs => ?_⟩⟩
      rw [Int.toNat_natCast] at hs ⊢
      have hP : Pc h 5 b x (i + 1) := ⟨i, by omega, gh⟩
      refine ⟨fun gs => bX0_proven_43_0 (bX0_proven_44_0 (kJ9_max_7cf53 (d := d) (step _ ?_))), fun gs => bX0_proven_44_0 (kJ9_max_7cf53 (d := d) (step _ ?_))⟩
      · have hS : Sc h 5 b x (i + 1) ↔ Sc h 5 b x i := ⟨fun ⟨l, l1, l2⟩ => ⟨l, by
          have : ¬ l = i := fun e => by subst e; have : h 7 l = 1 := l2.2; omega
          omega, l2⟩, fun ⟨l, l1, l2⟩ => ⟨l, by omega, l2⟩⟩
        rw [er, pr_congr (P := Pc h 5 b x (i + 1)) (P' := True) ⟨fun _ => trivial, fun _ => hP⟩ hS]
        unfold pr
        by_cases s1 : Sc h 5 b x i <;> by_cases p1 : Pc h 5 b x i <;> simp [s1, p1]
      · have hS : Sc h 5 b x (i + 1) := ⟨i, by omega, gh, by show h 7 i = 1; omega⟩
        rw [er, pr_congr (P := Pc h 5 b x (i + 1)) (P' := True) ⟨fun _ => trivial, fun _ => hP⟩ (S' := True) ⟨fun _ => trivial, fun _ => hS⟩]
        unfold pr
        by_cases s1 : Sc h 5 b x i <;> by_cases p1 : Pc h 5 b x i <;> simp [s1, p1]
  · intro r er
    rw [← er] at H
    exact bX0_proven_6_0 ⟨fun _ => bX0_proven_55_0 H, fun z => by omega⟩
  · rw [pr_congr (P' := False) (S' := False) ⟨fun ⟨l, l1, _⟩ => by omega, fun z => z.elim⟩ ⟨fun ⟨l, l1, _⟩ => by omega, fun z => z.elim⟩]
    unfold pr; simp
/-- NEAR of a man to a body's cell -/
theorem kX4_weigh_0 {L : Nat} {xs : Nat → Int} {P : Nat → List am_V → am_H → am_K → Prop} {d : Nat} {h : am_H} {K : am_K} {b n nm : Nat} (hR : am_okR h) (hb : b < 10) (hn : n ≤ 12) (h5 : h 5 5 = n) (hnm : h 20 15 = nm) (hcb : 0 ≤ h 43 b ∧ h 43 b < 25) (H : ∀ h', Fr [45] h h' → (∀ j, (j < b * 14 ∨ b * 14 + 14 ≤ j) → h' 45 j = h 45 j) → (∀ m, m < nm → h' 45 (b * 14 + m) = vd (Qc h b m) (Pc h 5 b (Ncl h m (h 43 b)) n) (Sc h 5 b (Ncl h m (h 43 b)) n) (∃ o, o < nm ∧ ¬ o = m ∧ ¬ Qc h b o ∧ Sc h 5 b (Ncl h o (h 43 b)) n)) → K (9, 0) h') : am_C true L xs P (d + 4) 41 [(2, 44), (2, 5), (2, 20), (2, 39), (0, (b : Int))] h K := by
  have hm14 := hR.2.1
  refine eX4_weigh_0 (bX4_weigh_0_0 ?_)
  -- the verdict alone
  let v0 : Nat → Int := fun m => @ite Int (Qc h b m) (Classical.propDecidable _) (0 : Int) (pr (Pc h 5 b (Ncl h m (h 43 b)) n) (Sc h 5 b (Ncl h m (h 43 b)) n))
  have hv3 : ∀ m, v0 m = 3 ↔ (¬ Qc h b m ∧ Sc h 5 b (Ncl h m (h 43 b)) n) := by
    intro m
    show (@ite Int (Qc h b m) (Classical.propDecidable _) (0 : Int) (pr _ _)) = 3 ↔ _
    unfold pr
    by_cases q1 : Qc h b m <;> by_cases s1 : Sc h 5 b (Ncl h m (h 43 b)) n <;> by_cases p1 : Pc h 5 b (Ncl h m (h 43 b)) n <;> simp [q1, s1, p1]
  refine upto (σ := Int × am_V × am_H) (N := nm) (I := fun i s => Fr [45] h s.2.2 ∧ (∀ j, (j < b * 14 ∨ b * 14 + 14 ≤ j) → s.2.2 45 j = h 45 j) ∧ (∀ m, m < i → s.2.2 45 (b * 14 + m) = v0 m) ∧ s.1 = cnt (fun m => v0 m = 3) i) (G := fun i s => tX4_weigh (h 0 0 + (0 : Nat)) L xs (am_C true L xs P (d + 3)) K 6 [(2, 44), (2, 5), (2, 20), (2, 39), (0, (b : Int)), (0, s.1), (0, (i : Int)), s.2.1] [] s.2.2) ?_ ?_ nm 0 (0, (9, 0), h) (by omega) ⟨Fr.rf, fun _ _ => rfl, fun m hm => by omega, rfl⟩
  · intro i ⟨r, v, g⟩ hi ⟨e1, e2, e3, e4⟩ ih
    dsimp only at e1 e2 e3 e4 ⊢
    have x (c : Nat) (hc : ¬ c = 45) : g c = h c := e1 c (by simpa using hc)
    have cb := cnt_bnd (fun m => v0 m = 3) i
    have eQ : Qc g b i ↔ Qc h b i := by unfold Qc; rw [x 41 (by decide), x 32 (by decide)]
    have store : ∀ w : Int, w = v0 i → tX4_weigh (h 0 0 + (0 : Nat)) L xs (am_C true L xs P (d + 3)) K 52 [(2, 44), (2, 5), (2, 20), (2, 39), (0, (b : Int)), (0, r), (0, (i : Int)), (0, w)] [] g := by
      intro w hw
      have ei : ((b : Int) * 14 + (i : Int)).toNat = b * 14 + i := by omega
      have fin : ∀ r' : Int, r' = cnt (fun m => v0 m = 3) (i + 1) → tX4_weigh (h 0 0 + (0 : Nat)) L xs (am_C true L xs P (d + 3)) K 6 [(2, 44), (2, 5), (2, 20), (2, 39), (0, (b : Int)), (0, r'), (0, ((i + 1 : Nat) : Int)), (0, w)] [] (am_st g 45 (b * 14 + i) w) := by
        intro r' hr'
        refine ih (r', (0, w), am_st g 45 (b * 14 + i) w) ⟨e1.st (by decide), fun j hj => ?_, fun m hm => ?_, hr'⟩
        · dsimp only; rw [st_nj (by omega)]; exact e2 j hj
        · dsimp only; rw [st_ap]
          by_cases e : m = i
          · subst e; rw [if_pos rfl]; exact hw
          · rw [if_neg (by omega)]; exact e3 m (by omega)
      refine bX4_weigh_52_0 ⟨by omega, by omega, by omega, ?_⟩
      rw [ei]
      refine ⟨fun gz => bX4_weigh_79_0 (bX4_weigh_80_0 ⟨by omega, by omega, fin _ ?_⟩), fun gz => bX4_weigh_80_0 ⟨by omega, by omega, fin _ ?_⟩⟩
      · rw [cnt_neg (p := fun m => v0 m = 3) (fun z => gz (by rw [hw]; exact z)), e4]; omega
      · rw [cnt_pos (p := fun m => v0 m = 3) (by rw [← hw]; exact Classical.not_not.mp gz), e4]; omega
    refine bX4_weigh_6_0 ⟨fun z => by rw [x 20 (by decide), hnm] at z; omega, fun _ => kX2_quarrels (d := d + 1) hb (by omega) (fun gq => ?_) (fun gq => ?_)⟩
    · refine ⟨fun z => absurd rfl z, fun _ => ⟨by omega, ?_⟩⟩
      rw [Int.toNat_natCast, x 43 (by decide)]
      have hR' : am_okR g := by unfold am_okR; rw [x 20 (by decide), x 21 (by decide), x 22 (by decide), x 24 (by decide)]; exact hR
      refine kX6_nearest (d := d) hR' (by omega) hcb ?_
      have eN : am_nr g (i : Int) (h 43 b) (Int.toNat (g 20 14)) 0 (-1) = Ncl h i (h 43 b) := by
        unfold Ncl; rw [x 20 (by decide)]; exact am_nr_congr (x 23 (by decide)) (x 24 (by decide)) (x 25 (by decide)) (x 26 (by decide)) (x 27 (by decide)) (x 29 (by decide)) (x 21 (by decide)) (x 22 (by decide)) _ _ _
      dsimp only
      rw [eN]
      refine kX0_proven_0 (d := d + 1) hb hn (by rw [x 5 (by decide)]; exact h5) ?_
      dsimp only
      refine store _ ?_
      have e5 : Pc g 5 b (Ncl h i (h 43 b)) n = Pc h 5 b (Ncl h i (h 43 b)) n := by unfold Pc Hc; rw [x 42 (by decide), x (8) (by decide), x (9) (by decide)]
      have e6 : Sc g 5 b (Ncl h i (h 43 b)) n = Sc h 5 b (Ncl h i (h 43 b)) n := by unfold Sc Hc; rw [x 42 (by decide), x (7) (by decide), x (8) (by decide), x (9) (by decide)]
      rw [e5, e6]
      show _ = (@ite Int (Qc h b i) (Classical.propDecidable _) (0 : Int) (pr _ _))
      rw [if_neg (by rw [← eQ]; exact gq)]
    · refine ⟨fun _ => store 0 ?_, fun z => absurd (by decide) z⟩
      show _ = (@ite Int (Qc h b i) (Classical.propDecidable _) (0 : Int) (pr _ _))
      rw [if_pos (by rw [← eQ]; exact gq)]
  · intro ⟨r, v, g⟩ ⟨e1, e2, e3, e4⟩
    dsimp only at e1 e2 e3 e4 ⊢
    have x (c : Nat) (hc : ¬ c = 45) : g c = h c := e1 c (by simpa using hc)
    refine bX4_weigh_6_0 ⟨fun _ => bX4_weigh_89_0 ?_, fun z => by rw [x 20 (by decide), hnm] at z; omega⟩
    -- whether another surely is
    have hone : ∀ m, m < nm → v0 m = 3 → (r ≤ 1 ↔ ¬ ∃ o, o < nm ∧ ¬ o = m ∧ ¬ Qc h b o ∧ Sc h 5 b (Ncl h o (h 43 b)) n) := by
      intro m hm h3
      have ce := cnt_erase (p := fun m => v0 m = 3) hm h3
      constructor
      · rintro hr ⟨o, o1, o2, o3⟩
        have := cnt_erase (p := fun i => v0 i = 3 ∧ ¬ i = m) o1 ⟨(hv3 o).mpr o3, o2⟩
        omega
      · intro hn
        have := cnt_0 (p := fun i => v0 i = 3 ∧ ¬ i = m) (n := nm) (fun o ho z => hn ⟨o, ho, z.2, (hv3 o).mp z.1⟩)
        omega
    have done : ∀ m, m < nm → vd (Qc h b m) (Pc h 5 b (Ncl h m (h 43 b)) n) (Sc h 5 b (Ncl h m (h 43 b)) n) (∃ o, o < nm ∧ ¬ o = m ∧ ¬ Qc h b o ∧ Sc h 5 b (Ncl h o (h 43 b)) n) = if r ≤ 1 then v0 m else if 2 < v0 m then 2 else v0 m := by
      intro m hm
      have hSP : Sc h 5 b (Ncl h m (h 43 b)) n → Pc h 5 b (Ncl h m (h 43 b)) n := fun ⟨l, l1, l2⟩ => ⟨l, l1, l2.1⟩
      have h1 := hone m hm
      rw [hv3 m] at h1
      show _ = if r ≤ 1 then (@ite Int (Qc h b m) (Classical.propDecidable _) (0 : Int) (pr _ _)) else if 2 < (@ite Int (Qc h b m) (Classical.propDecidable _) (0 : Int) (pr _ _)) then 2 else (@ite Int (Qc h b m) (Classical.propDecidable _) (0 : Int) (pr _ _))
      unfold vd pr
      by_cases q1 : Qc h b m
      · simp [q1]
      · by_cases s1 : Sc h 5 b (Ncl h m (h 43 b)) n
        · have p1 := hSP s1
          have h2 := h1 ⟨q1, s1⟩
          by_cases r1 : r ≤ 1
          · have h3 := h2.mp r1
            simp only [q1, s1, p1, r1, h3, if_false, if_true, not_true, not_false_eq_true]
          · have h3 : ∃ o, o < nm ∧ ¬ o = m ∧ ¬ Qc h b o ∧ Sc h 5 b (Ncl h o (h 43 b)) n := Classical.byContradiction (fun z => r1 (h2.mpr z))
            simp only [q1, s1, p1, r1, h3, if_false, if_true, not_true]
            rfl
        · by_cases p1 : Pc h 5 b (Ncl h m (h 43 b)) n <;> simp [q1, s1, p1]
    by_cases hr1 : r ≤ 1
    · refine bX4_weigh_92_0 ⟨fun _ => bX4_weigh_141_0 (H g e1 e2 (fun m hm => ?_)), fun z => absurd hr1 z⟩
      rw [done m hm, if_pos hr1]; exact e3 m hm
    · refine upto (σ := am_V × am_H) (N := nm) (I := fun i s => Fr [45] h s.2 ∧ (∀ j, (j < b * 14 ∨ b * 14 + 14 ≤ j) → s.2 45 j = h 45 j) ∧ (∀ m, m < i → s.2 45 (b * 14 + m) = if 2 < v0 m then 2 else v0 m) ∧ (∀ m, i ≤ m → m < nm → s.2 45 (b * 14 + m) = v0 m)) (G := fun i s => tX4_weigh (h 0 0 + (0 : Nat)) L xs (am_C true L xs P (d + 3)) K 92 [(2, 44), (2, 5), (2, 20), (2, 39), (0, (b : Int)), (0, r), (0, (i : Int)), s.1] [] s.2) ?_ ?_ nm 0 (v, g) (by omega) ⟨e1, e2, fun m hm => by omega, fun m _ hm => e3 m hm⟩
      · intro i ⟨w, g2⟩ hi ⟨q1, q2, q3, q4⟩ ih
        dsimp only at q1 q2 q3 q4 ⊢
        have ei : ((b : Int) * 14 + (i : Int)).toNat = b * 14 + i := by omega
        have y20 : g2 20 = h 20 := q1 20 (by decide)
        refine bX4_weigh_92_0 ⟨fun z => absurd z hr1, fun _ => ⟨fun z => by rw [y20, hnm] at z; omega, fun _ => ⟨by omega, by omega, by omega, kJ9_min_7cf53 (d := d + 2) ?_⟩⟩⟩
        dsimp only
        rw [ei, q4 i (Nat.le_refl _) hi]
        refine ⟨by omega, by omega, ih (_, am_st g2 45 (b * 14 + i) (if 2 < v0 i then 2 else v0 i)) ⟨q1.st (by decide), fun j hj => ?_, fun m hm => ?_, fun m h1 h2 => ?_⟩⟩
        · dsimp only; rw [st_nj (by omega)]; exact q2 j hj
        · dsimp only; rw [st_ap]
          by_cases e : m = i
          · subst e; rw [if_pos rfl]
          · rw [if_neg (by omega)]; exact q3 m (by omega)
        · dsimp only; rw [st_nj (by omega)]; exact q4 m (by omega) h2
      · intro ⟨w, g2⟩ ⟨q1, q2, q3, q4⟩
        dsimp only at q1 q2 q3 q4 ⊢
        have y20 : g2 20 = h 20 := q1 20 (by decide)
        refine bX4_weigh_92_0 ⟨fun z => absurd z hr1, fun _ => ⟨fun _ => bX4_weigh_141_0 (H g2 q1 q2 (fun m hm => ?_)), fun z => by rw [y20, hnm] at z; omega⟩⟩
        rw [done m hm, if_neg hr1]; exact q3 m hm
theorem kX0_proofHolds_1 {L : Nat} {xs : Nat → Int} {P : Nat → List am_V → am_H → am_K → Prop} {d : Nat} {h : am_H} {K : am_K} {b l : Nat} {x : Int} (hb : b < 10) (hl : l < 12) (H0 : ¬ Hc h 11 b x l → K (0, 0) h) (H1 : Hc h 11 b x l → K (0, 1) h) : am_C true L xs P (d + 1) 7 [(2, 11), (0, (l : Int)), (2, 39), (0, (b : Int)), (0, x)] h K := by
  refine eX0_proofHolds_1 (bX0_proofHolds_0_1 ⟨by omega, ?_⟩)
  rw [Int.toNat_natCast]
  have no : ¬ (h 15 l = -1 ∨ (¬ x = -1 ∧ x ≤ h 15 l)) → tX0_proofHolds (h 0 0 + (0 : Nat)) L xs (am_C true L xs P d) K 27 [(2, 11), (0, (l : Int)), (2, 39), (0, (b : Int)), (0, x), (9, 0)] [] h := fun hn => bX0_proofHolds_27_1 ⟨by decide, H0 (fun z => hn z.1)⟩
  have yes : (h 15 l = -1 ∨ (¬ x = -1 ∧ x ≤ h 15 l)) → tX0_proofHolds (h 0 0 + (0 : Nat)) L xs (am_C true L xs P d) K 29 [(2, 11), (0, (l : Int)), (2, 39), (0, (b : Int)), (0, x), (9, 0)] [] h := by
    intro hy
    refine bX0_proofHolds_29_1 ?_
    refine upto (σ := Unit) (N := 4) (I := fun i _ => ∀ q, q < i → h 14 (l * 4 + q) ≤ h 42 (b * 4 + q)) (G := fun i _ => tX0_proofHolds (h 0 0 + (0 : Nat)) L xs (am_C true L xs P d) K 32 [(2, 11), (0, (l : Int)), (2, 39), (0, (b : Int)), (0, x), (0, (i : Int))] [] h) ?_ ?_ 4 0 () (by omega) (fun q hq => by omega)
    · intro i _ hi e1 ih
      have i1 : ((b : Int) * 4 + (i : Int)).toNat = b * 4 + i := by omega
      have i2 : ((l : Int) * 4 + (i : Int)).toNat = l * 4 + i := by omega
      refine bX0_proofHolds_32_1 ⟨fun z => by omega, fun _ => ⟨by omega, by omega, by omega, by omega, by omega, by omega, ?_⟩⟩
      rw [i1, i2]
      refine ⟨fun gz => bX0_proofHolds_65_1 ⟨by omega, ih () (fun q hq => ?_)⟩, fun gz => ⟨by decide, H0 (fun z => gz (z.2 i hi))⟩⟩
      by_cases e : q = i
      · subst e; exact gz
      · exact e1 q (by omega)
    · intro _ e1
      exact bX0_proofHolds_32_1 ⟨fun _ => bX0_proofHolds_71_1 ⟨by decide, H1 ⟨hy, e1⟩⟩, fun z => by omega⟩
  refine ⟨fun z => yes (Or.inl z), fun z => ⟨fun z2 => no (fun w => w.elim z (fun w => w.1 z2)), fun z2 => ⟨by omega, ⟨fun z3 => yes (Or.inr ⟨z2, z3⟩), fun z3 => no (fun w => w.elim z (fun w => z3 w.2))⟩⟩⟩⟩
theorem kX0_proven_1 {L : Nat} {xs : Nat → Int} {P : Nat → List am_V → am_H → am_K → Prop} {d : Nat} {h : am_H} {K : am_K} {b n : Nat} {x : Int} (hb : b < 10) (hn : n ≤ 12) (h5 : h 11 5 = n) (H : K (0, pr (Pc h 11 b x n) (Sc h 11 b x n)) h) : am_C true L xs P (d + 2) 6 [(2, 11), (2, 39), (0, (b : Int)), (0, x)] h K := by
  refine eX0_proven_1 (bX0_proven_0_1 ?_)
  refine upto (σ := Int) (N := n) (I := fun i r => r = pr (Pc h 11 b x i) (Sc h 11 b x i)) (G := fun i r => tX0_proven (h 0 0 + (0 : Nat)) L xs (am_C true L xs P (d + 1)) K 6 [(2, 11), (2, 39), (0, (b : Int)), (0, x), (0, r), (0, (i : Int))] [] h) ?_ ?_ n 0 1 (by omega) ?_
  · intro i r hi er ih
    have step : ∀ (r' : Int), r' = pr (Pc h 11 b x (i + 1)) (Sc h 11 b x (i + 1)) → tX0_proven (h 0 0 + (0 : Nat)) L xs (am_C true L xs P (d + 1)) K 49 [(2, 11), (2, 39), (0, (b : Int)), (0, x), (0, r'), (0, (i : Int))] [] h := fun r' hr => bX0_proven_49_1 ⟨by omega, ih r' hr⟩
    refine bX0_proven_6_1 ⟨fun z => by omega, fun _ => kX0_proofHolds_1 (d := d) hb (by omega) (fun gh => ?_) (fun gh => ?_)⟩
    · refine ⟨fun _ => step r ?_, fun z => absurd rfl z⟩
      rw [er]
      refine pr_congr ⟨fun ⟨l, l1, l2⟩ => ⟨l, by omega, l2⟩, fun ⟨l, l1, l2⟩ => ⟨l, ?_, l2⟩⟩ ⟨fun ⟨l, l1, l2⟩ => ⟨l, by omega, l2⟩, fun ⟨l, l1, l2⟩ => ⟨l, ?_, l2⟩⟩
      · have : ¬ l = i := fun e => gh (e ▸ l2)
        omega
      · have : ¬ l = i := fun e => gh (e ▸ l2.1)
        omega
    · refine ⟨fun z => absurd z (by decide), fun _ => ⟨by omega, fun hs => ?_⟩⟩
      rw [Int.toNat_natCast] at hs ⊢
      have hP : Pc h 11 b x (i + 1) := ⟨i, by omega, gh⟩
      refine ⟨fun gs => bX0_proven_43_1 (bX0_proven_44_1 (kJ9_max_7cf53 (d := d) (step _ ?_))), fun gs => bX0_proven_44_1 (kJ9_max_7cf53 (d := d) (step _ ?_))⟩
      · have hS : Sc h 11 b x (i + 1) ↔ Sc h 11 b x i := ⟨fun ⟨l, l1, l2⟩ => ⟨l, by
          have : ¬ l = i := fun e => by subst e; have : h 13 l = 1 := l2.2; omega
          omega, l2⟩, fun ⟨l, l1, l2⟩ => ⟨l, by omega, l2⟩⟩
        rw [er, pr_congr (P := Pc h 11 b x (i + 1)) (P' := True) ⟨fun _ => trivial, fun _ => hP⟩ hS]
        unfold pr
        by_cases s1 : Sc h 11 b x i <;> by_cases p1 : Pc h 11 b x i <;> simp [s1, p1]
      · have hS : Sc h 11 b x (i + 1) := ⟨i, by omega, gh, by show h 13 i = 1; omega⟩
        rw [er, pr_congr (P := Pc h 11 b x (i + 1)) (P' := True) ⟨fun _ => trivial, fun _ => hP⟩ (S' := True) ⟨fun _ => trivial, fun _ => hS⟩]
        unfold pr
        by_cases s1 : Sc h 11 b x i <;> by_cases p1 : Pc h 11 b x i <;> simp [s1, p1]
  · intro r er
    rw [← er] at H
    exact bX0_proven_6_1 ⟨fun _ => bX0_proven_55_1 H, fun z => by omega⟩
  · rw [pr_congr (P' := False) (S' := False) ⟨fun ⟨l, l1, _⟩ => by omega, fun z => z.elim⟩ ⟨fun ⟨l, l1, _⟩ => by omega, fun z => z.elim⟩]
    unfold pr; simp
/-- NEAR of a man to a body's cell -/
theorem kX4_weigh_1 {L : Nat} {xs : Nat → Int} {P : Nat → List am_V → am_H → am_K → Prop} {d : Nat} {h : am_H} {K : am_K} {b n nm : Nat} (hR : am_okR h) (hb : b < 10) (hn : n ≤ 12) (h5 : h 11 5 = n) (hnm : h 20 15 = nm) (hcb : 0 ≤ h 43 b ∧ h 43 b < 25) (H : ∀ h', Fr [45] h h' → (∀ j, (j < b * 14 ∨ b * 14 + 14 ≤ j) → h' 45 j = h 45 j) → (∀ m, m < nm → h' 45 (b * 14 + m) = vd (Qc h b m) (Pc h 11 b (Ncl h m (h 43 b)) n) (Sc h 11 b (Ncl h m (h 43 b)) n) (∃ o, o < nm ∧ ¬ o = m ∧ ¬ Qc h b o ∧ Sc h 11 b (Ncl h o (h 43 b)) n)) → K (9, 0) h') : am_C true L xs P (d + 4) 41 [(2, 44), (2, 11), (2, 20), (2, 39), (0, (b : Int))] h K := by
  have hm14 := hR.2.1
  refine eX4_weigh_1 (bX4_weigh_0_1 ?_)
  -- the verdict alone
  let v0 : Nat → Int := fun m => @ite Int (Qc h b m) (Classical.propDecidable _) (0 : Int) (pr (Pc h 11 b (Ncl h m (h 43 b)) n) (Sc h 11 b (Ncl h m (h 43 b)) n))
  have hv3 : ∀ m, v0 m = 3 ↔ (¬ Qc h b m ∧ Sc h 11 b (Ncl h m (h 43 b)) n) := by
    intro m
    show (@ite Int (Qc h b m) (Classical.propDecidable _) (0 : Int) (pr _ _)) = 3 ↔ _
    unfold pr
    by_cases q1 : Qc h b m <;> by_cases s1 : Sc h 11 b (Ncl h m (h 43 b)) n <;> by_cases p1 : Pc h 11 b (Ncl h m (h 43 b)) n <;> simp [q1, s1, p1]
  refine upto (σ := Int × am_V × am_H) (N := nm) (I := fun i s => Fr [45] h s.2.2 ∧ (∀ j, (j < b * 14 ∨ b * 14 + 14 ≤ j) → s.2.2 45 j = h 45 j) ∧ (∀ m, m < i → s.2.2 45 (b * 14 + m) = v0 m) ∧ s.1 = cnt (fun m => v0 m = 3) i) (G := fun i s => tX4_weigh (h 0 0 + (0 : Nat)) L xs (am_C true L xs P (d + 3)) K 6 [(2, 44), (2, 11), (2, 20), (2, 39), (0, (b : Int)), (0, s.1), (0, (i : Int)), s.2.1] [] s.2.2) ?_ ?_ nm 0 (0, (9, 0), h) (by omega) ⟨Fr.rf, fun _ _ => rfl, fun m hm => by omega, rfl⟩
  · intro i ⟨r, v, g⟩ hi ⟨e1, e2, e3, e4⟩ ih
    dsimp only at e1 e2 e3 e4 ⊢
    have x (c : Nat) (hc : ¬ c = 45) : g c = h c := e1 c (by simpa using hc)
    have cb := cnt_bnd (fun m => v0 m = 3) i
    have eQ : Qc g b i ↔ Qc h b i := by unfold Qc; rw [x 41 (by decide), x 32 (by decide)]
    have store : ∀ w : Int, w = v0 i → tX4_weigh (h 0 0 + (0 : Nat)) L xs (am_C true L xs P (d + 3)) K 52 [(2, 44), (2, 11), (2, 20), (2, 39), (0, (b : Int)), (0, r), (0, (i : Int)), (0, w)] [] g := by
      intro w hw
      have ei : ((b : Int) * 14 + (i : Int)).toNat = b * 14 + i := by omega
      have fin : ∀ r' : Int, r' = cnt (fun m => v0 m = 3) (i + 1) → tX4_weigh (h 0 0 + (0 : Nat)) L xs (am_C true L xs P (d + 3)) K 6 [(2, 44), (2, 11), (2, 20), (2, 39), (0, (b : Int)), (0, r'), (0, ((i + 1 : Nat) : Int)), (0, w)] [] (am_st g 45 (b * 14 + i) w) := by
        intro r' hr'
        refine ih (r', (0, w), am_st g 45 (b * 14 + i) w) ⟨e1.st (by decide), fun j hj => ?_, fun m hm => ?_, hr'⟩
        · dsimp only; rw [st_nj (by omega)]; exact e2 j hj
        · dsimp only; rw [st_ap]
          by_cases e : m = i
          · subst e; rw [if_pos rfl]; exact hw
          · rw [if_neg (by omega)]; exact e3 m (by omega)
      refine bX4_weigh_52_1 ⟨by omega, by omega, by omega, ?_⟩
      rw [ei]
      refine ⟨fun gz => bX4_weigh_79_1 (bX4_weigh_80_1 ⟨by omega, by omega, fin _ ?_⟩), fun gz => bX4_weigh_80_1 ⟨by omega, by omega, fin _ ?_⟩⟩
      · rw [cnt_neg (p := fun m => v0 m = 3) (fun z => gz (by rw [hw]; exact z)), e4]; omega
      · rw [cnt_pos (p := fun m => v0 m = 3) (by rw [← hw]; exact Classical.not_not.mp gz), e4]; omega
    refine bX4_weigh_6_1 ⟨fun z => by rw [x 20 (by decide), hnm] at z; omega, fun _ => kX2_quarrels (d := d + 1) hb (by omega) (fun gq => ?_) (fun gq => ?_)⟩
    · refine ⟨fun z => absurd rfl z, fun _ => ⟨by omega, ?_⟩⟩
      rw [Int.toNat_natCast, x 43 (by decide)]
      have hR' : am_okR g := by unfold am_okR; rw [x 20 (by decide), x 21 (by decide), x 22 (by decide), x 24 (by decide)]; exact hR
      refine kX6_nearest (d := d) hR' (by omega) hcb ?_
      have eN : am_nr g (i : Int) (h 43 b) (Int.toNat (g 20 14)) 0 (-1) = Ncl h i (h 43 b) := by
        unfold Ncl; rw [x 20 (by decide)]; exact am_nr_congr (x 23 (by decide)) (x 24 (by decide)) (x 25 (by decide)) (x 26 (by decide)) (x 27 (by decide)) (x 29 (by decide)) (x 21 (by decide)) (x 22 (by decide)) _ _ _
      dsimp only
      rw [eN]
      refine kX0_proven_1 (d := d + 1) hb hn (by rw [x 11 (by decide)]; exact h5) ?_
      dsimp only
      refine store _ ?_
      have e5 : Pc g 11 b (Ncl h i (h 43 b)) n = Pc h 11 b (Ncl h i (h 43 b)) n := by unfold Pc Hc; rw [x 42 (by decide), x (14) (by decide), x (15) (by decide)]
      have e6 : Sc g 11 b (Ncl h i (h 43 b)) n = Sc h 11 b (Ncl h i (h 43 b)) n := by unfold Sc Hc; rw [x 42 (by decide), x (13) (by decide), x (14) (by decide), x (15) (by decide)]
      rw [e5, e6]
      show _ = (@ite Int (Qc h b i) (Classical.propDecidable _) (0 : Int) (pr _ _))
      rw [if_neg (by rw [← eQ]; exact gq)]
    · refine ⟨fun _ => store 0 ?_, fun z => absurd (by decide) z⟩
      show _ = (@ite Int (Qc h b i) (Classical.propDecidable _) (0 : Int) (pr _ _))
      rw [if_pos (by rw [← eQ]; exact gq)]
  · intro ⟨r, v, g⟩ ⟨e1, e2, e3, e4⟩
    dsimp only at e1 e2 e3 e4 ⊢
    have x (c : Nat) (hc : ¬ c = 45) : g c = h c := e1 c (by simpa using hc)
    refine bX4_weigh_6_1 ⟨fun _ => bX4_weigh_89_1 ?_, fun z => by rw [x 20 (by decide), hnm] at z; omega⟩
    -- whether another surely is
    have hone : ∀ m, m < nm → v0 m = 3 → (r ≤ 1 ↔ ¬ ∃ o, o < nm ∧ ¬ o = m ∧ ¬ Qc h b o ∧ Sc h 11 b (Ncl h o (h 43 b)) n) := by
      intro m hm h3
      have ce := cnt_erase (p := fun m => v0 m = 3) hm h3
      constructor
      · rintro hr ⟨o, o1, o2, o3⟩
        have := cnt_erase (p := fun i => v0 i = 3 ∧ ¬ i = m) o1 ⟨(hv3 o).mpr o3, o2⟩
        omega
      · intro hn
        have := cnt_0 (p := fun i => v0 i = 3 ∧ ¬ i = m) (n := nm) (fun o ho z => hn ⟨o, ho, z.2, (hv3 o).mp z.1⟩)
        omega
    have done : ∀ m, m < nm → vd (Qc h b m) (Pc h 11 b (Ncl h m (h 43 b)) n) (Sc h 11 b (Ncl h m (h 43 b)) n) (∃ o, o < nm ∧ ¬ o = m ∧ ¬ Qc h b o ∧ Sc h 11 b (Ncl h o (h 43 b)) n) = if r ≤ 1 then v0 m else if 2 < v0 m then 2 else v0 m := by
      intro m hm
      have hSP : Sc h 11 b (Ncl h m (h 43 b)) n → Pc h 11 b (Ncl h m (h 43 b)) n := fun ⟨l, l1, l2⟩ => ⟨l, l1, l2.1⟩
      have h1 := hone m hm
      rw [hv3 m] at h1
      show _ = if r ≤ 1 then (@ite Int (Qc h b m) (Classical.propDecidable _) (0 : Int) (pr _ _)) else if 2 < (@ite Int (Qc h b m) (Classical.propDecidable _) (0 : Int) (pr _ _)) then 2 else (@ite Int (Qc h b m) (Classical.propDecidable _) (0 : Int) (pr _ _))
      unfold vd pr
      by_cases q1 : Qc h b m
      · simp [q1]
      · by_cases s1 : Sc h 11 b (Ncl h m (h 43 b)) n
        · have p1 := hSP s1
          have h2 := h1 ⟨q1, s1⟩
          by_cases r1 : r ≤ 1
          · have h3 := h2.mp r1
            simp only [q1, s1, p1, r1, h3, if_false, if_true, not_true, not_false_eq_true]
          · have h3 : ∃ o, o < nm ∧ ¬ o = m ∧ ¬ Qc h b o ∧ Sc h 11 b (Ncl h o (h 43 b)) n := Classical.byContradiction (fun z => r1 (h2.mpr z))
            simp only [q1, s1, p1, r1, h3, if_false, if_true, not_true]
            rfl
        · by_cases p1 : Pc h 11 b (Ncl h m (h 43 b)) n <;> simp [q1, s1, p1]
    by_cases hr1 : r ≤ 1
    · refine bX4_weigh_92_1 ⟨fun _ => bX4_weigh_141_1 (H g e1 e2 (fun m hm => ?_)), fun z => absurd hr1 z⟩
      rw [done m hm, if_pos hr1]; exact e3 m hm
    · refine upto (σ := am_V × am_H) (N := nm) (I := fun i s => Fr [45] h s.2 ∧ (∀ j, (j < b * 14 ∨ b * 14 + 14 ≤ j) → s.2 45 j = h 45 j) ∧ (∀ m, m < i → s.2 45 (b * 14 + m) = if 2 < v0 m then 2 else v0 m) ∧ (∀ m, i ≤ m → m < nm → s.2 45 (b * 14 + m) = v0 m)) (G := fun i s => tX4_weigh (h 0 0 + (0 : Nat)) L xs (am_C true L xs P (d + 3)) K 92 [(2, 44), (2, 11), (2, 20), (2, 39), (0, (b : Int)), (0, r), (0, (i : Int)), s.1] [] s.2) ?_ ?_ nm 0 (v, g) (by omega) ⟨e1, e2, fun m hm => by omega, fun m _ hm => e3 m hm⟩
      · intro i ⟨w, g2⟩ hi ⟨q1, q2, q3, q4⟩ ih
        dsimp only at q1 q2 q3 q4 ⊢
        have ei : ((b : Int) * 14 + (i : Int)).toNat = b * 14 + i := by omega
        have y20 : g2 20 = h 20 := q1 20 (by decide)
        refine bX4_weigh_92_1 ⟨fun z => absurd z hr1, fun _ => ⟨fun z => by rw [y20, hnm] at z; omega, fun _ => ⟨by omega, by omega, by omega, kJ9_min_7cf53 (d := d + 2) ?_⟩⟩⟩
        dsimp only
        rw [ei, q4 i (Nat.le_refl _) hi]
        refine ⟨by omega, by omega, ih (_, am_st g2 45 (b * 14 + i) (if 2 < v0 i then 2 else v0 i)) ⟨q1.st (by decide), fun j hj => ?_, fun m hm => ?_, fun m h1 h2 => ?_⟩⟩
        · dsimp only; rw [st_nj (by omega)]; exact q2 j hj
        · dsimp only; rw [st_ap]
          by_cases e : m = i
          · subst e; rw [if_pos rfl]
          · rw [if_neg (by omega)]; exact q3 m (by omega)
        · dsimp only; rw [st_nj (by omega)]; exact q4 m (by omega) h2
      · intro ⟨w, g2⟩ ⟨q1, q2, q3, q4⟩
        dsimp only at q1 q2 q3 q4 ⊢
        have y20 : g2 20 = h 20 := q1 20 (by decide)
        refine bX4_weigh_92_1 ⟨fun z => absurd z hr1, fun _ => ⟨fun _ => bX4_weigh_141_1 (H g2 q1 q2 (fun m hm => ?_)), fun z => by rw [y20, hnm] at z; omega⟩⟩
        rw [done m hm, if_neg hr1]; exact q3 m hm
