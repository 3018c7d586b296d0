/-! pair6: count, weeks -/
theorem FC_congr3 {g h : am_H} {c np nm b m : Nat} (hc : c = 5 ∨ c = 11) (x : ∀ i, 2 ≤ i → i < 44 → ¬ i = 33 → g i = h i) : FC g c np nm b m = FC h c np nm b m := by
  have eN : ∀ o, Ncl g o (g 43 b) = Ncl h o (h 43 b) := by
    intro o
    unfold Ncl
    rw [x 43 (by omega) (by omega) (by omega), x 20 (by omega) (by omega) (by omega)]
    exact am_nr_congr (x 23 (by omega) (by omega) (by omega)) (x 24 (by omega) (by omega) (by omega)) (x 25 (by omega) (by omega) (by omega)) (x 26 (by omega) (by omega) (by omega)) (x 27 (by omega) (by omega) (by omega)) (x 29 (by omega) (by omega) (by omega)) (x 21 (by omega) (by omega) (by omega)) (x 22 (by omega) (by omega) (by omega)) _ _ _
  have eQ : ∀ o, Qc g b o = Qc h b o := by intro o; unfold Qc; rw [x 41 (by omega) (by omega) (by omega), x 32 (by omega) (by omega) (by omega)]
  have eP : ∀ y, Pc g c b y np = Pc h c b y np := by intro y; unfold Pc Hc; rw [x 42 (by omega) (by omega) (by omega), x (c + 3) (by omega) (by omega) (by omega), x (c + 4) (by omega) (by omega) (by omega)]
  have eS : ∀ y, Sc g c b y np = Sc h c b y np := by intro y; unfold Sc Hc; rw [x 42 (by omega) (by omega) (by omega), x (c + 2) (by omega) (by omega) (by omega), x (c + 3) (by omega) (by omega) (by omega), x (c + 4) (by omega) (by omega) (by omega)]
  unfold FC
  simp only [eN, eQ, eP, eS]
theorem NG.fr3 {n c np nm : Nat} {g g' : am_H} (hc : c = 5 ∨ c = 11) (l : NG n c np nm g) (x : ∀ i, 2 ≤ i → i < 52 → ¬ i = 33 → g' i = g i) : NG n c np nm g' := by
  obtain ⟨a, b, s⟩ := l
  refine ⟨a.congr (fun i h1 h2 => x i (by omega) (by omega) (by omega)), ?_, s.congr (x 44 (by omega) (by omega) (by omega)) (x 46 (by omega) (by omega) (by omega)) (x 47 (by omega) (by omega) (by omega)) (x 48 (by omega) (by omega) (by omega)) (x 49 (by omega) (by omega) (by omega)) (x 50 (by omega) (by omega) (by omega)) (x 51 (by omega) (by omega) (by omega))⟩
  have e1 : ∀ b m, FC g' c np nm b m = FC g c np nm b m := fun b m => FC_congr3 hc (fun i h0 h1 h2 => x i h0 (by omega) h2)
  rw [Ey_congr (x 46 (by omega) (by omega) (by omega)), x 39 (by omega) (by omega) (by omega)]
  simp only [e1]
  exact b
section
variable {L : Nat} {xs : Nat → Int} {P : Nat → List am_V → am_H → am_K → Prop} {d : Nat} {h : am_H} {Q : am_V → am_V → am_H → Prop} {K : am_K}
def cntC (h : am_H) (c : Nat) (x : Int) : Int := if x = 0 then h 20 15 else if x = 1 then h 20 14 else if x = 2 then h 34 5 else if x = 3 then h 34 4 else if x = 4 then h 55 3 else if x = 5 then h 1 9 else if x = 6 then h c 5 else if x = 7 then h (c + 1) 0 else if x = 8 then h (c + 1) 1 else if x = 9 then h (c + 1) 2 else if x = 10 then h (c + 1) 3 else -1
def cntM (h : am_H) (x : Int) : Int := if x = 0 then h 59 9 else if x = 1 then h 59 7 else if x = 2 then h 59 12 else if x = 3 then h 59 11 else if x = 4 then h 59 19 else if x = 5 then h 59 5 else if x = 6 then h 59 31 else if x = 7 then h 73 0 else if x = 8 then h 73 1 else if x = 9 then h 73 2 else if x = 10 then h 73 3 else -1
theorem kX11_count {c : Nat} {x : Int} (hc : c = 5 ∨ c = 11) (h41 : h 4 1 = c) (H : K (0, cntC h c x) h) : am_C true L xs P (d + 1) 131 [(2, 1), (0, x)] h K := by
  refine eX11_count (bX11_count_0 ⟨fun z => ?_, fun z => ?_, fun z => ?_, fun z => ?_, fun z => ?_, fun z => ?_, fun z => ?_, fun z => ?_, fun z => ?_, fun z => ?_, fun z => ?_, fun z => ?_, trivial⟩)
  · refine bX11_count_168 ?_
    have : cntC h c x = -1 := by
      unfold cntC
      iterate 11 rw [if_neg (by omega)]
    rw [this] at H; exact H
  · subst z; exact bX11_count_60 H
  · have z : x = 1 := z
    subst z; exact bX11_count_68 H
  · have z : x = 2 := z
    subst z; exact bX11_count_76 H
  · have z : x = 3 := z
    subst z; exact bX11_count_84 H
  · have z : x = 4 := z
    subst z; exact bX11_count_92 H
  · have z : x = 5 := z
    subst z; exact bX11_count_100 H
  · have z : x = 6 := z
    subst z
    refine bX11_count_105 ?_
    rw [h41]
    rcases hc with e | e <;> subst e
    · exact bX11_count_112_0 H
    · exact bX11_count_112_1 H
  · have z : x = 7 := z
    subst z
    refine bX11_count_116 ?_
    rw [h41]
    rcases hc with e | e <;> subst e
    · exact bX11_count_123_0 ⟨by decide, H⟩
    · exact bX11_count_123_1 ⟨by decide, H⟩
  · have z : x = 8 := z
    subst z
    refine bX11_count_129 ?_
    rw [h41]
    rcases hc with e | e <;> subst e
    · exact bX11_count_136_0 ⟨by decide, H⟩
    · exact bX11_count_136_1 ⟨by decide, H⟩
  · have z : x = 9 := z
    subst z
    refine bX11_count_142 ?_
    rw [h41]
    rcases hc with e | e <;> subst e
    · exact bX11_count_149_0 ⟨by decide, H⟩
    · exact bX11_count_149_1 ⟨by decide, H⟩
  · have z : x = 10 := z
    subst z
    refine bX11_count_155 ?_
    rw [h41]
    rcases hc with e | e <;> subst e
    · exact bX11_count_162_0 ⟨by decide, H⟩
    · exact bX11_count_162_1 ⟨by decide, H⟩
theorem kX12_count {x : Int} (H : K (0, cntM h x) (am_t0 h)) : am_C true L xs P (d + 1) 218 [(2, 59), (0, x)] h K := by
  refine eX12_count (bX12_count_0 ⟨fun z => ?_, fun z => ?_, fun z => ?_, fun z => ?_, fun z => ?_, fun z => ?_, fun z => ?_, fun z => ?_, fun z => ?_, fun z => ?_, fun z => ?_, fun z => ?_, trivial⟩)
  · refine bX12_count_109 ?_
    have : cntM h x = -1 := by
      unfold cntM
      iterate 11 rw [if_neg (by omega)]
    rw [this] at H; exact H
  · subst z; exact bX12_count_64 H
  · have z : x = 1 := z
    subst z; exact bX12_count_69 H
  · have z : x = 2 := z
    subst z; exact bX12_count_74 H
  · have z : x = 3 := z
    subst z; exact bX12_count_79 H
  · have z : x = 4 := z
    subst z; exact bX12_count_84 H
  · have z : x = 5 := z
    subst z; exact bX12_count_89 H
  · have z : x = 6 := z
    subst z; exact bX12_count_94 H
  · have z : x = 7 := z
    subst z; exact bX12_count_99 ⟨by decide, by decide, H⟩
  · have z : x = 8 := z
    subst z; exact bX12_count_99 ⟨by decide, by decide, H⟩
  · have z : x = 9 := z
    subst z; exact bX12_count_99 ⟨by decide, by decide, H⟩
  · have z : x = 10 := z
    subst z; exact bX12_count_99 ⟨by decide, by decide, H⟩
theorem pr_count {x : Int} (I : Inv h) (H : ∀ v g, Inv g → g 0 = h 0 → Q (0, v) (0, v) g) : am_C true L xs P (d + 24) 131 [(2, 1), (0, x)] h (fun r1 h1 => am_C true L xs P (d + 24) 218 [(2, 59), (0, x)] h1 (fun r2 h2 => Q r1 r2 h2)) := by
  obtain ⟨N, nb, a⟩ := I.n
  obtain ⟨nm, r⟩ := I.r
  obtain ⟨c, np, nq, p, s⟩ := I.p
  refine kX11_count (d := d + 23) p.hc p.h41 (kX12_count (d := d + 23) ?_)
  have : cntC h c x = cntM h x := by
    unfold cntC cntM
    rw [r.m1, r.m2, r.st, a.b1, a.b2, a.s1, a.s2, I.y.n, I.w.wk, p.p1, p.p2, s.se 0 (by decide), s.se 1 (by decide), s.se 2 (by decide), s.se 3 (by decide)]
  rw [this]
  exact H _ _ (I.xs MS.t0.xs) (XS.h0 MS.t0.xs)
theorem kX11_recut {c : Nat} {a b R : Int} (hc : c = 5 ∨ c = 11) (h41 : h 4 1 = c) (hR : h (c + 1) 3 = R) (R1 : 1 ≤ R) (ha : 0 ≤ a) (hb : 0 ≤ b) (H0 : b / R ≤ a / R → K (0, 0) h) (H1 : ¬ b / R ≤ a / R → K (0, 1) h) : am_C true L xs P (d + 1) 142 [(2, 1), (0, a), (0, b)] h K := by
  refine eX11_recutFallsBetween (bX11_recutFallsBetween_0 ?_)
  rw [h41]
  rcases hc with e | e <;> subst e
  · have hR : h 6 3 = R := hR
    refine bX11_recutFallsBetween_7_0 ⟨by decide, ?_⟩
    show (h 6 3 ≤ 0 → _) ∧ (¬ h 6 3 ≤ 0 → _ ∧ _ ∧ ((b / h 6 3 ≤ a / h 6 3) → _) ∧ (¬ (b / h 6 3 ≤ a / h 6 3) → _))
    rw [hR]
    refine ⟨fun z => by omega, fun _ => ⟨⟨hb, ?_⟩, ⟨ha, ?_⟩, fun z => bX11_recutFallsBetween_30 (bX11_recutFallsBetween_31 ⟨by decide, H0 z⟩), fun z => bX11_recutFallsBetween_31 ⟨by decide, H1 z⟩⟩⟩
    · show 0 < h 6 3; omega
    · show 0 < h 6 3; omega
  · have hR : h 12 3 = R := hR
    refine bX11_recutFallsBetween_7_1 ⟨by decide, ?_⟩
    show (h 12 3 ≤ 0 → _) ∧ (¬ h 12 3 ≤ 0 → _ ∧ _ ∧ ((b / h 12 3 ≤ a / h 12 3) → _) ∧ (¬ (b / h 12 3 ≤ a / h 12 3) → _))
    rw [hR]
    refine ⟨fun z => by omega, fun _ => ⟨⟨hb, ?_⟩, ⟨ha, ?_⟩, fun z => bX11_recutFallsBetween_30 (bX11_recutFallsBetween_31 ⟨by decide, H0 z⟩), fun z => bX11_recutFallsBetween_31 ⟨by decide, H1 z⟩⟩⟩
    · show 0 < h 12 3; omega
    · show 0 < h 12 3; omega
end
