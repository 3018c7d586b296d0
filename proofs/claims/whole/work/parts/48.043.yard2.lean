/-! yard2: the plans of class and model -/
section
variable {L : Nat} {xs : Nat → Int} {P : Nat → List am_V → am_H → am_K → Prop} {d : Nat} {h : am_H} {K : am_K} {Q : am_V → am_V → am_H → Prop}
def yC (h : am_H) : Yd := ⟨h 56, h 57, h 55 4, (h 55 3).toNat⟩
def yM (h : am_H) : Yd := ⟨h 69, h 70, h 59 22, (h 59 19).toNat⟩
theorem yC_ok (hY : am_okY h) : (yC h).ok := ⟨by show (h 55 3).toNat ≤ 8; have := hY.1; omega, hY.2.1, hY.2.2.1, hY.2.2.2.1, fun j hj => hY.2.2.2.2 j (by have : j < (h 55 3).toNat := hj; omega)⟩
theorem yM_ok (hY : am_okZ h) : (yM h).ok := ⟨by show (h 59 19).toNat ≤ 8; have := hY.1; omega, hY.2.1, hY.2.2.1, hY.2.2.2.1, fun j hj => hY.2.2.2.2 j (by have : j < (h 59 19).toNat := hj; omega)⟩
theorem p8 {F : Nat} (hF : F ≤ 8) : 1 ≤ 2 ^ F ∧ 2 ^ F ≤ 256 := ⟨Nat.two_pow_pos _, Nat.pow_le_pow_right (by decide) hF⟩
theorem kX10_sumFrom {S f : Nat} (hY : am_okY h) (hf : f < (yC h).F) (hS : S < 2 ^ (yC h).F) (hb : ¬ S.testBit f = true) (hr : 0 ≤ h 58 (S + 2 ^ f) ∧ h 58 (S + 2 ^ f) ≤ 1000000) (H : K (0, (yC h).vl (h 58) S f) h) : am_C true L xs P (d + 3) 96 [(2, 55), (0, (S : Int)), (0, ST (h 56) (yC h).F S), (0, (f : Int))] h K := by
  have o := yC_ok hY
  have F8 := o.F8
  have sb := ST_bnd (S := S) F8 o.g8
  have oa := or_add hS hf (by omega) hb
  have vb := (yC h).see_bnd o (S := S) hf
  have h256 := (p8 F8).2
  have fF : (f : Int) < h 55 3 := by have : f < (h 55 3).toNat := hf; omega
  have g1 : 1 ≤ h 56 f := hY.2.2.2.2 f fF
  refine eX10_sumFrom (bX10_sumFrom_0 (kX10_seeing (d := d) hY (by omega) (by rw [Int.toNat_natCast]; exact g1) ⟨sb.1, by have := sb.2; show ST (h 56) (yC h).F S ≤ 10000; have e : (yC h).g = h 56 := rfl; rw [e] at this; omega⟩ ?_))
  rw [Int.toNat_natCast, oa.1, Int.toNat_natCast]
  have ev : y_sees (h 57) (f : Int) ((ST (h 56) (yC h).F S + h 56 f - 1) / h 55 4) = (yC h).see S f := rfl
  rw [ev]
  have lt : ((S + 2 ^ f : Nat) : Int) < 256 := by have := oa.2; omega
  have nn : (0 : Int) ≤ ((S + 2 ^ f : Nat) : Int) := Int.natCast_nonneg _
  dsimp only
  exact ⟨⟨by omega, by omega, by omega, inI_p2 (by omega)⟩, ⟨nn, lt⟩, ⟨by omega, by omega⟩, H⟩
theorem kX10_bestSum (hY : am_okY h) (H : ∀ h', Fr [58] h h' → (yC h).tab (h' 58) → K (0, h' 58 0) h') : am_C true L xs P (d + 4) 95 [(2, 55)] h K := by
  have o := yC_ok hY
  have F8 := o.F8
  have h256 := p8 F8
  have eF : h 55 3 = (((yC h).F : Nat) : Int) := by show h 55 3 = (((h 55 3).toNat : Nat) : Int); have := hY.1; omega
  have pe : (1 : Int) * 2 ^ (yC h).F = ((2 ^ (yC h).F : Nat) : Int) := by simp
  refine eX10_bestSum (bX10_bestSum_0 ?_)
  rw [eF, Int.toNat_natCast, pe]
  generalize hN : 2 ^ (yC h).F = N at *
  rw [show Int.toNat ((N : Int) - 1) = N - 1 by omega]
  refine ⟨⟨by omega, by omega, by omega, ⟨by omega, by omega⟩⟩, ⟨by omega, by omega⟩, ⟨by omega, by omega⟩, ⟨by omega, by omega⟩, ?_⟩
  have ey : ∀ g : am_H, Fr [58] h g → yC g = yC h := fun g f => by unfold yC; rw [f 55 (by decide), f 56 (by decide), f 57 (by decide)]
  have oy : ∀ g : am_H, Fr [58] h g → am_okY g := fun g f => by unfold am_okY; rw [f 55 (by decide), f 56 (by decide), f 57 (by decide)]; exact hY
  have key := dnto (σ := am_V × am_V × am_H) (I := fun i s => i < N ∧ Fr [58] h s.2.2 ∧ ∀ S, i ≤ S → S < N → (yC h).row (s.2.2 58) S) (G := fun i s => tX10_bestSum (h 0 0 + (0 : Nat)) L xs (am_C true L xs P (d + 3)) K 20 [(2, 55), (0, (N : Int) - 1), (0, (i : Int) - 1), s.1, s.2.1] [] s.2.2) ?_ ?_ (N - 1) ((9, 0), (9, 0), am_st h 58 (N - 1) 0) ?_
  · rw [show ((N - 1 : Nat) : Int) - 1 = (N : Int) - 1 - 1 by omega] at key
    exact key
  · intro S ⟨v3, v4, g⟩ ⟨q0, q1, q2⟩ ih
    dsimp only at q1 q2 ⊢
    rw [show ((S + 1 : Nat) : Int) - 1 = (S : Int) by omega]
    refine bX10_bestSum_20 ⟨fun z => by omega, fun _ => kX10_stonesOf (d := d + 1) (oy g q1) ?_⟩
    have est : y_st (g 56) (S : Int) (Int.toNat (g 55 3)) 0 0 = ST (h 56) (yC h).F S := by
      rw [q1 56 (by decide), q1 55 (by decide)]; rfl
    rw [est, Int.toNat_natCast]
    dsimp only
    refine ⟨⟨by omega, by omega⟩, ?_⟩
    have above : ∀ T, S < T → T < N → (yC h).row (g 58) T := fun T h1 h2 => q2 T (by omega) h2
    have aboveF : ∀ T, S < T → T < 2 ^ (yC h).F → (yC h).row (g 58) T := fun T h1 h2 => above T h1 (hN ▸ h2)
    have hSF : S < 2 ^ (yC h).F := by rw [hN]; omega
    refine upto (σ := am_H) (N := (yC h).F) (I := fun f g' => Fr [58] g g' ∧ (∀ T, ¬ T = S → g' 58 T = g 58 T) ∧ g' 58 S = (yC h).mx (g 58) S f) (G := fun f g' => tX10_bestSum (h 0 0 + (0 : Nat)) L xs (am_C true L xs P (d + 3)) K 40 [(2, 55), (0, (N : Int) - 1), (0, (S : Int)), (0, ST (h 56) (yC h).F S), (0, (f : Int))] [] g') ?_ ?_ (yC h).F 0 (am_st g 58 S 0) (by omega) ⟨Fr.rf.st (by decide), fun T hT => st_nj hT, st_at⟩
    · intro f g' hf ⟨r1, r2, r3⟩ ihf
      have f1 := q1.tr r1
      have g55 : g' 55 = h 55 := f1 55 (by decide)
      refine bX10_bestSum_40 ⟨fun z => by rw [g55, eF] at z; omega, fun _ => kBit (d := d + 2) (by omega) (fun gb => ?_) (fun gb => ?_)⟩
      · rw [bt_nat (by omega)] at gb
        have nb : ¬ S.testBit f = true := by rw [gb]; decide
        have lt := add_lt F8 hf hSF nb
        have p2 := Nat.two_pow_pos f
        have rr := aboveF (S + 2 ^ f) (by omega) lt
        have e2 : g' 58 (S + 2 ^ f) = g 58 (S + 2 ^ f) := r2 _ (by omega)
        have bnd := (yC h).vl_bnd o hf hSF nb aboveF
        have vE : (yC g').vl (g' 58) S f = (yC h).vl (g 58) S f := by
          rw [ey g' f1]; unfold Yd.vl; rw [e2]
        have rb := rr.2
        rw [Int.natCast_add] at rb
        have n0 : (0 : Int) ≤ ((2 ^ f : Nat) : Int) := Int.natCast_nonneg _
        rw [hN] at rb bnd
        refine ⟨fun z => absurd rfl z, fun _ => ⟨⟨by omega, by omega⟩, ?_⟩⟩
        have lem : am_C true L xs P (d + 3) 96 [(2, 55), (0, (S : Int)), (0, ST (g' 56) (yC g').F S), (0, (f : Int))] g' (fun r2 h2 => am_C true L xs P (d + 3) 221 [(0, g' 58 (Int.toNat (S : Int))), (0, r2.2)] h2 (fun r3 h3 => (0 ≤ (S : Int) ∧ (S : Int) < 256) ∧ tX10_bestSum (h 0 0 + (0 : Nat)) L xs (am_C true L xs P (d + 3)) K 81 [(2, 55), (0, (N : Int) - 1), (0, (S : Int)), (0, ST (h 56) (yC h).F S), (0, (f : Int))] [] (am_st h3 58 (Int.toNat (S : Int)) r3.2))) := by
          refine kX10_sumFrom (d := d) (oy g' f1) (by rw [ey g' f1]; exact hf) (by rw [ey g' f1]; exact hSF) nb (by rw [e2]; omega) (kJ9_max_7cf53 (d := d + 2) ?_)
          dsimp only
          rw [vE, Int.toNat_natCast, r3]
          refine ⟨⟨by omega, by omega⟩, bX10_bestSum_81 ⟨by omega, ihf _ ⟨r1.st (by decide), fun T hT => by rw [st_nj hT]; exact r2 T hT, ?_⟩⟩⟩
          rw [st_at]
          simp only [Yd.mx]
          rw [if_neg nb]
        rw [ey g' f1, f1 56 (by decide)] at lem
        exact lem
      · rw [bt_nat (by omega)] at gb
        refine ⟨fun _ => bX10_bestSum_81 ⟨by omega, ihf g' ⟨r1, r2, ?_⟩⟩, fun z => absurd (by decide) z⟩
        simp only [Yd.mx]
        rw [if_pos gb]; exact r3
    · intro g' ⟨r1, r2, r3⟩
      have f1 := q1.tr r1
      refine bX10_bestSum_40 ⟨fun _ => bX10_bestSum_87 ⟨by omega, ?_⟩, fun z => by rw [f1 55 (by decide), eF] at z; omega⟩
      rw [show (S : Int) + (-1) = (S : Int) - 1 by omega]
      have mb := (yC h).mx_bnd o hSF aboveF (yC h).F (Nat.le_refl _)
      refine ih (_, _, g') ⟨by omega, f1, fun T h1 h2 => ?_⟩
      by_cases e : T = S
      · rw [e]
        have ec : (yC h).mx (g' 58) S (yC h).F = (yC h).mx (g 58) S (yC h).F := (yC h).mx_congr o hSF (fun T a1 a2 => r2 T (by omega)) _ (Nat.le_refl _)
        refine ⟨by dsimp only; rw [ec]; exact r3, ?_⟩
        dsimp only
        rw [r3]; exact mb
      · exact (yC h).row_congr o (by rw [hN]; exact h2) (fun T' a1 a2 => r2 T' (by omega)) (above T (by omega) h2)
  · intro ⟨v3, v4, g⟩ ⟨q0, q1, q2⟩
    dsimp only at q1 q2 ⊢
    refine bX10_bestSum_20 ⟨fun _ => bX10_bestSum_93 ⟨by decide, H g q1 (fun S hS => q2 S (by omega) (hN ▸ hS))⟩, fun z => by omega⟩
  · dsimp only
    refine ⟨by omega, Fr.rf.st (by decide), fun S h1 h2 => ?_⟩
    have eS : S = N - 1 := by omega
    subst eS
    have fb : ∀ f, f < (yC h).F → (N - 1).testBit f = true := by
      intro f hf
      rw [← hN, Nat.testBit_two_pow_sub_one]
      simpa using hf
    have m0 : ∀ b : Nat → Int, ∀ i, i ≤ (yC h).F → (yC h).mx b (N - 1) i = 0 := by
      intro b i
      induction i with
      | zero => intro _; rfl
      | succ i ih => intro hi; simp only [Yd.mx]; rw [if_pos (fb i (by omega))]; exact ih (by omega)
    refine ⟨by rw [st_at, m0 _ _ (Nat.le_refl _)], by rw [st_at]; decide, ?_⟩
    rw [st_at, hN]; omega
theorem kX10_firstBest {S : Nat} (hY : am_okY h) (hS : S < 2 ^ (yC h).F) (t : (yC h).tab (h 58)) (hn : ∃ f, f < (yC h).F ∧ ¬ S.testBit f = true) (H : ∀ f, (yC h).fb (h 58) S f → K (0, (f : Int)) h) : am_C true L xs P (d + 4) 99 [(2, 55), (0, (S : Int))] h K := by
  have o := yC_ok hY
  have F8 := o.F8
  have h256 := p8 F8
  have eF : h 55 3 = (((yC h).F : Nat) : Int) := by show h 55 3 = (((h 55 3).toNat : Nat) : Int); have := hY.1; omega
  obtain ⟨f0, hf0⟩ := (yC h).fb_ex o t hS hn
  refine eX10_firstBest (bX10_firstBest_0 (kX10_stonesOf (d := d + 1) hY ?_))
  have est : y_st (h 56) (S : Int) (Int.toNat (h 55 3)) 0 0 = ST (h 56) (yC h).F S := rfl
  rw [est]
  dsimp only
  have step : ∀ i, i < (yC h).F → (∀ f', f' < i → S.testBit f' = true ∨ ¬ (yC h).vl (h 58) S f' = h 58 S) → ((∀ f', f' < i + 1 → S.testBit f' = true ∨ ¬ (yC h).vl (h 58) S f' = h 58 S) → tX10_firstBest (h 0 0 + (0 : Nat)) L xs (am_C true L xs P (d + 3)) K 8 [(2, 55), (0, (S : Int)), (0, ST (h 56) (yC h).F S), (0, ((i + 1 : Nat) : Int))] [] h) → tX10_firstBest (h 0 0 + (0 : Nat)) L xs (am_C true L xs P (d + 3)) K 8 [(2, 55), (0, (S : Int)), (0, ST (h 56) (yC h).F S), (0, (i : Int))] [] h := by
    intro i hi hb ih
    refine bX10_firstBest_8 ⟨fun z => by rw [eF] at z; omega, fun _ => kBit (d := d + 2) (by omega) (fun gb => ?_) (fun gb => ?_)⟩
    · rw [bt_nat (by omega)] at gb
      have nb : ¬ S.testBit i = true := by rw [gb]; decide
      have lt := add_lt F8 hi hS nb
      have rb := (t _ lt).2
      have n0 : (0 : Int) ≤ ((S + 2 ^ i : Nat) : Int) := Int.natCast_nonneg _
      refine ⟨fun z => absurd rfl z, fun _ => kX10_sumFrom (d := d) hY hi hS nb (by omega) ?_⟩
      rw [Int.toNat_natCast]
      dsimp only
      refine ⟨⟨by omega, by omega⟩, fun z => bX10_firstBest_42 ⟨by omega, ih (fun f' hf' => ?_)⟩, fun z => H i ⟨hi, nb, Classical.not_not.mp z, hb⟩⟩
      by_cases e : f' = i
      · rw [e]; exact Or.inr z
      · exact hb f' (by omega)
    · rw [bt_nat (by omega)] at gb
      refine ⟨fun _ => bX10_firstBest_42 ⟨by omega, ih (fun f' hf' => ?_)⟩, fun z => absurd (by decide) z⟩
      by_cases e : f' = i
      · rw [e]; exact Or.inl gb
      · exact hb f' (by omega)
  refine upto (σ := Unit) (N := f0) (I := fun i _ => ∀ f', f' < i → S.testBit f' = true ∨ ¬ (yC h).vl (h 58) S f' = h 58 S) (G := fun i _ => tX10_firstBest (h 0 0 + (0 : Nat)) L xs (am_C true L xs P (d + 3)) K 8 [(2, 55), (0, (S : Int)), (0, ST (h 56) (yC h).F S), (0, (i : Int))] [] h) ?_ ?_ f0 0 () (by omega) (fun f' hf' => by omega)
  · intro i _ hi hb ih
    exact step i (by have := hf0.1; omega) hb (fun z => ih () z)
  · intro _ hb
    refine step f0 hf0.1 hb (fun z => ?_)
    rcases z f0 (by omega) with q | q
    · exact absurd q hf0.2.1
    · exact absurd hf0.2.2.1 q
theorem kX10_fieldInPlace {x : Int} (hY : am_okY h) (H0 : ¬ (0 ≤ x ∧ x < h 55 3) → K (0, -1) h) (H1 : (0 ≤ x ∧ x < h 55 3) → ∀ h' S f, Fr [58] h h' → (yC h).tab (h' 58) → (yC h).sq (h' 58) x.toNat S → (yC h).fb (h' 58) S f → K (0, (f : Int)) h') : am_C true L xs P (d + 5) 98 [(2, 55), (0, x)] h K := by
  have o := yC_ok hY
  have F8 := o.F8
  have eF : h 55 3 = (((yC h).F : Nat) : Int) := by show h 55 3 = (((h 55 3).toNat : Nat) : Int); have := hY.1; omega
  refine eX10_fieldInPlace (bX10_fieldInPlace_0 ⟨fun z => bX10_fieldInPlace_12 (H0 (fun y => by omega)), fun z => ⟨fun z2 => bX10_fieldInPlace_14 (kX10_bestSum (d := d) hY (fun g f t => ?_)), fun z2 => bX10_fieldInPlace_12 (H0 (fun y => by omega))⟩⟩)
  have ey : yC g = yC h := by unfold yC; rw [f 55 (by decide), f 56 (by decide), f 57 (by decide)]
  have oy : am_okY g := by unfold am_okY; rw [f 55 (by decide), f 56 (by decide), f 57 (by decide)]; exact hY
  obtain ⟨p, ep⟩ : ∃ p : Nat, x = p := ⟨x.toNat, by omega⟩
  subst ep
  rw [Int.toNat_natCast] at H1
  have step : ∀ i S (x3 : Int), i ≤ p → (yC h).sq (g 58) i S → (∀ f', (yC h).fb (g 58) S f' → tX10_fieldInPlace (h 0 0 + (0 : Nat)) L xs (am_C true L xs P (d + 4)) K 26 [(2, 55), (0, (p : Int)), (0, ((S + 2 ^ f' : Nat) : Int)), (0, (f' : Int)), (0, ((i + 1 : Nat) : Int))] [] g) → tX10_fieldInPlace (h 0 0 + (0 : Nat)) L xs (am_C true L xs P (d + 4)) K 26 [(2, 55), (0, (p : Int)), (0, (S : Int)), (0, x3), (0, (i : Int))] [] g := by
    intro i S x3 hi hq ih
    have sb := (yC h).sq_bnd o hq
    refine bX10_fieldInPlace_26 ⟨fun y => by omega, fun _ => ?_⟩
    refine kX10_firstBest (d := d) oy (by rw [ey]; exact sb.1) (by rw [ey]; exact t) (by rw [ey]; exact card_free (by omega)) (fun f' hf' => ?_)
    rw [ey] at hf'
    have f8 : f' < (yC h).F := hf'.1
    have oa := or_add sb.1 hf'.1 (by omega) hf'.2.1
    refine ⟨fun _ => bX10_fieldInPlace_48 ⟨⟨by omega, by dsimp only; omega, by dsimp only; omega, by dsimp only; exact am_p2 (by omega) (by omega)⟩, bX10_fieldInPlace_51 ⟨by omega, ?_⟩⟩, fun y => by dsimp only at y; omega⟩
    dsimp only
    rw [Int.toNat_natCast, oa.1]
    exact ih f' hf'
  have key := upto (σ := Nat × Int) (N := p) (I := fun i s => (yC h).sq (g 58) i s.1) (G := fun i s => tX10_fieldInPlace (h 0 0 + (0 : Nat)) L xs (am_C true L xs P (d + 4)) K 26 [(2, 55), (0, (p : Int)), (0, (s.1 : Int)), (0, s.2), (0, (i : Int))] [] g) ?_ ?_ p 0 (0, -1) (by omega) rfl
  · exact key
  · intro i ⟨S, x3⟩ hi hq ih
    dsimp only at hq ⊢
    exact step i S x3 (by omega) hq (fun f' hf' => ih (S + 2 ^ f', (f' : Int)) ⟨S, f', hq, hf', rfl⟩)
  · intro ⟨S, x3⟩ hq
    dsimp only at hq ⊢
    refine step p S x3 (Nat.le_refl _) hq (fun f' hf' => bX10_fieldInPlace_26 ⟨fun _ => bX10_fieldInPlace_59 (H1 ⟨by omega, z2⟩ g S f' f t hq hf'), fun y => by omega⟩)
end
