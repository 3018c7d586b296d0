/-! yard3: the model's plan; judge -/
section
variable {L : Nat} {xs : Nat → Int} {P : Nat → List am_V → am_H → am_K → Prop} {d : Nat} {h : am_H} {K : am_K} {Q : am_V → am_V → am_H → Prop}
theorem kX12_layPlan (hY : am_okZ h) (H : ∀ h', Fr [91, 92] h h' → (yM h).tab (h' 91) → (∀ k, k < (yM h).F → ∃ S f, (yM h).sq (h' 91) k S ∧ (yM h).fb (h' 91) S f ∧ h' 92 k = (f : Int)) → K (9, 0) h') : am_C true L xs P (d + 3) 213 [(2, 59)] h K := by
  have o := yM_ok hY
  have F8 := o.F8
  have h256 := p8 F8
  have eF : h 59 19 = (((yM h).F : Nat) : Int) := by show h 59 19 = (((h 59 19).toNat : Nat) : Int); have := hY.1; omega
  have pe : (1 : Int) * 2 ^ (yM h).F = ((2 ^ (yM h).F : Nat) : Int) := by simp
  have ey : ∀ g : am_H, Fr [91, 92] h g → yM g = yM h := fun g f => by unfold yM; rw [f 59 (by decide), f 69 (by decide), f 70 (by decide)]
  have oy : ∀ g : am_H, Fr [91, 92] h g → am_okZ g := fun g f => by unfold am_okZ; rw [f 59 (by decide), f 69 (by decide), f 70 (by decide)]; exact hY
  refine eX12_layPlan (bX12_layPlan_0 ?_)
  rw [eF, Int.toNat_natCast, pe]
  generalize hN : 2 ^ (yM h).F = N at *
  refine ⟨⟨by omega, by omega, by omega, ⟨by omega, by omega⟩⟩, ⟨by omega, by omega⟩, ?_⟩
  -- what one trial of a field gives
  have tri : ∀ (g : am_H) (S f : Nat) (K2 : am_K) , Fr [91, 92] h g → f < (yM h).F → S < N → ¬ S.testBit f = true → (0 ≤ g 91 (S + 2 ^ f) ∧ g 91 (S + 2 ^ f) ≤ 1000000) → ∀ (G : Int → am_H → Prop), (G ((yM h).vl (g 91) S f) g) → am_C true L xs P (d + 2) 212 [(2, 59), (0, (S : Int))] g (fun r1 h1 => (0 ≤ (f : Int) ∧ (f : Int) < 8) ∧ am_inI (r1.2 + h1 69 (Int.toNat (f : Int))) ∧ am_C true L xs P (d + 2) 211 [(2, 59), (0, (f : Int)), (0, r1.2 + h1 69 (Int.toNat (f : Int)))] h1 (fun r2 h2 => (0 ≤ (1 : Int) ∧ 0 ≤ (f : Int) ∧ (f : Int) ≤ 31 ∧ am_inI (1 * 2 ^ Int.toNat (f : Int))) ∧ (0 ≤ am_or (S : Int) (1 * 2 ^ Int.toNat (f : Int)) ∧ am_or (S : Int) (1 * 2 ^ Int.toNat (f : Int)) < 256) ∧ am_inI (r2.2 + h2 91 (Int.toNat (am_or (S : Int) (1 * 2 ^ Int.toNat (f : Int))))) ∧ G (r2.2 + h2 91 (Int.toNat (am_or (S : Int) (1 * 2 ^ Int.toNat (f : Int))))) h2)) := by
    intro g S f _ fr hf hS nb hr G hG
    have sb := ST_bnd (S := S) F8 o.g8
    have oa := or_add (hN ▸ hS) hf (by omega) nb
    have vb := (yM h).see_bnd o (S := S) hf
    have g1 : 1 ≤ (yM h).g f := o.g1 f hf
    have g9 : (yM h).g f ≤ 999 := (o.g8 f (by omega)).2
    have eg : g 69 = (yM h).g := fr 69 (by decide)
    refine kX12_stonesOf (d := d + 1) (oy g fr) ?_
    have est : y_st (g 69) (S : Int) (Int.toNat (g 59 19)) 0 0 = ST (yM h).g (yM h).F S := by
      rw [fr 69 (by decide), fr 59 (by decide)]; rfl
    rw [est, Int.toNat_natCast]
    dsimp only
    rw [eg]
    refine ⟨⟨by omega, by omega⟩, ⟨by omega, by omega⟩, kX12_see (d := d + 1) (oy g fr) (by omega) ⟨by omega, by omega⟩ ?_⟩
    have ev : y_sees (g 70) (f : Int) ((ST (yM h).g (yM h).F S + (yM h).g f - 1) / g 59 22) = (yM h).see S f := by
      rw [fr 70 (by decide), fr 59 (by decide)]; rfl
    rw [ev]
    dsimp only
    rw [oa.1, Int.toNat_natCast]
    have lt : ((S + 2 ^ f : Nat) : Int) < 256 := by have := oa.2; omega
    have nn : (0 : Int) ≤ ((S + 2 ^ f : Nat) : Int) := Int.natCast_nonneg _
    exact ⟨⟨by omega, by omega, by omega, inI_p2 (by omega)⟩, ⟨nn, lt⟩, ⟨by omega, by omega⟩, hG⟩
  have key := dnto (σ := am_V × am_V × am_V × am_H) (I := fun i s => i ≤ N ∧ Fr [91] h s.2.2.2 ∧ ∀ S, i ≤ S → S < N → (yM h).row (s.2.2.2 91) S) (G := fun i s => tX12_layPlan (h 0 0 + (0 : Nat)) L xs (am_C true L xs P (d + 2)) K 11 [(2, 59), (0, (N : Int) - 1), (0, (i : Int) - 1), s.1, s.2.1, s.2.2.1] [] s.2.2.2) ?_ ?_ N ((9, 0), (9, 0), (9, 0), h) ⟨Nat.le_refl _, Fr.rf, fun S h1 h2 => by omega⟩
  · exact key
  · intro S ⟨v3, v4, v5, g⟩ ⟨q0, q1, q2⟩ ih
    dsimp only at q1 q2 ⊢
    rw [show ((S + 1 : Nat) : Int) - 1 = (S : Int) by omega]
    refine bX12_layPlan_11 ⟨fun z => by omega, fun _ => ?_⟩
    have q1' : Fr [91, 92] h g := q1.mono (by decide)
    have hSF : S < 2 ^ (yM h).F := by rw [hN]; omega
    have aboveF : ∀ T, S < T → T < 2 ^ (yM h).F → (yM h).row (g 91) T := fun T h1 h2 => q2 T (by omega) (hN ▸ h2)
    refine upto (σ := Int × am_V) (N := (yM h).F) (I := fun f s => s.1 = (yM h).mx (g 91) S f) (G := fun f s => tX12_layPlan (h 0 0 + (0 : Nat)) L xs (am_C true L xs P (d + 2)) K 20 [(2, 59), (0, (N : Int) - 1), (0, (S : Int)), (0, s.1), (0, (f : Int)), s.2] [] g) ?_ ?_ (yM h).F 0 (0, v5) (by omega) rfl
    · intro f ⟨b, v5⟩ hf eb ihf
      dsimp only at eb ⊢
      refine bX12_layPlan_20 ⟨fun z => by rw [q1' 59 (by decide), eF] at z; omega, fun _ => ⟨by omega, ?_⟩⟩
      rw [Int.toNat_natCast, bt_t1 (by omega), bt_nat (by omega)]
      refine ⟨fun nb => bX12_layPlan_42 ?_, fun hb => bX12_layPlan_88 ⟨by omega, ihf (b, v5) ?_⟩⟩
      · have lt := add_lt F8 hf hSF nb
        have p2 := Nat.two_pow_pos f
        have rb := (aboveF (S + 2 ^ f) (by omega) lt).2
        have n0 : (0 : Int) ≤ ((S + 2 ^ f : Nat) : Int) := Int.natCast_nonneg _
        refine tri g S f K q1' hf (by omega) nb (by omega) (fun n h2 => (n ≤ b → tX12_layPlan (h 0 0 + (0 : Nat)) L xs (am_C true L xs P (d + 2)) K 86 [(2, 59), (0, (N : Int) - 1), (0, (S : Int)), (0, b), (0, (f : Int)), (0, n)] [] h2) ∧ (¬ n ≤ b → tX12_layPlan (h 0 0 + (0 : Nat)) L xs (am_C true L xs P (d + 2)) K 87 [(2, 59), (0, (N : Int) - 1), (0, (S : Int)), (0, b), (0, (f : Int)), (0, n)] [(0, n)] h2)) ?_
        refine ⟨fun z => bX12_layPlan_86 (bX12_layPlan_87 (bX12_layPlan_88 ⟨by omega, ihf (b, _) ?_⟩)), fun z => bX12_layPlan_87 (bX12_layPlan_88 ⟨by omega, ihf (_, _) ?_⟩)⟩
        · dsimp only
          simp only [Yd.mx]
          rw [if_neg nb, if_neg (by omega)]; exact eb
        · dsimp only
          simp only [Yd.mx]
          rw [if_neg nb, if_pos (by unfold Yd.vl at z ⊢; omega)]
          rfl
      · dsimp only
        simp only [Yd.mx]
        rw [if_pos (Classical.not_not.mp hb)]; exact eb
    · intro ⟨b, v5⟩ eb
      dsimp only at eb ⊢
      have mb := (yM h).mx_bnd o hSF aboveF (yM h).F (Nat.le_refl _)
      refine bX12_layPlan_20 ⟨fun _ => bX12_layPlan_94 ⟨⟨by omega, by omega⟩, by omega, ?_⟩, fun z => by rw [q1' 59 (by decide), eF] at z; omega⟩
      rw [Int.toNat_natCast, show (S : Int) + (-1) = (S : Int) - 1 by omega]
      refine ih (_, _, _, am_st g 91 S b) ⟨by omega, q1.st (by decide), fun T h1 h2 => ?_⟩
      dsimp only
      by_cases e : T = S
      · rw [e]
        have ec : (yM h).mx (am_st g 91 S b 91) S (yM h).F = (yM h).mx (g 91) S (yM h).F := (yM h).mx_congr o hSF (fun T a1 a2 => st_nj (by omega)) _ (Nat.le_refl _)
        refine ⟨by rw [ec, st_at]; exact eb, ?_⟩
        rw [st_at, eb]; exact mb
      · exact (yM h).row_congr o (by rw [hN]; exact h2) (fun T' a1 a2 => st_nj (by omega)) (aboveF T (by omega) (by rw [hN]; exact h2))
  · intro ⟨v3, v4, v5, g⟩ ⟨q0, q1, q2⟩
    dsimp only at q1 q2 ⊢
    have tab : (yM h).tab (g 91) := fun S hS => q2 S (by omega) (hN ▸ hS)
    refine bX12_layPlan_11 ⟨fun _ => bX12_layPlan_107 ?_, fun z => by omega⟩
    refine upto (σ := Nat × am_V × am_H) (N := (yM h).F) (I := fun k s => Fr [92] g s.2.2 ∧ (yM h).sq (g 91) k s.1 ∧ ∀ j, j < k → ∃ S f, (yM h).sq (g 91) j S ∧ (yM h).fb (g 91) S f ∧ s.2.2 92 j = (f : Int)) (G := fun k s => tX12_layPlan (h 0 0 + (0 : Nat)) L xs (am_C true L xs P (d + 2)) K 111 [(2, 59), (0, (N : Int) - 1), (0, (s.1 : Int)), (0, (k : Int)), s.2.1, v5] [] s.2.2) ?_ ?_ (yM h).F 0 (0, v4, g) (by omega) ⟨Fr.rf, rfl, fun j hj => by omega⟩
    · intro k ⟨S, v4, g'⟩ hk ⟨r1, r2, r3⟩ ih
      dsimp only at r1 r2 r3 ⊢
      have f1 : Fr [91, 92] h g' := (q1.mono (by decide)).tr (r1.mono (by decide))
      have e91 : g' 91 = g 91 := r1 91 (by decide)
      have sb := (yM h).sq_bnd o r2
      obtain ⟨f0, hf0⟩ := (yM h).fb_ex o tab sb.1 (card_free (by omega))
      refine bX12_layPlan_111 ⟨fun z => by rw [f1 59 (by decide), eF] at z; omega, fun _ => ?_⟩
      have SN : S < N := hN ▸ sb.1
      have step : ∀ i, i < (yM h).F → (∀ f', f' < i → S.testBit f' = true ∨ ¬ (yM h).vl (g 91) S f' = g 91 S) → ((∀ f', f' < i + 1 → S.testBit f' = true ∨ ¬ (yM h).vl (g 91) S f' = g 91 S) → tX12_layPlan (h 0 0 + (0 : Nat)) L xs (am_C true L xs P (d + 2)) K 122 [(2, 59), (0, (N : Int) - 1), (0, (S : Int)), (0, (k : Int)), (0, ((i + 1 : Nat) : Int)), v5] [] g') → tX12_layPlan (h 0 0 + (0 : Nat)) L xs (am_C true L xs P (d + 2)) K 122 [(2, 59), (0, (N : Int) - 1), (0, (S : Int)), (0, (k : Int)), (0, (i : Int)), v5] [] g' := by
        intro i hi hb ihi
        refine bX12_layPlan_122 ⟨by omega, ?_⟩
        rw [Int.toNat_natCast, bt_t1 (by omega), bt_nat (by omega)]
        refine ⟨fun gb => bX12_layPlan_172 ⟨by omega, ihi (fun f' hf' => ?_)⟩, fun nb => ?_⟩
        · by_cases e : f' = i
          · rw [e]; exact Or.inl gb
          · exact hb f' (by omega)
        · have lt := add_lt F8 hi sb.1 nb
          have rb := (tab _ lt).2
          have n0 : (0 : Int) ≤ ((S + 2 ^ i : Nat) : Int) := Int.natCast_nonneg _
          rw [hN] at rb
          refine tri g' S i K f1 hi SN nb (by rw [e91]; omega) (fun n h2 => (0 ≤ (S : Int) ∧ (S : Int) < 256) ∧ (n = h2 91 (Int.toNat (S : Int)) → tX12_layPlan (h 0 0 + (0 : Nat)) L xs (am_C true L xs P (d + 2)) K 178 [(2, 59), (0, (N : Int) - 1), (0, (S : Int)), (0, (k : Int)), (0, (i : Int)), v5] [] h2) ∧ (¬ n = h2 91 (Int.toNat (S : Int)) → tX12_layPlan (h 0 0 + (0 : Nat)) L xs (am_C true L xs P (d + 2)) K 172 [(2, 59), (0, (N : Int) - 1), (0, (S : Int)), (0, (k : Int)), (0, (i : Int)), v5] [] h2)) ⟨⟨by omega, by omega⟩, ?_⟩
          rw [Int.toNat_natCast, e91]
          refine ⟨fun z => bX12_layPlan_178 ⟨⟨by omega, by omega⟩, ⟨by omega, by omega, by omega, am_p2 (by omega) (by omega)⟩, by omega, ?_⟩, fun z => bX12_layPlan_172 ⟨by omega, ihi (fun f' hf' => ?_)⟩⟩
          · rw [Int.toNat_natCast, Int.toNat_natCast, (or_add sb.1 hi (by omega) nb).1]
            have fbi : (yM h).fb (g 91) S i := ⟨hi, nb, z, hb⟩
            refine ih (S + 2 ^ i, _, am_st g' 92 k (i : Int)) ⟨r1.st (by decide), ⟨S, i, r2, fbi, rfl⟩, fun j hj => ?_⟩
            dsimp only
            by_cases e : j = k
            · rw [e]; exact ⟨S, i, r2, fbi, st_at⟩
            · rw [st_nj e]; exact r3 j (by omega)
          · by_cases e : f' = i
            · rw [e]; exact Or.inr z
            · exact hb f' (by omega)
      refine upto (σ := Unit) (N := f0) (I := fun i _ => ∀ f', f' < i → S.testBit f' = true ∨ ¬ (yM h).vl (g 91) S f' = g 91 S) (G := fun i _ => tX12_layPlan (h 0 0 + (0 : Nat)) L xs (am_C true L xs P (d + 2)) K 122 [(2, 59), (0, (N : Int) - 1), (0, (S : Int)), (0, (k : Int)), (0, (i : Int)), v5] [] g') ?_ ?_ f0 0 () (by omega) (fun f' hf' => by omega)
      · intro i _ hi hb ih'
        exact step i (by have := hf0.1; omega) hb (fun z => ih' () z)
      · intro _ hb
        refine step f0 hf0.1 hb (fun z => ?_)
        rcases z f0 (by omega) with q | q
        · exact absurd q hf0.2.1
        · exact absurd hf0.2.2.1 q
    · intro ⟨S, v4, g'⟩ ⟨r1, r2, r3⟩
      dsimp only at r1 r2 r3 ⊢
      have f1 : Fr [91, 92] h g' := (q1.mono (by decide)).tr (r1.mono (by decide))
      have e91 : g' 91 = g 91 := r1 91 (by decide)
      refine bX12_layPlan_111 ⟨fun _ => bX12_layPlan_199 (H g' f1 (by rw [e91]; exact tab) (by rw [e91]; exact r3)), fun z => by rw [f1 59 (by decide), eF] at z; omega⟩
end
