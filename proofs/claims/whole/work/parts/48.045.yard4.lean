/-! yard4: plan and judge, class and model -/
theorem y_see_congr {k k' : Nat → Int} {f : Int} (hf : 0 ≤ f ∧ f < 8) (h : ∀ j, j < 168 → k j = k' j) : ∀ (n : Nat) (s acc : Int), 0 ≤ s → s + n ≤ 21 → y_see k f n s acc = y_see k' f n s acc := by
  intro n
  induction n with
  | zero => intro s acc _ _; rfl
  | succ n ih =>
    intro s acc h1 h2
    simp only [y_see]
    rw [h (Int.toNat (f * 21 + s)) (by omega)]
    exact ih (s + 1) _ (by omega) (by omega)
theorem y_sees_congr {k k' : Nat → Int} {f s : Int} (hf : 0 ≤ f ∧ f < 8) (hs : 0 ≤ s) (h : ∀ j, j < 168 → k j = k' j) : y_sees k f s = y_sees k' f s := by
  unfold y_sees
  by_cases e : s ≤ 21
  · exact y_see_congr hf h _ s 0 hs (by omega)
  · rw [show Int.toNat (21 - s) = 0 by omega]; rfl
def Yd.eqv (y y' : Yd) : Prop := (y.F = y'.F) ∧ (∀ S f, f < y.F → y.see S f = y'.see S f)
theorem Yd.eqv.F {y y' : Yd} (s_ : Yd.eqv y y') : y.F = y'.F := s_.1
theorem Yd.eqv.s {y y' : Yd} (s_ : Yd.eqv y y') : ∀ S f, f < y.F → y.see S f = y'.see S f := s_.2
theorem Yd.mx_eqv {y y' : Yd} (e : y.eqv y') {b : Nat → Int} {S : Nat} : ∀ i, i ≤ y.F → y.mx b S i = y'.mx b S i := by
  intro i
  induction i with
  | zero => intro _; rfl
  | succ i ih =>
    intro hi
    have v : y.vl b S i = y'.vl b S i := by unfold Yd.vl; rw [e.s S i (by omega)]
    simp only [Yd.mx]
    rw [ih (by omega), v]
theorem Yd.tab_eqv {y y' : Yd} (e : y.eqv y') {b : Nat → Int} (t : y.tab b) : y'.tab b := by
  intro S hS
  have := t S (by rw [e.F]; exact hS)
  unfold Yd.row at this ⊢
  rw [y.mx_eqv e y.F (Nat.le_refl _), e.F] at this
  exact this
theorem Yd.fb_eqv {y y' : Yd} (e : y.eqv y') {b : Nat → Int} {S f : Nat} (x : y.fb b S f) : y'.fb b S f := by
  obtain ⟨x1, x2, x3, x4⟩ := x
  have v : ∀ f, f < y.F → y'.vl b S f = y.vl b S f := fun f hf => by unfold Yd.vl; rw [e.s S f hf]
  refine ⟨by rw [← e.F]; exact x1, x2, by rw [v f x1]; exact x3, fun f' hf' => ?_⟩
  rw [v f' (by omega)]; exact x4 f' hf'
theorem Yd.sq_eqv {y y' : Yd} (e : y.eqv y') {b : Nat → Int} : ∀ {i S : Nat}, y.sq b i S → y'.sq b i S := by
  intro i
  induction i with
  | zero => intro S x; exact x
  | succ i ih =>
    rintro S ⟨T, f, h1, h2, h3⟩
    exact ⟨T, f, ih h1, y.fb_eqv e h2, h3⟩
theorem LkY.eqv {h g : am_H} (l : LkY h) (x1 : g 59 19 = h 59 19) (x2 : g 59 22 = h 59 22) (x3 : g 69 = h 69) (x4 : g 70 = h 70) : (yC h).eqv (yM g) := by
  have o := yC_ok l.y
  have eF : (yC h).F = (yM g).F := by show (h 55 3).toNat = (g 59 19).toNat; rw [l.n, x1]
  refine ⟨eF, fun S f hf => ?_⟩
  have F8 := o.F8
  have hf2 : f < (h 55 3).toNat := hf
  have ln := l.n
  have sg : ∀ j, j < (yC h).F → (yC h).g j = (yM g).g j := by
    intro j hj
    show h 56 j = g 69 j
    rw [x3]
    exact l.s j (by have : j < (h 55 3).toNat := hj; omega)
  have st := ST_bnd (S := S) o.F8 o.g8
  have g1 := o.g1 f hf
  unfold Yd.see
  rw [← eF, ← ST_congr (by omega) sg, ← sg f hf]
  have ep : (yM g).p = (yC h).p := by show g 59 22 = h 55 4; rw [x2, l.c]
  rw [ep]
  refine y_sees_congr (by omega) (Int.ediv_nonneg (by omega) (by have := o.p1; omega)) (fun j hj => ?_)
  show h 57 j = g 70 j
  rw [x4]; exact l.k j hj
section
variable {L : Nat} {xs : Nat → Int} {P : Nat → List am_V → am_H → am_K → Prop} {d : Nat} {h : am_H} {K : am_K} {Q : am_V → am_V → am_H → Prop}
theorem and7 (x : Int) : 0 ≤ am_and x 7 ∧ am_and x 7 < 8 := by
  have := bt_lt (n := 3) (am_inI_and x 7) (by decide) (fun k hk _ => by rw [bt_and, bt_out (x := 7) (n := 3) (by decide) (by decide) hk]; simp)
  have e : (2 : Int) ^ 3 = 8 := by decide
  rw [e] at this
  exact this
def Yd.jd (y : Yd) (x : Int) : Nat → Nat → Nat → Int → Int
  | 0, _, _, sum => sum
  | n + 1, i, S, sum => if y.F ≤ (am_and (x / 2 ^ (3 * i)) 7).toNat ∨ S.testBit (am_and (x / 2 ^ (3 * i)) 7).toNat = true then -1 else y.jd x n (i + 1) (S + 2 ^ (am_and (x / 2 ^ (3 * i)) 7).toNat) (sum + y.see S (am_and (x / 2 ^ (3 * i)) 7).toNat)
theorem Yd.jd_eqv {y y' : Yd} (e : y.eqv y') {x : Int} : ∀ (n i S : Nat) (sum : Int), y.jd x n i S sum = y'.jd x n i S sum := by
  intro n
  induction n with
  | zero => intro i S sum; rfl
  | succ n ih =>
    intro i S sum
    simp only [Yd.jd]
    rw [e.F]
    by_cases hc : y'.F ≤ (am_and (x / 2 ^ (3 * i)) 7).toNat ∨ S.testBit (am_and (x / 2 ^ (3 * i)) 7).toNat = true
    · rw [if_pos hc, if_pos hc]
    · rw [if_neg hc, if_neg hc, ih, e.s S _ (by rw [e.F]; omega)]
theorem kX10_sumOf {x : Int} (hY : am_okY h) (H : K (0, (yC h).jd x (yC h).F 0 0 0) h) : am_C true L xs P (d + 3) 100 [(2, 55), (0, x)] h K := by
  have o := yC_ok hY
  have F8 := o.F8
  have h256 := p8 F8
  have eF : h 55 3 = (((yC h).F : Nat) : Int) := by show h 55 3 = (((h 55 3).toNat : Nat) : Int); have := hY.1; omega
  refine eX10_sumOf (bX10_sumOf_0 ?_)
  have key : ∀ (n i S : Nat) (sum : Int) (v : am_V), i + n = (yC h).F → S < 2 ^ (yC h).F → 0 ≤ sum ∧ sum ≤ 2079 * i → K (0, (yC h).jd x n i S sum) h → tX10_sumOf (h 0 0 + (0 : Nat)) L xs (am_C true L xs P (d + 2)) K 10 [(2, 55), (0, x), (0, (S : Int)), (0, ST (h 56) (yC h).F S), (0, sum), (0, (i : Int)), v] [] h := by
    intro n
    induction n with
    | zero =>
      intro i S sum v hi hS hs HK
      exact bX10_sumOf_10 ⟨fun _ => bX10_sumOf_85 HK, fun z => by rw [eF] at z; omega⟩
    | succ n ih =>
      intro i S sum v hi hS hs HK
      have a7 := and7 (x / 2 ^ (3 * i))
      simp only [Yd.jd] at HK
      refine bX10_sumOf_10 ⟨fun z => by rw [eF] at z; omega, fun _ => ⟨⟨by omega, by omega⟩, by omega, ?_⟩⟩
      rw [show Int.toNat (3 * (i : Int)) = 3 * i by omega]
      generalize hA : am_and (x / 2 ^ (3 * i)) 7 = A at *
      obtain ⟨f, ef⟩ : ∃ f : Nat, A = f := ⟨A.toNat, by omega⟩
      subst ef
      rw [Int.toNat_natCast] at HK
      rw [eF]
      refine ⟨fun z => bX10_sumOf_48 ?_, fun z => kBit (d := d + 1) (by omega) (fun gb => ?_) (fun gb => ?_)⟩
      · rw [if_pos (Or.inl (by omega))] at HK; exact HK
      · rw [bt_nat (by omega)] at gb
        have nb : ¬ S.testBit f = true := by rw [gb]; decide
        have hf : f < (yC h).F := by omega
        rw [if_neg (by rintro (q | q); omega; exact nb q)] at HK
        have st := ST_bnd (S := S) F8 o.g8
        have vb := (yC h).see_bnd o (S := S) hf
        have g8 := o.g8 f (by omega)
        have eg : (yC h).g = h 56 := rfl
        rw [eg] at st g8
        refine ⟨fun _ => bX10_sumOf_50 (kX10_seeing (d := d) hY (by omega) (by rw [Int.toNat_natCast]; exact o.g1 f hf) (by omega) ?_), fun q => absurd rfl q⟩
        have ev : y_sees (h 57) (f : Int) ((ST (h 56) (yC h).F S + h 56 (Int.toNat (f : Int)) - 1) / h 55 4) = (yC h).see S f := by rw [Int.toNat_natCast]; rfl
        rw [ev, Int.toNat_natCast]
        dsimp only
        refine ⟨⟨by omega, by omega⟩, ⟨by omega, by omega⟩, ⟨by omega, by omega⟩, ⟨by omega, by omega, by omega, inI_p2 (by omega)⟩, by omega, ?_⟩
        rw [(or_add hS hf (by omega) nb).1, ← ST_add (g := h 56) (by omega) hf nb]
        exact ih (i + 1) (S + 2 ^ f) _ _ (by omega) (add_lt F8 hf hS nb) (by omega) HK
      · rw [bt_nat (by omega)] at gb
        rw [if_pos (Or.inr gb)] at HK
        exact ⟨fun q => absurd q (by decide), fun _ => bX10_sumOf_48 HK⟩
  have := key (yC h).F 0 0 0 (9, 0) (by omega) (by omega) (by omega) H
  rw [ST_0 (by omega)] at this
  exact this
theorem kX12_judge {x : Int} (hY : am_okZ h) (H : K (0, (yM h).jd x (yM h).F 0 0 0) (am_t0 h)) : am_C true L xs P (d + 2) 215 [(2, 59), (0, x)] h K := by
  have o := yM_ok hY
  have F8 := o.F8
  have h256 := p8 F8
  have eF : h 59 19 = (((yM h).F : Nat) : Int) := by show h 59 19 = (((h 59 19).toNat : Nat) : Int); have := hY.1; omega
  refine eX12_judge (bX12_judge_0 ?_)
  have s19 : am_st h 59 2 0 59 19 = h 59 19 := st_nj (by decide)
  have s22 : am_st h 59 2 0 59 22 = h 59 22 := st_nj (by decide)
  have s69 : am_st h 59 2 0 69 = h 69 := st_ne (by decide)
  have s70 : am_st h 59 2 0 70 = h 70 := st_ne (by decide)
  have hY' : am_okZ (am_st h 59 2 0) := by unfold am_okZ at hY ⊢; rw [s19, s22, s69, s70]; exact hY
  have key : ∀ (n i S : Nat) (sum : Int) (v : am_V), i + n = (yM h).F → S < 2 ^ (yM h).F → 0 ≤ sum ∧ sum ≤ 2079 * i → K (0, (yM h).jd x n i S sum) (am_t0 h) → tX12_judge (h 0 0 + (0 : Nat)) L xs (am_C true L xs P (d + 1)) K 12 [(2, 59), (0, x), (0, (S : Int)), (0, sum), (0, (i : Int)), v] [] (am_st h 59 2 0) := by
    intro n
    induction n with
    | zero =>
      intro i S sum v hi hS hs HK
      exact bX12_judge_12 ⟨fun _ => bX12_judge_88 HK, fun z => by rw [s19, eF] at z; omega⟩
    | succ n ih =>
      intro i S sum v hi hS hs HK
      have a7 := and7 (x / 2 ^ (3 * i))
      simp only [Yd.jd] at HK
      refine bX12_judge_12 ⟨fun z => by rw [s19, eF] at z; omega, fun _ => ⟨⟨by omega, by omega⟩, by omega, ?_⟩⟩
      rw [show Int.toNat (3 * (i : Int)) = 3 * i by omega]
      generalize hA : am_and (x / 2 ^ (3 * i)) 7 = A at *
      obtain ⟨f, ef⟩ : ∃ f : Nat, A = f := ⟨A.toNat, by omega⟩
      subst ef
      rw [Int.toNat_natCast] at HK
      rw [s19, eF, Int.toNat_natCast, bt_t1 (by omega), bt_nat (by omega)]
      refine ⟨fun z => bX12_judge_51 ?_, fun z => ⟨by omega, fun nb => bX12_judge_53 (kX12_stonesOf (d := d) hY' ?_), fun gb => bX12_judge_51 ?_⟩⟩
      · rw [if_pos (Or.inl (by omega))] at HK; exact HK
      · have hf : f < (yM h).F := by omega
        rw [if_neg (by rintro (q | q); omega; exact nb q)] at HK
        have st := ST_bnd (S := S) F8 o.g8
        have vb := (yM h).see_bnd o (S := S) hf
        have g8 := o.g8 f (by omega)
        have g1 := o.g1 f hf
        have eg : (yM h).g = h 69 := rfl
        rw [eg] at st g8 g1
        have est : y_st (am_st h 59 2 0 69) (S : Int) (Int.toNat (am_st h 59 2 0 59 19)) 0 0 = ST (h 69) (yM h).F S := by rw [s69, s19]; rfl
        rw [est, Int.toNat_natCast, s69]
        dsimp only
        refine ⟨⟨by omega, by omega⟩, ⟨by omega, by omega⟩, kX12_see (d := d) hY' (by omega) ⟨by omega, by omega⟩ ?_⟩
        have ev : y_sees (am_st h 59 2 0 70) (f : Int) ((ST (h 69) (yM h).F S + h 69 f - 1) / am_st h 59 2 0 59 22) = (yM h).see S f := by rw [s70, s22]; rfl
        rw [ev]
        dsimp only
        refine ⟨⟨by omega, by omega⟩, ⟨by omega, by omega, by omega, inI_p2 (by omega)⟩, by omega, ?_⟩
        rw [(or_add hS hf (by omega) nb).1]
        exact ih (i + 1) (S + 2 ^ f) _ _ (by omega) (add_lt F8 hf hS nb) (by omega) HK
      · rw [if_pos (Or.inr (Classical.not_not.mp gb))] at HK; exact HK
  exact key (yM h).F 0 0 0 (9, 0) (by omega) (by omega) (by omega) H
theorem pr_judge {x : Int} (I : Inv h) (H : ∀ v g, Inv g → g 0 = h 0 → Q (0, v) (0, v) g) : am_C true L xs P (d + 24) 129 [(2, 1), (0, x)] h (fun r1 h1 => am_C true L xs P (d + 24) 215 [(2, 59), (0, x)] h1 (fun r2 h2 => Q r1 r2 h2)) := by
  refine eX11_judge (bX11_judge_0 (kX10_sumOf (d := d + 20) I.y.y (kX12_judge (d := d + 22) I.y.z ?_)))
  have e := I.y.eqv (g := h) rfl rfl rfl rfl
  have e2 : (yC h).jd x (yC h).F 0 0 0 = (yM h).jd x (yM h).F 0 0 0 := by rw [(yC h).jd_eqv e, e.F]
  rw [← e2]
  exact H _ _ (I.xs MS.t0.xs) (XS.h0 MS.t0.xs)
theorem kX10_lastSeason (hY : am_okY h) (H0 : h 55 3 = 0 → K (0, -1) h) (H1 : ¬ h 55 3 = 0 → K (0, (ST (h 56) (yC h).F (2 ^ (yC h).F - 1) - 1) / h 55 4) h) : am_C true L xs P (d + 3) 97 [(2, 55)] h K := by
  have o := yC_ok hY
  have F8 := o.F8
  have h256 := p8 F8
  have eF : h 55 3 = (((yC h).F : Nat) : Int) := by show h 55 3 = (((h 55 3).toNat : Nat) : Int); have := hY.1; omega
  have pe : (1 : Int) * 2 ^ (yC h).F = ((2 ^ (yC h).F : Nat) : Int) := by simp
  refine eX10_lastSeason (bX10_lastSeason_0 ⟨fun z => bX10_lastSeason_11 ?_, fun z => bX10_lastSeason_27 (H0 (Classical.not_not.mp z))⟩)
  have H1' := H1 z
  have s1 : 1 ≤ ST (h 56) (yC h).F (2 ^ (yC h).F - 1) := by
    have hF : 0 < (yC h).F := by omega
    rw [ST_sm (by omega)]
    have := sm_ge (F := fun j => sif ((2 ^ (yC h).F - 1).testBit j = true) (h 56 j)) (n := (yC h).F) (a := 0) (fun j hj => (sif_le (o.g8 j (by omega)).1).1) hF
    have hb0 : (2 ^ (yC h).F - 1).testBit 0 = true := by rw [Nat.testBit_two_pow_sub_one]; simpa using hF
    rw [sif_pos hb0] at this
    have g1 := o.g1 0 hF
    have eg : (yC h).g = h 56 := rfl
    rw [eg] at g1
    omega
  have sb := ST_bnd (S := 2 ^ (yC h).F - 1) F8 o.g8
  have eg : (yC h).g = h 56 := rfl
  rw [eg] at sb
  rw [eF, Int.toNat_natCast, pe]
  refine ⟨⟨by omega, by omega, by omega, ⟨by omega, by omega⟩⟩, ⟨by omega, by omega⟩, kX10_stonesOf (d := d) hY ?_⟩
  have est : y_st (h 56) (((2 ^ (yC h).F : Nat) : Int) - 1) (Int.toNat (h 55 3)) 0 0 = ST (h 56) (yC h).F (2 ^ (yC h).F - 1) := by
    unfold ST
    rw [show ((2 ^ (yC h).F - 1 : Nat) : Int) = ((2 ^ (yC h).F : Nat) : Int) - 1 by omega]; rfl
  rw [est]
  exact kX10_seasonOf (d := d + 1) ⟨s1, by dsimp only; omega⟩ (by have := hY.2.1; omega) (bX10_lastSeason_27 H1')
theorem kX12_plan {x : Int} (hY : am_okZ h) (Ha : ¬ (0 ≤ x ∧ x ≤ 9) → K (0, -2) (am_t0 h)) (Hb : x = 1 → h 59 19 = 0 → K (0, -1) (am_t0 h)) (Hc : x = 1 → ¬ h 59 19 = 0 → K (0, (ST (h 69) (yM h).F (2 ^ (yM h).F - 1) - 1) / h 59 22) (am_t0 h)) (Hd : x = 0 → ∀ g, MS h g → (yM h).tab (g 91) → K (0, g 91 0) g) (He : (0 ≤ x ∧ x ≤ 9) → ¬ x = 0 → ¬ x = 1 → h 59 19 ≤ x - 2 → ∀ g, MS h g → K (0, -1) g) (Hf : (0 ≤ x ∧ x ≤ 9) → ¬ x = 0 → ¬ x = 1 → ¬ h 59 19 ≤ x - 2 → ∀ g S f, MS h g → (yM h).tab (g 91) → (yM h).sq (g 91) (x - 2).toNat S → (yM h).fb (g 91) S f → K (0, (f : Int)) g) : am_C true L xs P (d + 4) 214 [(2, 59), (0, x)] h K := by
  have o := yM_ok hY
  have F8 := o.F8
  have h256 := p8 F8
  have eF : h 59 19 = (((yM h).F : Nat) : Int) := by show h 59 19 = (((h 59 19).toNat : Nat) : Int); have := hY.1; omega
  have pe : (1 : Int) * 2 ^ (yM h).F = ((2 ^ (yM h).F : Nat) : Int) := by simp
  have s19 : am_st h 59 2 0 59 19 = h 59 19 := st_nj (by decide)
  have s22 : am_st h 59 2 0 59 22 = h 59 22 := st_nj (by decide)
  have s69 : am_st h 59 2 0 69 = h 69 := st_ne (by decide)
  have s70 : am_st h 59 2 0 70 = h 70 := st_ne (by decide)
  have hY' : am_okZ (am_st h 59 2 0) := by unfold am_okZ at hY ⊢; rw [s19, s22, s69, s70]; exact hY
  have ey : yM (am_st h 59 2 0) = yM h := by unfold yM; rw [s19, s22, s69, s70]
  refine eX12_plan (bX12_plan_0 (kX12_isIn (d := d + 2) (fun z => ⟨fun q => absurd rfl q, fun _ => Ha z⟩) (fun z => ⟨fun _ => bX12_plan_18 ⟨fun z1 => bX12_plan_54 ?_, fun z1 => ?_⟩, fun q => absurd (by decide) q⟩)))
  · refine kX12_layPlan (d := d) hY' (fun g f t od => ?_)
    rw [ey] at t od
    have ms : MS h g := MS.t0.tr (MS.of f (by decide))
    have g19 : g 59 19 = h 59 19 := by rw [f 59 (by decide), s19]
    refine ⟨fun z2 => bX12_plan_71 ⟨by omega, ?_⟩, fun z2 => ⟨by decide, bX12_plan_93 (Hd (Classical.not_not.mp z2) g ms t)⟩⟩
    rw [g19]
    refine ⟨fun z3 => bX12_plan_92 (bX12_plan_93 (He z z2 z1 z3 g ms)), fun z3 => ⟨by omega, by omega, bX12_plan_93 ?_⟩⟩
    obtain ⟨S, f', o1, o2, o3⟩ := od (x - 2).toNat (by omega)
    rw [o3]
    exact Hf z z2 z1 z3 g S f' ms t o1 o2
  · have x1 : x = 1 := Classical.not_not.mp z1
    rw [s19]
    refine ⟨fun z2 => bX12_plan_34 ?_, fun z2 => bX12_plan_53 (Hb x1 (Classical.not_not.mp z2))⟩
    have s1 : 1 ≤ ST (h 69) (yM h).F (2 ^ (yM h).F - 1) := by
      have hF : 0 < (yM h).F := by omega
      rw [ST_sm (by omega)]
      have := sm_ge (F := fun j => sif ((2 ^ (yM h).F - 1).testBit j = true) (h 69 j)) (n := (yM h).F) (a := 0) (fun j hj => (sif_le (o.g8 j (by omega)).1).1) hF
      have hb0 : (2 ^ (yM h).F - 1).testBit 0 = true := by rw [Nat.testBit_two_pow_sub_one]; simpa using hF
      rw [sif_pos hb0] at this
      have g1 := o.g1 0 hF
      have eg : (yM h).g = h 69 := rfl
      rw [eg] at g1
      omega
    have sb := ST_bnd (S := 2 ^ (yM h).F - 1) F8 o.g8
    have eg : (yM h).g = h 69 := rfl
    rw [eg] at sb
    rw [s19, eF, Int.toNat_natCast, pe]
    refine ⟨⟨by omega, by omega, by omega, ⟨by omega, by omega⟩⟩, ⟨by omega, by omega⟩, kX12_stonesOf (d := d + 2) hY' ?_⟩
    have est : y_st (am_st h 59 2 0 69) (((2 ^ (yM h).F : Nat) : Int) - 1) (Int.toNat (am_st h 59 2 0 59 19)) 0 0 = ST (h 69) (yM h).F (2 ^ (yM h).F - 1) := by
      rw [s69, s19]
      unfold ST
      rw [show ((2 ^ (yM h).F - 1 : Nat) : Int) = ((2 ^ (yM h).F : Nat) : Int) - 1 by omega]; rfl
    rw [est, s22]
    dsimp only
    exact ⟨⟨by omega, by omega⟩, ⟨by omega, by have := hY.2.1; omega⟩, bX12_plan_53 (Hc x1 z2)⟩
theorem pr_plan {x : Int} (I : Inv h) (H : ∀ v g, Inv g → g 0 = h 0 → Q (0, v) (0, v) g) : am_C true L xs P (d + 24) 128 [(2, 1), (0, x)] h (fun r1 h1 => am_C true L xs P (d + 24) 214 [(2, 59), (0, x)] h1 (fun r2 h2 => Q r1 r2 h2)) := by
  have l := I.y
  have hY := l.y
  have hZ := l.z
  have ln := l.n
  have o := yC_ok hY
  have e := l.eqv (g := h) rfl rfl rfl rfl
  have fin : ∀ (v : Int) g, XS h g → Q (0, v) (0, v) g := fun v g x => H v g (I.xs x) x.h0
  have t0 : ∀ v : Int, Q (0, v) (0, v) (am_t0 h) := fun v => fin v _ MS.t0.xs
  refine eX11_plan (bX11_plan_0 (kX11_within (d := d + 22) (fun z => ⟨fun q => absurd rfl q, fun _ => ?_⟩) (fun z => ⟨fun _ => bX11_plan_13 ⟨fun z0 => bX11_plan_25 ⟨fun z1 => bX11_plan_40 ⟨by omega, ?_⟩, fun z1 => ?_⟩, fun z0 => ?_⟩, fun q => absurd (by decide) q⟩)))
  · exact kX12_plan (d := d + 20) hZ (fun _ => t0 _) (fun q => by omega) (fun q => by omega) (fun q => by omega) (fun q => absurd q z) (fun q => absurd q z)
  · refine kX10_fieldInPlace (d := d + 18) hY (fun z2 => bX11_plan_50 ?_) (fun z2 g S f fr t sq fb => bX11_plan_50 ?_)
    · exact kX12_plan (d := d + 20) hZ (fun q => absurd z q) (fun q => by omega) (fun q => by omega) (fun q => by omega) (fun _ _ _ _ g ms => fin _ g ms.xs) (fun _ _ _ q => absurd (by omega) z2)
    · have cs : CS h g := CS.of fr (by decide)
      have y2 : yM g = yM h := by unfold yM; rw [fr 59 (by decide), fr 69 (by decide), fr 70 (by decide)]
      have z2' : am_okZ g := by unfold am_okZ; rw [fr 59 (by decide), fr 69 (by decide), fr 70 (by decide)]; exact hZ
      have g19 : g 59 19 = h 59 19 := by rw [fr 59 (by decide)]
      refine kX12_plan (d := d + 20) z2' (fun q => absurd z q) (fun q => by omega) (fun q => by omega) (fun q => by omega) (fun _ _ _ q => by rw [g19] at q; omega) (fun _ _ _ _ g2 S' f' ms t' sq' fb' => ?_)
      rw [y2] at t' sq' fb'
      have ob := (yM h).tab_uniq (yM_ok hZ) ((yC h).tab_eqv e t) t'
      have s1 := (yM h).sq_congr (yM_ok hZ) ob ((yC h).sq_eqv e sq)
      have s2 := (yM h).fb_congr (yM_ok hZ) ((yM h).sq_bnd (yM_ok hZ) s1).1 ob ((yC h).fb_eqv e fb)
      have es := (yM h).sq_uniq s1 sq'
      subst es
      rw [(yM h).fb_uniq s2 fb']
      exact fin _ g2 (cs.xs.tr ms.xs)
  · have x1 : x = 1 := Classical.not_not.mp z1
    refine kX10_lastSeason (d := d + 20) hY (fun z2 => bX11_plan_50 ?_) (fun z2 => bX11_plan_50 ?_)
    · exact kX12_plan (d := d + 20) hZ (fun q => absurd z q) (fun _ _ => t0 _) (fun _ q => by omega) (fun q => by omega) (fun _ _ q => absurd x1 q) (fun _ _ q => absurd x1 q)
    · refine kX12_plan (d := d + 20) hZ (fun q => absurd z q) (fun _ q => by omega) (fun _ _ => ?_) (fun q => by omega) (fun _ _ q => absurd x1 q) (fun _ _ q => absurd x1 q)
      have : ST (h 56) (yC h).F (2 ^ (yC h).F - 1) = ST (h 69) (yM h).F (2 ^ (yM h).F - 1) := by
        rw [e.F]
        refine ST_congr (by have := o.F8; rw [e.F] at this; omega) (fun j hj => ?_)
        exact l.s j (by have : j < (h 59 19).toNat := hj; omega)
      rw [this, l.c]
      exact t0 _
  · have x0 : x = 0 := Classical.not_not.mp z0
    refine kX10_bestSum (d := d + 19) hY (fun g fr t => ?_)
    have cs : CS h g := CS.of fr (by decide)
    have y2 : yM g = yM h := by unfold yM; rw [fr 59 (by decide), fr 69 (by decide), fr 70 (by decide)]
    have z2' : am_okZ g := by unfold am_okZ; rw [fr 59 (by decide), fr 69 (by decide), fr 70 (by decide)]; exact hZ
    refine kX12_plan (d := d + 20) z2' (fun q => absurd z q) (fun q => by omega) (fun q => by omega) (fun _ g2 ms t' => ?_) (fun _ q => absurd x0 q) (fun _ q => absurd x0 q)
    rw [y2] at t'
    have ob := (yM h).tab_uniq (yM_ok hZ) ((yC h).tab_eqv e t) t' 0 (Nat.two_pow_pos _)
    dsimp only
    rw [ob]
    exact fin _ g2 (cs.xs.tr ms.xs)
end
