/-! chc3: the class reads proofs; written by q_chc3.py -/
noncomputable def tst1 (s : Nat → Int) (n : Nat) (c : Cs) : Rs := by classical exact (if 7 ≤ wd s c then
    (if ¬ c.pr (6 * c.np + 1 + tst s c) = -1 then .bad 3 c.t.fr
    else if tst s c = 1 ∨ tst s c = 2 then .ok (setpr (adv s n c) (up c.pr (6 * c.np + 1 + tst s c) 0))
    else if ¬ (adv s n c).t.k = 2 then .bad 1 (adv s n c).t.fr
    else if ¬ (ltv (tst s c) ≤ nmv s (adv s n c) ∧ nmv s (adv s n c) ≤ htv (tst s c)) then .bad 2 (adv s n c).t.fr
    else .ok (setpr (adv s n (adv s n c)) (up c.pr (6 * c.np + 1 + tst s c) (nmv s (adv s n c)))))
  else .bad 1 c.t.fr)
theorem tests_bad {s : Nat → Int} {n f : Nat} {c : Cs} {any : Bool} {w : Int} {p : Nat} (h7 : 7 ≤ wd s c) (h : tst1 s n c = .bad w p) : tests s n (f + 1) c any = .bad w p := by
  unfold tst1 at h
  simp only [tests]
  rw [if_pos h7] at h ⊢
  split at h
  · rename_i a; rw [if_pos a]; exact h
  · rename_i a
    rw [if_neg a]
    split at h
    · exact absurd h (by simp)
    · rename_i b
      rw [if_neg b]
      split at h
      · rename_i e; rw [if_pos e]; exact h
      · rename_i e
        rw [if_neg e]
        split at h
        · rename_i q; rw [if_pos q]; exact h
        · exact absurd h (by simp)
theorem tests_ok {s : Nat → Int} {n f : Nat} {c c' : Cs} {any : Bool} (h : tst1 s n c = .ok c') : tests s n (f + 1) c any = tests s n f c' true := by
  unfold tst1 at h
  simp only [tests]
  split at h
  · rename_i h7
    rw [if_pos h7]
    split at h
    · exact absurd h (by simp)
    · rename_i a
      rw [if_neg a]
      split at h
      · rename_i b; rw [if_pos b]; injection h with h; rw [h]
      · rename_i b
        rw [if_neg b]
        split at h
        · exact absurd h (by simp)
        · rename_i e
          rw [if_neg e]
          split at h
          · exact absurd h (by simp)
          · rename_i q; rw [if_neg q]; injection h with h; rw [h]
  · exact absurd h (by simp)
theorem tst1_7 {s : Nat → Int} {n : Nat} {c : Cs} (h7 : ¬ 7 ≤ wd s c) : tst1 s n c = .bad 1 c.t.fr := by unfold tst1; rw [if_neg h7]
theorem word_all : ∀ w : Fin 12, (am_word w.val 0 = 3 ↔ 7 ≤ w.val) ∧ (7 ≤ w.val → am_word w.val 1 = ((w.val - 7 : Nat) : Int) ∧ (am_word w.val 3 = 0 ↔ (w.val = 8 ∨ w.val = 9)) ∧ (¬ (w.val = 8 ∨ w.val = 9) → am_word w.val 2 = ltv (w.val - 7) ∧ am_word w.val 3 = htv (w.val - 7))) ∧ (am_word w.val 0 = 0 ↔ w.val ≤ 1) ∧ (w.val ≤ 1 → am_word w.val 1 = (w.val : Nat)) ∧ (am_word w.val 0 = 1 ↔ (2 ≤ w.val ∧ w.val ≤ 5)) ∧ ((2 ≤ w.val ∧ w.val ≤ 5) → am_word w.val 1 = ((w.val - 2 : Nat) : Int) ∧ am_word w.val 2 = lsv (w.val - 2) ∧ am_word w.val 3 = hsv (w.val - 2)) := by decide
section
variable {L : Nat} {xs : Nat → Int} {P : Nat → List am_V → am_H → am_K → Prop} {d : Nat} {h : am_H} {K : am_K} {s : Nat → Int} {n m : Nat} {c : Cs}
theorem kX0_openProof_0 {x : Int} {np : Nat} (hx : 0 ≤ x ∧ x ≤ 1) (h5 : h 5 5 = np) (hn : np < 12) (H : ∀ g, Fr [5, 7, 8, 9] h g → (∀ j, ¬ j = 5 → g 5 j = h 5 j) → g 5 5 = (np + 1 : Nat) → (∀ j, g 7 j = if j = np then x else h 7 j) → (∀ j, g 9 j = if j = np then -1 else h 9 j) → (∀ j, g 8 j = if np * 4 ≤ j ∧ j < np * 4 + 4 then 0 else h 8 j) → K (9, 0) g) : am_C true L xs P (d + 1) 2 [(2, 5), (0, x)] h K := by
  refine eX0_openProof_0 (bX0_openProof_0_0 ⟨fun z => bX0_openProof_10_0 ?_, fun z => absurd (by omega) z⟩)
  rw [h5, Int.toNat_natCast]
  refine ⟨⟨by omega, by omega, hx.1, hx.2⟩, by omega, ?_⟩
  generalize hg1 : am_st (am_st h 7 np x) 9 np (-1) = g1
  have v2 : ∀ j, g1 7 j = if j = np then x else h 7 j := fun j => by rw [← hg1, st_ne (by decide), st_ap]
  have v4 : ∀ j, g1 9 j = if j = np then -1 else h 9 j := fun j => by rw [← hg1, st_ap, st_ne (by decide)]
  have f1 : Fr [5, 7, 8, 9] h g1 := by rw [← hg1]; exact (Fr.rf.st (by decide)).st (by decide)
  have vD : g1 5 = h 5 := by rw [← hg1, st_ne (by decide), st_ne (by decide)]
  have v3 : g1 8 = h 8 := by rw [← hg1, st_ne (by decide), st_ne (by decide)]
  refine upto (σ := am_H) (N := 4) (I := fun i g => Fr [8] g1 g ∧ Fr [5, 7, 8, 9] h g ∧ ∀ j, g 8 j = if np * 4 ≤ j ∧ j < np * 4 + i then 0 else h 8 j) (G := fun i g => tX0_openProof (h 0 0 + (0 : Nat)) L xs (am_C true L xs P d) K 32 [(2, 5), (0, x), (0, (i : Int))] [] g) ?_ ?_ 4 0 g1 (by omega) ⟨Fr.rf, f1, fun j => by rw [if_neg (by omega), v3]⟩
  · intro i g hi ⟨a1, a2, a3⟩ ih
    have eD : g 5 = h 5 := by rw [a1 5 (by decide), vD]
    refine bX0_openProof_32_0 ⟨fun z => by omega, fun _ => ?_⟩
    rw [eD, h5, show Int.toNat ((np : Int) * 4 + (i : Int)) = np * 4 + i by omega]
    refine ⟨⟨by omega, by omega⟩, ⟨by omega, by omega⟩, by omega, by omega, ih _ ⟨a1.st (by decide), a2.st (by decide), fun j => ?_⟩⟩
    rw [st_ap, a3 j]
    by_cases e : j = np * 4 + i
    · rw [if_pos e, if_pos (by omega)]
    · rw [if_neg e]
      by_cases e2 : np * 4 ≤ j ∧ j < np * 4 + i
      · rw [if_pos e2, if_pos (by omega)]
      · rw [if_neg e2, if_neg (by omega)]
  · intro g ⟨a1, a2, a3⟩
    have eD : g 5 = h 5 := by rw [a1 5 (by decide), vD]
    refine bX0_openProof_32_0 ⟨fun _ => bX0_openProof_57_0 ?_, fun z => absurd (by decide) z⟩
    rw [eD, h5]
    refine ⟨by omega, H _ (a2.st (by decide)) (fun j hj => by rw [st_nj hj, eD]) (by rw [st_at]; omega) (fun j => by rw [st_ne (by decide), a1 7 (by decide)]; exact v2 j) (fun j => by rw [st_ne (by decide), a1 9 (by decide)]; exact v4 j) (fun j => by rw [st_ne (by decide)]; exact a3 j)⟩
theorem kX0_addTest_0 {t np : Nat} {v : Int} (ht : t ≤ 4) (h5 : h 5 5 = (np + 1 : Nat)) (hn : np < 12) (H : K (9, 0) (if t = 4 then am_st h 9 np v else am_st h 8 (np * 4 + t) v)) : am_C true L xs P (d + 1) 3 [(2, 5), (0, (t : Int)), (0, v)] h K := by
  refine eX0_addTest_0 (bX0_addTest_0_0 ?_)
  rw [h5, show ((np + 1 : Nat) : Int) - 1 = (np : Int) by omega]
  refine ⟨by omega, fun _ => bX0_addTest_12_0 ⟨fun z => bX0_addTest_27_0 ?_, fun z => ⟨by omega, bX0_addTest_38_0 ?_⟩⟩, fun z => by omega⟩
  · rw [show Int.toNat ((np : Int) * 4 + (t : Int)) = np * 4 + t by omega]
    rw [if_neg (by omega)] at H
    exact ⟨⟨by omega, by omega⟩, ⟨by omega, by omega⟩, by omega, bX0_addTest_38_0 H⟩
  · rw [if_pos (by omega)] at H
    rw [Int.toNat_natCast]; exact H
theorem Cr_open_0 {g : am_H} {w x : Int} (r : Cr s n 5 c.np c h) (hx : x = 1 ↔ w = 1) (fr : Fr [5, 7, 8, 9] h g) (oD : ∀ j, ¬ j = 5 → g 5 j = h 5 j) (e5 : g 5 5 = (c.np + 1 : Nat)) (e2 : ∀ j, g 7 j = if j = c.np then x else h 7 j) (e4 : ∀ j, g 9 j = if j = c.np then -1 else h 9 j) (e3 : ∀ j, g 8 j = if c.np * 4 ≤ j ∧ j < c.np * 4 + 4 then 0 else h 8 j) : Cr s n 5 (c.np + 1) (setpr c (row0 c.pr c.np w)) g := by
  have o4 : g 4 = h 4 := fr 4 (by decide)
  have es : sgn g = sgn h := by funext j; unfold sgn; rw [fr 3 (by decide)]
  refine ⟨by rw [es]; exact r.s3, by rw [o4]; exact r.ln, by rw [o4]; exact r.k, by rw [o4]; exact r.fr, by rw [o4]; exact r.to, by rw [o4]; exact r.f0, by rw [o4]; exact r.dr, e5, fun l hl => ?_, fun k hk => by rw [fr (5 + 1) (by decide)]; exact r.se k hk, by rw [o4]; exact r.td, by rw [oD 6 (by decide)]; exact r.nq, fun k hk => by rw [fr (5 + 5) (by decide)]; exact r.br k hk⟩
  show PQ g 5 (row0 c.pr c.np w) l
  by_cases e : l = c.np
  · have p0 : row0 c.pr c.np w (6 * l) = w := by unfold row0; rw [if_pos (by omega)]
    have pn : ∀ j, 1 ≤ j → j < 6 → row0 c.pr c.np w (6 * l + j) = -1 := fun j h1 h2 => by unfold row0; rw [if_neg (by omega), if_pos (by omega)]
    have z3 : ∀ q, q < 4 → g 8 (l * 4 + q) = 0 := fun q hq => by rw [e3, if_pos (by omega)]
    have d1 : ∀ y : Int, dz (-1) y = 0 := fun y => by unfold dz; rw [if_pos rfl]
    refine ⟨?_, ?_, ?_, ?_, ?_, ?_⟩
    · show g 7 l = 1 ↔ _
      rw [e2, if_pos e, p0]; exact hx
    · show g 9 l = _
      rw [e4, if_pos e, pn 5 (by decide) (by decide)]
    · show g 8 (l * 4 + 0) = _
      rw [z3 0 (by decide), pn 1 (by decide) (by decide), d1]
    · show g 8 (l * 4 + 1) = _
      rw [z3 1 (by decide), pn 2 (by decide) (by decide), d1]
    · show g 8 (l * 4 + 2) = _
      rw [z3 2 (by decide), pn 3 (by decide) (by decide), d1]
    · show g 8 (l * 4 + 3) = _
      rw [z3 3 (by decide), pn 4 (by decide) (by decide), d1]
  · obtain ⟨x1, x2, x3, x4, x5, x6⟩ := r.pl l (by omega)
    have pn : ∀ j, j < 6 → row0 c.pr c.np w (6 * l + j) = c.pr (6 * l + j) := fun j h2 => by unfold row0; rw [if_neg (by omega), if_neg (by omega)]
    have z3 : ∀ q, q < 4 → g 8 (l * 4 + q) = h 8 (l * 4 + q) := fun q hq => by rw [e3, if_neg (by omega)]
    refine ⟨?_, ?_, ?_, ?_, ?_, ?_⟩
    · show g 7 l = 1 ↔ row0 c.pr c.np w (6 * l + 0) = 1
      rw [e2, if_neg e, pn 0 (by decide)]; exact x1
    · show g 9 l = _
      rw [e4, if_neg e, pn 5 (by decide)]; exact x2
    · show g 8 (l * 4 + 0) = _
      rw [z3 0 (by decide), pn 1 (by decide)]; exact x3
    · show g 8 (l * 4 + 1) = _
      rw [z3 1 (by decide), pn 2 (by decide)]; exact x4
    · show g 8 (l * 4 + 2) = _
      rw [z3 2 (by decide), pn 3 (by decide)]; exact x5
    · show g 8 (l * 4 + 3) = _
      rw [z3 3 (by decide), pn 4 (by decide)]; exact x6
theorem Cr_test_0 {t : Nat} {v v' : Int} (ht : t ≤ 4) (r : Cr s n 5 (c.np + 1) c h) (hv : ((t = 1 ∨ t = 2) → v = 1 ∧ v' = 0) ∧ (¬ (t = 1 ∨ t = 2) → v = v' ∧ 0 ≤ v')) : Cr s n 5 (c.np + 1) (setpr c (up c.pr (6 * c.np + 1 + t) v')) (if t = 4 then am_st h 9 c.np v else am_st h 8 (c.np * 4 + t) v) := by
  generalize hg : (if t = 4 then am_st h 9 c.np v else am_st h 8 (c.np * 4 + t) v) = g
  have fr : Fr [8, 9] h g := by
    rw [← hg]
    split
    · exact Fr.rf.st (by decide)
    · exact Fr.rf.st (by decide)
  have e3 : ∀ j, g 8 j = if ¬ t = 4 ∧ j = c.np * 4 + t then v else h 8 j := by
    intro j
    rw [← hg]
    by_cases e : t = 4
    · rw [if_pos e, if_neg (fun q => q.1 e), st_ne (by decide)]
    · rw [if_neg e, st_ap]
      by_cases ej : j = c.np * 4 + t
      · rw [if_pos ej, if_pos ⟨e, ej⟩]
      · rw [if_neg ej, if_neg (fun q => ej q.2)]
  have e4 : ∀ j, g 9 j = if t = 4 ∧ j = c.np then v else h 9 j := by
    intro j
    rw [← hg]
    by_cases e : t = 4
    · rw [if_pos e, st_ap]
      by_cases ej : j = c.np
      · rw [if_pos ej, if_pos ⟨e, ej⟩]
      · rw [if_neg ej, if_neg (fun q => ej q.2)]
    · rw [if_neg e, if_neg (fun q => e q.1), st_ne (by decide)]
  have o4 : g 4 = h 4 := fr 4 (by decide)
  have es : sgn g = sgn h := by funext j; unfold sgn; rw [fr 3 (by decide)]
  refine ⟨by rw [es]; exact r.s3, by rw [o4]; exact r.ln, by rw [o4]; exact r.k, by rw [o4]; exact r.fr, by rw [o4]; exact r.to, by rw [o4]; exact r.f0, by rw [o4]; exact r.dr, by rw [fr 5 (by decide)]; exact r.np, fun l hl => ?_, fun k hk => by rw [fr (5 + 1) (by decide)]; exact r.se k hk, by rw [o4]; exact r.td, by rw [fr 5 (by decide)]; exact r.nq, fun k hk => by rw [fr (5 + 5) (by decide)]; exact r.br k hk⟩
  show PQ g 5 (up c.pr (6 * c.np + 1 + t) v') l
  obtain ⟨x1, x2, x3, x4, x5, x6⟩ := r.pl l hl
  have pn : ∀ j, j < 6 → ¬ (l = c.np ∧ j = t + 1) → up c.pr (6 * c.np + 1 + t) v' (6 * l + j) = c.pr (6 * l + j) := fun j h1 h2 => up_ne (by omega)
  have py : ∀ j, j = t + 1 → l = c.np → up c.pr (6 * c.np + 1 + t) v' (6 * l + j) = v' := fun j h1 h2 => by
    rw [show 6 * l + j = 6 * c.np + 1 + t by omega, up_at]
  have z3 : ∀ q, q < 4 → ¬ (l = c.np ∧ q = t) → g 8 (l * 4 + q) = h 8 (l * 4 + q) := fun q hq hn => by rw [e3, if_neg (by omega)]
  have y3 : ∀ q, q < 4 → q = t → l = c.np → g 8 (l * 4 + q) = v := fun q hq h1 h2 => by rw [e3, if_pos (by omega)]
  have dpos : ∀ y : Int, 0 ≤ y → ∀ u : Int, dz y u = u := fun y hy u => by unfold dz; rw [if_neg (by omega)]
  refine ⟨?_, ?_, ?_, ?_, ?_, ?_⟩
  · show g 7 l = 1 ↔ up c.pr (6 * c.np + 1 + t) v' (6 * l + 0) = 1
    rw [fr 7 (by decide), pn 0 (by decide) (by omega)]; exact x1
  · show g 9 l = _
    by_cases e : l = c.np ∧ 5 = t + 1
    · have hv2 := hv.2 (by omega)
      rw [e4, if_pos (by omega), py 5 e.2 e.1]; exact hv2.1
    · rw [e4, if_neg (by omega), pn 5 (by decide) e]; exact x2
  · show g 8 (l * 4 + 0) = _
    by_cases e : l = c.np ∧ 1 = t + 1
    · have hv2 := hv.2 (by omega)
      rw [y3 0 (by decide) (by omega) e.1, py 1 e.2 e.1, dpos _ hv2.2]; exact hv2.1
    · rw [z3 0 (by decide) (by omega), pn 1 (by decide) e]; exact x3
  · show g 8 (l * 4 + 1) = _
    by_cases e : l = c.np ∧ 2 = t + 1
    · have hv1 := hv.1 (by omega)
      rw [y3 1 (by decide) (by omega) e.1, py 2 e.2 e.1, dpos _ (by omega)]; exact hv1.1
    · rw [z3 1 (by decide) (by omega), pn 2 (by decide) e]; exact x4
  · show g 8 (l * 4 + 2) = _
    by_cases e : l = c.np ∧ 3 = t + 1
    · have hv1 := hv.1 (by omega)
      rw [y3 2 (by decide) (by omega) e.1, py 3 e.2 e.1, dpos _ (by omega)]; exact hv1.1
    · rw [z3 2 (by decide) (by omega), pn 3 (by decide) e]; exact x5
  · show g 8 (l * 4 + 3) = _
    by_cases e : l = c.np ∧ 4 = t + 1
    · have hv2 := hv.2 (by omega)
      rw [y3 3 (by decide) (by omega) e.1, py 4 e.2 e.1, dpos _ hv2.2]; exact hv2.1
    · rw [z3 3 (by decide) (by omega), pn 4 (by decide) e]; exact x6
theorem kX1_parseTest_0 {x : Int} (hP : LWP P) (r : Cr s n 5 (c.np + 1) c h) (w : Cw s n c) (hnp : c.np ≤ 11) (hn : n ≤ 400) (hx : ∀ t, t < 5 → (bt x t = true ↔ ¬ c.pr (6 * c.np + 1 + t) = -1)) (Hbad : ∀ w' p g v, tst1 s n c = .bad w' p → Cb n 5 h w' p g → K (0, v) g) (Hok : ∀ c' g v, tst1 s n c = .ok c' → Fdr 5 h g → Cr s n 5 (c.np + 1) c' g → (∀ t, t < 5 → (bt v t = true ↔ ¬ c'.pr (6 * c.np + 1 + t) = -1)) → K (0, v) g) : am_C true L xs P (d + 5) 12 [(2, 4), (0, x)] h K := by
  have wb := wd_bnd (s := s) (c := c)
  refine eX1_parseTest (bX1_parseTest_0 (kX1_lw (d := d + 3) hP r w hn (fun h0 => ?_) (fun h0 => ?_)))
  · refine bX1_parseTest_4_0 ⟨fun _ => bX1_parseTest_17_0 (kX1_ref (d := d + 3) r w (by decide) (fun g b => Hbad 1 _ g _ (tst1_7 (by omega)) b)), fun q => absurd rfl q⟩
  · obtain ⟨wi, hwi⟩ : ∃ wi : Nat, wd s c = wi := ⟨(wd s c).toNat, by omega⟩
    obtain ⟨wa0, wa1, _⟩ := word_all ⟨wi, by omega⟩
    dsimp only at wa0 wa1
    rw [hwi]
    refine bX1_parseTest_4_1 ⟨fun q => by injection q with q1 q2; exact absurd q1 (by decide), fun _ => ?_⟩
    rw [Int.toNat_natCast]
    refine ⟨fun q => bX1_parseTest_24_1 ?_, fun q => bX1_parseTest_17_1 (kX1_ref (d := d + 3) r w (by decide) (fun g b => Hbad 1 _ g _ (tst1_7 (fun y => q (wa0.mpr (by omega)))) b))⟩
    have h7 : 7 ≤ wi := wa0.mp q
    have h7' : 7 ≤ wd s c := by omega
    obtain ⟨sl, hz, lh⟩ := wa1 h7
    have et : tst s c = wi - 7 := by unfold tst; omega
    rw [Int.toNat_natCast, sl, ← et]
    have t4 : tst s c ≤ 4 := by omega
    have wA := w.adv
    refine kBit (d := d + 3) (by omega) (fun gb => ?_) (fun gb => ?_)
    · have nd' : c.pr (6 * c.np + 1 + tst s c) = -1 := by
        apply Classical.byContradiction
        intro y
        have := (hx (tst s c) (by omega)).mpr y
        rw [gb] at this; exact absurd this (by decide)
      refine ⟨fun _ => bX1_parseTest_42_1 (kX1_adv (d := d + 1) (by decide) r w hn (fun g1 f1 r1 => ?_)), fun y => absurd rfl y⟩
      -- the test is added
      have add : ∀ (c2 : Cs) (g2 : am_H) (v v' : Int), c2.np = c.np → c2.pr = c.pr → Fdr 5 h g2 → Cr s n 5 (c2.np + 1) c2 g2 → (((tst s c = 1 ∨ tst s c = 2) → v = 1 ∧ v' = 0) ∧ (¬ (tst s c = 1 ∨ tst s c = 2) → v = v' ∧ 0 ≤ v')) → tst1 s n c = .ok (setpr c2 (up c.pr (6 * c.np + 1 + tst s c) v')) → tX1_parseTest (h 0 0 + (0 : Nat)) L xs (am_C true L xs P (d + 4)) K 65 [(2, 4), (0, x), (4, (wi : Int)), (0, v)] [] g2 := by
        intro c2 g2 v v' enp epr f2 r2 hv ht1
        refine bX1_parseTest_65_1 ?_
        rw [r2.dr]
        refine bX1_parseTest_69_2 ?_
        rw [Int.toNat_natCast, sl, ← et, Int.toNat_natCast]
        refine kX0_addTest_0 (d := d + 3) (np := c2.np) t4 r2.np (by omega) ?_
        refine ⟨⟨by omega, by omega, by omega, inI_p2 (by omega)⟩, Hok _ _ _ ht1 ?_ ?_ (fun t ht => ?_)⟩
        · refine f2.tr ?_
          split
          · exact Fdr.rf.stD (by decide) (by decide)
          · exact Fdr.rf.stD (by decide) (by decide)
        · have := Cr_test_0 (c := c2) t4 r2 hv
          rw [epr, enp] at this
          rw [enp]; exact this
        · rw [bt_or, Bool.or_eq_true, hx t ht, bt_p2' t (by omega), decide_eq_true_eq]
          show _ ↔ ¬ up c.pr (6 * c.np + 1 + tst s c) v' (6 * c.np + 1 + t) = -1
          by_cases e : t = tst s c
          · rw [e, up_at]
            refine ⟨fun _ => ?_, fun _ => Or.inr rfl⟩
            by_cases e2 : tst s c = 1 ∨ tst s c = 2
            · have := (hv.1 e2).2; omega
            · have := (hv.2 e2).2; omega
          · rw [up_ne (by omega)]
            exact ⟨fun y => y.resolve_right e, fun y => Or.inl y⟩
      have bad65 : ∀ {w' : Int} {p : Nat} {g2 : am_H} {v : Int}, tst1 s n c = .bad w' p → Cb n 5 h w' p g2 → g2 5 5 = (c.np + 1 : Nat) → tX1_parseTest (h 0 0 + (0 : Nat)) L xs (am_C true L xs P (d + 4)) K 65 [(2, 4), (0, x), (4, (wi : Int)), (0, v)] [] g2 := by
        intro w' p g2 v hb b e5
        refine bX1_parseTest_65_1 ?_
        rw [(b.fd.2 2 (by decide)).trans r.dr]
        refine bX1_parseTest_69_2 ?_
        rw [Int.toNat_natCast, sl, ← et, Int.toNat_natCast]
        refine kX0_addTest_0 (d := d + 3) (np := c.np) t4 e5 (by omega) ?_
        refine ⟨⟨by omega, by omega, by omega, inI_p2 (by omega)⟩, Hbad _ _ _ _ hb ?_⟩
        have o4 : (if tst s c = 4 then am_st g2 9 c.np v else am_st g2 8 (c.np * 4 + tst s c) v) 4 = g2 4 := by
          split
          · exact st_ne (by decide)
          · exact st_ne (by decide)
        have f3 : Fdr 5 g2 (if tst s c = 4 then am_st g2 9 c.np v else am_st g2 8 (c.np * 4 + tst s c) v) := by
          split
          · exact Fdr.rf.stD (by decide) (by decide)
          · exact Fdr.rf.stD (by decide) (by decide)
        exact ⟨b.fd.tr f3, by rw [o4]; exact b.ew, by rw [o4]; exact b.ep, by rw [o4]; exact b.ln, by rw [o4]; exact b.to, b.nz⟩
      rw [Int.toNat_natCast]
      refine ⟨fun y => ?_, fun y => ?_⟩
      · have h12 : tst s c = 1 ∨ tst s c = 2 := by
          by_cases q8 : wi = 8 ∨ wi = 9
          · omega
          · have l3 := (lh q8).2
            have h1 : 1 ≤ htv (wi - 7) := by unfold htv; split <;> (try split) <;> decide
            omega
        refine add (adv s n c) g1 1 0 rfl rfl f1 r1 ⟨fun _ => ⟨rfl, rfl⟩, fun q => absurd h12 q⟩ ?_
        unfold tst1; rw [if_pos h7', if_neg (fun q => q nd'), if_pos h12]
      · have n12 : ¬ (wi = 8 ∨ wi = 9) := fun q => y (by rw [hz.mpr q]; decide)
        have n12' : ¬ (tst s c = 1 ∨ tst s c = 2) := by omega
        obtain ⟨l2, l3⟩ := lh n12
        rw [← et] at l2 l3
        have h9 : htv (tst s c) ≤ 999 := by unfold htv; split <;> (try split) <;> decide
        have l0 : 0 ≤ ltv (tst s c) := by unfold ltv; split <;> decide
        refine kX1_numberBehind (d := d) (D := 5) l2 l3 h9 r1 wA.1 hn (fun k2 g b o => ?_) (fun k2 nr g v b o => ?_) (fun k2 yr => ?_)
        · -- not a number
          have hb : tst1 s n c = .bad 1 (adv s n c).t.fr := by unfold tst1; rw [if_pos h7', if_neg (fun q => q nd'), if_neg n12', if_pos k2]
          exact kX1_advbx (d := d + 1) b hn (fun g2 b2 o2 => bad65 hb (b2.fr f1) (by rw [o2 5 (by decide), o 5 (by decide)]; exact r1.np))
        · have hb : tst1 s n c = .bad 2 (adv s n c).t.fr := by unfold tst1; rw [if_pos h7', if_neg (fun q => q nd'), if_neg n12', if_neg (fun q => q k2), if_pos nr]
          exact kX1_advbx (d := d + 1) b hn (fun g2 b2 o2 => bad65 hb (b2.fr f1) (by rw [o2 5 (by decide), o 5 (by decide)]; exact r1.np))
        · refine kX1_adv (d := d + 1) (by decide) r1 wA.1 hn (fun g f3 r3 => ?_)
          refine add (adv s n (adv s n c)) g _ (nmv s (adv s n c)) rfl rfl (f1.tr f3) r3 ⟨fun q => absurd q n12', fun _ => ⟨rfl, by omega⟩⟩ ?_
          unfold tst1; rw [if_pos h7', if_neg (fun q => q nd'), if_neg n12', if_neg (fun q => q k2), if_neg (fun q => q yr)]
    · have nd' : ¬ c.pr (6 * c.np + 1 + tst s c) = -1 := (hx (tst s c) (by omega)).mp gb
      refine ⟨fun y => absurd y (by decide), fun _ => kX1_ref (d := d + 3) r w (by decide) (fun g b => Hbad 3 _ g _ ?_ b)⟩
      unfold tst1; rw [if_pos h7', if_pos nd']
theorem kX0_openProof_1 {x : Int} {np : Nat} (hx : 0 ≤ x ∧ x ≤ 1) (h5 : h 11 5 = np) (hn : np < 12) (H : ∀ g, Fr [11, 13, 14, 15] h g → (∀ j, ¬ j = 5 → g 11 j = h 11 j) → g 11 5 = (np + 1 : Nat) → (∀ j, g 13 j = if j = np then x else h 13 j) → (∀ j, g 15 j = if j = np then -1 else h 15 j) → (∀ j, g 14 j = if np * 4 ≤ j ∧ j < np * 4 + 4 then 0 else h 14 j) → K (9, 0) g) : am_C true L xs P (d + 1) 2 [(2, 11), (0, x)] h K := by
  refine eX0_openProof_1 (bX0_openProof_0_1 ⟨fun z => bX0_openProof_10_1 ?_, fun z => absurd (by omega) z⟩)
  rw [h5, Int.toNat_natCast]
  refine ⟨⟨by omega, by omega, hx.1, hx.2⟩, by omega, ?_⟩
  generalize hg1 : am_st (am_st h 13 np x) 15 np (-1) = g1
  have v2 : ∀ j, g1 13 j = if j = np then x else h 13 j := fun j => by rw [← hg1, st_ne (by decide), st_ap]
  have v4 : ∀ j, g1 15 j = if j = np then -1 else h 15 j := fun j => by rw [← hg1, st_ap, st_ne (by decide)]
  have f1 : Fr [11, 13, 14, 15] h g1 := by rw [← hg1]; exact (Fr.rf.st (by decide)).st (by decide)
  have vD : g1 11 = h 11 := by rw [← hg1, st_ne (by decide), st_ne (by decide)]
  have v3 : g1 14 = h 14 := by rw [← hg1, st_ne (by decide), st_ne (by decide)]
  refine upto (σ := am_H) (N := 4) (I := fun i g => Fr [14] g1 g ∧ Fr [11, 13, 14, 15] h g ∧ ∀ j, g 14 j = if np * 4 ≤ j ∧ j < np * 4 + i then 0 else h 14 j) (G := fun i g => tX0_openProof (h 0 0 + (0 : Nat)) L xs (am_C true L xs P d) K 32 [(2, 11), (0, x), (0, (i : Int))] [] g) ?_ ?_ 4 0 g1 (by omega) ⟨Fr.rf, f1, fun j => by rw [if_neg (by omega), v3]⟩
  · intro i g hi ⟨a1, a2, a3⟩ ih
    have eD : g 11 = h 11 := by rw [a1 11 (by decide), vD]
    refine bX0_openProof_32_1 ⟨fun z => by omega, fun _ => ?_⟩
    rw [eD, h5, show Int.toNat ((np : Int) * 4 + (i : Int)) = np * 4 + i by omega]
    refine ⟨⟨by omega, by omega⟩, ⟨by omega, by omega⟩, by omega, by omega, ih _ ⟨a1.st (by decide), a2.st (by decide), fun j => ?_⟩⟩
    rw [st_ap, a3 j]
    by_cases e : j = np * 4 + i
    · rw [if_pos e, if_pos (by omega)]
    · rw [if_neg e]
      by_cases e2 : np * 4 ≤ j ∧ j < np * 4 + i
      · rw [if_pos e2, if_pos (by omega)]
      · rw [if_neg e2, if_neg (by omega)]
  · intro g ⟨a1, a2, a3⟩
    have eD : g 11 = h 11 := by rw [a1 11 (by decide), vD]
    refine bX0_openProof_32_1 ⟨fun _ => bX0_openProof_57_1 ?_, fun z => absurd (by decide) z⟩
    rw [eD, h5]
    refine ⟨by omega, H _ (a2.st (by decide)) (fun j hj => by rw [st_nj hj, eD]) (by rw [st_at]; omega) (fun j => by rw [st_ne (by decide), a1 13 (by decide)]; exact v2 j) (fun j => by rw [st_ne (by decide), a1 15 (by decide)]; exact v4 j) (fun j => by rw [st_ne (by decide)]; exact a3 j)⟩
theorem kX0_addTest_1 {t np : Nat} {v : Int} (ht : t ≤ 4) (h5 : h 11 5 = (np + 1 : Nat)) (hn : np < 12) (H : K (9, 0) (if t = 4 then am_st h 15 np v else am_st h 14 (np * 4 + t) v)) : am_C true L xs P (d + 1) 3 [(2, 11), (0, (t : Int)), (0, v)] h K := by
  refine eX0_addTest_1 (bX0_addTest_0_1 ?_)
  rw [h5, show ((np + 1 : Nat) : Int) - 1 = (np : Int) by omega]
  refine ⟨by omega, fun _ => bX0_addTest_12_1 ⟨fun z => bX0_addTest_27_1 ?_, fun z => ⟨by omega, bX0_addTest_38_1 ?_⟩⟩, fun z => by omega⟩
  · rw [show Int.toNat ((np : Int) * 4 + (t : Int)) = np * 4 + t by omega]
    rw [if_neg (by omega)] at H
    exact ⟨⟨by omega, by omega⟩, ⟨by omega, by omega⟩, by omega, bX0_addTest_38_1 H⟩
  · rw [if_pos (by omega)] at H
    rw [Int.toNat_natCast]; exact H
theorem Cr_open_1 {g : am_H} {w x : Int} (r : Cr s n 11 c.np c h) (hx : x = 1 ↔ w = 1) (fr : Fr [11, 13, 14, 15] h g) (oD : ∀ j, ¬ j = 5 → g 11 j = h 11 j) (e5 : g 11 5 = (c.np + 1 : Nat)) (e2 : ∀ j, g 13 j = if j = c.np then x else h 13 j) (e4 : ∀ j, g 15 j = if j = c.np then -1 else h 15 j) (e3 : ∀ j, g 14 j = if c.np * 4 ≤ j ∧ j < c.np * 4 + 4 then 0 else h 14 j) : Cr s n 11 (c.np + 1) (setpr c (row0 c.pr c.np w)) g := by
  have o4 : g 4 = h 4 := fr 4 (by decide)
  have es : sgn g = sgn h := by funext j; unfold sgn; rw [fr 3 (by decide)]
  refine ⟨by rw [es]; exact r.s3, by rw [o4]; exact r.ln, by rw [o4]; exact r.k, by rw [o4]; exact r.fr, by rw [o4]; exact r.to, by rw [o4]; exact r.f0, by rw [o4]; exact r.dr, e5, fun l hl => ?_, fun k hk => by rw [fr (11 + 1) (by decide)]; exact r.se k hk, by rw [o4]; exact r.td, by rw [oD 6 (by decide)]; exact r.nq, fun k hk => by rw [fr (11 + 5) (by decide)]; exact r.br k hk⟩
  show PQ g 11 (row0 c.pr c.np w) l
  by_cases e : l = c.np
  · have p0 : row0 c.pr c.np w (6 * l) = w := by unfold row0; rw [if_pos (by omega)]
    have pn : ∀ j, 1 ≤ j → j < 6 → row0 c.pr c.np w (6 * l + j) = -1 := fun j h1 h2 => by unfold row0; rw [if_neg (by omega), if_pos (by omega)]
    have z3 : ∀ q, q < 4 → g 14 (l * 4 + q) = 0 := fun q hq => by rw [e3, if_pos (by omega)]
    have d1 : ∀ y : Int, dz (-1) y = 0 := fun y => by unfold dz; rw [if_pos rfl]
    refine ⟨?_, ?_, ?_, ?_, ?_, ?_⟩
    · show g 13 l = 1 ↔ _
      rw [e2, if_pos e, p0]; exact hx
    · show g 15 l = _
      rw [e4, if_pos e, pn 5 (by decide) (by decide)]
    · show g 14 (l * 4 + 0) = _
      rw [z3 0 (by decide), pn 1 (by decide) (by decide), d1]
    · show g 14 (l * 4 + 1) = _
      rw [z3 1 (by decide), pn 2 (by decide) (by decide), d1]
    · show g 14 (l * 4 + 2) = _
      rw [z3 2 (by decide), pn 3 (by decide) (by decide), d1]
    · show g 14 (l * 4 + 3) = _
      rw [z3 3 (by decide), pn 4 (by decide) (by decide), d1]
  · obtain ⟨x1, x2, x3, x4, x5, x6⟩ := r.pl l (by omega)
    have pn : ∀ j, j < 6 → row0 c.pr c.np w (6 * l + j) = c.pr (6 * l + j) := fun j h2 => by unfold row0; rw [if_neg (by omega), if_neg (by omega)]
    have z3 : ∀ q, q < 4 → g 14 (l * 4 + q) = h 14 (l * 4 + q) := fun q hq => by rw [e3, if_neg (by omega)]
    refine ⟨?_, ?_, ?_, ?_, ?_, ?_⟩
    · show g 13 l = 1 ↔ row0 c.pr c.np w (6 * l + 0) = 1
      rw [e2, if_neg e, pn 0 (by decide)]; exact x1
    · show g 15 l = _
      rw [e4, if_neg e, pn 5 (by decide)]; exact x2
    · show g 14 (l * 4 + 0) = _
      rw [z3 0 (by decide), pn 1 (by decide)]; exact x3
    · show g 14 (l * 4 + 1) = _
      rw [z3 1 (by decide), pn 2 (by decide)]; exact x4
    · show g 14 (l * 4 + 2) = _
      rw [z3 2 (by decide), pn 3 (by decide)]; exact x5
    · show g 14 (l * 4 + 3) = _
      rw [z3 3 (by decide), pn 4 (by decide)]; exact x6
theorem Cr_test_1 {t : Nat} {v v' : Int} (ht : t ≤ 4) (r : Cr s n 11 (c.np + 1) c h) (hv : ((t = 1 ∨ t = 2) → v = 1 ∧ v' = 0) ∧ (¬ (t = 1 ∨ t = 2) → v = v' ∧ 0 ≤ v')) : Cr s n 11 (c.np + 1) (setpr c (up c.pr (6 * c.np + 1 + t) v')) (if t = 4 then am_st h 15 c.np v else am_st h 14 (c.np * 4 + t) v) := by
  generalize hg : (if t = 4 then am_st h 15 c.np v else am_st h 14 (c.np * 4 + t) v) = g
  have fr : Fr [14, 15] h g := by
    rw [← hg]
    split
    · exact Fr.rf.st (by decide)
    · exact Fr.rf.st (by decide)
  have e3 : ∀ j, g 14 j = if ¬ t = 4 ∧ j = c.np * 4 + t then v else h 14 j := by
    intro j
    rw [← hg]
    by_cases e : t = 4
    · rw [if_pos e, if_neg (fun q => q.1 e), st_ne (by decide)]
    · rw [if_neg e, st_ap]
      by_cases ej : j = c.np * 4 + t
      · rw [if_pos ej, if_pos ⟨e, ej⟩]
      · rw [if_neg ej, if_neg (fun q => ej q.2)]
  have e4 : ∀ j, g 15 j = if t = 4 ∧ j = c.np then v else h 15 j := by
    intro j
    rw [← hg]
    by_cases e : t = 4
    · rw [if_pos e, st_ap]
      by_cases ej : j = c.np
      · rw [if_pos ej, if_pos ⟨e, ej⟩]
      · rw [if_neg ej, if_neg (fun q => ej q.2)]
    · rw [if_neg e, if_neg (fun q => e q.1), st_ne (by decide)]
  have o4 : g 4 = h 4 := fr 4 (by decide)
  have es : sgn g = sgn h := by funext j; unfold sgn; rw [fr 3 (by decide)]
  refine ⟨by rw [es]; exact r.s3, by rw [o4]; exact r.ln, by rw [o4]; exact r.k, by rw [o4]; exact r.fr, by rw [o4]; exact r.to, by rw [o4]; exact r.f0, by rw [o4]; exact r.dr, by rw [fr 11 (by decide)]; exact r.np, fun l hl => ?_, fun k hk => by rw [fr (11 + 1) (by decide)]; exact r.se k hk, by rw [o4]; exact r.td, by rw [fr 11 (by decide)]; exact r.nq, fun k hk => by rw [fr (11 + 5) (by decide)]; exact r.br k hk⟩
  show PQ g 11 (up c.pr (6 * c.np + 1 + t) v') l
  obtain ⟨x1, x2, x3, x4, x5, x6⟩ := r.pl l hl
  have pn : ∀ j, j < 6 → ¬ (l = c.np ∧ j = t + 1) → up c.pr (6 * c.np + 1 + t) v' (6 * l + j) = c.pr (6 * l + j) := fun j h1 h2 => up_ne (by omega)
  have py : ∀ j, j = t + 1 → l = c.np → up c.pr (6 * c.np + 1 + t) v' (6 * l + j) = v' := fun j h1 h2 => by
    rw [show 6 * l + j = 6 * c.np + 1 + t by omega, up_at]
  have z3 : ∀ q, q < 4 → ¬ (l = c.np ∧ q = t) → g 14 (l * 4 + q) = h 14 (l * 4 + q) := fun q hq hn => by rw [e3, if_neg (by omega)]
  have y3 : ∀ q, q < 4 → q = t → l = c.np → g 14 (l * 4 + q) = v := fun q hq h1 h2 => by rw [e3, if_pos (by omega)]
  have dpos : ∀ y : Int, 0 ≤ y → ∀ u : Int, dz y u = u := fun y hy u => by unfold dz; rw [if_neg (by omega)]
  refine ⟨?_, ?_, ?_, ?_, ?_, ?_⟩
  · show g 13 l = 1 ↔ up c.pr (6 * c.np + 1 + t) v' (6 * l + 0) = 1
    rw [fr 13 (by decide), pn 0 (by decide) (by omega)]; exact x1
  · show g 15 l = _
    by_cases e : l = c.np ∧ 5 = t + 1
    · have hv2 := hv.2 (by omega)
      rw [e4, if_pos (by omega), py 5 e.2 e.1]; exact hv2.1
    · rw [e4, if_neg (by omega), pn 5 (by decide) e]; exact x2
  · show g 14 (l * 4 + 0) = _
    by_cases e : l = c.np ∧ 1 = t + 1
    · have hv2 := hv.2 (by omega)
      rw [y3 0 (by decide) (by omega) e.1, py 1 e.2 e.1, dpos _ hv2.2]; exact hv2.1
    · rw [z3 0 (by decide) (by omega), pn 1 (by decide) e]; exact x3
  · show g 14 (l * 4 + 1) = _
    by_cases e : l = c.np ∧ 2 = t + 1
    · have hv1 := hv.1 (by omega)
      rw [y3 1 (by decide) (by omega) e.1, py 2 e.2 e.1, dpos _ (by omega)]; exact hv1.1
    · rw [z3 1 (by decide) (by omega), pn 2 (by decide) e]; exact x4
  · show g 14 (l * 4 + 2) = _
    by_cases e : l = c.np ∧ 3 = t + 1
    · have hv1 := hv.1 (by omega)
      rw [y3 2 (by decide) (by omega) e.1, py 3 e.2 e.1, dpos _ (by omega)]; exact hv1.1
    · rw [z3 2 (by decide) (by omega), pn 3 (by decide) e]; exact x5
  · show g 14 (l * 4 + 3) = _
    by_cases e : l = c.np ∧ 4 = t + 1
    · have hv2 := hv.2 (by omega)
      rw [y3 3 (by decide) (by omega) e.1, py 4 e.2 e.1, dpos _ hv2.2]; exact hv2.1
    · rw [z3 3 (by decide) (by omega), pn 4 (by decide) e]; exact x6
theorem kX1_parseTest_1 {x : Int} (hP : LWP P) (r : Cr s n 11 (c.np + 1) c h) (w : Cw s n c) (hnp : c.np ≤ 11) (hn : n ≤ 400) (hx : ∀ t, t < 5 → (bt x t = true ↔ ¬ c.pr (6 * c.np + 1 + t) = -1)) (Hbad : ∀ w' p g v, tst1 s n c = .bad w' p → Cb n 11 h w' p g → K (0, v) g) (Hok : ∀ c' g v, tst1 s n c = .ok c' → Fdr 11 h g → Cr s n 11 (c.np + 1) c' g → (∀ t, t < 5 → (bt v t = true ↔ ¬ c'.pr (6 * c.np + 1 + t) = -1)) → K (0, v) g) : am_C true L xs P (d + 5) 12 [(2, 4), (0, x)] h K := by
  have wb := wd_bnd (s := s) (c := c)
  refine eX1_parseTest (bX1_parseTest_0 (kX1_lw (d := d + 3) hP r w hn (fun h0 => ?_) (fun h0 => ?_)))
  · refine bX1_parseTest_4_0 ⟨fun _ => bX1_parseTest_17_0 (kX1_ref (d := d + 3) r w (by decide) (fun g b => Hbad 1 _ g _ (tst1_7 (by omega)) b)), fun q => absurd rfl q⟩
  · obtain ⟨wi, hwi⟩ : ∃ wi : Nat, wd s c = wi := ⟨(wd s c).toNat, by omega⟩
    obtain ⟨wa0, wa1, _⟩ := word_all ⟨wi, by omega⟩
    dsimp only at wa0 wa1
    rw [hwi]
    refine bX1_parseTest_4_1 ⟨fun q => by injection q with q1 q2; exact absurd q1 (by decide), fun _ => ?_⟩
    rw [Int.toNat_natCast]
    refine ⟨fun q => bX1_parseTest_24_1 ?_, fun q => bX1_parseTest_17_1 (kX1_ref (d := d + 3) r w (by decide) (fun g b => Hbad 1 _ g _ (tst1_7 (fun y => q (wa0.mpr (by omega)))) b))⟩
    have h7 : 7 ≤ wi := wa0.mp q
    have h7' : 7 ≤ wd s c := by omega
    obtain ⟨sl, hz, lh⟩ := wa1 h7
    have et : tst s c = wi - 7 := by unfold tst; omega
    rw [Int.toNat_natCast, sl, ← et]
    have t4 : tst s c ≤ 4 := by omega
    have wA := w.adv
    refine kBit (d := d + 3) (by omega) (fun gb => ?_) (fun gb => ?_)
    · have nd' : c.pr (6 * c.np + 1 + tst s c) = -1 := by
        apply Classical.byContradiction
        intro y
        have := (hx (tst s c) (by omega)).mpr y
        rw [gb] at this; exact absurd this (by decide)
      refine ⟨fun _ => bX1_parseTest_42_1 (kX1_adv (d := d + 1) (by decide) r w hn (fun g1 f1 r1 => ?_)), fun y => absurd rfl y⟩
      -- the test is added
      have add : ∀ (c2 : Cs) (g2 : am_H) (v v' : Int), c2.np = c.np → c2.pr = c.pr → Fdr 11 h g2 → Cr s n 11 (c2.np + 1) c2 g2 → (((tst s c = 1 ∨ tst s c = 2) → v = 1 ∧ v' = 0) ∧ (¬ (tst s c = 1 ∨ tst s c = 2) → v = v' ∧ 0 ≤ v')) → tst1 s n c = .ok (setpr c2 (up c.pr (6 * c.np + 1 + tst s c) v')) → tX1_parseTest (h 0 0 + (0 : Nat)) L xs (am_C true L xs P (d + 4)) K 65 [(2, 4), (0, x), (4, (wi : Int)), (0, v)] [] g2 := by
        intro c2 g2 v v' enp epr f2 r2 hv ht1
        refine bX1_parseTest_65_1 ?_
        rw [r2.dr]
        refine bX1_parseTest_69_3 ?_
        rw [Int.toNat_natCast, sl, ← et, Int.toNat_natCast]
        refine kX0_addTest_1 (d := d + 3) (np := c2.np) t4 r2.np (by omega) ?_
        refine ⟨⟨by omega, by omega, by omega, inI_p2 (by omega)⟩, Hok _ _ _ ht1 ?_ ?_ (fun t ht => ?_)⟩
        · refine f2.tr ?_
          split
          · exact Fdr.rf.stD (by decide) (by decide)
          · exact Fdr.rf.stD (by decide) (by decide)
        · have := Cr_test_1 (c := c2) t4 r2 hv
          rw [epr, enp] at this
          rw [enp]; exact this
        · rw [bt_or, Bool.or_eq_true, hx t ht, bt_p2' t (by omega), decide_eq_true_eq]
          show _ ↔ ¬ up c.pr (6 * c.np + 1 + tst s c) v' (6 * c.np + 1 + t) = -1
          by_cases e : t = tst s c
          · rw [e, up_at]
            refine ⟨fun _ => ?_, fun _ => Or.inr rfl⟩
            by_cases e2 : tst s c = 1 ∨ tst s c = 2
            · have := (hv.1 e2).2; omega
            · have := (hv.2 e2).2; omega
          · rw [up_ne (by omega)]
            exact ⟨fun y => y.resolve_right e, fun y => Or.inl y⟩
      have bad65 : ∀ {w' : Int} {p : Nat} {g2 : am_H} {v : Int}, tst1 s n c = .bad w' p → Cb n 11 h w' p g2 → g2 11 5 = (c.np + 1 : Nat) → tX1_parseTest (h 0 0 + (0 : Nat)) L xs (am_C true L xs P (d + 4)) K 65 [(2, 4), (0, x), (4, (wi : Int)), (0, v)] [] g2 := by
        intro w' p g2 v hb b e5
        refine bX1_parseTest_65_1 ?_
        rw [(b.fd.2 2 (by decide)).trans r.dr]
        refine bX1_parseTest_69_3 ?_
        rw [Int.toNat_natCast, sl, ← et, Int.toNat_natCast]
        refine kX0_addTest_1 (d := d + 3) (np := c.np) t4 e5 (by omega) ?_
        refine ⟨⟨by omega, by omega, by omega, inI_p2 (by omega)⟩, Hbad _ _ _ _ hb ?_⟩
        have o4 : (if tst s c = 4 then am_st g2 15 c.np v else am_st g2 14 (c.np * 4 + tst s c) v) 4 = g2 4 := by
          split
          · exact st_ne (by decide)
          · exact st_ne (by decide)
        have f3 : Fdr 11 g2 (if tst s c = 4 then am_st g2 15 c.np v else am_st g2 14 (c.np * 4 + tst s c) v) := by
          split
          · exact Fdr.rf.stD (by decide) (by decide)
          · exact Fdr.rf.stD (by decide) (by decide)
        exact ⟨b.fd.tr f3, by rw [o4]; exact b.ew, by rw [o4]; exact b.ep, by rw [o4]; exact b.ln, by rw [o4]; exact b.to, b.nz⟩
      rw [Int.toNat_natCast]
      refine ⟨fun y => ?_, fun y => ?_⟩
      · have h12 : tst s c = 1 ∨ tst s c = 2 := by
          by_cases q8 : wi = 8 ∨ wi = 9
          · omega
          · have l3 := (lh q8).2
            have h1 : 1 ≤ htv (wi - 7) := by unfold htv; split <;> (try split) <;> decide
            omega
        refine add (adv s n c) g1 1 0 rfl rfl f1 r1 ⟨fun _ => ⟨rfl, rfl⟩, fun q => absurd h12 q⟩ ?_
        unfold tst1; rw [if_pos h7', if_neg (fun q => q nd'), if_pos h12]
      · have n12 : ¬ (wi = 8 ∨ wi = 9) := fun q => y (by rw [hz.mpr q]; decide)
        have n12' : ¬ (tst s c = 1 ∨ tst s c = 2) := by omega
        obtain ⟨l2, l3⟩ := lh n12
        rw [← et] at l2 l3
        have h9 : htv (tst s c) ≤ 999 := by unfold htv; split <;> (try split) <;> decide
        have l0 : 0 ≤ ltv (tst s c) := by unfold ltv; split <;> decide
        refine kX1_numberBehind (d := d) (D := 11) l2 l3 h9 r1 wA.1 hn (fun k2 g b o => ?_) (fun k2 nr g v b o => ?_) (fun k2 yr => ?_)
        · -- not a number
          have hb : tst1 s n c = .bad 1 (adv s n c).t.fr := by unfold tst1; rw [if_pos h7', if_neg (fun q => q nd'), if_neg n12', if_pos k2]
          exact kX1_advbx (d := d + 1) b hn (fun g2 b2 o2 => bad65 hb (b2.fr f1) (by rw [o2 11 (by decide), o 11 (by decide)]; exact r1.np))
        · have hb : tst1 s n c = .bad 2 (adv s n c).t.fr := by unfold tst1; rw [if_pos h7', if_neg (fun q => q nd'), if_neg n12', if_neg (fun q => q k2), if_pos nr]
          exact kX1_advbx (d := d + 1) b hn (fun g2 b2 o2 => bad65 hb (b2.fr f1) (by rw [o2 11 (by decide), o 11 (by decide)]; exact r1.np))
        · refine kX1_adv (d := d + 1) (by decide) r1 wA.1 hn (fun g f3 r3 => ?_)
          refine add (adv s n (adv s n c)) g _ (nmv s (adv s n c)) rfl rfl (f1.tr f3) r3 ⟨fun q => absurd q n12', fun _ => ⟨rfl, by omega⟩⟩ ?_
          unfold tst1; rw [if_pos h7', if_neg (fun q => q nd'), if_neg n12', if_neg (fun q => q k2), if_neg (fun q => q yr)]
    · have nd' : ¬ c.pr (6 * c.np + 1 + tst s c) = -1 := (hx (tst s c) (by omega)).mp gb
      refine ⟨fun y => absurd y (by decide), fun _ => kX1_ref (d := d + 3) r w (by decide) (fun g b => Hbad 3 _ g _ ?_ b)⟩
      unfold tst1; rw [if_pos h7', if_pos nd']
end
