/-! chc5: the class reads settings and bars; written by q_chc5.py -/
def settd (c : Cs) (k : Nat) : Cs := ⟨c.t, c.np, c.pr, c.se, fun j => j = k ∨ c.td j, c.nq, c.bz, c.bl⟩
theorem Cw.settd {s : Nat → Int} {n k : Nat} {c : Cs} (w : Cw s n c) : Cw s n (settd c k) := ⟨w.fr, w.to, w.ad, w.k4, w.sm, w.np, w.nq, w.bz, w.dg⟩
noncomputable def bar1 (s : Nat → Int) (n : Nat) (c : Cs) : Rs := by classical exact (if c.t.k = 1 then
    (if 8 < c.t.to - c.t.fr ∨ c.nq = 8 then .bad 2 c.t.fr
    else if Dup s c then .bad 3 c.t.fr
    else .ok (adv s n (addb s c)))
  else .bad 1 c.t.fr)
theorem brs_bad {s : Nat → Int} {n f : Nat} {c : Cs} {any : Bool} {w : Int} {p : Nat} (hk : c.t.k = 1 ∨ any = false) (h : bar1 s n c = .bad w p) : brs s n (f + 1) c any = .bad w p := by
  unfold bar1 at h
  simp only [brs]
  split at h
  · rename_i a
    rw [if_pos a]
    split at h
    · rename_i b; rw [if_pos b]; exact h
    · rename_i b
      rw [if_neg b]
      split at h
      · rename_i e; rw [if_pos e]; exact h
      · exact absurd h (by simp)
  · rename_i a
    rw [if_neg a]
    have : any = false := hk.resolve_left a
    rw [this, if_neg (by decide)]; exact h
theorem brs_ok {s : Nat → Int} {n f : Nat} {c c' : Cs} {any : Bool} (h : bar1 s n c = .ok c') : brs s n (f + 1) c any = brs s n f c' true := by
  unfold bar1 at h
  simp only [brs]
  split at h
  · rename_i a
    rw [if_pos a]
    split at h
    · exact absurd h (by simp)
    · rename_i b
      rw [if_neg b]
      split at h
      · exact absurd h (by simp)
      · rename_i e; rw [if_neg e]; injection h with h; rw [h]
  · exact absurd h (by simp)
theorem brs_end {s : Nat → Int} {n f : Nat} {c : Cs} (hk : ¬ c.t.k = 1) : brs s n (f + 1) c true = .ok c := by simp only [brs]; rw [if_neg hk]; rfl
theorem bar1_w {s : Nat → Int} {n f : Nat} {c c' : Cs} (w : Cw s n c) (hf : Fz n c (f + 1)) (h : bar1 s n c = .ok c') : Cw s n c' ∧ c'.nq = c.nq + 1 ∧ Fz n c' f := by
  unfold bar1 at h
  split at h
  · rename_i a
    split at h
    · exact absurd h (by simp)
    · rename_i b
      split at h
      · exact absurd h (by simp)
      · rename_i e
        injection h with h
        have wb := w.addb a b
        have eb : (addb s c).t = c.t := rfl
        have fz := Fz_adv wb (by rw [eb]; omega) (hf.mono eb)
        subst h
        exact ⟨wb.adv.1, rfl, fz⟩
  · exact absurd h (by simp)
theorem wcd_sm {s : Nat → Int} {a e : Nat} (h8 : e - a ≤ 8) (hs : ∀ j, a ≤ j → j < e → Sm s j) : wcd s a e = wc (fun i => s (a + i)) (e - a) := by
  unfold wcd; rw [if_pos ⟨h8, hs⟩]
section
variable {L : Nat} {xs : Nat → Int} {P : Nat → List am_V → am_H → am_K → Prop} {d : Nat} {h : am_H} {K : am_K} {s : Nat → Int} {n m D : Nat} {c : Cs}
theorem Dup_iff (hw : Cw s n c) (hk : c.t.k = 1) (h8 : c.t.to - c.t.fr ≤ 8) (br : ∀ k, k < c.nq → h (D + 5) k = wc (fun i => c.bl (8 * k + i)) (c.bz k)) : Dup s c ↔ ∃ k, k < c.nq ∧ h (D + 5) k = wcd s c.t.fr c.t.to := by
  have sm := hw.sm hk
  rw [wcd_sm h8 sm]
  constructor
  · rintro ⟨k, k1, k2, k3⟩
    refine ⟨k, k1, ?_⟩
    rw [br k k1, k2]
    exact wc_congr k3
  · rintro ⟨k, k1, k2⟩
    rw [br k k1] at k2
    have q := wc_inj (hw.bz k k1).2.2 (fun i hi => sm _ (by omega) (by omega)) k2
    exact ⟨k, k1, q.1, fun i hi => q.2 i (by omega)⟩
theorem Cr_td_0 {k : Nat} (hk : k < 4) (r : Cr s n 5 m c h) : Cr s n 5 m (settd c k) (am_st h 4 7 (am_or (h 4 7) (1 * 2 ^ k))) := by
  have o (i : Nat) (hi : ¬ i = 4) : am_st h 4 7 (am_or (h 4 7) (1 * 2 ^ k)) i = h i := st_ne hi
  have q (j : Nat) (hj : ¬ j = 7) : am_st h 4 7 (am_or (h 4 7) (1 * 2 ^ k)) 4 j = h 4 j := st_nj hj
  refine ⟨?_, by rw [q _ (by decide)]; exact r.ln, by rw [q _ (by decide)]; exact r.k, by rw [q _ (by decide)]; exact r.fr, by rw [q _ (by decide)]; exact r.to, by rw [q _ (by decide), q _ (by decide)]; exact r.f0, by rw [q _ (by decide)]; exact r.dr, by rw [o _ (by decide)]; exact r.np, fun l hl => ?_, by rw [o _ (by decide)]; exact r.se, fun j hj => ?_, by rw [o _ (by decide)]; exact r.nq, by rw [o _ (by decide)]; exact r.br⟩
  · rw [← r.s3]; funext j; unfold sgn; rw [o 3 (by decide)]
  · obtain ⟨x1, x2, x3, x4, x5, x6⟩ := r.pl l hl
    exact ⟨by rw [o _ (by decide)]; exact x1, by rw [o _ (by decide)]; exact x2, by rw [o _ (by decide)]; exact x3, by rw [o _ (by decide)]; exact x4, by rw [o _ (by decide)]; exact x5, by rw [o _ (by decide)]; exact x6⟩
  · rw [st_at, bt_or, Bool.or_eq_true, r.td j hj, bt_p2' j (by omega), decide_eq_true_eq]
    show _ ↔ j = k ∨ c.td j
    exact Or.comm
theorem Cr_se_0 {k : Nat} {v : Int} (hk : k < 4) (r : Cr s n 5 m (settd c k) h) : Cr s n 5 m (setse c k v) (am_st h 6 k v) := by
  have o (i : Nat) (hi : ¬ i = 6) : am_st h 6 k v i = h i := st_ne hi
  refine ⟨?_, by rw [o _ (by decide)]; exact r.ln, by rw [o _ (by decide)]; exact r.k, by rw [o _ (by decide)]; exact r.fr, by rw [o _ (by decide)]; exact r.to, by rw [o _ (by decide)]; exact r.f0, by rw [o _ (by decide)]; exact r.dr, by rw [o _ (by decide)]; exact r.np, fun l hl => ?_, fun j hj => ?_, by rw [o _ (by decide)]; exact r.td, by rw [o _ (by decide)]; exact r.nq, by rw [o _ (by decide)]; exact r.br⟩
  · rw [← r.s3]; funext j; unfold sgn; rw [o 3 (by decide)]
  · obtain ⟨x1, x2, x3, x4, x5, x6⟩ := r.pl l hl
    exact ⟨by rw [o _ (by decide)]; exact x1, by rw [o _ (by decide)]; exact x2, by rw [o _ (by decide)]; exact x3, by rw [o _ (by decide)]; exact x4, by rw [o _ (by decide)]; exact x5, by rw [o _ (by decide)]; exact x6⟩
  · show am_st h 6 k v 6 j = up c.se k v j
    rw [st_ap]; unfold up
    split
    · rfl
    · exact r.se j hj
theorem kX1_parseSetting_0 {wi : Nat} (r : Cr s n 5 c.np c h) (w : Cw s n c) (hn : n ≤ 400) (h2 : 2 ≤ wi ∧ wi ≤ 5) (Hbad : ∀ w' p g, stg s n c (wi - 2) = .bad w' p → Cb n 5 h w' p g → K (9, 0) g) (Hok : ∀ c' g, stg s n c (wi - 2) = .ok c' → Fdr 5 h g → Cr s n 5 c'.np c' g → K (9, 0) g) : am_C true L xs P (d + 5) 13 [(2, 4), (4, (wi : Int))] h K := by
  obtain ⟨_, _, _, _, _, wa⟩ := word_all ⟨wi, by omega⟩
  obtain ⟨e1, e2, e3⟩ := wa h2
  dsimp only at e1 e2 e3
  have k4 : wi - 2 < 4 := by omega
  refine eX1_parseSetting_1 (bX1_parseSetting_0_1 ?_)
  rw [Int.toNat_natCast, e1]
  refine kBit (d := d + 3) (by omega) (fun gb => ⟨fun _ => bX1_parseSetting_20_1 ?_, fun y => absurd rfl y⟩) (fun gb => ⟨fun y => absurd y (by decide), fun _ => kX1_ref (d := d + 3) r w (by decide) (fun g b => Hbad 3 _ g ?_ b)⟩)
  · have ntd : ¬ c.td (wi - 2) := fun q => by rw [(r.td _ k4).mpr q] at gb; exact absurd gb (by decide)
    rw [Int.toNat_natCast, e1, Int.toNat_natCast]
    refine ⟨⟨by omega, by omega, by omega, inI_p2 (by omega)⟩, ?_⟩
    have f0 : Fdr 5 h (am_st h 4 7 (am_or (h 4 7) (1 * 2 ^ (wi - 2)))) := Fdr.rf.st4 (by decide)
    refine kX1_adv (d := d + 1) (by decide) (Cr_td_0 k4 r) w.settd hn (fun g1 f1 r1 => ?_)
    rw [r1.dr]
    refine bX1_parseSetting_43_2 ?_
    rw [Int.toNat_natCast, e1, Int.toNat_natCast]
    have h9 : hsv (wi - 2) ≤ 999 := by unfold hsv; split <;> (try split) <;> (try split) <;> decide
    have ek : (adv s n (settd c (wi - 2))).t = (adv s n c).t := rfl
    have en : nmv s (adv s n (settd c (wi - 2))) = nmv s (adv s n c) := rfl
    have bd : ∀ {w' : Int} {p : Nat} {g : am_H} {v : Int}, stg s n c (wi - 2) = .bad w' p → Cb n 5 g1 w' p g → am_C true L xs P (d + 4) 19 [(2, 4)] (am_st g 6 (wi - 2) v) (fun _ h2 => K (9, 0) h2) := by
      intro w' p g v hb b
      have b2 := (b.fr f1).fr f0
      refine kX1_advb (d := d + 1) (h0 := h) (w := w') (p := p) ?_ hn (fun g2 b3 => Hbad w' p _ hb b3)
      exact ⟨b2.fd.stD (by decide) (by decide), by rw [st_ne (by decide)]; exact b2.ew, by rw [st_ne (by decide)]; exact b2.ep, by rw [st_ne (by decide)]; exact b2.ln, by rw [st_ne (by decide)]; exact b2.to, b2.nz⟩
    refine kX1_numberBehind (d := d) (D := 5) e2 e3 h9 r1 w.settd.adv.1 hn (fun k2 g b o => ⟨⟨by omega, by omega⟩, bd ?_ b⟩) (fun k2 nr g v b o => ⟨⟨by omega, by omega⟩, bd ?_ b⟩) (fun k2 yr => ⟨⟨by omega, by omega⟩, ?_⟩)
    · rw [ek] at k2 ⊢
      unfold stg; rw [if_neg ntd, if_pos k2]
    · rw [ek] at k2 ⊢
      rw [en] at nr
      unfold stg; rw [if_neg ntd, if_neg (fun q => q k2), if_pos nr]
    · rw [ek] at k2
      rw [en] at yr
      have r2 := Cr_se_0 (c := adv s n c) (v := nmv s (adv s n c)) k4 r1
      have w2 : Cw s n (setse (adv s n c) (wi - 2) (nmv s (adv s n c))) := ⟨w.adv.1.fr, w.adv.1.to, w.adv.1.ad, w.adv.1.k4, w.adv.1.sm, w.adv.1.np, w.adv.1.nq, w.adv.1.bz, w.adv.1.dg⟩
      refine kX1_adv (d := d + 1) (by decide) r2 w2 hn (fun g f3 r3 => ?_)
      exact Hok (setse (adv s n (adv s n c)) (wi - 2) (nmv s (adv s n c))) _ (by unfold stg; rw [if_neg ntd, if_neg (fun q => q k2), if_neg (fun q => q yr)]) (((f0.tr f1).stD (by decide) (by decide)).tr f3) r3
  · unfold stg; rw [if_pos ((r.td _ k4).mp gb)]
theorem kX0_addBar_0 {nq : Nat} {y : Int} (h6 : h 5 6 = nq) (hn : nq < 8) (H : K (9, 0) (am_st (am_st h 10 nq y) 5 6 ((nq : Int) + 1))) : am_C true L xs P (d + 1) 4 [(2, 5), (1, y)] h K := by
  refine eX0_addBar_0 (bX0_addBar_0_0 ?_)
  rw [h6, Int.toNat_natCast]
  exact ⟨fun z => by omega, fun _ => ⟨⟨by omega, by omega⟩, by omega, bX0_addBar_29_0 H⟩⟩
theorem Cr_addb_0 (r : Cr s n 5 m c h) (w : Cw s n c) (hk : c.t.k = 1) (h8 : ¬ (8 < c.t.to - c.t.fr ∨ c.nq = 8)) : Cr s n 5 m (addb s c) (am_st (am_st h 10 c.nq (wcd s c.t.fr c.t.to)) 5 6 ((c.nq : Int) + 1)) := by
  generalize hg : am_st (am_st h 10 c.nq (wcd s c.t.fr c.t.to)) 5 6 ((c.nq : Int) + 1) = g
  have o (i : Nat) (h1 : ¬ i = 5) (h2 : ¬ i = 10) : g i = h i := by rw [← hg, st_ne h1, st_ne h2]
  have q (j : Nat) (hj : ¬ j = 6) : g 5 j = h 5 j := by rw [← hg, st_nj hj, st_ne (by decide)]
  have e6 : g 5 6 = (c.nq : Int) + 1 := by rw [← hg, st_at]
  have e5 : ∀ k, g 10 k = if k = c.nq then wcd s c.t.fr c.t.to else h 10 k := fun k => by rw [← hg, st_ne (by decide), st_ap]
  refine ⟨?_, by rw [o 4 (by decide) (by decide)]; exact r.ln, by rw [o 4 (by decide) (by decide)]; exact r.k, by rw [o 4 (by decide) (by decide)]; exact r.fr, by rw [o 4 (by decide) (by decide)]; exact r.to, by rw [o 4 (by decide) (by decide)]; exact r.f0, by rw [o 4 (by decide) (by decide)]; exact r.dr, by rw [q 5 (by decide)]; exact r.np, fun l hl => ?_, by rw [o _ (by decide) (by decide)]; exact r.se, by rw [o 4 (by decide) (by decide)]; exact r.td, by rw [e6]; show (c.nq : Int) + 1 = ((c.nq + 1 : Nat) : Int); omega, fun k hk2 => ?_⟩
  · rw [← r.s3]; funext j; unfold sgn; rw [o 3 (by decide) (by decide)]
  · obtain ⟨x1, x2, x3, x4, x5, x6⟩ := r.pl l hl
    exact ⟨by rw [o _ (by decide) (by decide)]; exact x1, by rw [o _ (by decide) (by decide)]; exact x2, by rw [o _ (by decide) (by decide)]; exact x3, by rw [o _ (by decide) (by decide)]; exact x4, by rw [o _ (by decide) (by decide)]; exact x5, by rw [o _ (by decide) (by decide)]; exact x6⟩
  · have hk3 : k < c.nq + 1 := hk2
    show g 10 k = wc (fun i => if 8 * c.nq ≤ 8 * k + i ∧ 8 * k + i < 8 * c.nq + (c.t.to - c.t.fr) then s (c.t.fr + (8 * k + i - 8 * c.nq)) else c.bl (8 * k + i)) (if k = c.nq then c.t.to - c.t.fr else c.bz k)
    rw [e5]
    by_cases e : k = c.nq
    · rw [if_pos e, if_pos e, wcd_sm (by omega) (w.sm hk)]
      refine wc_congr (fun i hi => ?_)
      show s (c.t.fr + i) = _
      rw [if_pos (by omega)]
      congr 1; omega
    · rw [if_neg e, if_neg e]
      have b := w.bz k (by omega)
      rw [show h 10 k = h (5 + 5) k from rfl, r.br k (by omega)]
      refine wc_congr (fun i hi => ?_)
      show c.bl (8 * k + i) = _
      rw [if_neg (by omega)]
theorem kX1_parseBar_0 (r : Cr s n 5 m c h) (w : Cw s n c) (hn : n ≤ 400) (Hbad : ∀ w' p g, bar1 s n c = .bad w' p → Cb n 5 h w' p g → K (9, 0) g) (Hok : ∀ c' g, bar1 s n c = .ok c' → Fdr 5 h g → Cr s n 5 m c' g → K (9, 0) g) : am_C true L xs P (d + 4) 15 [(2, 4)] h K := by
  have fo := w.fr
  have to := w.to
  have nq8 := w.nq
  refine eX1_parseBar (bX1_parseBar_0 ?_)
  rw [r.fr, r.to]
  refine kX8_wordCode (d := d) fo (by omega) ?_
  rw [r.s3, r.k]
  refine ⟨fun k1 => bX1_parseBar_32 ?_, fun k1 => kX1_ref (d := d + 2) r w (by decide) (fun g b => bX1_parseBar_97 (Hbad 1 _ g (by unfold bar1; rw [if_neg k1]) b))⟩
  rw [r.fr, r.to]
  have b58 : (8 < c.t.to - c.t.fr ∨ c.nq = 8) → tX1_parseBar (h 0 0 + (0 : Nat)) L xs (am_C true L xs P (d + 3)) K 58 [(2, 4), (1, wcd s c.t.fr c.t.to), (9, 0)] [] h := fun q => bX1_parseBar_58 (kX1_ref (d := d + 2) r w (by decide) (fun g b => bX1_parseBar_97 (Hbad 2 _ g (by unfold bar1; rw [if_pos k1, if_pos q]) b)))
  refine ⟨by omega, fun q => b58 (Or.inl (by omega)), fun q => ?_⟩
  rw [r.dr]
  refine bX1_parseBar_50_0 ?_
  rw [r.nq]
  refine ⟨fun q2 => bX1_parseBar_66 ?_, fun q2 => b58 (Or.inr (by omega))⟩
  have n8 : ¬ (8 < c.t.to - c.t.fr ∨ c.nq = 8) := by omega
  rw [r.dr]
  have di := Dup_iff (D := 5) w k1 (by omega) r.br
  refine bX1_parseBar_70_0 (kX0_bars (c := 5) (d := d + 2) (by decide) r.nq nq8 (fun q3 => ?_) (fun q3 => ?_))
  · refine ⟨fun _ => bX1_parseBar_85 ?_, fun y => absurd rfl y⟩
    rw [r.dr]
    refine bX1_parseBar_89_0 (kX0_addBar_0 (d := d + 2) r.nq (by omega) ?_)
    have f0 : Fdr 5 h (am_st (am_st h 10 c.nq (wcd s c.t.fr c.t.to)) 5 6 ((c.nq : Int) + 1)) := (Fdr.rf.stD (by decide) (by decide)).stD (by decide) (by decide)
    exact kX1_adv (d := d) (by decide) (Cr_addb_0 r w k1 n8) (w.addb k1 n8) hn (fun g f1 r1 => bX1_parseBar_97 (Hok _ g (by unfold bar1; rw [if_pos k1, if_neg n8, if_neg (fun y => q3 (di.mp y))]) (f0.tr f1) r1))
  · refine ⟨fun y => absurd y (by decide), fun _ => kX1_ref (d := d + 2) r w (by decide) (fun g b => bX1_parseBar_97 (Hbad 3 _ g ?_ b))⟩
    unfold bar1; rw [if_pos k1, if_neg n8, if_pos (di.mpr q3)]
theorem kX1_parseBars_0 (r : Cr s n 5 c.np c h) (w : Cw s n c) (hn : n ≤ 400) (Hbad : ∀ w' p g, brs s n (n + 2) (adv s n c) false = .bad w' p → Cb n 5 h w' p g → K (9, 0) g) (Hok : ∀ c' g, brs s n (n + 2) (adv s n c) false = .ok c' → Fdr 5 h g → Cr s n 5 c.np c' g → K (9, 0) g) : am_C true L xs P (d + 5) 14 [(2, 4)] h K := by
  have wa := w.adv.1
  have loop : ∀ (k f x : Nat) (c1 : Cs) (g : am_H), c1.nq + k = 8 → x + 1 ≤ c1.nq → Cw s n c1 → Fz n c1 f → brs s n f c1 true = brs s n (n + 2) (adv s n c) false → Fdr 5 h g → Cr s n 5 c.np c1 g → tX1_parseBars (h 0 0 + (0 : Nat)) L xs (am_C true L xs P (d + 4)) K 10 [(2, 4), (0, (x : Int))] [] g := by
    intro k
    induction k with
    | zero =>
      intro f x c1 g hk hx w1 hf he fd r1
      obtain ⟨f', rfl⟩ : ∃ f', f = f' + 1 := ⟨f - 1, by have := hf.pos w1; omega⟩
      refine bX1_parseBars_10 ⟨fun y => by omega, fun _ => ⟨fun y => absurd r1.f0.1 y, fun _ => ⟨fun y => bX1_parseBars_41 ?_, fun y => ?_⟩⟩⟩
      · rw [r1.k] at y
        exact Hok c1 g (by rw [← he]; exact brs_end y) fd r1
      · rw [r1.k] at y
        have k1 : c1.t.k = 1 := Classical.not_not.mp y
        refine kX1_parseBar_0 (d := d) r1 w1 hn (fun w' p g2 hb b => ⟨by omega, bX1_parseBars_10 ⟨fun _ => ?_, fun _ => ⟨fun _ => ?_, fun q => absurd (by rw [b.ew]; exact b.nz) q⟩⟩⟩) (fun c2 g2 hok f2 r2 => ?_)
        · exact bX1_parseBars_41 (Hbad w' p g2 (by rw [← he]; exact brs_bad (Or.inl k1) hb) (b.fr fd))
        · exact bX1_parseBars_41 (Hbad w' p g2 (by rw [← he]; exact brs_bad (Or.inl k1) hb) (b.fr fd))
        · exfalso
          have q := bar1_w (f := f') w1 hf hok
          have := q.1.nq
          omega
    | succ k ih =>
      intro f x c1 g hk hx w1 hf he fd r1
      obtain ⟨f', rfl⟩ : ∃ f', f = f' + 1 := ⟨f - 1, by have := hf.pos w1; omega⟩
      refine bX1_parseBars_10 ⟨fun y => by omega, fun _ => ⟨fun y => absurd r1.f0.1 y, fun _ => ⟨fun y => bX1_parseBars_41 ?_, fun y => ?_⟩⟩⟩
      · rw [r1.k] at y
        exact Hok c1 g (by rw [← he]; exact brs_end y) fd r1
      · rw [r1.k] at y
        have k1 : c1.t.k = 1 := Classical.not_not.mp y
        refine kX1_parseBar_0 (d := d) r1 w1 hn (fun w' p g2 hb b => ⟨by omega, bX1_parseBars_10 ⟨fun _ => ?_, fun _ => ⟨fun _ => ?_, fun q => absurd (by rw [b.ew]; exact b.nz) q⟩⟩⟩) (fun c2 g2 hok f2 r2 => ⟨by omega, ?_⟩)
        · exact bX1_parseBars_41 (Hbad w' p g2 (by rw [← he]; exact brs_bad (Or.inl k1) hb) (b.fr fd))
        · exact bX1_parseBars_41 (Hbad w' p g2 (by rw [← he]; exact brs_bad (Or.inl k1) hb) (b.fr fd))
        · obtain ⟨w2, n2, F2⟩ := bar1_w (f := f') w1 hf hok
          exact ih f' (x + 1) c2 g2 (by omega) (by omega) w2 F2 (by rw [← he]; exact (brs_ok hok).symm) (fd.tr f2) r2
  refine eX1_parseBars (bX1_parseBars_0 (kX1_adv (d := d + 1) (by decide) r w hn (fun g1 f1 r1 => kX1_parseBar_0 (d := d) r1 wa hn (fun w' p g2 hb b => bX1_parseBars_10 ⟨fun q => absurd q (by decide), fun _ => ⟨fun _ => bX1_parseBars_41 (Hbad w' p g2 (brs_bad (Or.inr rfl) hb) (b.fr f1)), fun q => absurd (by rw [b.ew]; exact b.nz) q⟩⟩) (fun c2 g2 hok f2 r2 => ?_))))
  obtain ⟨w2, n2, F2⟩ := bar1_w (f := n + 1) wa (Fz_0 wa) hok
  have n8 := w2.nq
  exact loop (8 - c2.nq) (n + 1) 0 c2 g2 (by omega) (by omega) w2 F2 (by rw [← brs_ok hok]) (f1.tr f2) r2
theorem Cr_td_1 {k : Nat} (hk : k < 4) (r : Cr s n 11 m c h) : Cr s n 11 m (settd c k) (am_st h 4 7 (am_or (h 4 7) (1 * 2 ^ k))) := by
  have o (i : Nat) (hi : ¬ i = 4) : am_st h 4 7 (am_or (h 4 7) (1 * 2 ^ k)) i = h i := st_ne hi
  have q (j : Nat) (hj : ¬ j = 7) : am_st h 4 7 (am_or (h 4 7) (1 * 2 ^ k)) 4 j = h 4 j := st_nj hj
  refine ⟨?_, by rw [q _ (by decide)]; exact r.ln, by rw [q _ (by decide)]; exact r.k, by rw [q _ (by decide)]; exact r.fr, by rw [q _ (by decide)]; exact r.to, by rw [q _ (by decide), q _ (by decide)]; exact r.f0, by rw [q _ (by decide)]; exact r.dr, by rw [o _ (by decide)]; exact r.np, fun l hl => ?_, by rw [o _ (by decide)]; exact r.se, fun j hj => ?_, by rw [o _ (by decide)]; exact r.nq, by rw [o _ (by decide)]; exact r.br⟩
  · rw [← r.s3]; funext j; unfold sgn; rw [o 3 (by decide)]
  · obtain ⟨x1, x2, x3, x4, x5, x6⟩ := r.pl l hl
    exact ⟨by rw [o _ (by decide)]; exact x1, by rw [o _ (by decide)]; exact x2, by rw [o _ (by decide)]; exact x3, by rw [o _ (by decide)]; exact x4, by rw [o _ (by decide)]; exact x5, by rw [o _ (by decide)]; exact x6⟩
  · rw [st_at, bt_or, Bool.or_eq_true, r.td j hj, bt_p2' j (by omega), decide_eq_true_eq]
    show _ ↔ j = k ∨ c.td j
    exact Or.comm
theorem Cr_se_1 {k : Nat} {v : Int} (hk : k < 4) (r : Cr s n 11 m (settd c k) h) : Cr s n 11 m (setse c k v) (am_st h 12 k v) := by
  have o (i : Nat) (hi : ¬ i = 12) : am_st h 12 k v i = h i := st_ne hi
  refine ⟨?_, by rw [o _ (by decide)]; exact r.ln, by rw [o _ (by decide)]; exact r.k, by rw [o _ (by decide)]; exact r.fr, by rw [o _ (by decide)]; exact r.to, by rw [o _ (by decide)]; exact r.f0, by rw [o _ (by decide)]; exact r.dr, by rw [o _ (by decide)]; exact r.np, fun l hl => ?_, fun j hj => ?_, by rw [o _ (by decide)]; exact r.td, by rw [o _ (by decide)]; exact r.nq, by rw [o _ (by decide)]; exact r.br⟩
  · rw [← r.s3]; funext j; unfold sgn; rw [o 3 (by decide)]
  · obtain ⟨x1, x2, x3, x4, x5, x6⟩ := r.pl l hl
    exact ⟨by rw [o _ (by decide)]; exact x1, by rw [o _ (by decide)]; exact x2, by rw [o _ (by decide)]; exact x3, by rw [o _ (by decide)]; exact x4, by rw [o _ (by decide)]; exact x5, by rw [o _ (by decide)]; exact x6⟩
  · show am_st h 12 k v 12 j = up c.se k v j
    rw [st_ap]; unfold up
    split
    · rfl
    · exact r.se j hj
theorem kX1_parseSetting_1 {wi : Nat} (r : Cr s n 11 c.np c h) (w : Cw s n c) (hn : n ≤ 400) (h2 : 2 ≤ wi ∧ wi ≤ 5) (Hbad : ∀ w' p g, stg s n c (wi - 2) = .bad w' p → Cb n 11 h w' p g → K (9, 0) g) (Hok : ∀ c' g, stg s n c (wi - 2) = .ok c' → Fdr 11 h g → Cr s n 11 c'.np c' g → K (9, 0) g) : am_C true L xs P (d + 5) 13 [(2, 4), (4, (wi : Int))] h K := by
  obtain ⟨_, _, _, _, _, wa⟩ := word_all ⟨wi, by omega⟩
  obtain ⟨e1, e2, e3⟩ := wa h2
  dsimp only at e1 e2 e3
  have k4 : wi - 2 < 4 := by omega
  refine eX1_parseSetting_1 (bX1_parseSetting_0_1 ?_)
  rw [Int.toNat_natCast, e1]
  refine kBit (d := d + 3) (by omega) (fun gb => ⟨fun _ => bX1_parseSetting_20_1 ?_, fun y => absurd rfl y⟩) (fun gb => ⟨fun y => absurd y (by decide), fun _ => kX1_ref (d := d + 3) r w (by decide) (fun g b => Hbad 3 _ g ?_ b)⟩)
  · have ntd : ¬ c.td (wi - 2) := fun q => by rw [(r.td _ k4).mpr q] at gb; exact absurd gb (by decide)
    rw [Int.toNat_natCast, e1, Int.toNat_natCast]
    refine ⟨⟨by omega, by omega, by omega, inI_p2 (by omega)⟩, ?_⟩
    have f0 : Fdr 11 h (am_st h 4 7 (am_or (h 4 7) (1 * 2 ^ (wi - 2)))) := Fdr.rf.st4 (by decide)
    refine kX1_adv (d := d + 1) (by decide) (Cr_td_1 k4 r) w.settd hn (fun g1 f1 r1 => ?_)
    rw [r1.dr]
    refine bX1_parseSetting_43_3 ?_
    rw [Int.toNat_natCast, e1, Int.toNat_natCast]
    have h9 : hsv (wi - 2) ≤ 999 := by unfold hsv; split <;> (try split) <;> (try split) <;> decide
    have ek : (adv s n (settd c (wi - 2))).t = (adv s n c).t := rfl
    have en : nmv s (adv s n (settd c (wi - 2))) = nmv s (adv s n c) := rfl
    have bd : ∀ {w' : Int} {p : Nat} {g : am_H} {v : Int}, stg s n c (wi - 2) = .bad w' p → Cb n 11 g1 w' p g → am_C true L xs P (d + 4) 19 [(2, 4)] (am_st g 12 (wi - 2) v) (fun _ h2 => K (9, 0) h2) := by
      intro w' p g v hb b
      have b2 := (b.fr f1).fr f0
      refine kX1_advb (d := d + 1) (h0 := h) (w := w') (p := p) ?_ hn (fun g2 b3 => Hbad w' p _ hb b3)
      exact ⟨b2.fd.stD (by decide) (by decide), by rw [st_ne (by decide)]; exact b2.ew, by rw [st_ne (by decide)]; exact b2.ep, by rw [st_ne (by decide)]; exact b2.ln, by rw [st_ne (by decide)]; exact b2.to, b2.nz⟩
    refine kX1_numberBehind (d := d) (D := 11) e2 e3 h9 r1 w.settd.adv.1 hn (fun k2 g b o => ⟨⟨by omega, by omega⟩, bd ?_ b⟩) (fun k2 nr g v b o => ⟨⟨by omega, by omega⟩, bd ?_ b⟩) (fun k2 yr => ⟨⟨by omega, by omega⟩, ?_⟩)
    · rw [ek] at k2 ⊢
      unfold stg; rw [if_neg ntd, if_pos k2]
    · rw [ek] at k2 ⊢
      rw [en] at nr
      unfold stg; rw [if_neg ntd, if_neg (fun q => q k2), if_pos nr]
    · rw [ek] at k2
      rw [en] at yr
      have r2 := Cr_se_1 (c := adv s n c) (v := nmv s (adv s n c)) k4 r1
      have w2 : Cw s n (setse (adv s n c) (wi - 2) (nmv s (adv s n c))) := ⟨w.adv.1.fr, w.adv.1.to, w.adv.1.ad, w.adv.1.k4, w.adv.1.sm, w.adv.1.np, w.adv.1.nq, w.adv.1.bz, w.adv.1.dg⟩
      refine kX1_adv (d := d + 1) (by decide) r2 w2 hn (fun g f3 r3 => ?_)
      exact Hok (setse (adv s n (adv s n c)) (wi - 2) (nmv s (adv s n c))) _ (by unfold stg; rw [if_neg ntd, if_neg (fun q => q k2), if_neg (fun q => q yr)]) (((f0.tr f1).stD (by decide) (by decide)).tr f3) r3
  · unfold stg; rw [if_pos ((r.td _ k4).mp gb)]
theorem kX0_addBar_1 {nq : Nat} {y : Int} (h6 : h 11 6 = nq) (hn : nq < 8) (H : K (9, 0) (am_st (am_st h 16 nq y) 11 6 ((nq : Int) + 1))) : am_C true L xs P (d + 1) 4 [(2, 11), (1, y)] h K := by
  refine eX0_addBar_1 (bX0_addBar_0_1 ?_)
  rw [h6, Int.toNat_natCast]
  exact ⟨fun z => by omega, fun _ => ⟨⟨by omega, by omega⟩, by omega, bX0_addBar_29_1 H⟩⟩
theorem Cr_addb_1 (r : Cr s n 11 m c h) (w : Cw s n c) (hk : c.t.k = 1) (h8 : ¬ (8 < c.t.to - c.t.fr ∨ c.nq = 8)) : Cr s n 11 m (addb s c) (am_st (am_st h 16 c.nq (wcd s c.t.fr c.t.to)) 11 6 ((c.nq : Int) + 1)) := by
  generalize hg : am_st (am_st h 16 c.nq (wcd s c.t.fr c.t.to)) 11 6 ((c.nq : Int) + 1) = g
  have o (i : Nat) (h1 : ¬ i = 11) (h2 : ¬ i = 16) : g i = h i := by rw [← hg, st_ne h1, st_ne h2]
  have q (j : Nat) (hj : ¬ j = 6) : g 11 j = h 11 j := by rw [← hg, st_nj hj, st_ne (by decide)]
  have e6 : g 11 6 = (c.nq : Int) + 1 := by rw [← hg, st_at]
  have e5 : ∀ k, g 16 k = if k = c.nq then wcd s c.t.fr c.t.to else h 16 k := fun k => by rw [← hg, st_ne (by decide), st_ap]
  refine ⟨?_, by rw [o 4 (by decide) (by decide)]; exact r.ln, by rw [o 4 (by decide) (by decide)]; exact r.k, by rw [o 4 (by decide) (by decide)]; exact r.fr, by rw [o 4 (by decide) (by decide)]; exact r.to, by rw [o 4 (by decide) (by decide)]; exact r.f0, by rw [o 4 (by decide) (by decide)]; exact r.dr, by rw [q 5 (by decide)]; exact r.np, fun l hl => ?_, by rw [o _ (by decide) (by decide)]; exact r.se, by rw [o 4 (by decide) (by decide)]; exact r.td, by rw [e6]; show (c.nq : Int) + 1 = ((c.nq + 1 : Nat) : Int); omega, fun k hk2 => ?_⟩
  · rw [← r.s3]; funext j; unfold sgn; rw [o 3 (by decide) (by decide)]
  · obtain ⟨x1, x2, x3, x4, x5, x6⟩ := r.pl l hl
    exact ⟨by rw [o _ (by decide) (by decide)]; exact x1, by rw [o _ (by decide) (by decide)]; exact x2, by rw [o _ (by decide) (by decide)]; exact x3, by rw [o _ (by decide) (by decide)]; exact x4, by rw [o _ (by decide) (by decide)]; exact x5, by rw [o _ (by decide) (by decide)]; exact x6⟩
  · have hk3 : k < c.nq + 1 := hk2
    show g 16 k = wc (fun i => if 8 * c.nq ≤ 8 * k + i ∧ 8 * k + i < 8 * c.nq + (c.t.to - c.t.fr) then s (c.t.fr + (8 * k + i - 8 * c.nq)) else c.bl (8 * k + i)) (if k = c.nq then c.t.to - c.t.fr else c.bz k)
    rw [e5]
    by_cases e : k = c.nq
    · rw [if_pos e, if_pos e, wcd_sm (by omega) (w.sm hk)]
      refine wc_congr (fun i hi => ?_)
      show s (c.t.fr + i) = _
      rw [if_pos (by omega)]
      congr 1; omega
    · rw [if_neg e, if_neg e]
      have b := w.bz k (by omega)
      rw [show h 16 k = h (11 + 5) k from rfl, r.br k (by omega)]
      refine wc_congr (fun i hi => ?_)
      show c.bl (8 * k + i) = _
      rw [if_neg (by omega)]
theorem kX1_parseBar_1 (r : Cr s n 11 m c h) (w : Cw s n c) (hn : n ≤ 400) (Hbad : ∀ w' p g, bar1 s n c = .bad w' p → Cb n 11 h w' p g → K (9, 0) g) (Hok : ∀ c' g, bar1 s n c = .ok c' → Fdr 11 h g → Cr s n 11 m c' g → K (9, 0) g) : am_C true L xs P (d + 4) 15 [(2, 4)] h K := by
  have fo := w.fr
  have to := w.to
  have nq8 := w.nq
  refine eX1_parseBar (bX1_parseBar_0 ?_)
  rw [r.fr, r.to]
  refine kX8_wordCode (d := d) fo (by omega) ?_
  rw [r.s3, r.k]
  refine ⟨fun k1 => bX1_parseBar_32 ?_, fun k1 => kX1_ref (d := d + 2) r w (by decide) (fun g b => bX1_parseBar_97 (Hbad 1 _ g (by unfold bar1; rw [if_neg k1]) b))⟩
  rw [r.fr, r.to]
  have b58 : (8 < c.t.to - c.t.fr ∨ c.nq = 8) → tX1_parseBar (h 0 0 + (0 : Nat)) L xs (am_C true L xs P (d + 3)) K 58 [(2, 4), (1, wcd s c.t.fr c.t.to), (9, 0)] [] h := fun q => bX1_parseBar_58 (kX1_ref (d := d + 2) r w (by decide) (fun g b => bX1_parseBar_97 (Hbad 2 _ g (by unfold bar1; rw [if_pos k1, if_pos q]) b)))
  refine ⟨by omega, fun q => b58 (Or.inl (by omega)), fun q => ?_⟩
  rw [r.dr]
  refine bX1_parseBar_50_1 ?_
  rw [r.nq]
  refine ⟨fun q2 => bX1_parseBar_66 ?_, fun q2 => b58 (Or.inr (by omega))⟩
  have n8 : ¬ (8 < c.t.to - c.t.fr ∨ c.nq = 8) := by omega
  rw [r.dr]
  have di := Dup_iff (D := 11) w k1 (by omega) r.br
  refine bX1_parseBar_70_1 (kX0_bars (c := 11) (d := d + 2) (by decide) r.nq nq8 (fun q3 => ?_) (fun q3 => ?_))
  · refine ⟨fun _ => bX1_parseBar_85 ?_, fun y => absurd rfl y⟩
    rw [r.dr]
    refine bX1_parseBar_89_1 (kX0_addBar_1 (d := d + 2) r.nq (by omega) ?_)
    have f0 : Fdr 11 h (am_st (am_st h 16 c.nq (wcd s c.t.fr c.t.to)) 11 6 ((c.nq : Int) + 1)) := (Fdr.rf.stD (by decide) (by decide)).stD (by decide) (by decide)
    exact kX1_adv (d := d) (by decide) (Cr_addb_1 r w k1 n8) (w.addb k1 n8) hn (fun g f1 r1 => bX1_parseBar_97 (Hok _ g (by unfold bar1; rw [if_pos k1, if_neg n8, if_neg (fun y => q3 (di.mp y))]) (f0.tr f1) r1))
  · refine ⟨fun y => absurd y (by decide), fun _ => kX1_ref (d := d + 2) r w (by decide) (fun g b => bX1_parseBar_97 (Hbad 3 _ g ?_ b))⟩
    unfold bar1; rw [if_pos k1, if_neg n8, if_pos (di.mpr q3)]
theorem kX1_parseBars_1 (r : Cr s n 11 c.np c h) (w : Cw s n c) (hn : n ≤ 400) (Hbad : ∀ w' p g, brs s n (n + 2) (adv s n c) false = .bad w' p → Cb n 11 h w' p g → K (9, 0) g) (Hok : ∀ c' g, brs s n (n + 2) (adv s n c) false = .ok c' → Fdr 11 h g → Cr s n 11 c.np c' g → K (9, 0) g) : am_C true L xs P (d + 5) 14 [(2, 4)] h K := by
  have wa := w.adv.1
  have loop : ∀ (k f x : Nat) (c1 : Cs) (g : am_H), c1.nq + k = 8 → x + 1 ≤ c1.nq → Cw s n c1 → Fz n c1 f → brs s n f c1 true = brs s n (n + 2) (adv s n c) false → Fdr 11 h g → Cr s n 11 c.np c1 g → tX1_parseBars (h 0 0 + (0 : Nat)) L xs (am_C true L xs P (d + 4)) K 10 [(2, 4), (0, (x : Int))] [] g := by
    intro k
    induction k with
    | zero =>
      intro f x c1 g hk hx w1 hf he fd r1
      obtain ⟨f', rfl⟩ : ∃ f', f = f' + 1 := ⟨f - 1, by have := hf.pos w1; omega⟩
      refine bX1_parseBars_10 ⟨fun y => by omega, fun _ => ⟨fun y => absurd r1.f0.1 y, fun _ => ⟨fun y => bX1_parseBars_41 ?_, fun y => ?_⟩⟩⟩
      · rw [r1.k] at y
        exact Hok c1 g (by rw [← he]; exact brs_end y) fd r1
      · rw [r1.k] at y
        have k1 : c1.t.k = 1 := Classical.not_not.mp y
        refine kX1_parseBar_1 (d := d) r1 w1 hn (fun w' p g2 hb b => ⟨by omega, bX1_parseBars_10 ⟨fun _ => ?_, fun _ => ⟨fun _ => ?_, fun q => absurd (by rw [b.ew]; exact b.nz) q⟩⟩⟩) (fun c2 g2 hok f2 r2 => ?_)
        · exact bX1_parseBars_41 (Hbad w' p g2 (by rw [← he]; exact brs_bad (Or.inl k1) hb) (b.fr fd))
        · exact bX1_parseBars_41 (Hbad w' p g2 (by rw [← he]; exact brs_bad (Or.inl k1) hb) (b.fr fd))
        · exfalso
          have q := bar1_w (f := f') w1 hf hok
          have := q.1.nq
          omega
    | succ k ih =>
      intro f x c1 g hk hx w1 hf he fd r1
      obtain ⟨f', rfl⟩ : ∃ f', f = f' + 1 := ⟨f - 1, by have := hf.pos w1; omega⟩
      refine bX1_parseBars_10 ⟨fun y => by omega, fun _ => ⟨fun y => absurd r1.f0.1 y, fun _ => ⟨fun y => bX1_parseBars_41 ?_, fun y => ?_⟩⟩⟩
      · rw [r1.k] at y
        exact Hok c1 g (by rw [← he]; exact brs_end y) fd r1
      · rw [r1.k] at y
        have k1 : c1.t.k = 1 := Classical.not_not.mp y
        refine kX1_parseBar_1 (d := d) r1 w1 hn (fun w' p g2 hb b => ⟨by omega, bX1_parseBars_10 ⟨fun _ => ?_, fun _ => ⟨fun _ => ?_, fun q => absurd (by rw [b.ew]; exact b.nz) q⟩⟩⟩) (fun c2 g2 hok f2 r2 => ⟨by omega, ?_⟩)
        · exact bX1_parseBars_41 (Hbad w' p g2 (by rw [← he]; exact brs_bad (Or.inl k1) hb) (b.fr fd))
        · exact bX1_parseBars_41 (Hbad w' p g2 (by rw [← he]; exact brs_bad (Or.inl k1) hb) (b.fr fd))
        · obtain ⟨w2, n2, F2⟩ := bar1_w (f := f') w1 hf hok
          exact ih f' (x + 1) c2 g2 (by omega) (by omega) w2 F2 (by rw [← he]; exact (brs_ok hok).symm) (fd.tr f2) r2
  refine eX1_parseBars (bX1_parseBars_0 (kX1_adv (d := d + 1) (by decide) r w hn (fun g1 f1 r1 => kX1_parseBar_1 (d := d) r1 wa hn (fun w' p g2 hb b => bX1_parseBars_10 ⟨fun q => absurd q (by decide), fun _ => ⟨fun _ => bX1_parseBars_41 (Hbad w' p g2 (brs_bad (Or.inr rfl) hb) (b.fr f1)), fun q => absurd (by rw [b.ew]; exact b.nz) q⟩⟩) (fun c2 g2 hok f2 r2 => ?_))))
  obtain ⟨w2, n2, F2⟩ := bar1_w (f := n + 1) wa (Fz_0 wa) hok
  have n8 := w2.nq
  exact loop (8 - c2.nq) (n + 1) 0 c2 g2 (by omega) (by omega) w2 F2 (by rw [← brs_ok hok]) (f1.tr f2) r2
end
