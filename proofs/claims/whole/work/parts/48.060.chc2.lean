/-! chc2: what the class holds while it reads -/
def PQ (g : am_H) (D : Nat) (pr : Nat → Int) (l : Nat) : Prop := (g (D + 2) l = 1 ↔ pr (6 * l) = 1) ∧ (g (D + 4) l = pr (6 * l + 5)) ∧ (g (D + 3) (l * 4) = dz (pr (6 * l + 1)) (pr (6 * l + 1))) ∧ (g (D + 3) (l * 4 + 1) = dz (pr (6 * l + 2)) 1) ∧ (g (D + 3) (l * 4 + 2) = dz (pr (6 * l + 3)) 1) ∧ (g (D + 3) (l * 4 + 3) = dz (pr (6 * l + 4)) (pr (6 * l + 4)))
theorem PQ.su {g : am_H} {D : Nat} {pr : Nat → Int} {l : Nat} (s_ : PQ g D pr l) : g (D + 2) l = 1 ↔ pr (6 * l) = 1 := s_.1
theorem PQ.re {g : am_H} {D : Nat} {pr : Nat → Int} {l : Nat} (s_ : PQ g D pr l) : g (D + 4) l = pr (6 * l + 5) := s_.2.1
theorem PQ.q0 {g : am_H} {D : Nat} {pr : Nat → Int} {l : Nat} (s_ : PQ g D pr l) : g (D + 3) (l * 4) = dz (pr (6 * l + 1)) (pr (6 * l + 1)) := s_.2.2.1
theorem PQ.q1 {g : am_H} {D : Nat} {pr : Nat → Int} {l : Nat} (s_ : PQ g D pr l) : g (D + 3) (l * 4 + 1) = dz (pr (6 * l + 2)) 1 := s_.2.2.2.1
theorem PQ.q2 {g : am_H} {D : Nat} {pr : Nat → Int} {l : Nat} (s_ : PQ g D pr l) : g (D + 3) (l * 4 + 2) = dz (pr (6 * l + 3)) 1 := s_.2.2.2.2.1
theorem PQ.q3 {g : am_H} {D : Nat} {pr : Nat → Int} {l : Nat} (s_ : PQ g D pr l) : g (D + 3) (l * 4 + 3) = dz (pr (6 * l + 4)) (pr (6 * l + 4)) := s_.2.2.2.2.2
def Cr (s : Nat → Int) (n D m : Nat) (c : Cs) (g : am_H) : Prop := (sgn g = s) ∧ (g 4 3 = n) ∧ (g 4 4 = c.t.k) ∧ (g 4 5 = c.t.fr) ∧ (g 4 6 = c.t.to) ∧ (g 4 8 = 0 ∧ g 4 9 = -1) ∧ (g 4 2 = D) ∧ (g D 5 = m) ∧ (∀ l, l < m → PQ g D c.pr l) ∧ (∀ k, k < 4 → g (D + 1) k = c.se k) ∧ (∀ k, k < 4 → (bt (g 4 7) k = true ↔ c.td k)) ∧ (g D 6 = c.nq) ∧ (∀ k, k < c.nq → g (D + 5) k = wc (fun i => c.bl (8 * k + i)) (c.bz k))
theorem Cr.s3 {s : Nat → Int} {n D m : Nat} {c : Cs} {g : am_H} (s_ : Cr s n D m c g) : sgn g = s := s_.1
theorem Cr.ln {s : Nat → Int} {n D m : Nat} {c : Cs} {g : am_H} (s_ : Cr s n D m c g) : g 4 3 = n := s_.2.1
theorem Cr.k {s : Nat → Int} {n D m : Nat} {c : Cs} {g : am_H} (s_ : Cr s n D m c g) : g 4 4 = c.t.k := s_.2.2.1
theorem Cr.fr {s : Nat → Int} {n D m : Nat} {c : Cs} {g : am_H} (s_ : Cr s n D m c g) : g 4 5 = c.t.fr := s_.2.2.2.1
theorem Cr.to {s : Nat → Int} {n D m : Nat} {c : Cs} {g : am_H} (s_ : Cr s n D m c g) : g 4 6 = c.t.to := s_.2.2.2.2.1
theorem Cr.f0 {s : Nat → Int} {n D m : Nat} {c : Cs} {g : am_H} (s_ : Cr s n D m c g) : g 4 8 = 0 ∧ g 4 9 = -1 := s_.2.2.2.2.2.1
theorem Cr.dr {s : Nat → Int} {n D m : Nat} {c : Cs} {g : am_H} (s_ : Cr s n D m c g) : g 4 2 = D := s_.2.2.2.2.2.2.1
theorem Cr.np {s : Nat → Int} {n D m : Nat} {c : Cs} {g : am_H} (s_ : Cr s n D m c g) : g D 5 = m := s_.2.2.2.2.2.2.2.1
theorem Cr.pl {s : Nat → Int} {n D m : Nat} {c : Cs} {g : am_H} (s_ : Cr s n D m c g) : ∀ l, l < m → PQ g D c.pr l := s_.2.2.2.2.2.2.2.2.1
theorem Cr.se {s : Nat → Int} {n D m : Nat} {c : Cs} {g : am_H} (s_ : Cr s n D m c g) : ∀ k, k < 4 → g (D + 1) k = c.se k := s_.2.2.2.2.2.2.2.2.2.1
theorem Cr.td {s : Nat → Int} {n D m : Nat} {c : Cs} {g : am_H} (s_ : Cr s n D m c g) : ∀ k, k < 4 → (bt (g 4 7) k = true ↔ c.td k) := s_.2.2.2.2.2.2.2.2.2.2.1
theorem Cr.nq {s : Nat → Int} {n D m : Nat} {c : Cs} {g : am_H} (s_ : Cr s n D m c g) : g D 6 = c.nq := s_.2.2.2.2.2.2.2.2.2.2.2.1
theorem Cr.br {s : Nat → Int} {n D m : Nat} {c : Cs} {g : am_H} (s_ : Cr s n D m c g) : ∀ k, k < c.nq → g (D + 5) k = wc (fun i => c.bl (8 * k + i)) (c.bz k) := s_.2.2.2.2.2.2.2.2.2.2.2.2
def Fdr (D : Nat) (h g : am_H) : Prop := (∀ i, ¬ i = 4 → ¬ (D ≤ i ∧ i ≤ D + 5) → g i = h i) ∧ ∀ j, j < 3 → g 4 j = h 4 j
theorem Fdr.rf {D : Nat} {h : am_H} : Fdr D h h := ⟨fun _ _ _ => rfl, fun _ _ => rfl⟩
theorem Fdr.tr {D : Nat} {h g k : am_H} (a : Fdr D h g) (b : Fdr D g k) : Fdr D h k := ⟨fun i h1 h2 => (b.1 i h1 h2).trans (a.1 i h1 h2), fun j hj => (b.2 j hj).trans (a.2 j hj)⟩
theorem Fdr.st4 {D : Nat} {h g : am_H} {j : Nat} {v : Int} (a : Fdr D h g) (hj : 3 ≤ j) : Fdr D h (am_st g 4 j v) := ⟨fun i h1 h2 => by rw [st_ne h1]; exact a.1 i h1 h2, fun i hi => by rw [st_nj (by omega)]; exact a.2 i hi⟩
theorem Fdr.stD {D : Nat} {h g : am_H} {c j : Nat} {v : Int} (a : Fdr D h g) (hc : D ≤ c ∧ c ≤ D + 5) (hD : 5 ≤ D) : Fdr D h (am_st g c j v) := ⟨fun i h1 h2 => by rw [st_ne (by omega)]; exact a.1 i h1 h2, fun i hi => by rw [st_ne (by omega)]; exact a.2 i hi⟩
theorem F4.fd {D : Nat} {h g : am_H} (a : F4 h g) : Fdr D h g := ⟨fun i h1 _ => a.1 i h1, fun j hj => a.2 j (by omega)⟩
def Cb (n D : Nat) (h : am_H) (w : Int) (p : Nat) (g : am_H) : Prop := (Fdr D h g) ∧ (g 4 8 = w) ∧ (g 4 9 = p) ∧ (g 4 3 = n) ∧ (∃ q : Nat, q ≤ n ∧ g 4 6 = q) ∧ (¬ w = 0)
theorem Cb.fd {n D : Nat} {h : am_H} {w : Int} {p : Nat} {g : am_H} (s_ : Cb n D h w p g) : Fdr D h g := s_.1
theorem Cb.ew {n D : Nat} {h : am_H} {w : Int} {p : Nat} {g : am_H} (s_ : Cb n D h w p g) : g 4 8 = w := s_.2.1
theorem Cb.ep {n D : Nat} {h : am_H} {w : Int} {p : Nat} {g : am_H} (s_ : Cb n D h w p g) : g 4 9 = p := s_.2.2.1
theorem Cb.ln {n D : Nat} {h : am_H} {w : Int} {p : Nat} {g : am_H} (s_ : Cb n D h w p g) : g 4 3 = n := s_.2.2.2.1
theorem Cb.to {n D : Nat} {h : am_H} {w : Int} {p : Nat} {g : am_H} (s_ : Cb n D h w p g) : ∃ q : Nat, q ≤ n ∧ g 4 6 = q := s_.2.2.2.2.1
theorem Cb.nz {n D : Nat} {h : am_H} {w : Int} {p : Nat} {g : am_H} (s_ : Cb n D h w p g) : ¬ w = 0 := s_.2.2.2.2.2
theorem Cb.fr {n D : Nat} {h h' g : am_H} {w : Int} {p : Nat} (a : Fdr D h h') (b : Cb n D h' w p g) : Cb n D h w p g := ⟨a.tr b.fd, b.ew, b.ep, b.ln, b.to, b.nz⟩
section
variable {L : Nat} {xs : Nat → Int} {P : Nat → List am_V → am_H → am_K → Prop} {d : Nat} {h : am_H} {K : am_K} {s : Nat → Int} {n D m : Nat} {c : Cs}
theorem kX1_adv (hD : D = 5 ∨ D = 11) (r : Cr s n D m c h) (w : Cw s n c) (hn : n ≤ 400) (H : ∀ g, Fdr D h g → Cr s n D m (adv s n c) g → K (9, 0) g) : am_C true L xs P (d + 3) 19 [(2, 4)] h K := by
  refine kX1_advance (p := c.t.to) w.to hn r.ln r.to (fun g f a b e => H g f.fd ?_)
  have o (i : Nat) (hi : ¬ i = 4) : g i = h i := f.1 i hi
  rw [r.s3] at a b e
  refine ⟨by rw [f.sgn]; exact r.s3, by rw [f.2 3 (by decide)]; exact r.ln, a, b, e, by rw [f.2 8 (by decide), f.2 9 (by decide)]; exact r.f0, by rw [f.2 2 (by decide)]; exact r.dr, by rw [o D (by omega)]; exact r.np, fun l hl => ?_, by rw [o _ (by omega)]; exact r.se, by rw [f.2 7 (by decide)]; exact r.td, by rw [o D (by omega)]; exact r.nq, by rw [o _ (by omega)]; exact r.br⟩
  obtain ⟨x1, x2, x3, x4, x5, x6⟩ := r.pl l hl
  exact ⟨by rw [o _ (by omega)]; exact x1, by rw [o _ (by omega)]; exact x2, by rw [o _ (by omega)]; exact x3, by rw [o _ (by omega)]; exact x4, by rw [o _ (by omega)]; exact x5, by rw [o _ (by omega)]; exact x6⟩
theorem kX1_advbx {h0 : am_H} {w : Int} {p : Nat} (b : Cb n D h0 w p h) (hn : n ≤ 400) (H : ∀ g, Cb n D h0 w p g → (∀ i, ¬ i = 4 → g i = h i) → K (9, 0) g) : am_C true L xs P (d + 3) 19 [(2, 4)] h K := by
  obtain ⟨q, q1, q2⟩ := b.to
  refine kX1_advance (p := q) q1 hn b.ln q2 (fun g f a e1 e => H g ?_ f.1)
  have tb := tk_bnd (s := sgn h) (n := n) (p := q) q1
  exact ⟨b.fd.tr f.fd, by rw [f.2 8 (by decide)]; exact b.ew, by rw [f.2 9 (by decide)]; exact b.ep, by rw [f.2 3 (by decide)]; exact b.ln, ⟨_, tb.2.2.1, e⟩, b.nz⟩
theorem kX1_advb {h0 : am_H} {w : Int} {p : Nat} (b : Cb n D h0 w p h) (hn : n ≤ 400) (H : ∀ g, Cb n D h0 w p g → K (9, 0) g) : am_C true L xs P (d + 3) 19 [(2, 4)] h K := kX1_advbx b hn (fun g b _ => H g b)
theorem kX1_refx {w : Int} (r : Cr s n D m c h) (cw : Cw s n c) (hw : ¬ w = 0) (H : ∀ g, Cb n D h w c.t.fr g → (∀ i, ¬ i = 4 → g i = h i) → K (9, 0) g) : am_C true L xs P (d + 1) 18 [(2, 4), (0, w)] h K := by
  refine kX1_refuse ?_
  rw [if_pos r.f0.1]
  refine H _ ⟨(Fdr.rf.st4 (by decide)).st4 (by decide), by rw [st_nj (by decide), st_at], by rw [st_at]; exact r.fr, by rw [st_nj (by decide), st_nj (by decide)]; exact r.ln, ⟨c.t.to, cw.to, by rw [st_nj (by decide), st_nj (by decide)]; exact r.to⟩, hw⟩ (fun i hi => by rw [st_ne hi, st_ne hi])
theorem kX1_ref {w : Int} (r : Cr s n D m c h) (cw : Cw s n c) (hw : ¬ w = 0) (H : ∀ g, Cb n D h w c.t.fr g → K (9, 0) g) : am_C true L xs P (d + 1) 18 [(2, 4), (0, w)] h K := kX1_refx r cw hw (fun g b _ => H g b)
theorem kX1_refb {h0 : am_H} {w w' : Int} {p : Nat} (b : Cb n D h0 w p h) (H : K (9, 0) h) : am_C true L xs P (d + 1) 18 [(2, 4), (0, w')] h K := by
  refine kX1_refuse ?_
  rw [if_neg (by rw [b.ew]; exact b.nz)]; exact H
def cvl (s : Nat → Int) : Nat → Nat → Int → Int
  | 0, _, v => v
  | c + 1, p, v => cvl s c (p + 1) (if v * 10 + s p - 48 < 1000 then v * 10 + s p - 48 else 1000)
theorem cvl_nvl {s : Nat → Int} : ∀ (k p : Nat) (v u : Int), (∀ j, p ≤ j → j < p + k → Dg s j) → 0 ≤ v → u = (if v < 1000 then v else 1000) → cvl s k p u = (if nvl s k p v < 1000 then nvl s k p v else 1000) := by
  intro k
  induction k with
  | zero => intro p v u _ _ hu; exact hu
  | succ k ih =>
    intro p v u hd hv hu
    have d0 := hd p (by omega) (by omega)
    unfold Dg at d0
    simp only [cvl, nvl]
    refine ih (p + 1) _ _ (fun j h1 h2 => hd j (by omega) (by omega)) (by split <;> omega) ?_
    split at hu
    · rw [if_pos (show v ≤ 999 by omega)]
      have e : u * 10 + s p - 48 = 10 * v + s p - 48 := by omega
      rw [e]
    · rw [if_neg (show ¬ v ≤ 999 by omega), if_neg (show ¬ v < 1000 by omega), if_neg (by omega)]
theorem kX1_numberBehind {wi : Nat} {lo hi : Int} (hlo : am_word wi 2 = lo) (hhi : am_word wi 3 = hi) (h9 : hi ≤ 999) (r : Cr s n D m c h) (w : Cw s n c) (hn : n ≤ 400) (H1 : ¬ c.t.k = 2 → ∀ g, Cb n D h 1 c.t.fr g → (∀ i, ¬ i = 4 → g i = h i) → K (0, 0) g) (H2 : c.t.k = 2 → ¬ (lo ≤ nmv s c ∧ nmv s c ≤ hi) → ∀ g v, Cb n D h 2 c.t.fr g → (∀ i, ¬ i = 4 → g i = h i) → K (0, v) g) (H3 : c.t.k = 2 → (lo ≤ nmv s c ∧ nmv s c ≤ hi) → K (0, nmv s c) h) : am_C true L xs P (d + 4) 16 [(2, 4), (4, (wi : Int))] h K := by
  have fo := w.fr
  have to := w.to
  refine eX1_numberBehind_1 (bX1_numberBehind_0_1 ?_)
  rw [r.k]
  refine ⟨fun z => bX1_numberBehind_15_1 ?_, fun z => kX1_refx (d := d + 2) r w (by decide) (fun g b => H1 z g b)⟩
  rw [r.fr]
  have dg := w.dg z
  have key : ∀ (k p : Nat) (v : Int), p + k = c.t.to → c.t.fr ≤ p → 0 ≤ v ∧ v ≤ 1000 → cvl s k p v = cvl s (c.t.to - c.t.fr) c.t.fr 0 → (∀ x3 : Int, tX1_numberBehind (h 0 0 + (0 : Nat)) L xs (am_C true L xs P (d + 3)) K 59 [(2, 4), (4, (wi : Int)), (0, cvl s (c.t.to - c.t.fr) c.t.fr 0), (0, x3)] [] h) → tX1_numberBehind (h 0 0 + (0 : Nat)) L xs (am_C true L xs P (d + 3)) K 22 [(2, 4), (4, (wi : Int)), (0, v), (0, (p : Int))] [] h := by
    intro k
    induction k with
    | zero =>
      intro p v hp _ hv he G
      refine bX1_numberBehind_22_1 ?_
      rw [r.to]
      refine ⟨fun _ => ?_, fun y => by omega⟩
      have : v = cvl s (c.t.to - c.t.fr) c.t.fr 0 := he
      rw [this]
      exact G _
    | succ k ih =>
      intro p v hp hfp hv he G
      have dp := dg p hfp (by omega)
      unfold Dg at dp
      refine bX1_numberBehind_22_1 ?_
      rw [r.to]
      refine ⟨fun y => by omega, fun _ => ⟨⟨by omega, by omega⟩, kX8_sign (d := d + 2) (by omega) ?_⟩⟩
      rw [sgn_eq, r.s3]
      dsimp only
      refine ⟨⟨by omega, by omega⟩, ⟨by omega, by omega⟩, kJ9_min_7cf53 (d := d + 2) ⟨by omega, ?_⟩⟩
      dsimp only
      simp only [cvl] at he
      exact ih (p + 1) _ (by omega) (by omega) (by split <;> omega) he G
  refine key (c.t.to - c.t.fr) c.t.fr 0 (by omega) (Nat.le_refl _) (by decide) rfl (fun x3 => bX1_numberBehind_59_1 ?_)
  rw [Int.toNat_natCast, hlo, hhi]
  have cv : cvl s (c.t.to - c.t.fr) c.t.fr 0 = (if nmv s c < 1000 then nmv s c else 1000) := cvl_nvl _ _ 0 0 (fun j h1 h2 => dg j h1 (by omega)) (by decide) (by decide)
  refine kX11_within (d := d + 2) (fun y => ?_) (fun y => ?_)
  · have no : ¬ (lo ≤ nmv s c ∧ nmv s c ≤ hi) := by
      intro q
      rw [cv, if_pos (by omega)] at y
      exact y q
    refine ⟨fun q => absurd rfl q, fun _ => kX1_refx (d := d + 2) r w (by decide) (fun g b o => bX1_numberBehind_79_1 (H2 z no g _ b o))⟩
  · have e : cvl s (c.t.to - c.t.fr) c.t.fr 0 = nmv s c := by
      rw [cv] at y ⊢
      split at y
      · rename_i q; rw [if_pos q]
      · omega
    rw [e] at y ⊢
    exact ⟨fun _ => bX1_numberBehind_79_1 (H3 z y), fun q => absurd (by decide) q⟩
theorem kX1_lw (hP : LWP P) (r : Cr s n D m c h) (w : Cw s n c) (hn : n ≤ 400) (H0 : wd s c = -1 → K (2, 0) h) (H1 : 0 ≤ wd s c → K (4, wd s c) h) : am_C true L xs P (d + 1) 17 [(2, 4)] h K := by
  have fo := w.fr
  have to := w.to
  have wb := wd_bnd (s := s) (c := c)
  refine kX1_languageWord hP (by rw [r.fr]; omega) (by rw [r.fr, r.to]; omega) (by rw [r.to]; omega) ?_
  unfold lwv
  rw [r.s3, r.k, r.fr, r.to, Int.toNat_natCast, Int.toNat_natCast]
  by_cases hk : c.t.k = 1
  · have e : wd s c = widx s c.t.fr c.t.to := by unfold wd; rw [if_pos hk]
    rw [← e]
    by_cases h0 : 0 ≤ wd s c
    · rw [if_pos ⟨hk, h0⟩]; exact H1 h0
    · rw [if_neg (fun q => h0 q.2)]; exact H0 (by omega)
  · rw [if_neg (fun q => hk q.1)]
    exact H0 (by unfold wd; rw [if_neg hk])
end
