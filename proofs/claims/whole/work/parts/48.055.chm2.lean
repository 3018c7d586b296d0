/-! chm2: the model reads a charter -/
/-- what the model holds while it reads, m numbers of its proofs -/
def Mr (s : Nat → Int) (n m : Nat) (c : Cs) (g : am_H) : Prop := (g 60 = s) ∧ (g 59 26 = n) ∧ (∀ i, i < 67 → g 71 i = W67.getD i 0) ∧ (Mt' s c.t g) ∧ (g 59 32 = c.np) ∧ (∀ j, j < m → g 72 (72 + j) = c.pr j) ∧ (∀ k, k < 4 → g 73 (4 + k) = c.se k) ∧ (∀ k, k < 4 → (g 74 k = 0 ∨ g 74 k = 1) ∧ (g 74 k = 1 ↔ c.td k)) ∧ (g 59 37 = c.nq) ∧ (∀ k, k < c.nq → g 75 (8 + k) = c.bz k) ∧ (∀ k i, k < c.nq → i < c.bz k → g 76 (64 + 8 * k + i) = c.bl (8 * k + i)) ∧ (g 59 1 = 0) ∧ (g 59 24 = 0 ∧ g 59 25 = -1)
theorem Mr.s60 {s : Nat → Int} {n m : Nat} {c : Cs} {g : am_H} (s_ : Mr s n m c g) : g 60 = s := s_.1
theorem Mr.st {s : Nat → Int} {n m : Nat} {c : Cs} {g : am_H} (s_ : Mr s n m c g) : g 59 26 = n := s_.2.1
theorem Mr.wt {s : Nat → Int} {n m : Nat} {c : Cs} {g : am_H} (s_ : Mr s n m c g) : ∀ i, i < 67 → g 71 i = W67.getD i 0 := s_.2.2.1
theorem Mr.tk {s : Nat → Int} {n m : Nat} {c : Cs} {g : am_H} (s_ : Mr s n m c g) : Mt' s c.t g := s_.2.2.2.1
theorem Mr.np {s : Nat → Int} {n m : Nat} {c : Cs} {g : am_H} (s_ : Mr s n m c g) : g 59 32 = c.np := s_.2.2.2.2.1
theorem Mr.pr {s : Nat → Int} {n m : Nat} {c : Cs} {g : am_H} (s_ : Mr s n m c g) : ∀ j, j < m → g 72 (72 + j) = c.pr j := s_.2.2.2.2.2.1
theorem Mr.se {s : Nat → Int} {n m : Nat} {c : Cs} {g : am_H} (s_ : Mr s n m c g) : ∀ k, k < 4 → g 73 (4 + k) = c.se k := s_.2.2.2.2.2.2.1
theorem Mr.td {s : Nat → Int} {n m : Nat} {c : Cs} {g : am_H} (s_ : Mr s n m c g) : ∀ k, k < 4 → (g 74 k = 0 ∨ g 74 k = 1) ∧ (g 74 k = 1 ↔ c.td k) := s_.2.2.2.2.2.2.2.1
theorem Mr.nq {s : Nat → Int} {n m : Nat} {c : Cs} {g : am_H} (s_ : Mr s n m c g) : g 59 37 = c.nq := s_.2.2.2.2.2.2.2.2.1
theorem Mr.bz {s : Nat → Int} {n m : Nat} {c : Cs} {g : am_H} (s_ : Mr s n m c g) : ∀ k, k < c.nq → g 75 (8 + k) = c.bz k := s_.2.2.2.2.2.2.2.2.2.1
theorem Mr.bl {s : Nat → Int} {n m : Nat} {c : Cs} {g : am_H} (s_ : Mr s n m c g) : ∀ k i, k < c.nq → i < c.bz k → g 76 (64 + 8 * k + i) = c.bl (8 * k + i) := s_.2.2.2.2.2.2.2.2.2.2.1
theorem Mr.z1 {s : Nat → Int} {n m : Nat} {c : Cs} {g : am_H} (s_ : Mr s n m c g) : g 59 1 = 0 := s_.2.2.2.2.2.2.2.2.2.2.2.1
theorem Mr.z24 {s : Nat → Int} {n m : Nat} {c : Cs} {g : am_H} (s_ : Mr s n m c g) : g 59 24 = 0 ∧ g 59 25 = -1 := s_.2.2.2.2.2.2.2.2.2.2.2.2
/-- the same but for what the reading may touch -/
def Fc (h g : am_H) : Prop := (∀ i, ¬ i = 59 → ¬ (72 ≤ i ∧ i ≤ 76) → g i = h i) ∧ (∀ j, ¬ (j = 1 ∨ j = 2 ∨ (24 ≤ j ∧ j ≤ 30) ∨ j = 32 ∨ j = 37) → g 59 j = h 59 j) ∧ (∀ j, j < 72 → g 72 j = h 72 j) ∧ (∀ j, j < 4 → g 73 j = h 73 j) ∧ (∀ j, j < 8 → g 75 j = h 75 j) ∧ (∀ j, j < 64 → g 76 j = h 76 j)
theorem Fc.o {h g : am_H} (s_ : Fc h g) : ∀ i, ¬ i = 59 → ¬ (72 ≤ i ∧ i ≤ 76) → g i = h i := s_.1
theorem Fc.f {h g : am_H} (s_ : Fc h g) : ∀ j, ¬ (j = 1 ∨ j = 2 ∨ (24 ≤ j ∧ j ≤ 30) ∨ j = 32 ∨ j = 37) → g 59 j = h 59 j := s_.2.1
theorem Fc.p {h g : am_H} (s_ : Fc h g) : ∀ j, j < 72 → g 72 j = h 72 j := s_.2.2.1
theorem Fc.s {h g : am_H} (s_ : Fc h g) : ∀ j, j < 4 → g 73 j = h 73 j := s_.2.2.2.1
theorem Fc.b {h g : am_H} (s_ : Fc h g) : ∀ j, j < 8 → g 75 j = h 75 j := s_.2.2.2.2.1
theorem Fc.l {h g : am_H} (s_ : Fc h g) : ∀ j, j < 64 → g 76 j = h 76 j := s_.2.2.2.2.2
theorem Fc.rf {h : am_H} : Fc h h := ⟨fun _ _ _ => rfl, fun _ _ => rfl, fun _ _ => rfl, fun _ _ => rfl, fun _ _ => rfl, fun _ _ => rfl⟩
theorem Fc.tr {h g k : am_H} (a : Fc h g) (b : Fc g k) : Fc h k := ⟨fun i h1 h2 => (b.o i h1 h2).trans (a.o i h1 h2), fun j hj => (b.f j hj).trans (a.f j hj), fun j hj => (b.p j hj).trans (a.p j hj), fun j hj => (b.s j hj).trans (a.s j hj), fun j hj => (b.b j hj).trans (a.b j hj), fun j hj => (b.l j hj).trans (a.l j hj)⟩
theorem Ft.fc {h g : am_H} (a : Ft h g) : Fc h g := ⟨fun i h1 _ => a.1 i h1, fun j hj => a.2 j (by omega), fun j _ => by rw [a.1 72 (by decide)], fun j _ => by rw [a.1 73 (by decide)], fun j _ => by rw [a.1 75 (by decide)], fun j _ => by rw [a.1 76 (by decide)]⟩
theorem Fc.st59 {h g : am_H} {j : Nat} {v : Int} (a : Fc h g) (hj : j = 1 ∨ j = 2 ∨ (24 ≤ j ∧ j ≤ 30) ∨ j = 32 ∨ j = 37) : Fc h (am_st g 59 j v) := ⟨fun i h1 h2 => by rw [st_ne h1]; exact a.o i h1 h2, fun i hi => by rw [st_nj (by omega)]; exact a.f i hi, fun i hi => by rw [st_ne (by decide)]; exact a.p i hi, fun i hi => by rw [st_ne (by decide)]; exact a.s i hi, fun i hi => by rw [st_ne (by decide)]; exact a.b i hi, fun i hi => by rw [st_ne (by decide)]; exact a.l i hi⟩
theorem Fc.st72 {h g : am_H} {j : Nat} {v : Int} (a : Fc h g) (hj : 72 ≤ j) : Fc h (am_st g 72 j v) := ⟨fun i h1 h2 => by rw [st_ne (by omega)]; exact a.o i h1 h2, fun i hi => by rw [st_ne (by decide)]; exact a.f i hi, fun i hi => by rw [st_nj (by omega)]; exact a.p i hi, fun i hi => by rw [st_ne (by decide)]; exact a.s i hi, fun i hi => by rw [st_ne (by decide)]; exact a.b i hi, fun i hi => by rw [st_ne (by decide)]; exact a.l i hi⟩
theorem Fc.st73 {h g : am_H} {j : Nat} {v : Int} (a : Fc h g) (hj : 4 ≤ j) : Fc h (am_st g 73 j v) := ⟨fun i h1 h2 => by rw [st_ne (by omega)]; exact a.o i h1 h2, fun i hi => by rw [st_ne (by decide)]; exact a.f i hi, fun i hi => by rw [st_ne (by decide)]; exact a.p i hi, fun i hi => by rw [st_nj (by omega)]; exact a.s i hi, fun i hi => by rw [st_ne (by decide)]; exact a.b i hi, fun i hi => by rw [st_ne (by decide)]; exact a.l i hi⟩
theorem Fc.st74 {h g : am_H} {j : Nat} {v : Int} (a : Fc h g) : Fc h (am_st g 74 j v) := ⟨fun i h1 h2 => by rw [st_ne (by omega)]; exact a.o i h1 h2, fun i hi => by rw [st_ne (by decide)]; exact a.f i hi, fun i hi => by rw [st_ne (by decide)]; exact a.p i hi, fun i hi => by rw [st_ne (by decide)]; exact a.s i hi, fun i hi => by rw [st_ne (by decide)]; exact a.b i hi, fun i hi => by rw [st_ne (by decide)]; exact a.l i hi⟩
theorem Fc.st75 {h g : am_H} {j : Nat} {v : Int} (a : Fc h g) (hj : 8 ≤ j) : Fc h (am_st g 75 j v) := ⟨fun i h1 h2 => by rw [st_ne (by omega)]; exact a.o i h1 h2, fun i hi => by rw [st_ne (by decide)]; exact a.f i hi, fun i hi => by rw [st_ne (by decide)]; exact a.p i hi, fun i hi => by rw [st_ne (by decide)]; exact a.s i hi, fun i hi => by rw [st_nj (by omega)]; exact a.b i hi, fun i hi => by rw [st_ne (by decide)]; exact a.l i hi⟩
theorem Fc.st76 {h g : am_H} {j : Nat} {v : Int} (a : Fc h g) (hj : 64 ≤ j) : Fc h (am_st g 76 j v) := ⟨fun i h1 h2 => by rw [st_ne (by omega)]; exact a.o i h1 h2, fun i hi => by rw [st_ne (by decide)]; exact a.f i hi, fun i hi => by rw [st_ne (by decide)]; exact a.p i hi, fun i hi => by rw [st_ne (by decide)]; exact a.s i hi, fun i hi => by rw [st_ne (by decide)]; exact a.b i hi, fun i hi => by rw [st_nj (by omega)]; exact a.l i hi⟩
/-- a fault stands -/
def Mb (h : am_H) (w : Int) (p : Nat) (g : am_H) : Prop := (Fc h g) ∧ (g 59 24 = w) ∧ (g 59 25 = p) ∧ (g 59 1 = 0)
theorem Mb.fc {h : am_H} {w : Int} {p : Nat} {g : am_H} (s_ : Mb h w p g) : Fc h g := s_.1
theorem Mb.w {h : am_H} {w : Int} {p : Nat} {g : am_H} (s_ : Mb h w p g) : g 59 24 = w := s_.2.1
theorem Mb.p {h : am_H} {w : Int} {p : Nat} {g : am_H} (s_ : Mb h w p g) : g 59 25 = p := s_.2.2.1
theorem Mb.z1 {h : am_H} {w : Int} {p : Nat} {g : am_H} (s_ : Mb h w p g) : g 59 1 = 0 := s_.2.2.2
theorem Mt'.congr {s : Nat → Int} {t : Tk} {g g' : am_H} (m : Mt' s t g) (h : ∀ j, 27 ≤ j → j ≤ 30 → g' 59 j = g 59 j) : Mt' s t g' := ⟨by rw [h 28 (by decide) (by decide)]; exact m.k, by rw [h 30 (by decide) (by decide)]; exact m.fr, by rw [h 27 (by decide) (by decide)]; exact m.to, by rw [h 29 (by decide) (by decide)]; exact m.w1, by rw [h 29 (by decide) (by decide)]; exact m.w2⟩
section
variable {L : Nat} {xs : Nat → Int} {P : Nat → List am_V → am_H → am_K → Prop} {d : Nat} {h : am_H} {K : am_K} {s : Nat → Int} {n m : Nat} {c : Cs}
theorem kX12_take' (r : Mr s n m c h) (w : Cw s n c) (hn : n ≤ 400) (H : ∀ g, Fc h g → Mr s n m (adv s n c) g → K (9, 0) g) : am_C true L xs P (d + 2) 153 [(2, 59)] h K := by
  refine kX12_take (p := c.t.to) w.to hn r.st r.tk.to r.wt (fun g f t => H g f.fc ?_)
  rw [r.s60] at t
  have o (i : Nat) (hi : ¬ i = 59) : g i = h i := f.1 i hi
  have q (j : Nat) (hj : ¬ (27 ≤ j ∧ j ≤ 30)) : g 59 j = h 59 j := f.2 j hj
  exact ⟨by rw [o 60 (by decide)]; exact r.s60, by rw [q 26 (by decide)]; exact r.st, by rw [o 71 (by decide)]; exact r.wt, t, by rw [q 32 (by decide)]; exact r.np, by rw [o 72 (by decide)]; exact r.pr, by rw [o 73 (by decide)]; exact r.se, by rw [o 74 (by decide)]; exact r.td, by rw [q 37 (by decide)]; exact r.nq, by rw [o 75 (by decide)]; exact r.bz, by rw [o 76 (by decide)]; exact r.bl, by rw [q 1 (by decide)]; exact r.z1, by rw [q 24 (by decide), q 25 (by decide)]; exact r.z24⟩
theorem kX12_wrong' {w : Int} (r : Mr s n m c h) (H : ∀ g, Mb h w c.t.fr g → K (0, 0) g) : am_C true L xs P (d + 1) 149 [(2, 59), (0, w)] h K := by
  refine kX12_wrong (H _ ⟨(Fc.rf.st59 (by decide)).st59 (by decide), by rw [st_nj (by decide), st_at], ?_, by rw [st_nj (by decide), st_nj (by decide)]; exact r.z1⟩)
  rw [st_at]; exact r.tk.fr
theorem kX12_isNumber {lo hi : Int} (r : Mr s n m c h) (H1 : ¬ c.t.k = 2 → ∀ g, Mb h 1 c.t.fr g → K (0, 0) g) (H2 : c.t.k = 2 → ¬ (lo ≤ nmv s c ∧ nmv s c ≤ hi) → ∀ g, Mb h 2 c.t.fr g → K (0, 0) g) (H3 : c.t.k = 2 → (lo ≤ nmv s c ∧ nmv s c ≤ hi) → K (0, 1) h) : am_C true L xs P (d + 2) 156 [(2, 59), (0, lo), (0, hi)] h K := by
  refine eX12_isNumber (bX12_isNumber_0 ?_)
  rw [r.tk.k]
  refine ⟨fun z => bX12_isNumber_14 ?_, fun z => kX12_wrong' (d := d) r (fun g b => ⟨by decide, H1 z g b⟩)⟩
  have e : h 59 29 = nmv s c := r.tk.w2 z
  rw [e]
  have bad : ¬ (lo ≤ nmv s c ∧ nmv s c ≤ hi) → tX12_isNumber (h 0 0 + (0 : Nat)) L xs (am_C true L xs P (d + 1)) K 30 [(2, 59), (0, lo), (0, hi)] [] h := fun q => bX12_isNumber_30 (kX12_wrong' (d := d) r (fun g b => ⟨fun _ => bX12_isNumber_42 (bX12_isNumber_43 ⟨by decide, H2 z q g b⟩), fun y => absurd rfl y⟩))
  exact ⟨fun q => bad (fun y => by omega), fun q => ⟨fun q2 => bX12_isNumber_38 (bX12_isNumber_43 ⟨by decide, H3 z ⟨by omega, q2⟩⟩), fun q2 => bad (fun y => q2 y.2)⟩⟩
theorem Mb.fr {h h' g : am_H} {w : Int} {p : Nat} (a : Fc h h') (b : Mb h' w p g) : Mb h w p g := ⟨a.tr b.fc, b.w, b.p, b.z1⟩
theorem kX12_numberRead {k : Nat} (r : Mr s n m c h) (w : Cw s n c) (hn : n ≤ 400) (hk : k < 4) (Hok : ∀ c' g, stg s n c k = .ok c' → Fc h g → Mr s n m c' g → K (0, 1) g) (Hbad : ∀ w p g, stg s n c k = .bad w p → Mb h w p g → K (0, 0) g) : am_C true L xs P (d + 3) 159 [(2, 59), (0, (k : Int))] h K := by
  have t := r.td k hk
  refine eX12_numberRead (bX12_numberRead_0 ⟨by omega, ?_⟩)
  rw [Int.toNat_natCast]
  refine fun _ => ⟨fun z => bX12_numberRead_15 ?_, fun z => kX12_wrong' (d := d + 1) r (fun g b => ⟨by decide, Hbad 3 c.t.fr g ?_ b⟩)⟩
  · have ntd : ¬ c.td k := fun q => by have := t.2.mpr q; omega
    rw [Int.toNat_natCast]
    refine ⟨⟨by omega, by omega, by decide, by decide⟩, ?_⟩
    have f1 : Fc h (am_st h 74 k 1) := Fc.rf.st74
    have o (i : Nat) (hi : ¬ i = 74) : am_st h 74 k 1 i = h i := st_ne hi
    -- the mark is set
    have r1 : Mr s n m ⟨c.t, c.np, c.pr, c.se, fun j => j = k ∨ c.td j, c.nq, c.bz, c.bl⟩ (am_st h 74 k 1) := by
      refine ⟨by rw [o 60 (by decide)]; exact r.s60, by rw [o 59 (by decide)]; exact r.st, by rw [o 71 (by decide)]; exact r.wt, r.tk.congr (fun j _ _ => by rw [o 59 (by decide)]), by rw [o 59 (by decide)]; exact r.np, by rw [o 72 (by decide)]; exact r.pr, by rw [o 73 (by decide)]; exact r.se, fun j hj => ?_, by rw [o 59 (by decide)]; exact r.nq, by rw [o 75 (by decide)]; exact r.bz, by rw [o 76 (by decide)]; exact r.bl, by rw [o 59 (by decide)]; exact r.z1, by rw [o 59 (by decide)]; exact r.z24⟩
      rw [st_ap]
      by_cases e : j = k
      · rw [if_pos e]; exact ⟨Or.inr rfl, fun _ => Or.inl e, fun _ => rfl⟩
      · rw [if_neg e]
        have := r.td j hj
        exact ⟨this.1, fun q => Or.inr (this.2.mp q), fun q => this.2.mpr (q.resolve_left e)⟩
    have w1 : Cw s n ⟨c.t, c.np, c.pr, c.se, fun j => j = k ∨ c.td j, c.nq, c.bz, c.bl⟩ := ⟨w.fr, w.to, w.ad, w.k4, w.sm, w.np, w.nq, w.bz, w.dg⟩
    refine kX12_take' (d := d) r1 w1 hn (fun g2 f2 r2 => ?_)
    have fg := f1.tr f2
    have e0 : (adv s n ⟨c.t, c.np, c.pr, c.se, fun j => j = k ∨ c.td j, c.nq, c.bz, c.bl⟩).t = (adv s n c).t := rfl
    have en : nmv s (adv s n ⟨c.t, c.np, c.pr, c.se, fun j => j = k ∨ c.td j, c.nq, c.bz, c.bl⟩) = nmv s (adv s n c) := rfl
    have fin : ∀ lo hi : Int, lo = lsv k → hi = hsv k → tX12_numberRead (h 0 0 + (0 : Nat)) L xs (am_C true L xs P (d + 2)) K 68 [(2, 59), (0, (k : Int))] [(0, hi), (0, lo), (2, 59)] g2 := by
      intro lo hi hlo hhi
      refine bX12_numberRead_68 (kX12_isNumber (d := d) r2 (fun z2 g b => ?_) (fun z2 z3 g b => ?_) (fun z2 z3 => ?_))
      · refine ⟨fun q => absurd rfl q, fun _ => ⟨by decide, Hbad 1 (adv s n c).t.fr g ?_ (b.fr fg)⟩⟩
        unfold stg; rw [if_neg ntd, if_pos (show ¬ (adv s n c).t.k = 2 from z2)]
      · refine ⟨fun q => absurd rfl q, fun _ => ⟨by decide, Hbad 2 (adv s n c).t.fr g ?_ (b.fr fg)⟩⟩
        unfold stg; rw [if_neg ntd, if_neg (fun q => q z2), if_pos (by rw [← hlo, ← hhi]; exact z3)]
      · refine ⟨fun _ => bX12_numberRead_76 ?_, fun q => absurd (by decide) q⟩
        have e29 : g2 59 29 = nmv s (adv s n c) := r2.tk.w2 z2
        rw [e29, show Int.toNat (4 + (k : Int)) = 4 + k by omega]
        refine ⟨⟨by omega, by omega⟩, by omega, ?_⟩
        have o3 (i : Nat) (hi : ¬ i = 73) : am_st g2 73 (4 + k) (nmv s (adv s n c)) i = g2 i := st_ne hi
        have r3 : Mr s n m ⟨(adv s n c).t, c.np, c.pr, up c.se k (nmv s (adv s n c)), fun j => j = k ∨ c.td j, c.nq, c.bz, c.bl⟩ (am_st g2 73 (4 + k) (nmv s (adv s n c))) := by
          refine ⟨by rw [o3 60 (by decide)]; exact r2.s60, by rw [o3 59 (by decide)]; exact r2.st, by rw [o3 71 (by decide)]; exact r2.wt, r2.tk.congr (fun j _ _ => by rw [o3 59 (by decide)]), by rw [o3 59 (by decide)]; exact r2.np, by rw [o3 72 (by decide)]; exact r2.pr, fun j hj => ?_, by rw [o3 74 (by decide)]; exact r2.td, by rw [o3 59 (by decide)]; exact r2.nq, by rw [o3 75 (by decide)]; exact r2.bz, by rw [o3 76 (by decide)]; exact r2.bl, by rw [o3 59 (by decide)]; exact r2.z1, by rw [o3 59 (by decide)]; exact r2.z24⟩
          rw [st_ap]
          by_cases e : j = k
          · rw [if_pos (by omega), e]; exact up_at.symm
          · rw [if_neg (by omega)]
            show g2 73 (4 + j) = up c.se k _ j
            rw [up_ne e]; exact r2.se j hj
        have w3 : Cw s n ⟨(adv s n c).t, c.np, c.pr, up c.se k (nmv s (adv s n c)), fun j => j = k ∨ c.td j, c.nq, c.bz, c.bl⟩ := by
          have wa := w.adv.1
          exact ⟨wa.fr, wa.to, wa.ad, wa.k4, wa.sm, wa.np, wa.nq, wa.bz, wa.dg⟩
        refine kX12_take' (d := d) r3 w3 hn (fun g4 f4 r4 => ⟨by decide, Hok _ g4 ?_ ((fg.tr (Fc.rf.st73 (by omega))).tr f4) r4⟩)
        unfold stg; rw [if_neg ntd, if_neg (fun q => q z2), if_neg (fun q => q (by rw [← hlo, ← hhi]; exact z3))]
        rfl
    have hi' : ∀ lo : Int, lo = lsv k → tX12_numberRead (h 0 0 + (0 : Nat)) L xs (am_C true L xs P (d + 2)) K 37 [(2, 59), (0, (k : Int))] [(0, lo), (2, 59)] g2 := by
      intro lo hlo
      refine bX12_numberRead_37 ⟨fun q0 => bX12_numberRead_46 ⟨fun q1 => bX12_numberRead_56 ⟨fun q2 => bX12_numberRead_66 (fin lo 99 hlo ?_), fun q2 => fin lo 30 hlo ?_⟩, fun q1 => fin lo 6 hlo ?_⟩, fun q0 => fin lo 66 hlo ?_⟩
      · unfold hsv; rw [if_neg (by omega), if_neg (by omega), if_neg (by omega)]
      · unfold hsv; rw [if_neg (by omega), if_neg (by omega), if_pos (by omega)]
      · unfold hsv; rw [if_neg (by omega), if_pos (by omega)]
      · unfold hsv; rw [if_pos (by omega)]
    exact ⟨fun q => bX12_numberRead_36 (hi' 1 (by unfold lsv; rw [if_neg (by omega)])), fun q => hi' 5 (by unfold lsv; rw [if_pos (by omega)])⟩
  · unfold stg; rw [if_pos (t.2.mp (t.1.resolve_left z))]
end
