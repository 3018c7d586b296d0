/-! link: class and model know the same -/
def LkN (h : am_H) (N nb : Nat) : Prop := (h 34 4 = N) ∧ (h 59 11 = N) ∧ (N ≤ 90) ∧ (h 34 5 = nb) ∧ (h 59 12 = nb) ∧ (∀ k, k < N → h 35 k = h 63 k) ∧ (∀ k, k < N → h 36 k = h 64 k) ∧ (∀ k, k < N → h 37 k = h 65 k) ∧ (∀ k, k < N → h 35 k = 1 → h 38 k = h 66 k) ∧ (∀ k : Nat, k < N → h 35 k = 0 → h 38 k = h 67 (h 36 k).toNat ∧ h 68 (h 36 k).toNat = k) ∧ (∀ b : Nat, b < nb → 0 ≤ h 68 b ∧ h 68 b < N ∧ h 35 (h 68 b).toNat = 0 ∧ h 36 (h 68 b).toNat = b) ∧ (WN (h 35) (h 36) (h 37) (h 38) N nb) ∧ (∀ k, k < N → h 35 k = 0 → h 38 k < h 20 13) ∧ (∀ k, k < N → h 35 k = 2 → h 36 k < h 20 13)
theorem LkN.s1 {h : am_H} {N nb : Nat} (s_ : LkN h N nb) : h 34 4 = N := s_.1
theorem LkN.s2 {h : am_H} {N nb : Nat} (s_ : LkN h N nb) : h 59 11 = N := s_.2.1
theorem LkN.N90 {h : am_H} {N nb : Nat} (s_ : LkN h N nb) : N ≤ 90 := s_.2.2.1
theorem LkN.b1 {h : am_H} {N nb : Nat} (s_ : LkN h N nb) : h 34 5 = nb := s_.2.2.2.1
theorem LkN.b2 {h : am_H} {N nb : Nat} (s_ : LkN h N nb) : h 59 12 = nb := s_.2.2.2.2.1
theorem LkN.kd {h : am_H} {N nb : Nat} (s_ : LkN h N nb) : ∀ k, k < N → h 35 k = h 63 k := s_.2.2.2.2.2.1
theorem LkN.sj {h : am_H} {N nb : Nat} (s_ : LkN h N nb) : ∀ k, k < N → h 36 k = h 64 k := s_.2.2.2.2.2.2.1
theorem LkN.th {h : am_H} {N nb : Nat} (s_ : LkN h N nb) : ∀ k, k < N → h 37 k = h 65 k := s_.2.2.2.2.2.2.2.1
theorem LkN.v1 {h : am_H} {N nb : Nat} (s_ : LkN h N nb) : ∀ k, k < N → h 35 k = 1 → h 38 k = h 66 k := s_.2.2.2.2.2.2.2.2.1
theorem LkN.v0 {h : am_H} {N nb : Nat} (s_ : LkN h N nb) : ∀ k : Nat, k < N → h 35 k = 0 → h 38 k = h 67 (h 36 k).toNat ∧ h 68 (h 36 k).toNat = k := s_.2.2.2.2.2.2.2.2.2.1
theorem LkN.no {h : am_H} {N nb : Nat} (s_ : LkN h N nb) : ∀ b : Nat, b < nb → 0 ≤ h 68 b ∧ h 68 b < N ∧ h 35 (h 68 b).toNat = 0 ∧ h 36 (h 68 b).toNat = b := s_.2.2.2.2.2.2.2.2.2.2.1
theorem LkN.wn {h : am_H} {N nb : Nat} (s_ : LkN h N nb) : WN (h 35) (h 36) (h 37) (h 38) N nb := s_.2.2.2.2.2.2.2.2.2.2.2.1
theorem LkN.ce {h : am_H} {N nb : Nat} (s_ : LkN h N nb) : ∀ k, k < N → h 35 k = 0 → h 38 k < h 20 13 := s_.2.2.2.2.2.2.2.2.2.2.2.2.1
theorem LkN.du {h : am_H} {N nb : Nat} (s_ : LkN h N nb) : ∀ k, k < N → h 35 k = 2 → h 36 k < h 20 13 := s_.2.2.2.2.2.2.2.2.2.2.2.2.2
def LkR (h : am_H) (nm : Nat) : Prop := (2 ≤ h 59 3 ∧ h 59 3 ≤ 5) ∧ (2 ≤ h 59 4 ∧ h 59 4 ≤ 5) ∧ (h 20 13 = h 59 3 * h 59 4) ∧ (h 20 14 = h 59 7) ∧ (0 ≤ h 59 7 ∧ h 59 7 ≤ 20) ∧ (h 20 15 = nm) ∧ (h 59 9 = nm) ∧ (nm ≤ 14) ∧ (∀ c : Nat, (c : Int) < h 20 13 → h 21 c = c % h 59 3 ∧ h 22 c = c / h 59 3) ∧ (∀ j : Nat, j < 25 → (0 ≤ h 21 j ∧ h 21 j ≤ 4) ∧ (0 ≤ h 22 j ∧ h 22 j ≤ 4)) ∧ (∀ j : Nat, j < 20 → (0 ≤ h 24 j ∧ h 24 j < 25) ∧ (0 ≤ h 61 (4 * j + 1) ∧ h 61 (4 * j + 1) < 25)) ∧ (∀ i : Nat, (i : Int) < h 59 7 → h 23 i = h 61 (4 * i) ∧ h 24 i = h 61 (4 * i + 1) ∧ h 25 i = h 61 (4 * i + 2) ∧ h 26 i = h 61 (4 * i + 3) ∧ h 24 i < h 20 13) ∧ (∀ m : Nat, m < nm → h 27 m = h 62 (5 * m) ∧ h 28 m = h 62 (5 * m + 1) ∧ h 29 m = h 62 (5 * m + 2) ∧ h 30 m = h 62 (5 * m + 3) ∧ h 31 m = h 62 (5 * m + 4)) ∧ (∀ m : Nat, m < 14 → 0 ≤ h 62 (5 * m + 1) ∧ h 62 (5 * m + 1) ≤ 9999) ∧ (∀ m t : Nat, m < nm → t < 14 → h 32 (m * 14 + t) = tM h m t) ∧ (∀ m t : Nat, m < nm → t < 14 → 0 ≤ h 32 (m * 14 + t) ∧ h 32 (m * 14 + t) ≤ 9)
theorem LkR.w {h : am_H} {nm : Nat} (s_ : LkR h nm) : 2 ≤ h 59 3 ∧ h 59 3 ≤ 5 := s_.1
theorem LkR.t {h : am_H} {nm : Nat} (s_ : LkR h nm) : 2 ≤ h 59 4 ∧ h 59 4 ≤ 5 := s_.2.1
theorem LkR.cl {h : am_H} {nm : Nat} (s_ : LkR h nm) : h 20 13 = h 59 3 * h 59 4 := s_.2.2.1
theorem LkR.st {h : am_H} {nm : Nat} (s_ : LkR h nm) : h 20 14 = h 59 7 := s_.2.2.2.1
theorem LkR.sb {h : am_H} {nm : Nat} (s_ : LkR h nm) : 0 ≤ h 59 7 ∧ h 59 7 ≤ 20 := s_.2.2.2.2.1
theorem LkR.m1 {h : am_H} {nm : Nat} (s_ : LkR h nm) : h 20 15 = nm := s_.2.2.2.2.2.1
theorem LkR.m2 {h : am_H} {nm : Nat} (s_ : LkR h nm) : h 59 9 = nm := s_.2.2.2.2.2.2.1
theorem LkR.m14 {h : am_H} {nm : Nat} (s_ : LkR h nm) : nm ≤ 14 := s_.2.2.2.2.2.2.2.1
theorem LkR.co {h : am_H} {nm : Nat} (s_ : LkR h nm) : ∀ c : Nat, (c : Int) < h 20 13 → h 21 c = c % h 59 3 ∧ h 22 c = c / h 59 3 := s_.2.2.2.2.2.2.2.2.1
theorem LkR.c25 {h : am_H} {nm : Nat} (s_ : LkR h nm) : ∀ j : Nat, j < 25 → (0 ≤ h 21 j ∧ h 21 j ≤ 4) ∧ (0 ≤ h 22 j ∧ h 22 j ≤ 4) := s_.2.2.2.2.2.2.2.2.2.1
theorem LkR.s25 {h : am_H} {nm : Nat} (s_ : LkR h nm) : ∀ j : Nat, j < 20 → (0 ≤ h 24 j ∧ h 24 j < 25) ∧ (0 ≤ h 61 (4 * j + 1) ∧ h 61 (4 * j + 1) < 25) := s_.2.2.2.2.2.2.2.2.2.2.1
theorem LkR.sd {h : am_H} {nm : Nat} (s_ : LkR h nm) : ∀ i : Nat, (i : Int) < h 59 7 → h 23 i = h 61 (4 * i) ∧ h 24 i = h 61 (4 * i + 1) ∧ h 25 i = h 61 (4 * i + 2) ∧ h 26 i = h 61 (4 * i + 3) ∧ h 24 i < h 20 13 := s_.2.2.2.2.2.2.2.2.2.2.2.1
theorem LkR.mn {h : am_H} {nm : Nat} (s_ : LkR h nm) : ∀ m : Nat, m < nm → h 27 m = h 62 (5 * m) ∧ h 28 m = h 62 (5 * m + 1) ∧ h 29 m = h 62 (5 * m + 2) ∧ h 30 m = h 62 (5 * m + 3) ∧ h 31 m = h 62 (5 * m + 4) := s_.2.2.2.2.2.2.2.2.2.2.2.2.1
theorem LkR.mv {h : am_H} {nm : Nat} (s_ : LkR h nm) : ∀ m : Nat, m < 14 → 0 ≤ h 62 (5 * m + 1) ∧ h 62 (5 * m + 1) ≤ 9999 := s_.2.2.2.2.2.2.2.2.2.2.2.2.2.1
theorem LkR.tr {h : am_H} {nm : Nat} (s_ : LkR h nm) : ∀ m t : Nat, m < nm → t < 14 → h 32 (m * 14 + t) = tM h m t := s_.2.2.2.2.2.2.2.2.2.2.2.2.2.2.1
theorem LkR.tv {h : am_H} {nm : Nat} (s_ : LkR h nm) : ∀ m t : Nat, m < nm → t < 14 → 0 ≤ h 32 (m * 14 + t) ∧ h 32 (m * 14 + t) ≤ 9 := s_.2.2.2.2.2.2.2.2.2.2.2.2.2.2.2
def dz (x y : Int) : Int := if x = -1 then 0 else y
/-- one proof of the class's charter c and of the model's rows from o on -/
def PL (h : am_H) (c o l : Nat) : Prop := (h (c + 2) l = 1 ↔ h 72 (o + 6 * l) = 1) ∧ (h (c + 4) l = h 72 (o + 6 * l + 5)) ∧ (h (c + 3) (l * 4) = dz (h 72 (o + 6 * l + 1)) (h 72 (o + 6 * l + 1))) ∧ (h (c + 3) (l * 4 + 1) = dz (h 72 (o + 6 * l + 2)) 1) ∧ (h (c + 3) (l * 4 + 2) = dz (h 72 (o + 6 * l + 3)) 1) ∧ (h (c + 3) (l * 4 + 3) = dz (h 72 (o + 6 * l + 4)) (h 72 (o + 6 * l + 4)))
theorem PL.su {h : am_H} {c o l : Nat} (s_ : PL h c o l) : h (c + 2) l = 1 ↔ h 72 (o + 6 * l) = 1 := s_.1
theorem PL.re {h : am_H} {c o l : Nat} (s_ : PL h c o l) : h (c + 4) l = h 72 (o + 6 * l + 5) := s_.2.1
theorem PL.q0 {h : am_H} {c o l : Nat} (s_ : PL h c o l) : h (c + 3) (l * 4) = dz (h 72 (o + 6 * l + 1)) (h 72 (o + 6 * l + 1)) := s_.2.2.1
theorem PL.q1 {h : am_H} {c o l : Nat} (s_ : PL h c o l) : h (c + 3) (l * 4 + 1) = dz (h 72 (o + 6 * l + 2)) 1 := s_.2.2.2.1
theorem PL.q2 {h : am_H} {c o l : Nat} (s_ : PL h c o l) : h (c + 3) (l * 4 + 2) = dz (h 72 (o + 6 * l + 3)) 1 := s_.2.2.2.2.1
theorem PL.q3 {h : am_H} {c o l : Nat} (s_ : PL h c o l) : h (c + 3) (l * 4 + 3) = dz (h 72 (o + 6 * l + 4)) (h 72 (o + 6 * l + 4)) := s_.2.2.2.2.2
def LkP (h : am_H) (c np : Nat) : Prop := (c = 5 ∨ c = 11) ∧ (h 4 1 = c) ∧ (h c 5 = np) ∧ (h 59 31 = np) ∧ (np ≤ 12) ∧ (∀ l, l < np → PL h c 0 l)
theorem LkP.hc {h : am_H} {c np : Nat} (s_ : LkP h c np) : c = 5 ∨ c = 11 := s_.1
theorem LkP.h41 {h : am_H} {c np : Nat} (s_ : LkP h c np) : h 4 1 = c := s_.2.1
theorem LkP.p1 {h : am_H} {c np : Nat} (s_ : LkP h c np) : h c 5 = np := s_.2.2.1
theorem LkP.p2 {h : am_H} {c np : Nat} (s_ : LkP h c np) : h 59 31 = np := s_.2.2.2.1
theorem LkP.p12 {h : am_H} {c np : Nat} (s_ : LkP h c np) : np ≤ 12 := s_.2.2.2.2.1
theorem LkP.pl {h : am_H} {c np : Nat} (s_ : LkP h c np) : ∀ l, l < np → PL h c 0 l := s_.2.2.2.2.2
theorem cells_bnd {h : am_H} {nm : Nat} (r : LkR h nm) : 4 ≤ h 20 13 ∧ h 20 13 ≤ 25 := by
  have h1 := r.w
  have h2 := r.t
  rw [r.cl]
  have a : 2 * 2 ≤ h 59 3 * h 59 4 := Int.mul_le_mul h1.1 h2.1 (by omega) (by omega)
  have b : h 59 3 * h 59 4 ≤ 5 * 5 := Int.mul_le_mul h1.2 h2.2 (by omega) (by omega)
  omega
theorem LkR.okR {h : am_H} {nm : Nat} (r : LkR h nm) : am_okR h := by
  refine ⟨by rw [r.st]; exact r.sb, by rw [r.m1]; have := r.m14; omega, r.c25, fun j hj => (r.s25 j hj).1⟩
theorem LkR.okM {h : am_H} {nm : Nat} (r : LkR h nm) : okM h := ⟨r.w, r.sb, by rw [r.m2]; have := r.m14; omega, fun i hi => (r.s25 i hi).2, r.mv⟩
theorem lkC {h : am_H} {c N nb np nm : Nat} (a : LkN h N nb) (r : LkR h nm) (p : LkP h c np) : okC h c N nb np nm := ⟨p.hc, p.h41, a.s1, a.N90, a.b1, a.wn, p.p1, p.p12, r.m1, r.okR⟩
theorem lkL {h : am_H} {c N nb np nm : Nat} (a : LkN h N nb) (r : LkR h nm) (p : LkP h c np) : okL h N nb np nm := by
  refine ⟨r.okM, a.s2, a.N90, a.b2, ⟨a.wn.nb10, fun k hk h1 => ?_, fun k hk h3 => ?_, fun b hb => ⟨(a.no b hb).1, (a.no b hb).2.1⟩⟩, p.p2, p.p12, r.m2, fun b hb => ?_⟩
  · rw [← a.kd k hk] at h1
    rw [← a.sj k hk, ← a.th k hk]
    have := a.wn.k1 k hk h1
    exact ⟨this.1, this.2.1, this.2.2.1, this.2.2.2.1⟩
  · rw [← a.kd k hk] at h3
    rw [← a.sj k hk]
    exact a.wn.k3 k hk h3
  · have h1 := a.no b hb
    have h2 := a.v0 (h 68 b).toNat (by omega) h1.2.2.1
    have h3 := a.wn.k0 (h 68 b).toNat (by omega) h1.2.2.1
    rw [h1.2.2.2, Int.toNat_natCast] at h2
    rw [← h2.1]
    exact ⟨h3.2.2.1, h3.2.2.2⟩
section
variable {k : am_H} {n N nb np nm c : Nat}
theorem lk_al (hn : n ≤ N) (a : LkN k N nb) (x : KC n k) (y : KD n N k) : ∀ j, j < n → (k 40 j = 0 ↔ k 79 j = 1) := by
  have A : AL (k 35) (k 36) n (fun j => k 40 j = 0) := by
    intro j hj
    have h1 := x.st j hj
    have h2 := x.s01 j hj
    constructor
    · intro hz ⟨i, i1, i2, i3, i4⟩
      have := h1.mpr ⟨i, by omega, i1, i2, i3, i4⟩
      omega
    · intro hz
      rcases h2 with h2 | h2
      · exact h2
      · obtain ⟨i, _, i1, i2, i3, i4⟩ := h1.mp h2
        exact absurd ⟨i, i1, i2, i3, i4⟩ hz
  have B : AL (k 35) (k 36) n (fun j => k 79 j = 1) := by
    intro j hj
    rw [y.al j hj]
    refine not_congr ⟨fun ⟨i, i1, i2, i3, i4⟩ => ⟨i, i1, ?_, ?_, i4⟩, fun ⟨i, i1, i2, i3, i4⟩ => ⟨i, i1, ?_, ?_, i4⟩⟩
    · rw [a.kd i (by omega)]; exact i2
    · rw [a.sj i (by omega)]; exact i3
    · rw [← a.kd i (by omega)]; exact i2
    · rw [← a.sj i (by omega)]; exact i3
  exact AL_uniq (fun j hj h3 => (a.wn.k3 j (by omega) h3).2) A B
theorem lk_known (hn : n ≤ N) (a : LkN k N nb) (x : KC n k) (y : KD n N k) (b : Nat) : bt (k 39 4) b = true ↔ Km k nb b := by
  have al := lk_al hn a x y
  rw [x.bo]
  constructor
  · rintro ⟨j, _, j1, j2, j3, j4⟩
    have h1 := a.wn.k0 j (by omega) j3
    have h2 := (a.v0 j (by omega) j3).2
    rw [j4, Int.toNat_natCast] at h2
    refine ⟨by omega, ?_⟩
    rw [h2, Int.toNat_natCast]
    exact (al j j1).mp j2
  · rintro ⟨hb, h79⟩
    have h1 := a.no b hb
    have hlt : (k 68 b).toNat < n := by
      apply Classical.byContradiction
      intro hz
      have := y.out (k 68 b).toNat (by omega) (by omega)
      omega
    exact ⟨(k 68 b).toNat, by omega, hlt, (al _ hlt).mpr h79, h1.2.2.1, h1.2.2.2⟩
theorem lk_read (hn : n ≤ N) (a : LkN k N nb) (x : KC n k) (y : KD n N k) {b t : Nat} (hk : Km k nb b) (ht : t < 14) : k 41 (b * 14 + t) = k 80 (14 * b + t) := by
  have al := lk_al hn a x y
  have hb : b < 10 := Nat.lt_of_lt_of_le hk.1 a.wn.nb10
  refine Lst_uniq (fun j hj => ?_) (fun j hj hp => ?_) (x.re b t hb ht) (y.re b t hb ht)
  · rw [al j hj, a.kd j (by omega), a.sj j (by omega), a.th j (by omega)]
    exact ⟨fun z => ⟨z.1, z.2.1, z.2.2.1, z.2.2.2, hk.2⟩, fun z => ⟨z.1, z.2.1, z.2.2.1, z.2.2.2.1⟩⟩
  · exact a.v1 j (by omega) hp.2.1
theorem lk_cell (hn : n ≤ N) (a : LkN k N nb) (x : KC n k) (y : KD n N k) {b : Nat} (hk : Km k nb b) : k 43 b = k 67 b ∧ 0 ≤ k 67 b ∧ k 67 b < k 20 13 := by
  have al := lk_al hn a x y
  have h1 := a.no b hk.1
  have hlt : (k 68 b).toNat < n := by
    apply Classical.byContradiction
    intro hz
    have := y.out (k 68 b).toNat (by omega) (by omega)
    have := hk.2
    omega
  have h2 := x.ce (k 68 b).toNat (by omega) hlt ((al _ hlt).mpr hk.2) h1.2.2.1
  have h3 := a.v0 (k 68 b).toNat (by omega) h1.2.2.1
  have h4 := a.ce (k 68 b).toNat (by omega) h1.2.2.1
  have h5 := a.wn.k0 (k 68 b).toNat (by omega) h1.2.2.1
  rw [h1.2.2.2, Int.toNat_natCast] at h2 h3
  rw [h2, ← h3.1]
  exact ⟨rfl, h5.2.2.1, h4⟩
theorem lk_near (r : LkR k nm) {m : Nat} (hm : m < nm) {ce : Int} (hc : 0 ≤ ce ∧ ce < k 20 13) : Ncl k m ce = Nmo k m ce := by
  have mm := r.mn m hm
  unfold Ncl Nmo
  rw [r.st]
  have key : ∀ (n i : Nat) (acc : Int), (i : Int) + n ≤ k 59 7 → am_nr k (m : Int) ce n i acc = am_mr k (m : Int) ce n i acc := by
    intro n
    induction n with
    | zero => intro i acc _; rfl
    | succ n ih =>
      intro i acc hi
      have sd := r.sd i (by omega)
      have hs := r.s25 i (by have := r.sb; omega)
      have f : am_fr k (k 24 i) ce = am_fm k (k 61 (4 * i + 1)) ce := by
        unfold am_fr am_fm
        have c1 := r.co (k 24 i).toNat (by omega)
        have c2 := r.co ce.toNat (by omega)
        rw [show (((k 24 i).toNat : Nat) : Int) = k 24 i by omega] at c1
        rw [show ((ce.toNat : Nat) : Int) = ce by omega] at c2
        rw [c1.1, c1.2, c2.1, c2.2, sd.2.1]
      simp only [am_nr, am_mr]
      rw [f, sd.1, sd.2.2.1, sd.2.2.2.1, Int.toNat_natCast, mm.1, mm.2.2.1, show Int.toNat (5 * (m : Int)) = 5 * m by omega, show Int.toNat (5 * (m : Int) + 2) = 5 * m + 2 by omega]
      exact ih (i + 1) _ (by omega)
  exact key _ 0 _ (by have := r.sb; omega)
theorem lk_quar (hn : n ≤ N) (a : LkN k N nb) (r : LkR k nm) (x : KC n k) (y : KD n N k) {b m : Nat} (hk : Km k nb b) (hm : m < nm) : Qc k b m ↔ Qm k b m := by
  unfold Qc Qm
  constructor
  · rintro ⟨t, t1, t2, t3⟩
    rw [lk_read hn a x y hk t1] at t2 t3
    rw [r.tr m t hm t1] at t3
    exact ⟨t, t1, t2, t3⟩
  · rintro ⟨t, t1, t2, t3⟩
    refine ⟨t, t1, ?_⟩
    rw [lk_read hn a x y hk t1, r.tr m t hm t1]
    exact ⟨t2, t3⟩
theorem cnt_off (p : Nat → Prop) (a : Nat) : ∀ n, cnt p (a + n) = cnt p a + cnt (fun j => p (a + j)) n := by
  intro n
  induction n with
  | zero => rfl
  | succ n ih =>
    by_cases h : p (a + n)
    · rw [← Nat.add_assoc, cnt_pos h, cnt_pos (p := fun j => p (a + j)) h, ih]; omega
    · rw [← Nat.add_assoc, cnt_neg h, cnt_neg (p := fun j => p (a + j)) h, ih]
theorem cnt_win {p q : Nat → Prop} {a w z : Nat} (h0 : ∀ i, i < a → ¬ p i) (h1 : ∀ j, j < w → (p (a + j) ↔ q j)) (h2 : ∀ j, j < z → ¬ p (a + w + j)) : cnt p (a + w + z) = cnt q w := by
  rw [cnt_off, cnt_off, cnt_0 h0, cnt_0 h2, cnt_congr h1]; omega
theorem kOf0 {t : Nat} : kOf t = 0 ↔ t < 4 := by unfold kOf; split <;> (try split) <;> (try split) <;> omega
theorem kOf1 {t : Nat} : kOf t = 1 ↔ t = 4 := by unfold kOf; split <;> (try split) <;> (try split) <;> omega
theorem kOf2 {t : Nat} : kOf t = 2 ↔ t = 5 := by unfold kOf; split <;> (try split) <;> (try split) <;> omega
theorem kOf3 {t : Nat} : kOf t = 3 ↔ 6 ≤ t := by unfold kOf; split <;> (try split) <;> (try split) <;> omega
theorem cnt_k (p : Nat → Prop) : cnt (fun t => kOf t = 0 ∧ p t) 14 = cnt (fun j => p (0 + j)) 4 ∧ cnt (fun t => kOf t = 3 ∧ p t) 14 = cnt (fun j => p (6 + j)) 8 ∧ cnt (fun t => kOf t = 1 ∧ p t) 14 = cnt (fun j => p (4 + j)) 1 ∧ cnt (fun t => kOf t = 2 ∧ p t) 14 = cnt (fun j => p (5 + j)) 1 := by
  simp only [kOf0, kOf1, kOf2, kOf3]
  refine ⟨?_, ?_, ?_, ?_⟩
  · exact cnt_win (a := 0) (w := 4) (z := 10) (fun i hi => by omega) (fun j hj => ⟨fun z => z.2, fun z => ⟨by omega, z⟩⟩) (fun j hj z => by omega)
  · exact cnt_win (a := 6) (w := 8) (z := 0) (fun i hi z => by omega) (fun j hj => ⟨fun z => z.2, fun z => ⟨by omega, z⟩⟩) (fun j hj => by omega)
  · exact cnt_win (a := 4) (w := 1) (z := 9) (fun i hi z => by omega) (fun j hj => ⟨fun z => z.2, fun z => ⟨by omega, z⟩⟩) (fun j hj z => by omega)
  · exact cnt_win (a := 5) (w := 1) (z := 8) (fun i hi z => by omega) (fun j hj => ⟨fun z => z.2, fun z => ⟨by omega, z⟩⟩) (fun j hj z => by omega)
theorem cnt1 {p : Nat → Prop} : (1 ≤ cnt p 1 ↔ p 0) := by
  by_cases h : p 0
  · rw [cnt_pos (n := 0) h]; simp [cnt, h]
  · rw [cnt_neg (n := 0) h]; simp [cnt, h]
theorem dz_le {x y : Int} {n : Nat} (hxy : ¬ x = -1 → y = x) : dz x y ≤ n ↔ x ≤ n := by
  unfold dz
  split
  · rename_i e; constructor <;> intro _ <;> omega
  · rename_i e; rw [hxy e]
theorem lk_hold (hn : n ≤ N) (a : LkN k N nb) (p : LkP k c np) (x : KC n k) (y : KD n N k) {b l : Nat} {d : Int} (hk : Km k nb b) (hl : l < np) : Hc k c b d l ↔ Hm k b d l := by
  have hb : b < 10 := Nat.lt_of_lt_of_le hk.1 a.wn.nb10
  have pl := p.pl l hl
  have ma : ∀ q, q < 4 → k 42 (b * 4 + q) = cnt (fun t => kOf t = q ∧ ¬ k 80 (14 * b + t) = -1) 14 := by
    intro q hq
    rw [x.ma b q hb hq]
    congr 1
    exact cnt_congr (fun t ht => by rw [lk_read hn a x y hk ht])
  have ck := cnt_k (fun t => ¬ k 80 (14 * b + t) = -1)
  have m0 := ma 0 (by decide)
  have m1 := ma 1 (by decide)
  have m2 := ma 2 (by decide)
  have m3 := ma 3 (by decide)
  rw [ck.1] at m0
  rw [ck.2.2.1] at m1
  rw [ck.2.2.2] at m2
  rw [ck.2.1] at m3
  have z1 : (dz (k 72 (0 + 6 * l + 2)) 1 ≤ ((cnt (fun j => ¬ k 80 (14 * b + (4 + j)) = -1) 1 : Nat) : Int)) ↔ (k 72 (6 * l + 2) = -1 ∨ ¬ k 80 (14 * b + 4) = -1) := by
    rw [show 0 + 6 * l + 2 = 6 * l + 2 by omega]
    have := cnt1 (p := fun j => ¬ k 80 (14 * b + (4 + j)) = -1)
    unfold dz
    split
    · rename_i e; exact ⟨fun _ => Or.inl e, fun _ => by omega⟩
    · rename_i e
      constructor
      · intro z; exact Or.inr (this.mp (by omega))
      · rintro (z | z)
        · exact absurd z e
        · have := this.mpr z; omega
  have z2 : (dz (k 72 (0 + 6 * l + 3)) 1 ≤ ((cnt (fun j => ¬ k 80 (14 * b + (5 + j)) = -1) 1 : Nat) : Int)) ↔ (k 72 (6 * l + 3) = -1 ∨ ¬ k 80 (14 * b + 5) = -1) := by
    rw [show 0 + 6 * l + 3 = 6 * l + 3 by omega]
    have := cnt1 (p := fun j => ¬ k 80 (14 * b + (5 + j)) = -1)
    unfold dz
    split
    · rename_i e; exact ⟨fun _ => Or.inl e, fun _ => by omega⟩
    · rename_i e
      constructor
      · intro z; exact Or.inr (this.mp (by omega))
      · rintro (z | z)
        · exact absurd z e
        · have := this.mpr z; omega
  unfold Hc Hm
  rw [pl.re]
  have q0 : k (c + 3) (l * 4 + 0) = dz (k 72 (0 + 6 * l + 1)) (k 72 (0 + 6 * l + 1)) := pl.q0
  have q1 := pl.q1
  have q2 := pl.q2
  have q3 := pl.q3
  have e5 : 0 + 6 * l + 5 = 6 * l + 5 := by omega
  rw [e5]
  constructor
  · rintro ⟨h5, hq⟩
    have y0 := hq 0 (by decide)
    have y1 := hq 1 (by decide)
    have y2 := hq 2 (by decide)
    have y3 := hq 3 (by decide)
    rw [q0, m0, dz_le (fun _ => rfl)] at y0
    rw [q1, m1, z1] at y1
    rw [q2, m2, z2] at y2
    rw [q3, m3, dz_le (fun _ => rfl)] at y3
    rw [show 0 + 6 * l + 1 = 6 * l + 1 by omega] at y0
    rw [show 0 + 6 * l + 4 = 6 * l + 4 by omega] at y3
    exact ⟨y0, y3, y1, y2, h5⟩
  · rintro ⟨h1, h4, h2, h3, h5⟩
    refine ⟨h5, fun q hq => ?_⟩
    match q, hq with
    | 0, _ =>
      rw [q0, m0, dz_le (fun _ => rfl), show 0 + 6 * l + 1 = 6 * l + 1 by omega]; exact h1
    | 1, _ => rw [q1, m1, z1]; exact h2
    | 2, _ => rw [q2, m2, z2]; exact h3
    | 3, _ => rw [q3, m3, dz_le (fun _ => rfl), show 0 + 6 * l + 4 = 6 * l + 4 by omega]; exact h4
theorem lk_fit (hn : n ≤ N) (a : LkN k N nb) (r : LkR k nm) (p : LkP k c np) (x : KC n k) (y : KD n N k) {b m : Nat} (hk : Km k nb b) (hm : m < nm) : FC k c np nm b m = FM k np nm b m := by
  have ce := lk_cell hn a x y hk
  have ne : ∀ o, o < nm → Ncl k o (k 43 b) = Nmo k o (k 67 b) := fun o ho => by rw [ce.1]; exact lk_near r ho ce.2
  have eP : ∀ d : Int, Pc k c b d np ↔ Pm k b d np 0 := by
    intro d
    unfold Pc Pm
    exact ⟨fun ⟨l, l1, l2⟩ => ⟨l, l1, Or.inr rfl, (lk_hold hn a p x y hk l1).mp l2⟩, fun ⟨l, l1, _, l2⟩ => ⟨l, l1, (lk_hold hn a p x y hk l1).mpr l2⟩⟩
  have eS : ∀ d : Int, Sc k c b d np ↔ Pm k b d np 1 := by
    intro d
    unfold Sc Pm
    have su : ∀ l, l < np → (k (c + 2) l = 1 ↔ k 72 (6 * l) = 1) := fun l hl => by have := (p.pl l hl).su; rw [Nat.zero_add] at this; exact this
    exact ⟨fun ⟨l, l1, l2, l3⟩ => ⟨l, l1, Or.inl ((su l l1).mp l3), (lk_hold hn a p x y hk l1).mp l2⟩, fun ⟨l, l1, l3, l2⟩ => ⟨l, l1, (lk_hold hn a p x y hk l1).mpr l2, (su l l1).mpr (l3.resolve_right (by decide))⟩⟩
  unfold FC FM
  rw [ne m hm]
  refine vd_congr (lk_quar hn a r x y hk hm) (eP _) (eS _) ⟨fun ⟨o, o1, o2, o3, o4⟩ => ⟨o, o1, o2, ?_, ?_⟩, fun ⟨o, o1, o2, o3, o4⟩ => ⟨o, o1, o2, ?_, ?_⟩⟩
  · rw [← lk_quar hn a r x y hk o1]; exact o3
  · rw [← ne o o1, ← eS]; exact o4
  · rw [lk_quar hn a r x y hk o1]; exact o3
  · rw [ne o o1, eS]; exact o4
end
