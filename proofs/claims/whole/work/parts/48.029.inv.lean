/-! inv: what holds between the class's cells and the model's -/
def agree (D : List (Nat × Option Nat)) (h g : am_H) : Prop := ∀ p, p ∈ D → (match p.2 with | none => g p.1 = h p.1 | some j => g p.1 j = h p.1 j)
def nd (D : List (Nat × Option Nat)) (c j : Nat) : Bool := D.all (fun p => !(p.1 == c) || (match p.2 with | none => false | some i => !(i == j)))
def nfr (D : List (Nat × Option Nat)) (S : List Nat) : Bool := D.all (fun p => !(S.contains p.1))
theorem agree.rf {D : List (Nat × Option Nat)} {h : am_H} : agree D h h := by
  intro p hp
  cases p.2 <;> rfl
theorem agree.tr {D : List (Nat × Option Nat)} {h g k : am_H} (a : agree D h g) (b : agree D g k) : agree D h k := by
  intro p hp
  have x := a p hp
  have y := b p hp
  revert x y
  cases p.2 with
  | none => intro x y; exact y.trans x
  | some j => intro x y; exact y.trans x
theorem agree.st {D : List (Nat × Option Nat)} {h g : am_H} {c j : Nat} {v : Int} (a : agree D h g) (n : nd D c j = true) : agree D h (am_st g c j v) := by
  intro p hp
  have x := a p hp
  have y := (List.all_eq_true.mp n) p hp
  revert x y
  cases p.2 with
  | none =>
    intro x y
    simp at y
    rw [st_ne y]; exact x
  | some i =>
    intro x y
    simp at y
    by_cases e : p.1 = c
    · have : ¬ i = j := y.resolve_left (fun z => z e)
      subst e
      show am_st g p.1 j v p.1 i = h p.1 i
      rw [st_nj this]; exact x
    · show am_st g c j v p.1 i = h p.1 i
      rw [st_ne e]; exact x
theorem agree.of {D : List (Nat × Option Nat)} {S : List Nat} {h g : am_H} (a : Fr S h g) (n : nfr D S = true) : agree D h g := by
  intro p hp
  have y := (List.all_eq_true.mp n) p hp
  have z := a p.1 (by simp at y; exact y)
  cases p.2 with
  | none => exact z
  | some i => show g p.1 i = h p.1 i; rw [z]
/-- the same but for what is only scratch -/
def XS (h g : am_H) : Prop := (∀ i, ¬ i = 33 → ¬ (39 ≤ i ∧ i ≤ 54) → ¬ i = 58 → ¬ i = 59 → ¬ (79 ≤ i ∧ i ≤ 92) → g i = h i) ∧ (∀ j, ¬ j = 2 → ¬ j = 49 → ¬ j = 50 → g 59 j = h 59 j)
theorem XS.tr {h g k : am_H} (a : XS h g) (b : XS g k) : XS h k := ⟨fun i h1 h2 h3 h4 h5 => (b.1 i h1 h2 h3 h4 h5).trans (a.1 i h1 h2 h3 h4 h5), fun j h1 h2 h3 => (b.2 j h1 h2 h3).trans (a.2 j h1 h2 h3)⟩
theorem CS.xs {h g : am_H} (a : CS h g) : XS h g := ⟨fun i h1 h2 h3 _ _ => a i h1 h2 h3, fun j _ _ _ => by rw [a 59 (by decide) (by decide) (by decide)]⟩
theorem MS.xs {h g : am_H} (a : MS h g) : XS h g := ⟨fun i _ _ _ h4 h5 => a.1 i h4 h5, a.2⟩
def xok (D : List (Nat × Option Nat)) : Bool := D.all (fun p => !(p.1 == 33) && !(39 ≤ p.1 && p.1 ≤ 54) && !(p.1 == 58) && !(79 ≤ p.1 && p.1 ≤ 92) && (!(p.1 == 59) || (match p.2 with | none => false | some i => !(i == 2) && !(i == 49) && !(i == 50))))
theorem XS.ag {D : List (Nat × Option Nat)} {h g : am_H} (a : XS h g) (n : xok D = true) : agree D h g := by
  intro p hp
  have y := (List.all_eq_true.mp n) p hp
  revert y
  cases p.2 with
  | none =>
    intro y
    simp at y
    exact a.1 p.1 (by omega) (by omega) (by omega) (by omega) (by omega)
  | some i =>
    intro y
    simp at y
    by_cases e : p.1 = 59
    · show g p.1 i = h p.1 i
      rw [e]
      have := y.2.resolve_left (fun z => z e)
      exact a.2 i (by omega) (by omega) (by omega)
    · show g p.1 i = h p.1 i
      rw [a.1 p.1 (by omega) (by omega) (by omega) e (by omega)]
theorem agree.c {D : List (Nat × Option Nat)} {h g : am_H} (a : agree D h g) (c : Nat) (m : D.contains (c, none) = true) : g c = h c := a (c, none) (by simpa using m)
theorem agree.f {D : List (Nat × Option Nat)} {h g : am_H} (a : agree D h g) (c j : Nat) (m : D.contains (c, some j) = true) : g c j = h c j := a (c, some j) (by simpa using m)
def DN : List (Nat × Option Nat) := [(34, some 4), (34, some 5), (59, some 11), (59, some 12), (20, some 13), (35, none), (36, none), (37, none), (38, none), (63, none), (64, none), (65, none), (66, none), (67, none), (68, none)]
theorem LkN.cg {h g : am_H} {N nb : Nat} (l : LkN h N nb) (a : agree DN h g) : LkN g N nb := by
  obtain ⟨x1, x2, x3, x4, x5, x6, x7, x8, x9, x10, x11, x12, x13, x14⟩ := l
  have e4 := a.f 34 4 rfl
  have e5 := a.f 34 5 rfl
  have e11 := a.f 59 11 rfl
  have e12 := a.f 59 12 rfl
  have e13 := a.f 20 13 rfl
  have e35 := a.c 35 rfl
  have e36 := a.c 36 rfl
  have e37 := a.c 37 rfl
  have e38 := a.c 38 rfl
  have e63 := a.c 63 rfl
  have e64 := a.c 64 rfl
  have e65 := a.c 65 rfl
  have e66 := a.c 66 rfl
  have e67 := a.c 67 rfl
  have e68 := a.c 68 rfl
  refine ⟨?_, ?_, ?_, ?_, ?_, ?_, ?_, ?_, ?_, ?_, ?_, ?_, ?_, ?_⟩ <;> first | assumption | (simp only [e4, e5, e11, e12, e13, e35, e36, e37, e38, e63, e64, e65, e66, e67, e68]; assumption)
def DR : List (Nat × Option Nat) := [(59, some 3), (59, some 4), (59, some 7), (59, some 9), (20, some 13), (20, some 14), (20, some 15), (21, none), (22, none), (23, none), (24, none), (25, none), (26, none), (27, none), (28, none), (29, none), (30, none), (31, none), (32, none), (61, none), (62, none)]
theorem LkR.cg {h g : am_H} {nm : Nat} (l : LkR h nm) (a : agree DR h g) : LkR g nm := by
  obtain ⟨x1, x2, x3, x4, x5, x6, x7, x8, x9, x10, x11, x12, x13, x14, x15, x16⟩ := l
  have e1 := a.f 59 3 rfl
  have e2 := a.f 59 4 rfl
  have e3 := a.f 59 7 rfl
  have e4 := a.f 59 9 rfl
  have e5 := a.f 20 13 rfl
  have e6 := a.f 20 14 rfl
  have e7 := a.f 20 15 rfl
  have e21 := a.c 21 rfl
  have e22 := a.c 22 rfl
  have e23 := a.c 23 rfl
  have e24 := a.c 24 rfl
  have e25 := a.c 25 rfl
  have e26 := a.c 26 rfl
  have e27 := a.c 27 rfl
  have e28 := a.c 28 rfl
  have e29 := a.c 29 rfl
  have e30 := a.c 30 rfl
  have e31 := a.c 31 rfl
  have e32 := a.c 32 rfl
  have e61 := a.c 61 rfl
  have e62 := a.c 62 rfl
  have et : ∀ m t, tM g m t = tM h m t := fun m t => by unfold tM; rw [e62]
  refine ⟨?_, ?_, ?_, ?_, ?_, ?_, ?_, ?_, ?_, ?_, ?_, ?_, ?_, ?_, ?_, ?_⟩ <;> first | assumption | (simp only [e1, e2, e3, e4, e5, e6, e7, e21, e22, e23, e24, e25, e26, e27, e28, e29, e30, e31, e32, e61, e62, et]; assumption)
/-- a word as one number, five bits a letter -/
def wc (f : Nat → Int) : Nat → Int
  | 0 => 0
  | n + 1 => wc f n * 32 + (f n - 96)
def BL (h : am_H) (c o p k : Nat) : Prop := (1 ≤ h 75 (o + k) ∧ h 75 (o + k) ≤ 8) ∧ (∀ i : Nat, (i : Int) < h 75 (o + k) → 97 ≤ h 76 (p + 8 * k + i) ∧ h 76 (p + 8 * k + i) ≤ 122) ∧ (h (c + 5) k = wc (fun i => h 76 (p + 8 * k + i)) (h 75 (o + k)).toNat)
theorem BL.sz {h : am_H} {c o p k : Nat} (s_ : BL h c o p k) : 1 ≤ h 75 (o + k) ∧ h 75 (o + k) ≤ 8 := s_.1
theorem BL.le {h : am_H} {c o p k : Nat} (s_ : BL h c o p k) : ∀ i : Nat, (i : Int) < h 75 (o + k) → 97 ≤ h 76 (p + 8 * k + i) ∧ h 76 (p + 8 * k + i) ≤ 122 := s_.2.1
theorem BL.co {h : am_H} {c o p k : Nat} (s_ : BL h c o p k) : h (c + 5) k = wc (fun i => h 76 (p + 8 * k + i)) (h 75 (o + k)).toNat := s_.2.2
def W67 : List Int := [109, 97, 121, 32, 115, 117, 114, 101, 32, 108, 101, 116, 116, 101, 114, 115, 32, 108, 105, 110, 101, 115, 32, 119, 105, 100, 101, 32, 114, 101, 99, 117, 116, 32, 98, 97, 114, 32, 100, 105, 115, 99, 32, 98, 117, 116, 116, 111, 110, 32, 98, 111, 111, 116, 115, 32, 116, 101, 101, 116, 104, 32, 110, 101, 97, 114, 32]
def LkS (h : am_H) (c nq : Nat) : Prop := (h 4 2 = 16 - (c : Int)) ∧ (∀ k : Nat, k < 4 → h (c + 1) k = h 73 k) ∧ (1 ≤ h 73 0 ∧ h 73 0 ≤ 66) ∧ (1 ≤ h 73 1 ∧ h 73 1 ≤ 6) ∧ (5 ≤ h 73 2 ∧ h 73 2 ≤ 30) ∧ (1 ≤ h 73 3 ∧ h 73 3 ≤ 99) ∧ (h c 6 = nq) ∧ (h 59 36 = nq) ∧ (nq ≤ 8) ∧ (∀ k, k < nq → BL h c 0 0 k) ∧ (∀ i, i < 67 → h 71 i = W67.getD i 0)
theorem LkS.dr {h : am_H} {c nq : Nat} (s_ : LkS h c nq) : h 4 2 = 16 - (c : Int) := s_.1
theorem LkS.se {h : am_H} {c nq : Nat} (s_ : LkS h c nq) : ∀ k : Nat, k < 4 → h (c + 1) k = h 73 k := s_.2.1
theorem LkS.r0 {h : am_H} {c nq : Nat} (s_ : LkS h c nq) : 1 ≤ h 73 0 ∧ h 73 0 ≤ 66 := s_.2.2.1
theorem LkS.r1 {h : am_H} {c nq : Nat} (s_ : LkS h c nq) : 1 ≤ h 73 1 ∧ h 73 1 ≤ 6 := s_.2.2.2.1
theorem LkS.r2 {h : am_H} {c nq : Nat} (s_ : LkS h c nq) : 5 ≤ h 73 2 ∧ h 73 2 ≤ 30 := s_.2.2.2.2.1
theorem LkS.r3 {h : am_H} {c nq : Nat} (s_ : LkS h c nq) : 1 ≤ h 73 3 ∧ h 73 3 ≤ 99 := s_.2.2.2.2.2.1
theorem LkS.n1 {h : am_H} {c nq : Nat} (s_ : LkS h c nq) : h c 6 = nq := s_.2.2.2.2.2.2.1
theorem LkS.n2 {h : am_H} {c nq : Nat} (s_ : LkS h c nq) : h 59 36 = nq := s_.2.2.2.2.2.2.2.1
theorem LkS.n8 {h : am_H} {c nq : Nat} (s_ : LkS h c nq) : nq ≤ 8 := s_.2.2.2.2.2.2.2.2.1
theorem LkS.br {h : am_H} {c nq : Nat} (s_ : LkS h c nq) : ∀ k, k < nq → BL h c 0 0 k := s_.2.2.2.2.2.2.2.2.2.1
theorem LkS.wd {h : am_H} {c nq : Nat} (s_ : LkS h c nq) : ∀ i, i < 67 → h 71 i = W67.getD i 0 := s_.2.2.2.2.2.2.2.2.2.2
def DP : List (Nat × Option Nat) := [(4, some 1), (4, some 2), (59, some 31), (59, some 36), (5, none), (6, none), (7, none), (8, none), (9, none), (10, none), (11, none), (12, none), (13, none), (14, none), (15, none), (16, none), (71, none), (72, none), (73, none), (75, none), (76, none)]
theorem DPc {h g : am_H} {c : Nat} (a : agree DP h g) (hc : c = 5 ∨ c = 11) : g c = h c ∧ g (c + 1) = h (c + 1) ∧ g (c + 2) = h (c + 2) ∧ g (c + 3) = h (c + 3) ∧ g (c + 4) = h (c + 4) ∧ g (c + 5) = h (c + 5) := by
  rcases hc with e | e <;> subst e
  · exact ⟨a.c 5 rfl, a.c 6 rfl, a.c 7 rfl, a.c 8 rfl, a.c 9 rfl, a.c 10 rfl⟩
  · exact ⟨a.c 11 rfl, a.c 12 rfl, a.c 13 rfl, a.c 14 rfl, a.c 15 rfl, a.c 16 rfl⟩
theorem LkP.cg {h g : am_H} {c np : Nat} (l : LkP h c np) (a : agree DP h g) : LkP g c np := by
  obtain ⟨x1, x2, x3, x4, x5, x6⟩ := l
  obtain ⟨c0, c1, c2, c3, c4, c5⟩ := DPc a x1
  refine ⟨x1, by rw [a.f 4 1 rfl]; exact x2, by rw [c0]; exact x3, by rw [a.f 59 31 rfl]; exact x4, x5, fun l hl => ?_⟩
  obtain ⟨y1, y2, y3, y4, y5, y6⟩ := x6 l hl
  have e := a.c 72 rfl
  refine ⟨?_, ?_, ?_, ?_, ?_, ?_⟩ <;> first | assumption | (simp only [e, c2, c3, c4]; assumption)
theorem LkS.cg {h g : am_H} {c nq : Nat} (hc : c = 5 ∨ c = 11) (l : LkS h c nq) (a : agree DP h g) : LkS g c nq := by
  obtain ⟨x1, x2, x3, x4, x5, x6, x7, x8, x9, x10, x11⟩ := l
  obtain ⟨c0, c1, c2, c3, c4, c5⟩ := DPc a hc
  have e73 := a.c 73 rfl
  refine ⟨by rw [a.f 4 2 rfl]; exact x1, by rw [c1, e73]; exact x2, by rw [e73]; exact x3, by rw [e73]; exact x4, by rw [e73]; exact x5, by rw [e73]; exact x6, by rw [c0]; exact x7, by rw [a.f 59 36 rfl]; exact x8, x9, fun k hk => ?_, by rw [a.c 71 rfl]; exact x11⟩
  obtain ⟨y1, y2, y3⟩ := x10 k hk
  have e5 := a.c 75 rfl
  have e6 := a.c 76 rfl
  refine ⟨?_, ?_, ?_⟩ <;> first | assumption | (simp only [e5, e6, c5]; assumption)
def LkT (h : am_H) : Prop := (h 2 1 = h 59 1) ∧ (0 ≤ h 59 1 ∧ h 59 1 ≤ 400) ∧ (∀ j, am_and (h 3 j) 255 = h 60 j)
theorem LkT.sz {h : am_H} (s_ : LkT h) : h 2 1 = h 59 1 := s_.1
theorem LkT.in4 {h : am_H} (s_ : LkT h) : 0 ≤ h 59 1 ∧ h 59 1 ≤ 400 := s_.2.1
theorem LkT.sg {h : am_H} (s_ : LkT h) : ∀ j, am_and (h 3 j) 255 = h 60 j := s_.2.2
def DT : List (Nat × Option Nat) := [(2, some 1), (59, some 1), (3, none), (60, none)]
theorem LkT.cg {h g : am_H} (l : LkT h) (a : agree DT h g) : LkT g := by
  obtain ⟨x1, x2, x3⟩ := l
  have e1 := a.f 2 1 rfl
  have e2 := a.f 59 1 rfl
  have e3 := a.c 3 rfl
  have e4 := a.c 60 rfl
  refine ⟨?_, ?_, ?_⟩ <;> first | assumption | (simp only [e1, e2, e3, e4]; assumption)
def LkF (h : am_H) : Prop := h 1 11 = h 59 24 ∧ h 1 12 = h 59 25
def DF : List (Nat × Option Nat) := [(1, some 11), (1, some 12), (59, some 24), (59, some 25)]
theorem LkF.cg {h g : am_H} (l : LkF h) (a : agree DF h g) : LkF g := by
  unfold LkF
  rw [a.f 1 11 rfl, a.f 1 12 rfl, a.f 59 24 rfl, a.f 59 25 rfl]; exact l
def LkL (h : am_H) : Prop := (h 17 3 = h 59 40) ∧ (0 ≤ h 59 40 ∧ h 59 40 ≤ 6) ∧ (∀ k : Nat, (k : Int) < h 59 40 → h 18 k = h 77 k)
theorem LkL.n {h : am_H} (s_ : LkL h) : h 17 3 = h 59 40 := s_.1
theorem LkL.n6 {h : am_H} (s_ : LkL h) : 0 ≤ h 59 40 ∧ h 59 40 ≤ 6 := s_.2.1
theorem LkL.li {h : am_H} (s_ : LkL h) : ∀ k : Nat, (k : Int) < h 59 40 → h 18 k = h 77 k := s_.2.2
def DL : List (Nat × Option Nat) := [(17, some 3), (59, some 40), (18, none), (77, none)]
theorem LkL.cg {h g : am_H} (l : LkL h) (a : agree DL h g) : LkL g := by
  obtain ⟨x1, x2, x3⟩ := l
  have e1 := a.f 17 3 rfl
  have e2 := a.f 59 40 rfl
  have e3 := a.c 18 rfl
  have e4 := a.c 77 rfl
  refine ⟨?_, ?_, ?_⟩ <;> first | assumption | (simp only [e1, e2, e3, e4]; assumption)
def LkY (h : am_H) : Prop := (am_okY h) ∧ (am_okZ h) ∧ (h 55 3 = h 59 19) ∧ (h 55 4 = h 59 22) ∧ (∀ j : Nat, (j : Int) < h 59 19 → h 56 j = h 69 j) ∧ (∀ j : Nat, j < 168 → h 57 j = h 70 j)
theorem LkY.y {h : am_H} (s_ : LkY h) : am_okY h := s_.1
theorem LkY.z {h : am_H} (s_ : LkY h) : am_okZ h := s_.2.1
theorem LkY.n {h : am_H} (s_ : LkY h) : h 55 3 = h 59 19 := s_.2.2.1
theorem LkY.c {h : am_H} (s_ : LkY h) : h 55 4 = h 59 22 := s_.2.2.2.1
theorem LkY.s {h : am_H} (s_ : LkY h) : ∀ j : Nat, (j : Int) < h 59 19 → h 56 j = h 69 j := s_.2.2.2.2.1
theorem LkY.k {h : am_H} (s_ : LkY h) : ∀ j : Nat, j < 168 → h 57 j = h 70 j := s_.2.2.2.2.2
def DY : List (Nat × Option Nat) := [(55, some 3), (55, some 4), (59, some 19), (59, some 22), (56, none), (57, none), (69, none), (70, none)]
theorem LkY.cg {h g : am_H} (l : LkY h) (a : agree DY h g) : LkY g := by
  obtain ⟨x1, x2, x3, x4, x5, x6⟩ := l
  have e1 := a.f 55 3 rfl
  have e2 := a.f 55 4 rfl
  have e3 := a.f 59 19 rfl
  have e4 := a.f 59 22 rfl
  have e5 := a.c 56 rfl
  have e6 := a.c 57 rfl
  have e7 := a.c 69 rfl
  have e8 := a.c 70 rfl
  refine ⟨?_, ?_, ?_, ?_, ?_, ?_⟩ <;> first | assumption | (simp only [am_okY, am_okZ, e1, e2, e3, e4, e5, e6, e7, e8]; assumption)
def LkW (h : am_H) : Prop := (h 1 9 = h 59 5) ∧ (0 ≤ h 59 5 ∧ h 59 5 ≤ 9999) ∧ (h 1 10 = h 59 6)
theorem LkW.wk {h : am_H} (s_ : LkW h) : h 1 9 = h 59 5 := s_.1
theorem LkW.w0 {h : am_H} (s_ : LkW h) : 0 ≤ h 59 5 ∧ h 59 5 ≤ 9999 := s_.2.1
theorem LkW.wl {h : am_H} (s_ : LkW h) : h 1 10 = h 59 6 := s_.2.2
def DW : List (Nat × Option Nat) := [(1, some 9), (1, some 10), (59, some 5), (59, some 6)]
theorem LkW.cg {h g : am_H} (l : LkW h) (a : agree DW h g) : LkW g := by
  obtain ⟨x1, x2, x3⟩ := l
  have e1 := a.f 1 9 rfl
  have e2 := a.f 1 10 rfl
  have e3 := a.f 59 5 rfl
  have e4 := a.f 59 6 rfl
  refine ⟨?_, ?_, ?_⟩ <;> first | assumption | (simp only [e1, e2, e3, e4]; assumption)
def Inv (h : am_H) : Prop := (∃ N nb, LkN h N nb) ∧ (∃ nm, LkR h nm) ∧ (∃ c np nq, LkP h c np ∧ LkS h c nq) ∧ (LkT h) ∧ (LkF h) ∧ (LkL h) ∧ (LkY h) ∧ (LkW h)
theorem Inv.n {h : am_H} (s_ : Inv h) : ∃ N nb, LkN h N nb := s_.1
theorem Inv.r {h : am_H} (s_ : Inv h) : ∃ nm, LkR h nm := s_.2.1
theorem Inv.p {h : am_H} (s_ : Inv h) : ∃ c np nq, LkP h c np ∧ LkS h c nq := s_.2.2.1
theorem Inv.t {h : am_H} (s_ : Inv h) : LkT h := s_.2.2.2.1
theorem Inv.f {h : am_H} (s_ : Inv h) : LkF h := s_.2.2.2.2.1
theorem Inv.l {h : am_H} (s_ : Inv h) : LkL h := s_.2.2.2.2.2.1
theorem Inv.y {h : am_H} (s_ : Inv h) : LkY h := s_.2.2.2.2.2.2.1
theorem Inv.w {h : am_H} (s_ : Inv h) : LkW h := s_.2.2.2.2.2.2.2
theorem Inv.xs {h g : am_H} (i : Inv h) (x : XS h g) : Inv g := by
  obtain ⟨⟨N, nb, n⟩, ⟨nm, r⟩, ⟨c, np, nq, p, s⟩, t, f, l, y, w⟩ := i
  exact ⟨⟨N, nb, n.cg (x.ag rfl)⟩, ⟨nm, r.cg (x.ag rfl)⟩, ⟨c, np, nq, p.cg (x.ag rfl), s.cg p.hc (x.ag rfl)⟩, t.cg (x.ag rfl), f.cg (x.ag rfl), l.cg (x.ag rfl), y.cg (x.ag rfl), w.cg (x.ag rfl)⟩
theorem XS.h0 {h g : am_H} (x : XS h g) : g 0 = h 0 := x.1 0 (by decide) (by decide) (by decide) (by decide) (by decide)
