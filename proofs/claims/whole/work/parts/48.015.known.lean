/-! what the notes tell: the class -/
/-- notes as they can be -/
def WN (kd sj th vl : Nat → Int) (n nb : Nat) : Prop := (nb ≤ 10) ∧ (∀ k, k < n → 0 ≤ kd k ∧ kd k ≤ 3) ∧ (∀ k, k < n → kd k = 0 → 0 ≤ sj k ∧ sj k < nb ∧ 0 ≤ vl k ∧ vl k < 25) ∧ (∀ k, k < n → kd k = 1 → 0 ≤ sj k ∧ sj k < nb ∧ 0 ≤ th k ∧ th k < 14 ∧ 0 ≤ vl k ∧ vl k ≤ 9) ∧ (∀ k, k < n → kd k = 2 → 0 ≤ sj k ∧ sj k < 25) ∧ (∀ k, k < n → kd k = 3 → 0 ≤ sj k ∧ sj k < k) ∧ (∀ k k', k < n → k' < n → kd k = 0 → kd k' = 0 → sj k = sj k' → k = k')
theorem WN.nb10 {kd sj th vl : Nat → Int} {n nb : Nat} (s_ : WN kd sj th vl n nb) : nb ≤ 10 := s_.1
theorem WN.kds {kd sj th vl : Nat → Int} {n nb : Nat} (s_ : WN kd sj th vl n nb) : ∀ k, k < n → 0 ≤ kd k ∧ kd k ≤ 3 := s_.2.1
theorem WN.k0 {kd sj th vl : Nat → Int} {n nb : Nat} (s_ : WN kd sj th vl n nb) : ∀ k, k < n → kd k = 0 → 0 ≤ sj k ∧ sj k < nb ∧ 0 ≤ vl k ∧ vl k < 25 := s_.2.2.1
theorem WN.k1 {kd sj th vl : Nat → Int} {n nb : Nat} (s_ : WN kd sj th vl n nb) : ∀ k, k < n → kd k = 1 → 0 ≤ sj k ∧ sj k < nb ∧ 0 ≤ th k ∧ th k < 14 ∧ 0 ≤ vl k ∧ vl k ≤ 9 := s_.2.2.2.1
theorem WN.k2 {kd sj th vl : Nat → Int} {n nb : Nat} (s_ : WN kd sj th vl n nb) : ∀ k, k < n → kd k = 2 → 0 ≤ sj k ∧ sj k < 25 := s_.2.2.2.2.1
theorem WN.k3 {kd sj th vl : Nat → Int} {n nb : Nat} (s_ : WN kd sj th vl n nb) : ∀ k, k < n → kd k = 3 → 0 ≤ sj k ∧ sj k < k := s_.2.2.2.2.2.1
theorem WN.one {kd sj th vl : Nat → Int} {n nb : Nat} (s_ : WN kd sj th vl n nb) : ∀ k k', k < n → k' < n → kd k = 0 → kd k' = 0 → sj k = sj k' → k = k' := s_.2.2.2.2.2.2
/-- which notes are not struck -/
def AL (kd sj : Nat → Int) (n : Nat) (a : Nat → Prop) : Prop := ∀ k, k < n → (a k ↔ ¬ ∃ j, j < n ∧ kd j = 3 ∧ sj j = k ∧ a j)
theorem AL_uniq {kd sj : Nat → Int} {n : Nat} {a a' : Nat → Prop} (hs : ∀ k, k < n → kd k = 3 → sj k < k) (h : AL kd sj n a) (h' : AL kd sj n a') : ∀ k, k < n → (a k ↔ a' k) := by
  have : ∀ q k, k < n → n - k ≤ q → (a k ↔ a' k) := by
    intro q
    induction q with
    | zero => intro k hk hq; omega
    | succ q ih =>
      intro k hk hq
      rw [h k hk, h' k hk]
      refine not_congr ⟨fun ⟨j, j1, j2, j3, j4⟩ => ⟨j, j1, j2, j3, ?_⟩, fun ⟨j, j1, j2, j3, j4⟩ => ⟨j, j1, j2, j3, ?_⟩⟩
      · have := hs j j1 j2
        exact (ih j j1 (by omega)).mp j4
      · have := hs j j1 j2
        exact (ih j j1 (by omega)).mpr j4
  exact fun k hk => this n k hk (by omega)
/-- the last of those from i on -/
def Lst (p : Nat → Prop) (vl : Nat → Int) (i n : Nat) (v : Int) : Prop := (v = -1 ∧ ∀ k, i ≤ k → k < n → ¬ p k) ∨ ∃ k, i ≤ k ∧ k < n ∧ p k ∧ (∀ j, k < j → j < n → ¬ p j) ∧ v = vl k
theorem Lst_uniq {p p' : Nat → Prop} {vl vl' : Nat → Int} {n : Nat} {v v' : Int} (hp : ∀ k, k < n → (p k ↔ p' k)) (hv : ∀ k, k < n → p k → vl k = vl' k) (h : Lst p vl 0 n v) (h' : Lst p' vl' 0 n v') : v = v' := by
  rcases h with ⟨h1, h2⟩ | ⟨k, h1, h2, h3, h4, h5⟩ <;> rcases h' with ⟨g1, g2⟩ | ⟨k', g1, g2, g3, g4, g5⟩
  · rw [h1, g1]
  · exact absurd ((hp k' g2).mpr g3) (h2 k' (by omega) g2)
  · exact absurd ((hp k h2).mp h3) (g2 k (by omega) h2)
  · have : k = k' := by
      rcases Nat.lt_trichotomy k k' with z | z | z
      · exact absurd ((hp k' g2).mpr g3) (h4 k' z g2)
      · exact z
      · exact absurd ((hp k h2).mp h3) (g4 k z h2)
    subst this
    rw [h5, g5]; exact hv k h2 h3
def kOf (t : Nat) : Nat := if t < 4 then 0 else if t = 4 then 1 else if t = 5 then 2 else 3
theorem kX11_kindOf {L : Nat} {xs : Nat → Int} {P : Nat → List am_V → am_H → am_K → Prop} {d : Nat} {h : am_H} {K : am_K} {t : Nat} (H : K (0, (kOf t : Nat)) h) : am_C true L xs P (d + 1) 137 [(0, (t : Int))] h K := by
  refine eX11_kindOf (bX11_kindOf_0 ⟨fun z => bX11_kindOf_7 ⟨fun z2 => bX11_kindOf_14 ⟨fun z3 => bX11_kindOf_23 (bX11_kindOf_24 ?_), fun z3 => bX11_kindOf_24 ?_⟩, fun z2 => ?_⟩, fun z => ?_⟩)
  · unfold kOf at H; rw [if_neg (by omega), if_neg (by omega), if_neg (by omega)] at H; exact H
  · unfold kOf at H; rw [if_neg (by omega), if_neg (by omega), if_pos (by omega)] at H; exact H
  · unfold kOf at H; rw [if_neg (by omega), if_pos (by omega)] at H; exact H
  · unfold kOf at H; rw [if_pos (by omega)] at H; exact H
/-- gathered from note i on -/
def GI (n i : Nat) (h g : am_H) : Prop := (Fr [39, 40, 41, 42, 43] h g) ∧ (∀ k, k < n → g 40 k = 0 ∨ g 40 k = 1) ∧ (∀ k, k < n → (g 40 k = 1 ↔ ∃ j, i ≤ j ∧ j < n ∧ h 35 j = 3 ∧ h 36 j = k ∧ g 40 j = 0)) ∧ (∀ b : Nat, bt (g 39 4) b = true ↔ ∃ k, i ≤ k ∧ k < n ∧ g 40 k = 0 ∧ h 35 k = 0 ∧ h 36 k = b) ∧ (∀ k, i ≤ k → k < n → g 40 k = 0 → h 35 k = 0 → g 43 (h 36 k).toNat = h 38 k) ∧ (∀ c : Nat, bt (g 39 6) c = true ↔ ∃ k, i ≤ k ∧ k < n ∧ g 40 k = 0 ∧ h 35 k = 0 ∧ h 38 k = c) ∧ (∀ c : Nat, bt (g 39 5) c = true ↔ ∃ k, i ≤ k ∧ k < n ∧ g 40 k = 0 ∧ h 35 k = 2 ∧ h 36 k = c) ∧ (∀ b t : Nat, b < 10 → t < 14 → Lst (fun k => g 40 k = 0 ∧ h 35 k = 1 ∧ h 36 k = b ∧ h 37 k = t) (h 38) i n (g 41 (b * 14 + t))) ∧ (∀ b q : Nat, b < 10 → q < 4 → g 42 (b * 4 + q) = cnt (fun t => kOf t = q ∧ ¬ g 41 (b * 14 + t) = -1) 14)
theorem GI.fr {n i : Nat} {h g : am_H} (s_ : GI n i h g) : Fr [39, 40, 41, 42, 43] h g := s_.1
theorem GI.s01 {n i : Nat} {h g : am_H} (s_ : GI n i h g) : ∀ k, k < n → g 40 k = 0 ∨ g 40 k = 1 := s_.2.1
theorem GI.st {n i : Nat} {h g : am_H} (s_ : GI n i h g) : ∀ k, k < n → (g 40 k = 1 ↔ ∃ j, i ≤ j ∧ j < n ∧ h 35 j = 3 ∧ h 36 j = k ∧ g 40 j = 0) := s_.2.2.1
theorem GI.bo {n i : Nat} {h g : am_H} (s_ : GI n i h g) : ∀ b : Nat, bt (g 39 4) b = true ↔ ∃ k, i ≤ k ∧ k < n ∧ g 40 k = 0 ∧ h 35 k = 0 ∧ h 36 k = b := s_.2.2.2.1
theorem GI.ce {n i : Nat} {h g : am_H} (s_ : GI n i h g) : ∀ k, i ≤ k → k < n → g 40 k = 0 → h 35 k = 0 → g 43 (h 36 k).toNat = h 38 k := s_.2.2.2.2.1
theorem GI.bc {n i : Nat} {h g : am_H} (s_ : GI n i h g) : ∀ c : Nat, bt (g 39 6) c = true ↔ ∃ k, i ≤ k ∧ k < n ∧ g 40 k = 0 ∧ h 35 k = 0 ∧ h 38 k = c := s_.2.2.2.2.2.1
theorem GI.du {n i : Nat} {h g : am_H} (s_ : GI n i h g) : ∀ c : Nat, bt (g 39 5) c = true ↔ ∃ k, i ≤ k ∧ k < n ∧ g 40 k = 0 ∧ h 35 k = 2 ∧ h 36 k = c := s_.2.2.2.2.2.2.1
theorem GI.re {n i : Nat} {h g : am_H} (s_ : GI n i h g) : ∀ b t : Nat, b < 10 → t < 14 → Lst (fun k => g 40 k = 0 ∧ h 35 k = 1 ∧ h 36 k = b ∧ h 37 k = t) (h 38) i n (g 41 (b * 14 + t)) := s_.2.2.2.2.2.2.2.1
theorem GI.ma {n i : Nat} {h g : am_H} (s_ : GI n i h g) : ∀ b q : Nat, b < 10 → q < 4 → g 42 (b * 4 + q) = cnt (fun t => kOf t = q ∧ ¬ g 41 (b * 14 + t) = -1) 14 := s_.2.2.2.2.2.2.2.2
theorem cnt_0 {p : Nat → Prop} {n : Nat} (hp : ∀ i, i < n → ¬ p i) : cnt p n = 0 := by
  induction n with
  | zero => rfl
  | succ n ih => rw [cnt_neg (hp n (by omega))]; exact ih (fun i hi => hp i (by omega))
theorem kX2_forget {L : Nat} {xs : Nat → Int} {P : Nat → List am_V → am_H → am_K → Prop} {d : Nat} {h : am_H} {K : am_K} (H : ∀ g, Fr [39, 40, 41, 42, 43] h g → g 39 4 = 0 → g 39 5 = 0 → g 39 6 = 0 → (∀ k, k < 90 → g 40 k = 0) → (∀ k, k < 140 → g 41 k = -1) → (∀ k, k < 40 → g 42 k = 0) → K (9, 0) g) : am_C true L xs P (d + 1) 22 [(2, 39)] h K := by
  refine eX2_forget (bX2_forget_0 ?_)
  refine upto (σ := am_H) (N := 90) (I := fun i g => Fr [39, 40, 41, 42, 43] h g ∧ (g 39 4 = 0 ∧ g 39 5 = 0 ∧ g 39 6 = 0) ∧ ∀ k, k < i → g 40 k = 0) (G := fun i g => tX2_forget (h 0 0 + (0 : Nat)) L xs (am_C true L xs P d) K 17 [(2, 39), (0, (i : Int))] [] g) ?_ ?_ 90 0 _ (by omega) ⟨((Fr.rf.st (by decide)).st (by decide)).st (by decide), ⟨by simp [am_st], by simp [am_st], by simp [am_st]⟩, fun k hk => by omega⟩
  · intro i g hi ⟨e1, e2, e3⟩ ih
    refine bX2_forget_17 ⟨fun z => by omega, fun _ => ⟨by omega, by omega, ih _ ⟨e1.st (by decide), by rw [st_ne (by decide)]; exact e2, fun k hk => ?_⟩⟩⟩
    rw [Int.toNat_natCast, st_ap]
    split
    · rfl
    · exact e3 k (by omega)
  · intro g ⟨e1, e2, e3⟩
    refine bX2_forget_17 ⟨fun _ => bX2_forget_39 ?_, fun z => by omega⟩
    refine upto (σ := am_H) (N := 140) (I := fun i g => Fr [39, 40, 41, 42, 43] h g ∧ (g 39 4 = 0 ∧ g 39 5 = 0 ∧ g 39 6 = 0) ∧ (∀ k, k < 90 → g 40 k = 0) ∧ ∀ k, k < i → g 41 k = -1) (G := fun i g => tX2_forget (h 0 0 + (0 : Nat)) L xs (am_C true L xs P d) K 41 [(2, 39), (0, (i : Int))] [] g) ?_ ?_ 140 0 g (by omega) ⟨e1, e2, e3, fun k hk => by omega⟩
    · intro i g hi ⟨e1, e2, e3, e4⟩ ih
      refine bX2_forget_41 ⟨fun z => by omega, fun _ => ⟨by omega, by omega, ih _ ⟨e1.st (by decide), by rw [st_ne (by decide)]; exact e2, by rw [st_ne (by decide)]; exact e3, fun k hk => ?_⟩⟩⟩
      rw [Int.toNat_natCast, st_ap]
      split
      · rfl
      · exact e4 k (by omega)
    · intro g ⟨e1, e2, e3, e4⟩
      refine bX2_forget_41 ⟨fun _ => bX2_forget_63 ?_, fun z => by omega⟩
      refine upto (σ := am_H) (N := 40) (I := fun i g => Fr [39, 40, 41, 42, 43] h g ∧ (g 39 4 = 0 ∧ g 39 5 = 0 ∧ g 39 6 = 0) ∧ (∀ k, k < 90 → g 40 k = 0) ∧ (∀ k, k < 140 → g 41 k = -1) ∧ ∀ k, k < i → g 42 k = 0) (G := fun i g => tX2_forget (h 0 0 + (0 : Nat)) L xs (am_C true L xs P d) K 65 [(2, 39), (0, (i : Int))] [] g) ?_ ?_ 40 0 g (by omega) ⟨e1, e2, e3, e4, fun k hk => by omega⟩
      · intro i g hi ⟨e1, e2, e3, e4, e5⟩ ih
        refine bX2_forget_65 ⟨fun z => by omega, fun _ => ⟨by omega, by omega, ih _ ⟨e1.st (by decide), by rw [st_ne (by decide)]; exact e2, by rw [st_ne (by decide)]; exact e3, by rw [st_ne (by decide)]; exact e4, fun k hk => ?_⟩⟩⟩
        rw [Int.toNat_natCast, st_ap]
        split
        · rfl
        · exact e5 k (by omega)
      · intro g ⟨e1, e2, e3, e4, e5⟩
        exact bX2_forget_65 ⟨fun _ => bX2_forget_87 (H g e1 e2.1 e2.2.1 e2.2.2 e3 e4 e5), fun z => by omega⟩
/-- a row that gets one bit more -/
theorem bo_step {x : Int} {v : Nat} {p : Nat → Nat → Prop} {i n : Nat} (hv : v < 31) (hin : i < n) (hp : p i v) (hun : ∀ c, p i c → c = v) (e : ∀ b : Nat, bt x b = true ↔ ∃ k, i + 1 ≤ k ∧ k < n ∧ p k b) : ∀ b : Nat, bt (am_or x (1 * 2 ^ v)) b = true ↔ ∃ k, i ≤ k ∧ k < n ∧ p k b := by
  intro b
  rw [bt_or, Bool.or_eq_true, e, bt_p2' b hv, decide_eq_true_eq]
  constructor
  · rintro (⟨k, k1, k2, k3⟩ | z)
    · exact ⟨k, by omega, k2, k3⟩
    · subst z; exact ⟨i, Nat.le_refl _, hin, hp⟩
  · rintro ⟨k, k1, k2, k3⟩
    by_cases e2 : k = i
    · subst e2; exact Or.inr (hun b k3)
    · exact Or.inl ⟨k, by omega, k2, k3⟩
theorem ex_skip {p : Nat → Prop} {i n : Nat} (hn : ¬ p i) : (∃ k, i + 1 ≤ k ∧ k < n ∧ p k) ↔ ∃ k, i ≤ k ∧ k < n ∧ p k := by
  constructor
  · rintro ⟨k, k1, k2, k3⟩; exact ⟨k, by omega, k2, k3⟩
  · rintro ⟨k, k1, k2, k3⟩
    have : ¬ k = i := fun e => hn (e ▸ k3)
    exact ⟨k, by omega, k2, k3⟩
theorem Lst_skip {p : Nat → Prop} {vl : Nat → Int} {i n : Nat} {v : Int} (hn : ¬ p i) (h : Lst p vl (i + 1) n v) : Lst p vl i n v := by
  rcases h with ⟨h1, h2⟩ | ⟨k, h1, h2, h3, h4, h5⟩
  · refine Or.inl ⟨h1, fun k k1 k2 k3 => ?_⟩
    by_cases e : k = i
    · exact hn (e ▸ k3)
    · exact h2 k (by omega) k2 k3
  · exact Or.inr ⟨k, by omega, h2, h3, h4, h5⟩
theorem Lst_congr {p p' : Nat → Prop} {vl : Nat → Int} {i n : Nat} {v : Int} (hp : ∀ k, i ≤ k → k < n → (p k ↔ p' k)) (h : Lst p vl i n v) : Lst p' vl i n v := by
  rcases h with ⟨h1, h2⟩ | ⟨k, h1, h2, h3, h4, h5⟩
  · exact Or.inl ⟨h1, fun k k1 k2 k3 => h2 k k1 k2 ((hp k k1 k2).mpr k3)⟩
  · exact Or.inr ⟨k, h1, h2, (hp k h1 h2).mp h3, fun j j1 j2 j3 => h4 j j1 j2 ((hp j (by omega) j2).mpr j3), h5⟩
theorem GI_skip {n i : Nat} {h g : am_H} (hG : GI n (i + 1) h g) (hs : ¬ g 40 i = 0) : GI n i h g := by
  obtain ⟨fr, s01, st, bo, ce, bc, du, re, ma⟩ := hG
  refine ⟨fr, s01, fun k hk => ?_, fun b => ?_, fun k k1 k2 k3 k4 => ?_, fun c => ?_, fun c => ?_, fun b t hb ht => ?_, ma⟩
  · rw [st k hk]
    exact ex_skip (p := fun j => h 35 j = 3 ∧ h 36 j = k ∧ g 40 j = 0) (fun z => hs z.2.2)
  · rw [bo b]; exact ex_skip (p := fun k => g 40 k = 0 ∧ h 35 k = 0 ∧ h 36 k = b) (fun z => hs z.1)
  · have : ¬ k = i := fun e => hs (e ▸ k3)
    exact ce k (by omega) k2 k3 k4
  · rw [bc c]; exact ex_skip (p := fun k => g 40 k = 0 ∧ h 35 k = 0 ∧ h 38 k = c) (fun z => hs z.1)
  · rw [du c]; exact ex_skip (p := fun k => g 40 k = 0 ∧ h 35 k = 2 ∧ h 36 k = c) (fun z => hs z.1)
  · exact Lst_skip (fun z => hs z.1) (re b t hb ht)
theorem kX2_take {L : Nat} {xs : Nat → Int} {P : Nat → List am_V → am_H → am_K → Prop} {d : Nat} {h g : am_H} {K : am_K} {n i nb : Nat} (hn : n ≤ 90) (hi : i < n) (hW : WN (h 35) (h 36) (h 37) (h 38) n nb) (hG : GI n (i + 1) h g) (hs : g 40 i = 0) (H : ∀ g', GI n i h g' → K (9, 0) g') : am_C true L xs P (d + 3) 23 [(2, 39), (2, 34), (0, (i : Int))] g K := by
  obtain ⟨fr, s01, st, bo, ce, bc, du, re, ma⟩ := hG
  have e35 : g 35 = h 35 := fr 35 (by decide)
  have e36 : g 36 = h 36 := fr 36 (by decide)
  have e37 : g 37 = h 37 := fr 37 (by decide)
  have e38 : g 38 = h 38 := fr 38 (by decide)
  have hnb := hW.nb10
  refine eX2_take (bX2_take_0 ⟨by omega, by omega, ?_⟩)
  rw [Int.toNat_natCast, e35, e36]
  refine ⟨fun gk => ?_, fun gk => ?_, fun gk => ?_, fun gk => ?_, trivial⟩
  · -- a strike
    have hk := hW.kds i hi
    have k3 : h 35 i = 3 := by omega
    have hsj := hW.k3 i hi k3
    refine bX2_take_119 ⟨by omega, bX2_take_126 (H _ ?_)⟩
    have x40 : ∀ k, i ≤ k → am_st g 40 (h 36 i).toNat 1 40 k = g 40 k := fun k hk => st_nj (by omega)
    refine ⟨fr.st (by decide), fun k hk => ?_, fun k hk => ?_, fun b => ?_, fun k k1 k2 k3' k4 => ?_, fun c => ?_, fun c => ?_, fun b t hb ht => ?_, fun b q hb hq => ?_⟩
    · rw [st_ap]; split
      · exact Or.inr rfl
      · exact s01 k hk
    · rw [st_ap]
      by_cases e : k = (h 36 i).toNat
      · rw [if_pos e]
        exact ⟨fun _ => ⟨i, Nat.le_refl _, hi, k3, by omega, by rw [x40 i (Nat.le_refl _)]; exact hs⟩, fun _ => rfl⟩
      · rw [if_neg e, st k hk]
        constructor
        · rintro ⟨j, j1, j2, j3, j4, j5⟩
          exact ⟨j, by omega, j2, j3, j4, by rw [x40 j (by omega)]; exact j5⟩
        · rintro ⟨j, j1, j2, j3, j4, j5⟩
          rw [x40 j (by omega)] at j5
          refine ⟨j, ?_, j2, j3, j4, j5⟩
          have : ¬ j = i := fun e2 => by subst e2; omega
          omega
    · rw [st_ne (by decide), bo b]
      rw [ex_skip (p := fun k => g 40 k = 0 ∧ h 35 k = 0 ∧ h 36 k = b) (fun z => by omega)]
      constructor
      · rintro ⟨k, k1, k2, k4⟩; exact ⟨k, k1, k2, by rw [x40 k k1]; exact k4⟩
      · rintro ⟨k, k1, k2, k4⟩; rw [x40 k k1] at k4; exact ⟨k, k1, k2, k4⟩
    · rw [x40 k k1] at k3'
      have : ¬ k = i := fun e => by subst e; omega
      rw [st_ne (by decide)]; exact ce k (by omega) k2 k3' k4
    · rw [st_ne (by decide), bc c]
      rw [ex_skip (p := fun k => g 40 k = 0 ∧ h 35 k = 0 ∧ h 38 k = c) (fun z => by omega)]
      constructor
      · rintro ⟨k, k1, k2, k4⟩; exact ⟨k, k1, k2, by rw [x40 k k1]; exact k4⟩
      · rintro ⟨k, k1, k2, k4⟩; rw [x40 k k1] at k4; exact ⟨k, k1, k2, k4⟩
    · rw [st_ne (by decide), du c]
      rw [ex_skip (p := fun k => g 40 k = 0 ∧ h 35 k = 2 ∧ h 36 k = c) (fun z => by omega)]
      constructor
      · rintro ⟨k, k1, k2, k4⟩; exact ⟨k, k1, k2, by rw [x40 k k1]; exact k4⟩
      · rintro ⟨k, k1, k2, k4⟩; rw [x40 k k1] at k4; exact ⟨k, k1, k2, k4⟩
    · rw [st_ne (c := 40) (c' := 41) (by decide)]
      refine Lst_congr (fun k k1 k2 => ?_) (Lst_skip (p := fun k => g 40 k = 0 ∧ h 35 k = 1 ∧ h 36 k = b ∧ h 37 k = t) (fun z => by omega) (re b t hb ht))
      rw [x40 k k1]
    · rw [st_ne (by decide), st_ne (by decide)]; exact ma b q hb hq
  · -- a body
    obtain ⟨b1, b2, b3, b4⟩ := hW.k0 i hi gk
    rw [show h 36 i = (((h 36 i).toNat : Nat) : Int) by omega]
    refine bX2_take_40 ⟨⟨by omega, by omega, by omega, am_p2 (by omega) (by omega)⟩, by omega, by omega, by omega, ?_⟩
    rw [Int.toNat_natCast, e38, Int.toNat_natCast]
    refine ⟨⟨by omega, by omega, by omega, am_p2 (by omega) (by omega)⟩, bX2_take_126 (H _ ?_)⟩
    have x40 : am_st (am_st (am_st g 39 4 (am_or (g 39 4) (1 * 2 ^ (h 36 i).toNat))) 43 (h 36 i).toNat (h 38 i)) 39 6 (am_or (g 39 6) (1 * 2 ^ (h 38 i).toNat)) 40 = g 40 := by
      rw [st_ne (by decide), st_ne (by decide), st_ne (by decide)]
    have x41 : am_st (am_st (am_st g 39 4 (am_or (g 39 4) (1 * 2 ^ (h 36 i).toNat))) 43 (h 36 i).toNat (h 38 i)) 39 6 (am_or (g 39 6) (1 * 2 ^ (h 38 i).toNat)) 41 = g 41 := by
      rw [st_ne (by decide), st_ne (by decide), st_ne (by decide)]
    have x42 : am_st (am_st (am_st g 39 4 (am_or (g 39 4) (1 * 2 ^ (h 36 i).toNat))) 43 (h 36 i).toNat (h 38 i)) 39 6 (am_or (g 39 6) (1 * 2 ^ (h 38 i).toNat)) 42 = g 42 := by
      rw [st_ne (by decide), st_ne (by decide), st_ne (by decide)]
    refine ⟨((fr.st (by decide)).st (by decide)).st (by decide), ?_, fun k hk => ?_, fun b => ?_, fun k k1 k2 k3' k4 => ?_, fun c => ?_, fun c => ?_, fun b t hb ht => ?_, fun b q hb hq => ?_⟩
    · rw [x40]; exact s01
    · rw [x40, st k hk]
      exact ex_skip (p := fun j => h 35 j = 3 ∧ h 36 j = k ∧ g 40 j = 0) (fun z => by omega)
    · rw [x40, st_nj (by decide), st_ne (by decide), st_at]
      exact bo_step (p := fun k b => g 40 k = 0 ∧ h 35 k = 0 ∧ h 36 k = (b : Nat)) (by omega) hi ⟨hs, gk, by omega⟩ (fun c z => by have := z.2.2; omega) bo b
    · rw [x40] at k3'
      rw [st_ne (by decide), st_ap]
      by_cases e : k = i
      · subst e; rw [if_pos rfl]
      · rw [if_neg (fun z => e (hW.one k i k2 hi k4 gk (by have := (hW.k0 k k2 k4).1; omega))), st_ne (by decide)]
        exact ce k (by omega) k2 k3' k4
    · rw [x40, st_at]
      exact bo_step (p := fun k b => g 40 k = 0 ∧ h 35 k = 0 ∧ h 38 k = (b : Nat)) (by omega) hi ⟨hs, gk, by omega⟩ (fun c z => by have := z.2.2; omega) bc c
    · rw [x40, st_nj (by decide), st_ne (by decide), st_nj (by decide), du c]
      exact ex_skip (p := fun k => g 40 k = 0 ∧ h 35 k = 2 ∧ h 36 k = c) (fun z => by omega)
    · rw [x40, x41]
      exact Lst_skip (p := fun k => g 40 k = 0 ∧ h 35 k = 1 ∧ h 36 k = b ∧ h 37 k = t) (fun z => by omega) (re b t hb ht)
    · rw [x42, x41]; exact ma b q hb hq
  · -- a reading
    have gk' : h 35 i = 1 := by omega
    obtain ⟨b1, b2, b3, b4, b5, b6⟩ := hW.k1 i hi gk'
    refine bX2_take_84 ⟨by omega, by omega, ?_⟩
    rw [Int.toNat_natCast, e37, e38]
    have hk4 : kOf (h 37 i).toNat < 4 := by unfold kOf; split; omega; split; omega; split <;> omega
    have hix : ((h 36 i) * 14 + h 37 i).toNat = (h 36 i).toNat * 14 + (h 37 i).toNat := by omega
    have other : ∀ b t : Nat, b < 10 → t < 14 → (b * 14 + t = (h 36 i).toNat * 14 + (h 37 i).toNat ↔ b = (h 36 i).toNat ∧ t = (h 37 i).toNat) := by intro b t hb ht; omega
    refine eX2_takeReading (bX2_takeReading_0 ⟨by omega, by omega, by omega, ?_⟩)
    rw [hix]
    refine ⟨fun gz => bX2_takeReading_44 (bX2_take_126 (H g ?_)), fun gz => ⟨by omega, by omega, by omega, by omega, ?_⟩⟩
    · -- read already
      refine ⟨fr, s01, fun k hk => ?_, fun b => ?_, fun k k1 k2 k3' k4 => ?_, fun c => ?_, fun c => ?_, fun b t hb ht => ?_, ma⟩
      · rw [st k hk]; exact ex_skip (p := fun j => h 35 j = 3 ∧ h 36 j = k ∧ g 40 j = 0) (fun z => by omega)
      · rw [bo b]; exact ex_skip (p := fun k => g 40 k = 0 ∧ h 35 k = 0 ∧ h 36 k = b) (fun z => by omega)
      · have : ¬ k = i := fun e => by subst e; omega
        exact ce k (by omega) k2 k3' k4
      · rw [bc c]; exact ex_skip (p := fun k => g 40 k = 0 ∧ h 35 k = 0 ∧ h 38 k = c) (fun z => by omega)
      · rw [du c]; exact ex_skip (p := fun k => g 40 k = 0 ∧ h 35 k = 2 ∧ h 36 k = c) (fun z => by omega)
      · by_cases e : b = (h 36 i).toNat ∧ t = (h 37 i).toNat
        · rcases re b t hb ht with ⟨r1, r2⟩ | ⟨k, r1, r2, r3, r4, r5⟩
          · rw [e.1, e.2] at r1; exact absurd r1 gz
          · exact Or.inr ⟨k, by omega, r2, r3, r4, r5⟩
        · exact Lst_skip (p := fun k => g 40 k = 0 ∧ h 35 k = 1 ∧ h 36 k = b ∧ h 37 k = t) (fun z => e (by omega)) (re b t hb ht)
    · rw [show h 37 i = (((h 37 i).toNat : Nat) : Int) by omega]
      refine kX11_kindOf (d := d) ?_
      have gz' := Classical.not_not.mp gz
      have hiy : Int.toNat ((h 36 i) * 4 + ((kOf (h 37 i).toNat : Nat) : Int)) = (h 36 i).toNat * 4 + kOf (h 37 i).toNat := by omega
      rw [Int.toNat_natCast] at *
      dsimp only
      rw [hiy, st_ne (c := 41) (c' := 42) (by decide)]
      have m1 := ma (h 36 i).toNat (kOf (h 37 i).toNat) (by omega) hk4
      have m2 := cnt_bnd (fun t => kOf t = kOf (h 37 i).toNat ∧ ¬ g 41 ((h 36 i).toNat * 14 + t) = -1) 14
      refine ⟨by omega, by omega, by omega, by omega, bX2_takeReading_44 (bX2_take_126 (H _ ?_))⟩
      have x40 : ∀ v w, am_st (am_st g 41 ((h 36 i).toNat * 14 + (h 37 i).toNat) v) 42 ((h 36 i).toNat * 4 + kOf (h 37 i).toNat) w 40 = g 40 := fun v w => by
        rw [st_ne (by decide), st_ne (by decide)]
      have x39 : ∀ v w, am_st (am_st g 41 ((h 36 i).toNat * 14 + (h 37 i).toNat) v) 42 ((h 36 i).toNat * 4 + kOf (h 37 i).toNat) w 39 = g 39 := fun v w => by
        rw [st_ne (by decide), st_ne (by decide)]
      have x43 : ∀ v w, am_st (am_st g 41 ((h 36 i).toNat * 14 + (h 37 i).toNat) v) 42 ((h 36 i).toNat * 4 + kOf (h 37 i).toNat) w 43 = g 43 := fun v w => by
        rw [st_ne (by decide), st_ne (by decide)]
      refine ⟨(fr.st (by decide)).st (by decide), ?_, fun k hk => ?_, fun b => ?_, fun k k1 k2 k3' k4 => ?_, fun c => ?_, fun c => ?_, fun b t hb ht => ?_, fun b q hb hq => ?_⟩
      · rw [x40]; exact s01
      · rw [x40, st k hk]; exact ex_skip (p := fun j => h 35 j = 3 ∧ h 36 j = k ∧ g 40 j = 0) (fun z => by omega)
      · rw [x40, x39, bo b]; exact ex_skip (p := fun k => g 40 k = 0 ∧ h 35 k = 0 ∧ h 36 k = b) (fun z => by omega)
      · rw [x40] at k3'
        have : ¬ k = i := fun e => by subst e; omega
        rw [x43]; exact ce k (by omega) k2 k3' k4
      · rw [x40, x39, bc c]; exact ex_skip (p := fun k => g 40 k = 0 ∧ h 35 k = 0 ∧ h 38 k = c) (fun z => by omega)
      · rw [x40, x39, du c]; exact ex_skip (p := fun k => g 40 k = 0 ∧ h 35 k = 2 ∧ h 36 k = c) (fun z => by omega)
      · rw [x40, st_ne (by decide), st_ap]
        by_cases e : b = (h 36 i).toNat ∧ t = (h 37 i).toNat
        · rw [if_pos ((other b t hb ht).mpr e)]
          rcases re b t hb ht with ⟨r1, r2⟩ | ⟨k, r1, r2, r3, r4, r5⟩
          · exact Or.inr ⟨i, Nat.le_refl _, hi, ⟨hs, gk', by omega, by omega⟩, fun j j1 j2 => r2 j (by omega) j2, rfl⟩
          · rw [e.1, e.2, gz'] at r5
            have := (hW.k1 k r2 r3.2.1).2.2.2.2.1
            omega
        · rw [if_neg (fun z => e ((other b t hb ht).mp z))]
          exact Lst_skip (p := fun k => g 40 k = 0 ∧ h 35 k = 1 ∧ h 36 k = b ∧ h 37 k = t) (fun z => e (by omega)) (re b t hb ht)
      · rw [st_ap, st_ne (c := 42) (c' := 41) (by decide), st_ne (c := 41) (c' := 42) (by decide)]
        by_cases e : b = (h 36 i).toNat ∧ q = kOf (h 37 i).toNat
        · rw [if_pos (by omega), e.1, e.2]
          rw [cnt_erase (p := fun t => kOf t = kOf (h 37 i).toNat ∧ ¬ am_st g 41 ((h 36 i).toNat * 14 + (h 37 i).toNat) (h 38 i) 41 ((h 36 i).toNat * 14 + t) = -1) (by omega : (h 37 i).toNat < 14) ⟨rfl, by rw [st_at]; omega⟩]
          rw [m1]
          have : cnt (fun t => kOf t = kOf (h 37 i).toNat ∧ ¬ g 41 ((h 36 i).toNat * 14 + t) = -1) 14 = cnt (fun t => (kOf t = kOf (h 37 i).toNat ∧ ¬ am_st g 41 ((h 36 i).toNat * 14 + (h 37 i).toNat) (h 38 i) 41 ((h 36 i).toNat * 14 + t) = -1) ∧ ¬ t = (h 37 i).toNat) 14 := by
            refine cnt_congr (fun t ht => ?_)
            by_cases e3 : t = (h 37 i).toNat
            · subst e3; exact ⟨fun z => absurd gz' z.2, fun z => absurd rfl z.2⟩
            · rw [st_nj (by omega)]; exact ⟨fun z => ⟨z, e3⟩, fun z => z.1⟩
          omega
        · rw [if_neg (by omega), ma b q hb hq]
          congr 1
          refine cnt_congr (fun t ht => ?_)
          by_cases e3 : b = (h 36 i).toNat ∧ t = (h 37 i).toNat
          · have : ¬ kOf t = q := fun z => e ⟨e3.1, by rw [← z, e3.2]⟩
            exact ⟨fun z => absurd z.1 this, fun z => absurd z.1 this⟩
          · rw [st_nj (fun z => e3 ((other b t hb ht).mp z))]
  · -- dug
    have gk' : h 35 i = 2 := by omega
    obtain ⟨b1, b2⟩ := hW.k2 i hi gk'
    rw [show h 36 i = (((h 36 i).toNat : Nat) : Int) by omega]
    refine bX2_take_104 ⟨⟨by omega, by omega, by omega, am_p2 (by omega) (by omega)⟩, bX2_take_126 (H _ ?_)⟩
    rw [Int.toNat_natCast]
    have x40 : am_st g 39 5 (am_or (g 39 5) (1 * 2 ^ (h 36 i).toNat)) 40 = g 40 := st_ne (by decide)
    refine ⟨fr.st (by decide), ?_, fun k hk => ?_, fun b => ?_, fun k k1 k2 k3' k4 => ?_, fun c => ?_, fun c => ?_, fun b t hb ht => ?_, fun b q hb hq => ?_⟩
    · rw [x40]; exact s01
    · rw [x40, st k hk]; exact ex_skip (p := fun j => h 35 j = 3 ∧ h 36 j = k ∧ g 40 j = 0) (fun z => by omega)
    · rw [x40, st_nj (by decide), bo b]; exact ex_skip (p := fun k => g 40 k = 0 ∧ h 35 k = 0 ∧ h 36 k = b) (fun z => by omega)
    · rw [x40] at k3'
      have : ¬ k = i := fun e => by subst e; omega
      rw [st_ne (by decide)]; exact ce k (by omega) k2 k3' k4
    · rw [x40, st_nj (by decide), bc c]; exact ex_skip (p := fun k => g 40 k = 0 ∧ h 35 k = 0 ∧ h 38 k = c) (fun z => by omega)
    · rw [x40, st_at]
      exact bo_step (p := fun k b => g 40 k = 0 ∧ h 35 k = 2 ∧ h 36 k = (b : Nat)) (by omega) hi ⟨hs, gk', by omega⟩ (fun c z => by have := z.2.2; omega) du c
    · rw [x40, st_ne (by decide)]
      exact Lst_skip (p := fun k => g 40 k = 0 ∧ h 35 k = 1 ∧ h 36 k = b ∧ h 37 k = t) (fun z => by omega) (re b t hb ht)
    · rw [st_ne (by decide), st_ne (by decide)]; exact ma b q hb hq
theorem kX2_gather {L : Nat} {xs : Nat → Int} {P : Nat → List am_V → am_H → am_K → Prop} {d : Nat} {h : am_H} {K : am_K} {n nb : Nat} (hn : n ≤ 90) (hW : WN (h 35) (h 36) (h 37) (h 38) n nb) (H : ∀ g', GI n 0 h g' → K (9, 0) g') : am_C true L xs P (d + 4) 21 [(2, 39), (2, 34), (0, (n : Int))] h K := by
  refine eX2_gather (bX2_gather_0 ?_)
  refine kX2_forget (d := d + 2) (fun g f1 f2 f3 f4 f5 f6 f7 => ⟨by omega, ?_⟩)
  refine dnto (σ := am_H) (I := fun i g => i ≤ n ∧ GI n i h g) (G := fun i g => tX2_gather (h 0 0 + (0 : Nat)) L xs (am_C true L xs P (d + 3)) K 8 [(2, 39), (2, 34), (0, (n : Int)), (0, (i : Int) - 1)] [] g) ?_ ?_ n g ⟨Nat.le_refl _, f1, ?_, ?_, ?_, ?_, ?_, ?_, ?_, ?_⟩
  · intro i g ⟨hi, hG⟩ ih
    rw [show ((i + 1 : Nat) : Int) - 1 = (i : Int) by omega]
    refine bX2_gather_8 ⟨fun z => by omega, fun _ => ⟨by omega, fun _ => ?_⟩⟩
    rw [Int.toNat_natCast]
    refine ⟨fun gz => bX2_gather_27 ⟨by omega, ?_⟩, fun gz => kX2_take (d := d) hn (by omega) hW hG (Classical.not_not.mp gz) (fun g' hG' => bX2_gather_27 ⟨by omega, ?_⟩)⟩
    · rw [show (i : Int) + (-1) = (i : Int) - 1 by omega]
      exact ih g ⟨by omega, GI_skip hG gz⟩
    · rw [show (i : Int) + (-1) = (i : Int) - 1 by omega]
      exact ih g' ⟨by omega, hG'⟩
  · intro g ⟨_, hG⟩
    exact bX2_gather_8 ⟨fun _ => bX2_gather_33 (H g hG), fun z => by omega⟩
  · exact fun k hk => Or.inl (f5 k (by omega))
  · intro k hk
    rw [f5 k (by omega)]
    exact ⟨fun z => by omega, fun ⟨j, j1, j2, _⟩ => by omega⟩
  · intro b; rw [f2, bt_0]; exact ⟨fun z => absurd z (by decide), fun ⟨j, j1, j2, _⟩ => by omega⟩
  · intro k k1 k2; omega
  · intro b; rw [f4, bt_0]; exact ⟨fun z => absurd z (by decide), fun ⟨j, j1, j2, _⟩ => by omega⟩
  · intro b; rw [f3, bt_0]; exact ⟨fun z => absurd z (by decide), fun ⟨j, j1, j2, _⟩ => by omega⟩
  · intro b t hb ht; exact Or.inl ⟨f6 _ (by omega), fun k k1 k2 => by omega⟩
  · intro b q hb hq
    rw [f7 _ (by omega), cnt_0 (fun t ht z => z.2 (f6 _ (by omega)))]; rfl
