/-! lett4: the model's letter; both -/
def LMz (h g : am_H) (s : Nat → Int) (n : Nat) (A W : Int) (M nq : Nat) : Prop := (g 59 24 = (lres h s n A W M nq).1) ∧ (g 59 25 = (lres h s n A W M nq).2) ∧ (g 59 1 = 0) ∧ ((lres h s n A W M nq).1 = 0 → g 59 40 = ((lb s n W M n 0 0 0 (fun _ => 0)).2.1 : Nat) ∧ ∀ k, k < (lb s n W M n 0 0 0 (fun _ => 0)).2.1 → g 77 k = (lb s n W M n 0 0 0 (fun _ => 0)).2.2 k) ∧ (¬ (lres h s n A W M nq).1 = 0 → g 59 40 = h 59 40 ∧ g 77 = h 77)
theorem LMz.f {h g : am_H} {s : Nat → Int} {n : Nat} {A W : Int} {M nq : Nat} (s_ : LMz h g s n A W M nq) : g 59 24 = (lres h s n A W M nq).1 := s_.1
theorem LMz.p {h g : am_H} {s : Nat → Int} {n : Nat} {A W : Int} {M nq : Nat} (s_ : LMz h g s n A W M nq) : g 59 25 = (lres h s n A W M nq).2 := s_.2.1
theorem LMz.t {h g : am_H} {s : Nat → Int} {n : Nat} {A W : Int} {M nq : Nat} (s_ : LMz h g s n A W M nq) : g 59 1 = 0 := s_.2.2.1
theorem LMz.ok {h g : am_H} {s : Nat → Int} {n : Nat} {A W : Int} {M nq : Nat} (s_ : LMz h g s n A W M nq) : (lres h s n A W M nq).1 = 0 → g 59 40 = ((lb s n W M n 0 0 0 (fun _ => 0)).2.1 : Nat) ∧ ∀ k, k < (lb s n W M n 0 0 0 (fun _ => 0)).2.1 → g 77 k = (lb s n W M n 0 0 0 (fun _ => 0)).2.2 k := s_.2.2.2.1
theorem LMz.no {h g : am_H} {s : Nat → Int} {n : Nat} {A W : Int} {M nq : Nat} (s_ : LMz h g s n A W M nq) : ¬ (lres h s n A W M nq).1 = 0 → g 59 40 = h 59 40 ∧ g 77 = h 77 := s_.2.2.2.2
/-- the same but for the fields of a letter -/
def Fl (h g : am_H) : Prop := (∀ i, ¬ i = 59 → ¬ i = 77 → ¬ i = 78 → g i = h i) ∧ (∀ j, ¬ j = 1 → ¬ j = 2 → ¬ j = 24 → ¬ j = 25 → ¬ j = 40 → ¬ j = 42 → g 59 j = h 59 j)
theorem Fl.st59 {h g : am_H} {j : Nat} {v : Int} (a : Fl h g) (hj : j = 1 ∨ j = 2 ∨ j = 24 ∨ j = 25 ∨ j = 40 ∨ j = 42) : Fl h (am_st g 59 j v) :=
  ⟨fun i h1 h2 h3 => by rw [st_ne h1]; exact a.1 i h1 h2 h3, fun i h1 h2 h3 h4 h5 h6 => by rw [st_nj (by omega)]; exact a.2 i h1 h2 h3 h4 h5 h6⟩
theorem Fl.st {h g : am_H} {c j : Nat} {v : Int} (a : Fl h g) (hc : c = 77 ∨ c = 78) : Fl h (am_st g c j v) :=
  ⟨fun i h1 h2 h3 => by rw [st_ne (by omega)]; exact a.1 i h1 h2 h3, fun i h1 h2 h3 h4 h5 h6 => by rw [st_ne (by omega)]; exact a.2 i h1 h2 h3 h4 h5 h6⟩
theorem Fl.rf {h : am_H} : Fl h h := ⟨fun _ _ _ _ => rfl, fun _ _ _ _ _ _ _ => rfl⟩
section
variable {L : Nat} {xs : Nat → Int} {P : Nat → List am_V → am_H → am_K → Prop} {d : Nat} {h : am_H} {K : am_K} {Q : am_V → am_V → am_H → Prop}
theorem kX12_isBarred {a e nq : Nat} (hae : a ≤ e) (he : e ≤ 400) (hq : h 59 36 = nq) (hq8 : nq ≤ 8) (sz : ∀ k, k < nq → 1 ≤ h 75 k ∧ h 75 k ≤ 8) (H0 : ¬ Bd h (h 60) nq a (spf (h 60) a (e - a)) → K (0, 0) h) (H1 : Bd h (h 60) nq a (spf (h 60) a (e - a)) → K (0, 1) h) : am_C true L xs P (d + 1) 164 [(2, 59), (0, (a : Int)), (0, (e : Int))] h K := by
  refine eX12_isBarred (bX12_isBarred_0 ?_)
  have sb := spf_bnd (s := h 60) (a := a) (e - a)
  generalize hE : spf (h 60) a (e - a) = E at *
  have strip : ∀ i, a + i ≤ e → E = spf (h 60) a i → tX12_isBarred (h 0 0 + (0 : Nat)) L xs (am_C true L xs P d) K 39 [(2, 59), (0, (a : Int)), (0, (e : Int)), (0, (E : Int)), (9, 0), (9, 0), (9, 0)] [] h → tX12_isBarred (h 0 0 + (0 : Nat)) L xs (am_C true L xs P d) K 2 [(2, 59), (0, (a : Int)), (0, (e : Int)), (0, ((a + i : Nat) : Int)), (9, 0), (9, 0), (9, 0)] [] h := by
    intro i
    induction i with
    | zero =>
      intro _ hi G
      have : E = a := hi
      rw [this] at G
      exact bX12_isBarred_2 ⟨fun _ => G, fun z => by omega⟩
    | succ i ihi =>
      intro hki hi G
      simp only [spf] at hi
      refine bX12_isBarred_2 ⟨fun z => by omega, fun _ => ⟨⟨by omega, by omega⟩, ⟨by omega, by omega⟩, ?_⟩⟩
      rw [show ((a + (i + 1) : Nat) : Int) - 1 = ((a + i : Nat) : Int) by omega, Int.toNat_natCast]
      have yes : (h 60 (a + i) = 44 ∨ h 60 (a + i) = 46) → tX12_isBarred (h 0 0 + (0 : Nat)) L xs (am_C true L xs P d) K 33 [(2, 59), (0, (a : Int)), (0, (e : Int)), (0, ((a + (i + 1) : Nat) : Int)), (9, 0), (9, 0), (9, 0)] [] h := by
        intro z
        rw [if_pos z] at hi
        refine bX12_isBarred_33 ⟨⟨by omega, by omega⟩, ?_⟩
        rw [show ((a + (i + 1) : Nat) : Int) + (-1) = ((a + i : Nat) : Int) by omega]
        exact ihi (by omega) hi G
      refine ⟨fun z => yes (Or.inl z), fun z => ⟨⟨by omega, by omega⟩, ⟨by omega, by omega⟩, fun z2 => ?_, fun z2 => yes (Or.inr (Classical.not_not.mp z2))⟩⟩
      rw [if_neg (by omega)] at hi
      rw [hi] at G
      exact G
  have start := strip (e - a) (by omega) hE.symm
  rw [show a + (e - a) = e by omega] at start
  refine start (bX12_isBarred_39 ?_)
  refine upto (σ := am_V × am_V) (N := nq) (I := fun k _ => ∀ k', k' < k → ¬ (h 75 k' = ((E - a : Nat) : Int) ∧ ∀ i, i < E - a → h 76 (8 * k' + i) = h 60 (a + i))) (G := fun k s => tX12_isBarred (h 0 0 + (0 : Nat)) L xs (am_C true L xs P d) K 42 [(2, 59), (0, (a : Int)), (0, (e : Int)), (0, (E : Int)), (0, (k : Int)), s.1, s.2] [] h) ?_ ?_ nq 0 ((9, 0), (9, 0)) (by omega) (fun k' hk' => by omega)
  · intro k ⟨v5, v6⟩ hk e1 ih
    dsimp only at e1 ⊢
    have sk := sz k hk
    -- compare from i on, x = the same as yet
    have cmp : ∀ (j i : Nat) (x : Int), ((i : Int) + j = h 75 k) → ((x = 1 ∧ h 75 k = ((E - a : Nat) : Int) ∧ ∀ i', i' < i → h 76 (8 * k + i') = h 60 (a + i')) ∨ (x = 0 ∧ ¬ (h 75 k = ((E - a : Nat) : Int) ∧ ∀ i, i < E - a → h 76 (8 * k + i) = h 60 (a + i)))) → tX12_isBarred (h 0 0 + (0 : Nat)) L xs (am_C true L xs P d) K 74 [(2, 59), (0, (a : Int)), (0, (e : Int)), (0, (E : Int)), (0, (k : Int)), (0, x), (0, (i : Int))] [] h := by
      have fin : ∀ (i : Nat) (x : Int), ((x = 1 ∧ h 75 k = ((E - a : Nat) : Int) ∧ ∀ i, i < E - a → h 76 (8 * k + i) = h 60 (a + i)) ∨ (x = 0 ∧ ¬ (h 75 k = ((E - a : Nat) : Int) ∧ ∀ i, i < E - a → h 76 (8 * k + i) = h 60 (a + i)))) → tX12_isBarred (h 0 0 + (0 : Nat)) L xs (am_C true L xs P d) K 129 [(2, 59), (0, (a : Int)), (0, (e : Int)), (0, (E : Int)), (0, (k : Int)), (0, x), (0, (i : Int))] [] h := by
        intro i x hx
        refine bX12_isBarred_129 ⟨fun z => bX12_isBarred_136 ⟨by omega, ih (_, _) (fun k' hk' => ?_)⟩, fun z => ⟨by decide, H1 ?_⟩⟩
        · rcases hx with q | q
          · omega
          · by_cases ek : k' = k
            · rw [ek]; exact q.2
            · exact e1 k' (by omega)
        · rcases hx with q | q
          · exact ⟨k, hk, q.2⟩
          · omega
      intro j
      induction j with
      | zero =>
        intro i x hi hx
        refine bX12_isBarred_74 ⟨by omega, ?_⟩
        rw [Int.toNat_natCast]
        refine ⟨fun _ => fin i x ?_, fun z => by omega⟩
        rcases hx with q | q
        · exact Or.inl ⟨q.1, q.2.1, fun i' hi' => q.2.2 i' (by omega)⟩
        · exact Or.inr q
      | succ j ihj =>
        intro i x hi hx
        refine bX12_isBarred_74 ⟨by omega, ?_⟩
        rw [Int.toNat_natCast]
        refine ⟨fun z => by omega, fun _ => ⟨fun z => fin i x ?_, fun z => ?_⟩⟩
        · rcases hx with q | q
          · omega
          · exact Or.inr q
        · have q := hx.resolve_right (fun q => z q.1)
          rw [show Int.toNat (8 * (k : Int) + (i : Int)) = 8 * k + i by omega, show Int.toNat ((a : Int) + (i : Int)) = a + i by omega]
          refine ⟨⟨by omega, by omega⟩, ⟨by omega, by omega⟩, ⟨by omega, by omega⟩, ⟨by omega, by omega⟩, ⟨by omega, by omega⟩, fun z2 => bX12_isBarred_120 (bX12_isBarred_121 ⟨⟨by omega, by omega⟩, ?_⟩), fun z2 => bX12_isBarred_121 ⟨⟨by omega, by omega⟩, ?_⟩⟩
          · exact ihj (i + 1) 0 (by omega) (Or.inr ⟨rfl, fun y => z2 (y.2 i (by omega))⟩)
          · refine ihj (i + 1) 1 (by omega) (Or.inl ⟨rfl, q.2.1, fun i' hi' => ?_⟩)
            by_cases ei : i' = i
            · rw [ei]; exact Classical.not_not.mp z2
            · exact q.2.2 i' (by omega)
    refine bX12_isBarred_42 ⟨fun z => by omega, fun _ => ⟨by omega, ⟨by omega, by omega⟩, ?_⟩⟩
    rw [Int.toNat_natCast, show (E : Int) - (a : Int) = ((E - a : Nat) : Int) by omega]
    refine ⟨fun z => bX12_isBarred_68 (bX12_isBarred_69 (cmp (h 75 k).toNat 0 0 (by omega) (Or.inr ⟨rfl, fun y => z y.1⟩))), fun z => bX12_isBarred_69 (cmp (h 75 k).toNat 0 1 (by omega) (Or.inl ⟨rfl, Classical.not_not.mp z, fun i' hi' => by omega⟩))⟩
  · intro ⟨v5, v6⟩ e1
    exact bX12_isBarred_42 ⟨fun _ => bX12_isBarred_142 ⟨by decide, H0 (fun ⟨k, k1, k2⟩ => e1 k k1 k2)⟩, fun z => by omega⟩
theorem kX12_letter {x : Int} {nq M : Nat} {A W : Int} (h4 : h 59 1 ≤ 400) (hA : h 73 0 = A) (hMv : h 73 1 = M) (hWv : h 73 2 = W) (hA0 : 0 ≤ A) (hW : 0 ≤ W ∧ W ≤ 30) (hM : 1 ≤ M ∧ M ≤ 6) (hq : h 59 36 = nq) (hq8 : nq ≤ 8) (sz : ∀ k, k < nq → 1 ≤ h 75 k ∧ h 75 k ≤ 8) (H0 : ¬ (0 ≤ x ∧ x ≤ h 59 1) → K (0, -2) (am_t0 h)) (H1 : (0 ≤ x ∧ x ≤ h 59 1) → ∀ g, Fl h g → LMz h g (h 60) x.toNat A W M nq → K (0, if (lres h (h 60) x.toNat A W M nq).1 = 0 then (((lb (h 60) x.toNat W M x.toNat 0 0 0 (fun _ => 0)).2.1 : Nat) : Int) else -1) g) : am_C true L xs P (d + 2) 162 [(2, 59), (0, x)] h K := by
  refine eX12_letter (bX12_letter_0 ⟨fun z => bX12_letter_17 (H0 (fun y => by omega)), fun z => ⟨fun z2 => bX12_letter_20 ?_, fun z2 => bX12_letter_17 (H0 (fun y => by omega))⟩⟩)
  obtain ⟨n, hn⟩ : ∃ n : Nat, x = n := ⟨x.toNat, by omega⟩
  subst hn
  rw [Int.toNat_natCast] at H1
  have H1' := H1 ⟨by omega, z2⟩
  have n4 : n ≤ 400 := by omega
  generalize hg0 : am_st (am_st (am_st (am_st h 59 2 0) 59 1 0) 59 24 0) 59 25 (-1) = g0
  have fl0 : Fl h g0 := by rw [← hg0]; exact (((Fl.rf.st59 (by decide)).st59 (by decide)).st59 (by decide)).st59 (by decide)
  have t0 : g0 59 1 = 0 := by rw [← hg0, st_nj (by decide), st_nj (by decide), st_at]
  have f0 : g0 59 24 = 0 ∧ g0 59 25 = -1 := by rw [← hg0]; exact ⟨by rw [st_nj (by decide), st_at], st_at⟩
  have l0 : g0 59 40 = h 59 40 ∧ g0 77 = h 77 := by rw [← hg0]; exact ⟨by rw [st_nj (by decide), st_nj (by decide), st_nj (by decide), st_nj (by decide)], by rw [st_ne (by decide), st_ne (by decide), st_ne (by decide), st_ne (by decide)]⟩
  have s60 : ∀ g : am_H, Fl h g → g 60 = h 60 := fun g f => f.1 60 (by decide) (by decide) (by decide)
  have s73 : ∀ g : am_H, Fl h g → g 73 = h 73 := fun g f => f.1 73 (by decide) (by decide) (by decide)
  have bad : ∀ (g : am_H) (w pl : Int), Fl h g → g 59 1 = 0 → (g 59 40 = h 59 40 ∧ g 77 = h 77) → lres h (h 60) n A W M nq = (w, pl) → ¬ w = 0 → am_C true L xs P (d + 1) 161 [(2, 59), (0, w), (0, pl)] g (fun r1 h1 => K (0, r1.2) h1) := by
    intro g w pl fl gt gl hl hw
    refine kX12_breaks (d := d) ?_
    have := H1' (am_st (am_st g 59 24 w) 59 25 pl) ((fl.st59 (by decide)).st59 (by decide)) ?_
    · rw [hl, if_neg hw] at this; exact this
    · refine ⟨by rw [hl, st_nj (by decide), st_at], by rw [hl, st_at], by rw [st_nj (by decide), st_nj (by decide)]; exact gt, fun z => by rw [hl] at z; exact absurd z hw, fun _ => ⟨by rw [st_nj (by decide), st_nj (by decide)]; exact gl.1, by rw [st_ne (by decide), st_ne (by decide)]; exact gl.2⟩⟩
  -- 1
  have k1 : ∀ (f k : Nat) (v3 v4 : am_V), k + f = n → ff (fun k => ¬ Lg (h 60) k) n 0 = ff (fun k => ¬ Lg (h 60) k) f k → (ff (fun k => ¬ Lg (h 60) k) n 0 = -1 → ∀ v3 v4 : am_V, tX12_letter (h 0 0 + (0 : Nat)) L xs (am_C true L xs P (d + 1)) K 104 [(2, 59), (0, (n : Int)), (0, (n : Int)), v3, v4] [] g0) → tX12_letter (h 0 0 + (0 : Nat)) L xs (am_C true L xs P (d + 1)) K 37 [(2, 59), (0, (n : Int)), (0, (k : Int)), v3, v4] [] g0 := by
    intro f
    induction f with
    | zero =>
      intro k v3 v4 hk hf G
      have ek : k = n := by omega
      subst ek
      exact bX12_letter_37 ⟨fun _ => G hf v3 v4, fun z => by omega⟩
    | succ f ih =>
      intro k v3 v4 hk hf G
      simp only [ff] at hf
      have yes : Lg (h 60) k → ∀ v4 : am_V, tX12_letter (h 0 0 + (0 : Nat)) L xs (am_C true L xs P (d + 1)) K 79 [(2, 59), (0, (n : Int)), (0, (k : Int)), (0, h 60 k), v4] [] g0 := by
        intro hl v4
        rw [if_neg (fun z => z hl)] at hf
        exact bX12_letter_79 (bX12_letter_84 ⟨fun _ => bX12_letter_98 ⟨by omega, ih (k + 1) _ _ (by omega) hf G⟩, fun q => absurd (by decide) q⟩)
      have b61 : ∀ v4 : am_V, ¬ Sm (h 60) k → tX12_letter (h 0 0 + (0 : Nat)) L xs (am_C true L xs P (d + 1)) K 61 [(2, 59), (0, (n : Int)), (0, (k : Int)), (0, h 60 k), v4] [] g0 := by
        intro v4 ns
        refine bX12_letter_61 ⟨fun q => yes (Or.inr (Or.inl q)) v4, fun q1 => ⟨fun q => yes (Or.inr (Or.inr (Or.inl q))) v4, fun q2 => ⟨fun q3 => bX12_letter_83 (bX12_letter_84 ⟨fun q => absurd rfl q, fun _ => ?_⟩), fun q3 => yes (Or.inr (Or.inr (Or.inr (Classical.not_not.mp q3)))) v4⟩⟩⟩
        have nl : ¬ Lg (h 60) k := by
          rintro (q | q | q | q)
          · exact ns q
          · exact q1 q
          · exact q2 q
          · exact q3 q
        rw [if_pos nl] at hf
        refine bad g0 1 _ fl0 t0 l0 ?_ (by decide)
        unfold lres
        rw [if_pos (by rw [hf]; omega), hf]
      refine bX12_letter_37 ⟨fun q => by omega, fun _ => ⟨by omega, ?_⟩⟩
      rw [Int.toNat_natCast, s60 g0 fl0]
      exact ⟨fun q => b61 v4 (fun w => by have := w.1; omega), fun q => ⟨fun q2 => yes (Or.inl ⟨by omega, q2⟩) v4, fun q2 => b61 v4 (fun w => by have := w.2; omega)⟩⟩
  refine k1 n 0 _ _ (by omega) rfl (fun z1 v3 v4 => bX12_letter_104 ⟨by decide, ?_⟩)
  -- 2
  show ((n : Int) ≤ g0 73 0 → _) ∧ (¬ (n : Int) ≤ g0 73 0 → _ ∧ am_C true L xs P (d + 1) 161 [(2, 59), (0, 2), (0, g0 73 0)] g0 _)
  rw [s73 g0 fl0, hA]
  refine ⟨fun zA => bX12_letter_126 ?_, fun zA => ⟨by decide, bad g0 2 A fl0 t0 l0 (by unfold lres; rw [if_neg (fun q => q z1), if_pos (by omega)]) (by decide)⟩⟩
  -- 3
  have k3 : ∀ (f k : Nat), k + f = n → ff (Sy (h 60) n) n 0 = ff (Sy (h 60) n) f k → (ff (Sy (h 60) n) n 0 = -1 → tX12_letter (h 0 0 + (0 : Nat)) L xs (am_C true L xs P (d + 1)) K 181 [(2, 59), (0, (n : Int)), (0, (n : Int)), v3, v4] [] g0) → tX12_letter (h 0 0 + (0 : Nat)) L xs (am_C true L xs P (d + 1)) K 128 [(2, 59), (0, (n : Int)), (0, (k : Int)), v3, v4] [] g0 := by
    intro f
    induction f with
    | zero =>
      intro k hk hf G
      have ek : k = n := by omega
      subst ek
      exact bX12_letter_128 ⟨fun _ => G hf, fun z => by omega⟩
    | succ f ih =>
      intro k hk hf G
      simp only [ff] at hf
      have no : ¬ Sy (h 60) n k → tX12_letter (h 0 0 + (0 : Nat)) L xs (am_C true L xs P (d + 1)) K 175 [(2, 59), (0, (n : Int)), (0, (k : Int)), v3, v4] [] g0 := by
        intro q
        rw [if_neg q] at hf
        exact bX12_letter_175 ⟨by omega, ih (k + 1) (by omega) hf G⟩
      have yes : Sy (h 60) n k → tX12_letter (h 0 0 + (0 : Nat)) L xs (am_C true L xs P (d + 1)) K 168 [(2, 59), (0, (n : Int)), (0, (k : Int)), v3, v4] [] g0 := by
        intro q
        rw [if_pos q] at hf
        refine bX12_letter_168 (bad g0 3 _ fl0 t0 l0 ?_ (by decide))
        unfold lres
        rw [if_neg (fun q => q z1), if_neg (by omega), if_pos (by rw [hf]; omega), hf]
      refine bX12_letter_128 ⟨fun q => by omega, fun _ => ⟨by omega, ?_⟩⟩
      rw [Int.toNat_natCast, s60 g0 fl0]
      refine ⟨fun q => no (fun w => q w.1), fun q => ⟨fun q2 => yes ⟨Classical.not_not.mp q, Or.inl (by omega)⟩, fun q2 => ⟨⟨by omega, by omega⟩, fun q3 => yes ⟨Classical.not_not.mp q, Or.inr (Or.inl (by omega))⟩, fun q3 => ⟨⟨by omega, by omega⟩, ⟨by omega, by omega⟩, ?_⟩⟩⟩⟩
      rw [show Int.toNat ((k : Int) - 1) = k - 1 by omega]
      refine ⟨fun q4 => no (fun w => ?_), fun q4 => yes ⟨Classical.not_not.mp q, Or.inr (Or.inr (Classical.not_not.mp q4))⟩⟩
      rcases w.2 with w | w | w
      · omega
      · omega
      · exact q4 w
  refine k3 n 0 (by omega) rfl (fun z3 => bX12_letter_181 ?_)
  -- 4
  have k4 : ∀ (f k : Nat), n ≤ k + f → k ≤ n + 1 → fw (h 60) n (fun k => W < (en (h 60) n k : Int) - k) n 0 = fw (h 60) n (fun k => W < (en (h 60) n k : Int) - k) f k → (fw (h 60) n (fun k => W < (en (h 60) n k : Int) - k) n 0 = -1 → ∀ k : Int, tX12_letter (h 0 0 + (0 : Nat)) L xs (am_C true L xs P (d + 1)) K 224 [(2, 59), (0, (n : Int)), (0, k), v3, v4] [] g0) → tX12_letter (h 0 0 + (0 : Nat)) L xs (am_C true L xs P (d + 1)) K 183 [(2, 59), (0, (n : Int)), (0, (k : Int)), v3, v4] [] g0 := by
    intro f
    induction f with
    | zero => intro k hk _ hf G; exact bX12_letter_183 ⟨fun _ => G hf _, fun z => by omega⟩
    | succ f ih =>
      intro k hk hk2 hf G
      simp only [fw] at hf
      by_cases e : n ≤ k
      · rw [if_pos e] at hf
        exact bX12_letter_183 ⟨fun _ => G hf _, fun z => by omega⟩
      · rw [if_neg e] at hf
        have eb := en_bnd (s := h 60) (n := n) (p := k) (by omega)
        refine bX12_letter_183 ⟨fun z => by omega, fun _ => kX12_wordEnd (d := d) (by omega) n4 ?_⟩
        rw [s60 g0 fl0]
        refine ⟨⟨by dsimp only; omega, by dsimp only; omega⟩, by decide, ?_⟩
        show ((en (h 60) n k : Int) - k ≤ g0 73 2 → _) ∧ (¬ (en (h 60) n k : Int) - k ≤ g0 73 2 → _)
        rw [s73 g0 fl0, hWv]
        refine ⟨fun z => bX12_letter_212 (kX12_wordEnd (d := d) (by omega) n4 ?_), fun z => ?_⟩
        · rw [s60 g0 fl0]
          rw [if_neg (by omega)] at hf
          refine ⟨⟨by dsimp only; omega, by dsimp only; omega⟩, ?_⟩
          have := ih (en (h 60) n k + 1) (by omega) (by omega) hf G
          rw [show ((en (h 60) n k + 1 : Nat) : Int) = (en (h 60) n k : Int) + 1 by omega] at this
          exact this
        · rw [if_pos (by omega)] at hf
          refine bad g0 4 _ fl0 t0 l0 ?_ (by decide)
          unfold lres
          rw [if_neg (fun q => q z1), if_neg (by omega), if_neg (fun q => q z3), if_pos (by rw [hf]; omega), hf]
  refine k4 n 0 (by omega) (by omega) rfl (fun z4 kk => bX12_letter_224 ?_)
  -- 5
  have k5 : ∀ (f k c : Nat) (u : Int) (r : Nat → Int) (v : am_V) (g : am_H), n ≤ k + f → k ≤ n + 1 → c ≤ M → 0 ≤ u ∧ u ≤ 400 → Fl h g → g 59 1 = 0 → (g 59 24 = 0 ∧ g 59 25 = -1) → (g 59 40 = h 59 40 ∧ g 77 = h 77) → g 59 42 = (c : Int) → (∀ j, j < c → g 78 j = r j) → lb (h 60) n W M n 0 0 0 (fun _ => 0) = lb (h 60) n W M f k c u r → ((lb (h 60) n W M n 0 0 0 (fun _ => 0)).1 = -1 → ∀ (g : am_H) (x2 x3 : Int) (v : am_V), Fl h g → g 59 1 = 0 → (g 59 24 = 0 ∧ g 59 25 = -1) → (g 59 40 = h 59 40 ∧ g 77 = h 77) → g 59 42 = ((lb (h 60) n W M n 0 0 0 (fun _ => 0)).2.1 : Nat) → (lb (h 60) n W M n 0 0 0 (fun _ => 0)).2.1 ≤ 6 → (∀ j, j < (lb (h 60) n W M n 0 0 0 (fun _ => 0)).2.1 → g 78 j = (lb (h 60) n W M n 0 0 0 (fun _ => 0)).2.2 j) → tX12_letter (h 0 0 + (0 : Nat)) L xs (am_C true L xs P (d + 1)) K 337 [(2, 59), (0, (n : Int)), (0, x2), (0, x3), v] [] g) → tX12_letter (h 0 0 + (0 : Nat)) L xs (am_C true L xs P (d + 1)) K 233 [(2, 59), (0, (n : Int)), (0, u), (0, (k : Int)), v] [] g := by
    intro f
    induction f with
    | zero =>
      intro k c u r v g hk hk2 hc hu fl gt gf gl g42 rws hlb G
      have el : lb (h 60) n W M 0 k c u r = (-1, c, r) := rfl
      rw [hlb, el] at G
      exact bX12_letter_233 ⟨fun _ => G rfl g _ _ _ fl gt gf gl g42 (by dsimp only; omega) rws, fun z => by omega⟩
    | succ f ih =>
      intro k c u r v g hk hk2 hc hu fl gt gf gl g42 rws hlb G
      by_cases e : n ≤ k
      · have el : lb (h 60) n W M (f + 1) k c u r = (-1, c, r) := by simp only [lb]; rw [if_pos e]
        rw [hlb, el] at G
        exact bX12_letter_233 ⟨fun _ => G rfl g _ _ _ fl gt gf gl g42 (by dsimp only; omega) rws, fun z => by omega⟩
      · have eb := en_bnd (s := h 60) (n := n) (p := k) (by omega)
        have nxt : ∀ (c' : Nat) (u' : Int) (g' : am_H) (x4 : Int), 1 ≤ c' → c' ≤ M → 0 ≤ u' ∧ u' ≤ 400 → Fl h g' → g' 59 1 = 0 → (g' 59 24 = 0 ∧ g' 59 25 = -1) → (g' 59 40 = h 59 40 ∧ g' 77 = h 77) → g' 59 42 = (c' : Int) → (∀ j, j < c' → ¬ j = c' - 1 → g' 78 j = r j) → lb (h 60) n W M (f + 1) k c u r = lb (h 60) n W M f (en (h 60) n k + 1) c' u' (up r (c' - 1) u') → tX12_letter (h 0 0 + (0 : Nat)) L xs (am_C true L xs P (d + 1)) K 313 [(2, 59), (0, (n : Int)), (0, u'), (0, (k : Int)), (0, x4)] [] g' := by
          intro c' u' g' x4 h1 h2 hu' fl' gt' gf' gl' g42' old el
          refine bX12_letter_313 ?_
          rw [g42', show Int.toNat ((c' : Int) - 1) = c' - 1 by omega]
          have fl2 : Fl h (am_st g' 78 (c' - 1) u') := fl'.st (by decide)
          have n9 : am_st g' 78 (c' - 1) u' 59 = g' 59 := st_ne (by decide)
          have n7 : am_st g' 78 (c' - 1) u' 77 = g' 77 := st_ne (by decide)
          refine ⟨⟨by omega, by omega⟩, ⟨by omega, by omega⟩, kX12_wordEnd (d := d) (by omega) n4 ?_⟩
          rw [s60 _ fl2]
          refine ⟨⟨by dsimp only; omega, by dsimp only; omega⟩, ?_⟩
          have := ih (en (h 60) n k + 1) c' u' (up r (c' - 1) u') (0, x4) (am_st g' 78 (c' - 1) u') (by omega) (by omega) h2 hu' fl2 (by rw [n9]; exact gt') (by rw [n9]; exact gf') (by rw [n9, n7]; exact gl') (by rw [n9]; exact g42') (fun j hj => by
            by_cases ej : j = c' - 1
            · rw [ej, st_at, up_at]
            · rw [st_nj ej, up_ne ej]; exact old j hj ej) (by rw [hlb, el]) G
          rw [show ((en (h 60) n k + 1 : Nat) : Int) = (en (h 60) n k : Int) + 1 by omega] at this
          exact this
        have b280 : ¬ (0 < c ∧ u + 1 + ((en (h 60) n k : Int) - k) ≤ W) → tX12_letter (h 0 0 + (0 : Nat)) L xs (am_C true L xs P (d + 1)) K 280 [(2, 59), (0, (n : Int)), (0, u), (0, (k : Int)), (0, (en (h 60) n k : Int) - k)] [] g := by
          intro hno
          refine bX12_letter_280 ⟨by decide, ?_⟩
          show (¬ g 59 42 = g 73 1 → _) ∧ (¬ ¬ g 59 42 = g 73 1 → _)
          rw [s73 g fl, hMv, g42]
          refine ⟨fun z => bX12_letter_300 ?_, fun z => ?_⟩
          · rw [g42]
            refine ⟨⟨by omega, by omega⟩, ?_⟩
            refine nxt (c + 1) _ (am_st g 59 42 ((c : Int) + 1)) _ (by omega) (by omega) (by omega) (fl.st59 (by decide)) (by rw [st_nj (by decide)]; exact gt) (by rw [st_nj (by decide), st_nj (by decide)]; exact gf) (by rw [st_nj (by decide), st_ne (by decide)]; exact gl) (by rw [st_at]; omega) (fun j hj hj2 => by rw [st_ne (by decide)]; exact rws j (by omega)) ?_
            simp only [lb]
            rw [if_neg e, if_neg hno, if_neg (by omega)]
            rfl
          · have hcM : c = M := by omega
            have el : lb (h 60) n W M (f + 1) k c u r = ((k : Int), c, r) := by simp only [lb]; rw [if_neg e, if_neg hno, if_pos hcM]
            refine bad g 5 _ fl gt gl ?_ (by decide)
            unfold lres
            rw [if_neg (fun q => q z1), if_neg (by omega), if_neg (fun q => q z3), if_neg (fun q => q z4), if_pos (by rw [hlb, el]; dsimp only; omega), hlb, el]
        refine bX12_letter_233 ⟨fun z => by omega, fun _ => kX12_wordEnd (d := d) (by omega) n4 ?_⟩
        rw [s60 g fl]
        dsimp only
        rw [g42]
        refine ⟨⟨by omega, by omega⟩, fun z => b280 (by omega), fun z => ⟨⟨by omega, by omega⟩, ⟨by omega, by omega⟩, by decide, ?_⟩⟩
        show (g 73 2 < u + 1 + ((en (h 60) n k : Int) - k) → _) ∧ (¬ g 73 2 < u + 1 + ((en (h 60) n k : Int) - k) → _)
        rw [s73 g fl, hWv]
        refine ⟨fun z2 => b280 (by omega), fun z2 => ⟨⟨by omega, by omega⟩, ⟨by omega, by omega⟩, ?_⟩⟩
        refine nxt c _ g _ (by omega) hc (by omega) fl gt gf gl g42 (fun j hj _ => rws j hj) ?_
        simp only [lb]
        rw [if_neg e, if_pos ⟨by omega, by omega⟩]
  refine k5 n 0 0 0 (fun _ => 0) _ (am_st g0 59 42 0) (by omega) (by omega) (by omega) (by omega) (fl0.st59 (by decide)) (by rw [st_nj (by decide)]; exact t0) (by rw [st_nj (by decide), st_nj (by decide)]; exact f0) (by rw [st_nj (by decide), st_ne (by decide)]; exact l0) st_at (fun j hj => by omega) rfl (fun z5 g x2 x3 v fl gt gf gl g42 c6 rws => bX12_letter_337 ?_)
  -- 6
  have g75 : g 75 = h 75 := fl.1 75 (by decide) (by decide) (by decide)
  have g76 : g 76 = h 76 := fl.1 76 (by decide) (by decide) (by decide)
  have k6 : ∀ (f k : Nat), n ≤ k + f → k ≤ n + 1 → fw (h 60) n (Br h (h 60) nq n) n 0 = fw (h 60) n (Br h (h 60) nq n) f k → (fw (h 60) n (Br h (h 60) nq n) n 0 = -1 → ∀ k : Int, tX12_letter (h 0 0 + (0 : Nat)) L xs (am_C true L xs P (d + 1)) K 378 [(2, 59), (0, (n : Int)), (0, x2), (0, k), v] [] g) → tX12_letter (h 0 0 + (0 : Nat)) L xs (am_C true L xs P (d + 1)) K 339 [(2, 59), (0, (n : Int)), (0, x2), (0, (k : Int)), v] [] g := by
    intro f
    induction f with
    | zero => intro k hk _ hf G; exact bX12_letter_339 ⟨fun _ => G hf _, fun z => by omega⟩
    | succ f ih =>
      intro k hk hk2 hf G
      simp only [fw] at hf
      by_cases e : n ≤ k
      · rw [if_pos e] at hf
        exact bX12_letter_339 ⟨fun _ => G hf _, fun z => by omega⟩
      · rw [if_neg e] at hf
        have eb := en_bnd (s := h 60) (n := n) (p := k) (by omega)
        refine bX12_letter_339 ⟨fun z => by omega, fun _ => kX12_wordEnd (d := d) (by omega) n4 ?_⟩
        rw [s60 g fl]
        have eB : Bd g (g 60) nq k (spf (g 60) k (en (h 60) n k - k)) ↔ Br h (h 60) nq n k := by unfold Br Bd; rw [s60 g fl, g75, g76]
        refine kX12_isBarred (d := d) (by omega) (by omega) (by rw [fl.2 36 (by decide) (by decide) (by decide) (by decide) (by decide) (by decide)]; exact hq) hq8 (by rw [g75]; exact sz) (fun nb => ?_) (fun yb => ?_)
        · rw [eB] at nb
          rw [if_neg nb] at hf
          refine ⟨fun _ => bX12_letter_366 (kX12_wordEnd (d := d) (by omega) n4 ?_), fun q => absurd rfl q⟩
          rw [s60 g fl]
          refine ⟨⟨by dsimp only; omega, by dsimp only; omega⟩, ?_⟩
          have := ih (en (h 60) n k + 1) (by omega) (by omega) hf G
          rw [show ((en (h 60) n k + 1 : Nat) : Int) = (en (h 60) n k : Int) + 1 by omega] at this
          exact this
        · rw [eB] at yb
          rw [if_pos yb] at hf
          refine ⟨fun q => absurd q (by decide), fun _ => bad g 6 _ fl gt gl ?_ (by decide)⟩
          unfold lres
          rw [if_neg (fun q => q z1), if_neg (by omega), if_neg (fun q => q z3), if_neg (fun q => q z4), if_neg (fun q => q z5), if_pos (by rw [hf]; omega), hf]
  refine k6 n 0 (by omega) (by omega) rfl (fun z6 kk => bX12_letter_378 ?_)
  have hl : lres h (h 60) n A W M nq = (0, -1) := by unfold lres; rw [if_neg (fun q => q z1), if_neg (by omega), if_neg (fun q => q z3), if_neg (fun q => q z4), if_neg (fun q => q z5), if_neg (fun q => q z6)]
  rw [g42]
  generalize hc : (lb (h 60) n W M n 0 0 0 (fun _ => 0)).2.1 = c at *
  have fl2 : Fl h (am_st g 59 40 (c : Int)) := fl.st59 (by decide)
  refine upto (σ := am_H) (N := c) (I := fun i g' => Fr [77] (am_st g 59 40 (c : Int)) g' ∧ Fl h g' ∧ ∀ k, k < i → g' 77 k = g 78 k) (G := fun i g' => tX12_letter (h 0 0 + (0 : Nat)) L xs (am_C true L xs P (d + 1)) K 388 [(2, 59), (0, (n : Int)), (0, x2), (0, (i : Int)), v] [] g') ?_ ?_ c 0 _ (by omega) ⟨Fr.rf, fl2, fun k hk => by omega⟩
  · intro i g' hi ⟨q1, q3, q2⟩ ih
    have e3 : g' 59 40 = (c : Int) := by rw [q1 59 (by decide), st_at]
    have e78 : g' 78 = g 78 := by rw [q1 78 (by decide), st_ne (by decide)]
    refine bX12_letter_388 ⟨fun z => by omega, fun _ => ⟨by omega, by omega, by omega, ih _ ⟨q1.st (by decide), q3.st (by decide), fun k hk => ?_⟩⟩⟩
    rw [Int.toNat_natCast, st_ap, e78]
    split
    · rename_i ek; rw [ek]
    · exact q2 k (by omega)
  · intro g' ⟨q1, q3, q2⟩
    have e3 : g' 59 40 = (c : Int) := by rw [q1 59 (by decide), st_at]
    refine bX12_letter_388 ⟨fun _ => bX12_letter_414 ?_, fun z => by omega⟩
    rw [e3]
    have := H1' g' q3 ?_
    · rw [hl, if_pos rfl] at this; exact this
    · refine ⟨by rw [hl, q1 59 (by decide), st_nj (by decide)]; exact gf.1, by rw [hl, q1 59 (by decide), st_nj (by decide)]; exact gf.2, by rw [q1 59 (by decide), st_nj (by decide)]; exact gt, fun _ => ⟨by rw [hc]; exact e3, fun k hk => ?_⟩, fun z => by rw [hl] at z; exact absurd rfl z⟩
      rw [hc] at hk
      rw [q2 k hk]; exact rws k hk
end
