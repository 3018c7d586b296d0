/-! more: which of two shares is more -/
theorem fl_lt {p q r s : Int} (hq : 0 < q) (hs : 0 < s) (h : r / s < p / q) : r * q < p * s := by
  have h1 := Int.lt_ediv_add_one_mul_self r hs
  have h2 := Int.ediv_mul_le p (show q ≠ 0 by omega)
  have a : r * q < (r / s + 1) * s * q := Int.mul_lt_mul_of_pos_right h1 hq
  have b : (r / s + 1) * s * q ≤ p / q * s * q := by
    refine Int.mul_le_mul_of_nonneg_right (Int.mul_le_mul_of_nonneg_right (by omega) (by omega)) (by omega)
  have c : p / q * s * q = p / q * q * s := Int.mul_right_comm _ _ _
  have e : p / q * q * s ≤ p * s := Int.mul_le_mul_of_nonneg_right h2 (by omega)
  omega
theorem fl_eq {p q r s : Int} (h : p / q = r / s) : p * s - r * q = (p % q) * s - (r % s) * q := by
  have h1 : p * s = q * (p / q) * s + p % q * s := by rw [← Int.add_mul, Int.mul_ediv_add_emod]
  have h2 : r * q = s * (r / s) * q + r % s * q := by rw [← Int.add_mul, Int.mul_ediv_add_emod]
  have h3 : q * (p / q) * s = s * (r / s) * q := by rw [h, Int.mul_comm q, Int.mul_right_comm, Int.mul_comm (r / s) s]
  omega
def Mo (t p q r s : Int) : Prop := (t = 0 ∧ r * q < p * s) ∨ (t = 1 ∧ p * s < r * q)
section
variable {L : Nat} {xs : Nat → Int} {P : Nat → List am_V → am_H → am_K → Prop} {d : Nat} {h : am_H} {K : am_K}
theorem kX12_isMore {a b c e : Int} (ha : 0 ≤ a) (hb : 0 < b) (hc : 0 ≤ c) (he : 0 < e) (H0 : ¬ c * b < a * e → K (0, 0) h) (H1 : c * b < a * e → K (0, 1) h) : am_C true L xs P (d + 1) 204 [(1, a), (1, b), (1, c), (1, e)] h K := by
  refine eX12_isMore (bX12_isMore_0 ?_)
  have key : ∀ (n : Nat) (p q r s t : Int) (v17 v19 : am_V), q ≤ n → 0 ≤ p → 0 < q → 0 ≤ r → 0 < s → (t = 0 ∨ t = 1) → (Mo t p q r s ↔ c * b < a * e) → tX12_isMore (h 0 0 + (0 : Nat)) L xs (am_C true L xs P d) K 17 [(1, a), (9, 0), (1, b), (9, 0), (1, c), (9, 0), (1, e), (9, 0), (1, p), (9, 0), (1, q), (9, 0), (1, r), (9, 0), (1, s), (9, 0), (0, t), v17, (9, 0), v19, (9, 0)] [] h := by
    intro n
    induction n with
    | zero => intro p q r s t v17 v19 hq _ hq0; omega
    | succ n ih =>
      intro p q r s t v17 v19 hn hp hq hr hs ht hM
      have yes : Mo t p q r s → K (0, 1) h := fun m => H1 (hM.mp m)
      have no : ¬ Mo t p q r s → K (0, 0) h := fun m => H0 (fun z => m (hM.mpr z))
      refine bX12_isMore_17 ⟨⟨hp, hq⟩, ⟨hr, hs⟩, fun z => ?_, fun z => ⟨⟨hp, hq⟩, ⟨hr, hs⟩, fun z2 => bX12_isMore_49 (bX12_isMore_50 ⟨fun z3 => bX12_isMore_59 (bX12_isMore_60 ⟨by decide, no ?_⟩), fun z3 => bX12_isMore_60 ⟨by decide, yes ?_⟩⟩), fun z2 => bX12_isMore_50 ⟨fun z3 => bX12_isMore_59 (bX12_isMore_60 ⟨by decide, no ?_⟩), fun z3 => bX12_isMore_60 ⟨by decide, yes ?_⟩⟩⟩⟩
      · rw [lcmp0] at z
        have fe := fl_eq z
        have x0 := Int.emod_nonneg p (show q ≠ 0 by omega)
        have x1 := Int.emod_lt_of_pos p hq
        have y0 := Int.emod_nonneg r (show s ≠ 0 by omega)
        have y1 := Int.emod_lt_of_pos r hs
        have end0 : p % q = 0 ∨ r % s = 0 → tX12_isMore (h 0 0 + (0 : Nat)) L xs (am_C true L xs P d) K 89 [(1, a), (9, 0), (1, b), (9, 0), (1, c), (9, 0), (1, e), (9, 0), (1, p), (9, 0), (1, q), (9, 0), (1, r), (9, 0), (1, s), (9, 0), (0, t), (1, p % q), (9, 0), (1, r % s), (9, 0)] [] h := by
          intro hz
          refine bX12_isMore_89 ⟨fun w => bX12_isMore_118 (bX12_isMore_119 ⟨by decide, no ?_⟩), fun w => ⟨fun w2 => bX12_isMore_108 (bX12_isMore_109 ⟨fun w3 => bX12_isMore_118 (bX12_isMore_119 ⟨by decide, no ?_⟩), fun w3 => bX12_isMore_119 ⟨by decide, yes ?_⟩⟩), fun w2 => bX12_isMore_109 ⟨fun w3 => bX12_isMore_118 (bX12_isMore_119 ⟨by decide, no ?_⟩), fun w3 => bX12_isMore_119 ⟨by decide, yes ?_⟩⟩⟩⟩
          · rw [lcmp0] at w
            have e1 : p % q = 0 := by omega
            have e2 : r % s = 0 := by omega
            rw [e1, e2, Int.zero_mul, Int.zero_mul] at fe
            rintro (q1 | q1) <;> omega
          · rw [lcmp0] at w w2
            have hy : 0 < r % s * q := Int.mul_pos (by omega) hq
            rw [w2, Int.zero_mul] at fe
            rintro (q1 | q1) <;> omega
          · rw [lcmp0] at w w2
            have hy : 0 < r % s * q := Int.mul_pos (by omega) hq
            rw [w2, Int.zero_mul] at fe
            exact Or.inr ⟨by omega, by omega⟩
          · rw [lcmp0] at w w2
            have e2 : r % s = 0 := by omega
            have hy : 0 < p % q * s := Int.mul_pos (by omega) hs
            rw [e2, Int.zero_mul] at fe
            rintro (q1 | q1) <;> omega
          · rw [lcmp0] at w w2
            have e2 : r % s = 0 := by omega
            have hy : 0 < p % q * s := Int.mul_pos (by omega) hs
            rw [e2, Int.zero_mul] at fe
            exact Or.inl ⟨by omega, by omega⟩
        refine bX12_isMore_61 ⟨⟨hp, hq⟩, ⟨hr, hs⟩, fun w => end0 (Or.inl (lcmp0.mp w)), fun w => ⟨fun w2 => bX12_isMore_120 ⟨fun w3 => bX12_isMore_145 (bX12_isMore_146 ?_), fun w3 => bX12_isMore_146 ?_⟩, fun w2 => end0 (Or.inr (lcmp0.mp (Classical.not_not.mp w2)))⟩⟩
        · rw [lcmp0] at w w2
          refine ih q (p % q) s (r % s) 0 _ _ (by omega) (by omega) (by omega) (by omega) (by omega) (Or.inl rfl) (Iff.trans ?_ hM)
          have et : t = 1 := by omega
          unfold Mo
          rw [et, Int.mul_comm s, Int.mul_comm q]
          constructor
          · rintro (q1 | q1)
            · exact Or.inr ⟨rfl, by omega⟩
            · omega
          · rintro (q1 | q1)
            · omega
            · exact Or.inl ⟨rfl, by omega⟩
        · rw [lcmp0] at w w2
          refine ih q (p % q) s (r % s) 1 _ _ (by omega) (by omega) (by omega) (by omega) (by omega) (Or.inr rfl) (Iff.trans ?_ hM)
          have et : t = 0 := Classical.not_not.mp w3
          unfold Mo
          rw [et, Int.mul_comm s, Int.mul_comm q]
          constructor
          · rintro (q1 | q1)
            · omega
            · exact Or.inl ⟨rfl, by omega⟩
          · rintro (q1 | q1)
            · exact Or.inr ⟨rfl, by omega⟩
            · omega
      · rw [lcmp0] at z
        rw [lcmp_le] at z2
        have := fl_lt (p := r) (q := s) (r := p) (s := q) hs hq (by omega)
        rintro (q1 | q1) <;> omega
      · rw [lcmp0] at z
        rw [lcmp_le] at z2
        have := fl_lt (p := r) (q := s) (r := p) (s := q) hs hq (by omega)
        exact Or.inr ⟨by omega, by omega⟩
      · rw [lcmp_le] at z2
        have := fl_lt (p := p) (q := q) (r := r) (s := s) hq hs (by omega)
        rintro (q1 | q1) <;> omega
      · rw [lcmp_le] at z2
        have := fl_lt (p := p) (q := q) (r := r) (s := s) hq hs (by omega)
        exact Or.inl ⟨by omega, by omega⟩
  refine key b.toNat a b c e 0 _ _ (by omega) ha hb hc he (Or.inl rfl) ?_
  unfold Mo
  constructor
  · rintro (q1 | q1)
    · exact q1.2
    · omega
  · intro q1; exact Or.inl ⟨rfl, q1⟩
theorem Rel.pos {p u l : Int} (r : Rel p u l) : 0 < u ↔ 0 < p := by
  obtain ⟨k, k1, e1, _, _⟩ := r.nat
  have := r.u0
  rw [e1]
  constructor
  · intro z; exact Int.mul_pos z (by omega)
  · intro z
    apply Classical.byContradiction
    intro w
    have : u = 0 := by omega
    rw [this, Int.zero_mul] at z
    omega
theorem Rel.more {p u l p' u' l' : Int} (r : Rel p u l) (r' : Rel p' u' l') : u' * l < u * l' ↔ p' < p := by
  have h1 := r.eq
  have h2 := r'.eq
  have a := r.l1
  have b := r'.l1
  have e1 : u' * l * WH = p' * (l' * l) := by rw [Int.mul_right_comm, h2, Int.mul_assoc]
  have e2 : u * l' * WH = p * (l' * l) := by rw [Int.mul_right_comm, h1, Int.mul_assoc, Int.mul_comm l l']
  have pos : 0 < l' * l := Int.mul_pos (by omega) (by omega)
  have W0 : 0 < WH := by decide
  constructor
  · intro z
    have := Int.mul_lt_mul_of_pos_right z W0
    rw [e1, e2] at this
    exact Int.lt_of_mul_lt_mul_right this (by omega)
  · intro z
    have := Int.mul_lt_mul_of_pos_right z pos
    rw [← e1, ← e2] at this
    exact Int.lt_of_mul_lt_mul_right this (by omega)
/-- the first with the most -/
def Fst (p : Nat → Int) (i : Nat) (b : Int) : Prop := (b = -1 ∧ ∀ c, c < i → p c ≤ 0) ∨ ∃ c0, c0 < i ∧ b = (c0 : Int) ∧ 0 < p c0 ∧ (∀ c, c < c0 → p c < p c0) ∧ ∀ c, c < i → p c ≤ p c0
theorem Fst_uniq {p p' : Nat → Int} {i : Nat} {b b' : Int} (hp : ∀ c, c < i → p c = p' c) (h : Fst p i b) (h' : Fst p' i b') : b = b' := by
  rcases h with ⟨h1, h2⟩ | ⟨t, t1, t2, t3, t4, t5⟩ <;> rcases h' with ⟨k1, k2⟩ | ⟨s, s1, s2, s3, s4, s5⟩
  · omega
  · have := h2 s s1; have := hp s s1; omega
  · have := k2 t t1; have := hp t t1; omega
  · have a := t5 s s1
    have b := s5 t t1
    have c := hp s s1
    have e := hp t t1
    by_cases w : t < s
    · have := s4 t w; omega
    · by_cases w2 : s < t
      · have := t4 s w2; omega
      · omega
theorem Fst_new {p : Nat → Int} {i : Nat} {b : Int} (h : Fst p i b) (h0 : 0 < p i) (h1 : ¬ b = -1 → p b.toNat < p i) : Fst p (i + 1) (i : Int) := by
  have lt : ∀ c, c < i → p c < p i := by
    intro c hc
    rcases h with ⟨k1, k2⟩ | ⟨s, s1, s2, s3, s4, s5⟩
    · have := k2 c hc; omega
    · have := h1 (by omega)
      rw [s2, Int.toNat_natCast] at this
      have := s5 c hc; omega
  refine Or.inr ⟨i, by omega, rfl, h0, lt, fun c hc => ?_⟩
  by_cases e : c = i
  · rw [e]; exact Int.le_refl _
  · have := lt c (by omega); omega
theorem Fst_old {p : Nat → Int} {i : Nat} {b : Int} (h : Fst p i b) (h1 : p i ≤ 0 ∨ (¬ b = -1 ∧ p i ≤ p b.toNat)) : Fst p (i + 1) b := by
  rcases h with ⟨k1, k2⟩ | ⟨s, s1, s2, s3, s4, s5⟩
  · refine Or.inl ⟨k1, fun c hc => ?_⟩
    by_cases e : c = i
    · rw [e]; rcases h1 with z | z
      · exact z
      · exact absurd k1 z.1
    · exact k2 c (by omega)
  · refine Or.inr ⟨s, by omega, s2, s3, s4, fun c hc => ?_⟩
    by_cases e : c = i
    · rw [e]; rcases h1 with z | z
      · omega
      · rw [s2, Int.toNat_natCast] at z; exact z.2
    · exact s5 c (by omega)
theorem kX7_richest {n : Nat} (hn : n ≤ 25) (H : ∀ b, Fst (h 54) n b → K (0, b) h) : am_C true L xs P (d + 1) 78 [(2, 53), (0, (n : Int))] h K := by
  refine eX7_richest (bX7_richest_0 ?_)
  refine upto (σ := Int × Int) (N := n) (I := fun i s => Fst (h 54) i s.1 ∧ ((s.1 = -1 ∧ s.2 = 0) ∨ (0 ≤ s.1 ∧ s.2 = h 54 s.1.toNat ∧ 0 < s.2))) (G := fun i s => tX7_richest (h 0 0 + (0 : Nat)) L xs (am_C true L xs P d) K 7 [(2, 53), (0, (n : Int)), (0, s.1), (1, s.2), (9, 0), (0, (i : Int))] [] h) ?_ ?_ n 0 (-1, 0) (by omega) ⟨Or.inl ⟨rfl, fun c hc => by omega⟩, Or.inl ⟨rfl, rfl⟩⟩
  · intro i ⟨b, m⟩ hi ⟨e1, e2⟩ ih
    dsimp only at e1 e2 ⊢
    refine bX7_richest_7 ⟨fun z => by omega, fun _ => ⟨by omega, ?_⟩⟩
    rw [Int.toNat_natCast, lcmp_le]
    refine ⟨fun z => bX7_richest_36 ⟨by omega, ih (b, m) ⟨Fst_old e1 ?_, e2⟩⟩, fun z => ⟨by omega, bX7_richest_36 ⟨by omega, ih ((i : Int), h 54 i) ⟨Fst_new e1 (by omega) (fun w => by omega), Or.inr ⟨by dsimp only; omega, by dsimp only; rw [Int.toNat_natCast], by dsimp only; omega⟩⟩⟩⟩⟩
    rcases e2 with w | w
    · left; omega
    · right; exact ⟨by omega, by rw [← w.2.1]; exact z⟩
  · intro ⟨b, m⟩ ⟨e1, e2⟩
    exact bX7_richest_7 ⟨fun _ => bX7_richest_42 (H b e1), fun z => by omega⟩
end
