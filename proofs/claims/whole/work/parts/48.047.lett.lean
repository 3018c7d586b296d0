/-! lett: words, codes, bars -/
def sgn (h : am_H) (j : Nat) : Int := am_and (h 3 j) 255
theorem sgn_eq {h : am_H} {p : Nat} : am_sg h (p : Int) = sgn h p := by unfold am_sg sgn; rw [Int.toNat_natCast]
theorem sgn_bnd (h : am_H) (j : Nat) : 0 ≤ sgn h j ∧ sgn h j ≤ 255 := by
  have := bt_lt (n := 8) (am_inI_and (h 3 j) 255) (by decide) (fun k hk _ => by rw [bt_and, bt_out (x := 255) (n := 8) (by decide) (by decide) hk]; simp)
  have e : (2 : Int) ^ 8 = 256 := by decide
  rw [e] at this
  unfold sgn
  omega
noncomputable def run (ok : Nat → Prop) : Nat → Nat → Nat
  | 0, p => p
  | f + 1, p => by classical exact (if ok p then run ok f (p + 1) else p)
theorem run_step {ok : Nat → Prop} {f p : Nat} (h : ok p) : run ok (f + 1) p = run ok f (p + 1) := by simp only [run]; rw [if_pos h]
theorem run_stop {ok : Nat → Prop} {f p : Nat} (h : ¬ ok p) : run ok (f + 1) p = p := by simp only [run]; rw [if_neg h]
theorem run_bnd {ok : Nat → Prop} : ∀ (f p : Nat), p ≤ run ok f p ∧ run ok f p ≤ p + f := by
  intro f
  induction f with
  | zero => intro p; simp [run]
  | succ f ih =>
    intro p
    by_cases h : ok p
    · rw [run_step h]; have := ih (p + 1); omega
    · rw [run_stop h]; omega
noncomputable def en (s : Nat → Int) (n p : Nat) : Nat := run (fun j => ¬ s j = 32) (n - p) p
theorem en_bnd {s : Nat → Int} {n p : Nat} (hp : p ≤ n) : p ≤ en s n p ∧ en s n p ≤ n := by
  have := run_bnd (ok := fun j => ¬ s j = 32) (n - p) p
  unfold en
  omega
theorem en_all {s : Nat → Int} {n p : Nat} (hp : p ≤ n) : ∀ j, p ≤ j → j < en s n p → ¬ s j = 32 := by
  have key : ∀ (f q : Nat), ∀ j, q ≤ j → j < run (fun j => ¬ s j = 32) f q → ¬ s j = 32 := by
    intro f
    induction f with
    | zero => intro q j h1 h2; simp [run] at h2; omega
    | succ f ih =>
      intro q j h1 h2
      by_cases h : ¬ s q = 32
      · rw [run_step (ok := fun j => ¬ s j = 32) h] at h2
        by_cases e : j = q
        · rw [e]; exact h
        · exact ih (q + 1) j (by omega) h2
      · rw [run_stop (ok := fun j => ¬ s j = 32) h] at h2; omega
  exact key (n - p) p
theorem wc_bnd {f : Nat → Int} : ∀ {n : Nat}, (∀ i, i < n → 97 ≤ f i ∧ f i ≤ 122) → 0 ≤ wc f n ∧ wc f n < 32 ^ n ∧ (1 ≤ n → 1 ≤ wc f n) := by
  intro n
  induction n with
  | zero => intro _; simp [wc]
  | succ n ih =>
    intro h
    have a := ih (fun i hi => h i (by omega))
    have b := h n (by omega)
    simp only [wc]
    rw [Int.pow_succ]
    refine ⟨by omega, by omega, fun _ => by omega⟩
theorem wc_inj {f g : Nat → Int} : ∀ {n m : Nat}, (∀ i, i < n → 97 ≤ f i ∧ f i ≤ 122) → (∀ i, i < m → 97 ≤ g i ∧ g i ≤ 122) → wc f n = wc g m → n = m ∧ ∀ i, i < n → f i = g i := by
  intro n
  induction n with
  | zero =>
    intro m _ hg h
    rcases Nat.eq_zero_or_pos m with z | z
    · subst z; exact ⟨rfl, fun i hi => by omega⟩
    · have := (wc_bnd hg).2.2 z
      simp only [wc] at h
      omega
  | succ n ih =>
    intro m hf hg h
    rcases Nat.eq_zero_or_pos m with z | z
    · subst z
      have := (wc_bnd hf).2.2 (by omega)
      simp only [wc] at h this
      omega
    · obtain ⟨m', rfl⟩ : ∃ m', m = m' + 1 := ⟨m - 1, by omega⟩
      have a := hf n (by omega)
      have b := hg m' (by omega)
      simp only [wc] at h
      have e1 : f n = g m' := by omega
      have e2 := ih (fun i hi => hf i (by omega)) (fun i hi => hg i (by omega)) (show wc f n = wc g m' by omega)
      refine ⟨by omega, fun i hi => ?_⟩
      by_cases e : i = n
      · rw [e, e1, e2.1]
      · exact e2.2 i (by omega)
theorem wc_congr {f g : Nat → Int} : ∀ {n : Nat}, (∀ i, i < n → f i = g i) → wc f n = wc g n := by
  intro n
  induction n with
  | zero => intro _; rfl
  | succ n ih => intro h; simp only [wc]; rw [ih (fun i hi => h i (by omega)), h n (by omega)]
def Sm (s : Nat → Int) (j : Nat) : Prop := 97 ≤ s j ∧ s j ≤ 122
noncomputable def wcd (s : Nat → Int) (a e : Nat) : Int := by classical exact (if e - a ≤ 8 ∧ ∀ j, a ≤ j → j < e → Sm s j then wc (fun i => s (a + i)) (e - a) else 0)
/-- the word from a to e is one of the bars -/
def Bd (h : am_H) (s : Nat → Int) (nq a e : Nat) : Prop := ∃ k, k < nq ∧ h 75 k = ((e - a : Nat) : Int) ∧ ∀ i, i < e - a → h 76 (8 * k + i) = s (a + i)
theorem Bd_code {h : am_H} {s : Nat → Int} {c nq a e : Nat} (b : ∀ k, k < nq → BL h c 0 0 k) (hae : a ≤ e) : (∃ k, k < nq ∧ h (c + 5) k = wcd s a e) ↔ Bd h s nq a e := by
  constructor
  · rintro ⟨k, k1, k2⟩
    obtain ⟨sz, le, co⟩ := b k k1
    simp only [Nat.zero_add] at sz le co
    have wb := wc_bnd (f := fun i => h 76 (8 * k + i)) (n := (h 75 k).toNat) (fun i hi => le i (by omega))
    have := wb.2.2 (by omega)
    unfold wcd at k2
    split at k2
    · rename_i hc
      rw [co] at k2
      have := wc_inj (fun i hi => le i (by omega)) (fun i hi => hc.2 (a + i) (by omega) (by omega)) k2
      refine ⟨k, k1, by omega, fun i hi => this.2 i (by omega)⟩
    · omega
  · rintro ⟨k, k1, k2, k3⟩
    obtain ⟨sz, le, co⟩ := b k k1
    simp only [Nat.zero_add] at sz le co
    refine ⟨k, k1, ?_⟩
    unfold wcd
    have all : ∀ j, a ≤ j → j < e → Sm s j := by
      intro j h1 h2
      have q := k3 (j - a) (by omega)
      have l := le (j - a) (by omega)
      rw [show a + (j - a) = j by omega] at q
      unfold Sm
      rw [← q]; exact l
    rw [if_pos ⟨by omega, all⟩, co, k2, Int.toNat_natCast]
    exact wc_congr k3
section
variable {L : Nat} {xs : Nat → Int} {P : Nat → List am_V → am_H → am_K → Prop} {d : Nat} {h : am_H} {K : am_K}
theorem kX8_wordCode {a e : Nat} (hae : a ≤ e) (he : e ≤ 400) (H : K (1, wcd (sgn h) a e) h) : am_C true L xs P (d + 3) 87 [(2, 2), (0, (a : Int)), (0, (e : Int))] h K := by
  refine eX8_wordCode (bX8_wordCode_0 ⟨⟨by omega, by omega⟩, fun z => bX8_wordCode_10 ?_, fun z => ?_⟩)
  · refine upto (σ := Int) (N := e - a) (I := fun i y => y = wc (fun i => sgn h (a + i)) i ∧ ∀ j, a ≤ j → j < a + i → Sm (sgn h) j) (G := fun i y => tX8_wordCode (h 0 0 + (0 : Nat)) L xs (am_C true L xs P (d + 2)) K 15 [(2, 2), (0, (a : Int)), (0, (e : Int)), (1, y), (9, 0), (0, ((a + i : Nat) : Int))] [] h) ?_ ?_ (e - a) 0 0 (by omega) ⟨rfl, fun j h1 h2 => by omega⟩
    · intro i y hi ⟨e1, e2⟩ ih
      have wb := wc_bnd (f := fun i => sgn h (a + i)) (n := i) (fun k hk => e2 (a + k) (by omega) (by omega))
      have p8 : (32 : Int) ^ i ≤ 32 ^ 8 := by
        have : ∀ j : Fin 9, (32 : Int) ^ j.val ≤ 32 ^ 8 := by decide
        exact this ⟨i, by omega⟩
      have p8v : (32 : Int) ^ 8 = 1099511627776 := by decide
      refine bX8_wordCode_15 ⟨fun z => by omega, fun _ => kX8_isSmallLetter (d := d) (by omega) (fun gs => ?_) (fun gs => ?_)⟩
      · rw [sgn_eq] at gs
        refine ⟨fun q => absurd rfl q, fun _ => ?_⟩
        have : wcd (sgn h) a e = 0 := by
          unfold wcd
          rw [if_neg (fun q => gs (q.2 (a + i) (by omega) (by omega)))]
        rw [this] at H; exact H
      · rw [sgn_eq] at gs
        have p5 : (2 : Int) ^ Int.toNat 5 = 32 := by decide
        refine ⟨fun _ => bX8_wordCode_32 ?_, fun q => absurd (by decide) q⟩
        rw [p5]
        refine ⟨⟨by omega, by decide, by decide, ⟨by omega, by omega⟩⟩, kX8_sign (d := d + 1) (by omega) ?_⟩
        rw [sgn_eq]
        dsimp only
        refine ⟨⟨by omega, by omega⟩, ⟨by omega, by omega⟩, ⟨by omega, by omega⟩, ⟨by omega, by omega⟩, ?_⟩
        have := ih (y * 32 + sgn h (a + i) - 97 + 1) ⟨by simp only [wc]; omega, fun j h1 h2 => ?_⟩
        · rw [show ((a + (i + 1) : Nat) : Int) = ((a + i : Nat) : Int) + 1 by omega] at this
          exact this
        · by_cases ej : j = a + i
          · rw [ej]; exact gs
          · exact e2 j h1 (by omega)
    · intro y ⟨e1, e2⟩
      refine bX8_wordCode_15 ⟨fun _ => bX8_wordCode_56 ?_, fun z => by omega⟩
      have : wcd (sgn h) a e = y := by
        unfold wcd
        rw [if_pos ⟨by omega, fun j h1 h2 => e2 j h1 (by omega)⟩, e1]
      rw [this] at H; exact H
  · have : wcd (sgn h) a e = 0 := by
      unfold wcd
      rw [if_neg (fun q => by omega)]
    rw [this] at H; exact H
theorem kX0_bars {c nq : Nat} {y : Int} (hc : c = 5 ∨ c = 11) (hn : h c 6 = nq) (hn8 : nq ≤ 8) (H0 : (¬ ∃ k, k < nq ∧ h (c + 5) k = y) → K (0, 0) h) (H1 : (∃ k, k < nq ∧ h (c + 5) k = y) → K (0, 1) h) : am_C true L xs P (d + 1) 5 [(2, (c : Int)), (1, y)] h K := by
  rcases hc with e | e <;> subst e
  · have hn : h 5 6 = nq := hn
    refine eX0_bars_0 (bX0_bars_0_0 ?_)
    refine upto (σ := Unit) (N := nq) (I := fun i _ => ∀ k, k < i → ¬ h 10 k = y) (G := fun i _ => tX0_bars (h 0 0 + (0 : Nat)) L xs (am_C true L xs P d) K 2 [(2, 5), (1, y), (9, 0), (0, (i : Int))] [] h) ?_ ?_ nq 0 () (by omega) (fun k hk => by omega)
    · intro i _ hi e1 ih
      refine bX0_bars_2_0 ⟨fun z => by omega, fun _ => ⟨by omega, ?_⟩⟩
      rw [Int.toNat_natCast, lcmp0]
      refine ⟨fun z => bX0_bars_23_0 ⟨by omega, ih () (fun k hk => ?_)⟩, fun z => ⟨by decide, H1 ⟨i, hi, Classical.not_not.mp z⟩⟩⟩
      by_cases ek : k = i
      · rw [ek]; exact z
      · exact e1 k (by omega)
    · intro _ e1
      exact bX0_bars_2_0 ⟨fun _ => bX0_bars_29_0 ⟨by decide, H0 (fun ⟨k, k1, k2⟩ => e1 k k1 k2)⟩, fun z => by omega⟩
  · have hn : h 11 6 = nq := hn
    refine eX0_bars_1 (bX0_bars_0_1 ?_)
    refine upto (σ := Unit) (N := nq) (I := fun i _ => ∀ k, k < i → ¬ h 16 k = y) (G := fun i _ => tX0_bars (h 0 0 + (0 : Nat)) L xs (am_C true L xs P d) K 2 [(2, 11), (1, y), (9, 0), (0, (i : Int))] [] h) ?_ ?_ nq 0 () (by omega) (fun k hk => by omega)
    · intro i _ hi e1 ih
      refine bX0_bars_2_1 ⟨fun z => by omega, fun _ => ⟨by omega, ?_⟩⟩
      rw [Int.toNat_natCast, lcmp0]
      refine ⟨fun z => bX0_bars_23_1 ⟨by omega, ih () (fun k hk => ?_)⟩, fun z => ⟨by decide, H1 ⟨i, hi, Classical.not_not.mp z⟩⟩⟩
      by_cases ek : k = i
      · rw [ek]; exact z
      · exact e1 k (by omega)
    · intro _ e1
      exact bX0_bars_2_1 ⟨fun _ => bX0_bars_29_1 ⟨by decide, H0 (fun ⟨k, k1, k2⟩ => e1 k k1 k2)⟩, fun z => by omega⟩
theorem kX3_wordEnd {p n : Nat} (hp : p ≤ n) (hn : n ≤ 400) (H : K (0, (en (sgn h) n p : Nat)) h) : am_C true L xs P (d + 2) 38 [(2, 17), (0, (p : Int)), (0, (n : Int))] h K := by
  refine eX3_wordEnd (bX3_wordEnd_0 ?_)
  refine upto (σ := Unit) (N := n - p) (I := fun i _ => en (sgn h) n p = run (fun j => ¬ sgn h j = 32) (n - (p + i)) (p + i)) (G := fun i _ => tX3_wordEnd (h 0 0 + (0 : Nat)) L xs (am_C true L xs P (d + 1)) K 2 [(2, 17), (0, (p : Int)), (0, (n : Int)), (0, ((p + i : Nat) : Int))] [] h) ?_ ?_ (n - p) 0 () (by omega) rfl
  · intro i _ hi e1 ih
    rw [show n - (p + i) = (n - (p + (i + 1))) + 1 by omega] at e1
    refine bX3_wordEnd_2 ⟨fun z => by omega, fun _ => kX8_sign (d := d) (by omega) ?_⟩
    rw [sgn_eq]
    dsimp only
    refine ⟨fun z => bX3_wordEnd_26 ?_, fun z => ⟨by omega, ?_⟩⟩
    · rw [run_stop (ok := fun j => ¬ sgn h j = 32) (fun q => q z)] at e1
      rw [e1] at H; exact H
    · rw [run_step (ok := fun j => ¬ sgn h j = 32) z] at e1
      have := ih () (by rw [e1]; rfl)
      rw [show ((p + (i + 1) : Nat) : Int) = ((p + i : Nat) : Int) + 1 by omega] at this
      exact this
  · intro _ e1
    refine bX3_wordEnd_2 ⟨fun _ => bX3_wordEnd_26 ?_, fun z => by omega⟩
    rw [show n - (p + (n - p)) = 0 by omega] at e1
    simp only [run] at e1
    rw [e1] at H; exact H
theorem kX12_wordEnd {p n : Nat} (hp : p ≤ n) (hn : n ≤ 400) (H : K (0, (en (h 60) n p : Nat)) h) : am_C true L xs P (d + 1) 163 [(2, 59), (0, (p : Int)), (0, (n : Int))] h K := by
  refine eX12_wordEnd (bX12_wordEnd_0 ?_)
  refine upto (σ := Unit) (N := n - p) (I := fun i _ => en (h 60) n p = run (fun j => ¬ h 60 j = 32) (n - (p + i)) (p + i)) (G := fun i _ => tX12_wordEnd (h 0 0 + (0 : Nat)) L xs (am_C true L xs P d) K 2 [(2, 59), (0, (p : Int)), (0, (n : Int)), (0, ((p + i : Nat) : Int))] [] h) ?_ ?_ (n - p) 0 () (by omega) rfl
  · intro i _ hi e1 ih
    rw [show n - (p + i) = (n - (p + (i + 1))) + 1 by omega] at e1
    refine bX12_wordEnd_2 ⟨fun z => by omega, fun _ => ⟨by omega, ?_⟩⟩
    rw [Int.toNat_natCast]
    refine ⟨fun z => bX12_wordEnd_24 ?_, fun z => ⟨by omega, ?_⟩⟩
    · rw [run_stop (ok := fun j => ¬ h 60 j = 32) (fun q => q z)] at e1
      rw [e1] at H; exact H
    · rw [run_step (ok := fun j => ¬ h 60 j = 32) z] at e1
      have := ih () (by rw [e1]; rfl)
      rw [show ((p + (i + 1) : Nat) : Int) = ((p + i : Nat) : Int) + 1 by omega] at this
      exact this
  · intro _ e1
    refine bX12_wordEnd_2 ⟨fun _ => bX12_wordEnd_24 ?_, fun z => by omega⟩
    rw [show n - (p + (n - p)) = 0 by omega] at e1
    simp only [run] at e1
    rw [e1] at H; exact H
theorem kX3_isStop {p : Nat} (hp : p < 400) (H0 : ¬ (sgn h p = 44 ∨ sgn h p = 46) → K (0, 0) h) (H1 : (sgn h p = 44 ∨ sgn h p = 46) → K (0, 1) h) : am_C true L xs P (d + 2) 37 [(2, 17), (0, (p : Int))] h K := by
  refine eX3_isStop (bX3_isStop_0 (kX8_sign (d := d) (by omega) ?_))
  rw [sgn_eq]
  dsimp only
  refine ⟨fun z => bX3_isStop_26 (bX3_isStop_31 ⟨by decide, H1 (Or.inl z)⟩), fun z => kX8_sign (d := d) (by omega) ?_⟩
  rw [sgn_eq]
  dsimp only
  exact ⟨fun z2 => bX3_isStop_30 (bX3_isStop_31 ⟨by decide, H0 (fun q => by omega)⟩), fun z2 => bX3_isStop_26 (bX3_isStop_31 ⟨by decide, H1 (Or.inr (Classical.not_not.mp z2))⟩)⟩
end
