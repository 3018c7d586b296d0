/-! yard: plans -/
theorem bit_nat {S i : Nat} (hi : i < 32) : (S : Int) / 2 ^ i % 2 = 1 ↔ S.testBit i = true := by rw [← bt_iff _ hi, bt_nat hi]
theorem y_st_sm {g : Nat → Int} {S : Nat} : ∀ (n i : Nat) (acc : Int), i + n ≤ 31 → y_st g (S : Int) n i acc = acc + sm (fun j => sif (S.testBit (i + j) = true) (g (i + j))) n := by
  intro n
  induction n with
  | zero => intro i acc _; simp [y_st, sm]
  | succ n ih =>
    intro i acc hi
    simp only [y_st]
    rw [ih (i + 1) _ (by omega)]
    have e : sm (fun j => sif (S.testBit (i + j) = true) (g (i + j))) (n + 1) = sif (S.testBit i = true) (g i) + sm (fun j => sif (S.testBit (i + 1 + j) = true) (g (i + 1 + j))) n := by
      have := sm_split (fun j => sif (S.testBit (i + j) = true) (g (i + j))) 1 n
      rw [Nat.add_comm 1 n] at this
      rw [this]
      simp only [sm, Nat.add_zero, Int.zero_add]
      congr 1
      exact sm_congr (fun j _ => by rw [Nat.add_assoc])
    rw [e]
    by_cases hb : S.testBit i = true
    · rw [if_pos ((bit_nat (by omega)).mpr hb), sif_pos hb]; omega
    · rw [if_neg (fun z => hb ((bit_nat (by omega)).mp z)), sif_neg hb]; omega
def ST (g : Nat → Int) (F S : Nat) : Int := y_st g (S : Int) F 0 0
theorem ST_sm {g : Nat → Int} {F S : Nat} (hF : F ≤ 31) : ST g F S = sm (fun j => sif (S.testBit j = true) (g j)) F := by
  unfold ST
  rw [y_st_sm F 0 0 (by omega), Int.zero_add]
  exact sm_congr (fun j _ => by rw [Nat.zero_add])
theorem ST_add {g : Nat → Int} {F S f : Nat} (hF : F ≤ 31) (hf : f < F) (hb : ¬ S.testBit f = true) : ST g F (S + 2 ^ f) = ST g F S + g f := by
  rw [ST_sm hF, ST_sm hF, sm_one (a := f) hf, sm_one (F := fun j => sif (S.testBit j = true) (g j)) (a := f) hf]
  rw [sif_neg hb, sif_pos (by rw [tb_add hb]; simp)]
  have : sm (fun i => if i = f then 0 else sif ((S + 2 ^ f).testBit i = true) (g i)) F = sm (fun i => if i = f then 0 else sif (S.testBit i = true) (g i)) F := by
    refine sm_congr (fun i _ => ?_)
    by_cases e : i = f
    · rw [if_pos e, if_pos e]
    · rw [if_neg e, if_neg e, tb_add hb]
      exact sif_congr (by simp [e]) (fun _ => rfl)
  rw [this]; omega
theorem ST_bnd {g : Nat → Int} {F S : Nat} (hF : F ≤ 8) (hg : ∀ j, j < 8 → 0 ≤ g j ∧ g j ≤ 999) : 0 ≤ ST g F S ∧ ST g F S ≤ 7992 := by
  have := y_st_in (s := (S : Int)) hg F 0 0 (by omega) (by omega)
  unfold ST
  omega
theorem ST_0 {g : Nat → Int} {F : Nat} (hF : F ≤ 31) : ST g F 0 = 0 := by
  rw [ST_sm hF]
  exact sm_sif0 (fun i _ => by simp)
theorem ST_congr {g g' : Nat → Int} {F S : Nat} (hF : F ≤ 31) (h : ∀ j, j < F → g j = g' j) : ST g F S = ST g' F S := by
  rw [ST_sm hF, ST_sm hF]
  exact sm_congr (fun j hj => by rw [h j hj])
/-- the yard's numbers -/
abbrev Yd : Type := (Nat → Int) × (Nat → Int) × Int × Nat
abbrev Yd.g (y : Yd) : Nat → Int := y.1
abbrev Yd.k (y : Yd) : Nat → Int := y.2.1
abbrev Yd.p (y : Yd) : Int := y.2.2.1
abbrev Yd.F (y : Yd) : Nat := y.2.2.2
def Yd.ok (y : Yd) : Prop := (y.F ≤ 8) ∧ (1 ≤ y.p ∧ y.p ≤ 999) ∧ (∀ j, j < 8 → 0 ≤ y.g j ∧ y.g j ≤ 999) ∧ (∀ j, j < 168 → 0 ≤ y.k j ∧ y.k j ≤ 99) ∧ (∀ j : Nat, j < y.F → 1 ≤ y.g j)
theorem Yd.ok.F8 {y : Yd} (s_ : Yd.ok y) : y.F ≤ 8 := s_.1
theorem Yd.ok.p1 {y : Yd} (s_ : Yd.ok y) : 1 ≤ y.p ∧ y.p ≤ 999 := s_.2.1
theorem Yd.ok.g8 {y : Yd} (s_ : Yd.ok y) : ∀ j, j < 8 → 0 ≤ y.g j ∧ y.g j ≤ 999 := s_.2.2.1
theorem Yd.ok.k8 {y : Yd} (s_ : Yd.ok y) : ∀ j, j < 168 → 0 ≤ y.k j ∧ y.k j ≤ 99 := s_.2.2.2.1
theorem Yd.ok.g1 {y : Yd} (s_ : Yd.ok y) : ∀ j : Nat, j < y.F → 1 ≤ y.g j := s_.2.2.2.2
def Yd.see (y : Yd) (S f : Nat) : Int := y_sees y.k (f : Int) ((ST y.g y.F S + y.g f - 1) / y.p)
def Yd.vl (y : Yd) (b : Nat → Int) (S f : Nat) : Int := y.see S f + b (S + 2 ^ f)
def Yd.mx (y : Yd) (b : Nat → Int) (S : Nat) : Nat → Int
  | 0 => 0
  | f + 1 => if S.testBit f = true then y.mx b S f else if y.mx b S f < y.vl b S f then y.vl b S f else y.mx b S f
def Yd.row (y : Yd) (b : Nat → Int) (S : Nat) : Prop := b S = y.mx b S y.F ∧ 0 ≤ b S ∧ b S ≤ 2079 * ((2 ^ y.F : Nat) - 1 - (S : Int))
def Yd.tab (y : Yd) (b : Nat → Int) : Prop := ∀ S, S < 2 ^ y.F → y.row b S
theorem Yd.see_bnd {y : Yd} (o : y.ok) {S f : Nat} (hf : f < y.F) : 0 ≤ y.see S f ∧ y.see S f ≤ 2079 := by
  have F8 := o.F8
  have s := ST_bnd (S := S) o.F8 o.g8
  have g1 := o.g1 f hf
  exact y_sees_in o.k8 (by omega) (Int.ediv_nonneg (by omega) (by have := o.p1; omega))
theorem add_lt {F S f : Nat} (hF : F ≤ 8) (hf : f < F) (hS : S < 2 ^ F) (hb : ¬ S.testBit f = true) : S + 2 ^ f < 2 ^ F := (or_add hS hf (by omega) hb).2
theorem Yd.mx_congr {y : Yd} (o : y.ok) {b b' : Nat → Int} {S : Nat} (hS : S < 2 ^ y.F) (h : ∀ T, S < T → T < 2 ^ y.F → b T = b' T) : ∀ i, i ≤ y.F → y.mx b S i = y.mx b' S i := by
  intro i
  induction i with
  | zero => intro _; rfl
  | succ i ih =>
    intro hi
    simp only [Yd.mx]
    rw [ih (by omega)]
    by_cases hb : S.testBit i = true
    · rw [if_pos hb, if_pos hb]
    · have := add_lt o.F8 (show i < y.F by omega) hS hb
      have p := Nat.two_pow_pos i
      unfold Yd.vl
      rw [h (S + 2 ^ i) (by omega) this]
theorem Yd.vl_bnd {y : Yd} (o : y.ok) {b : Nat → Int} {S f : Nat} (hf : f < y.F) (hS : S < 2 ^ y.F) (hb : ¬ S.testBit f = true) (h : ∀ T, S < T → T < 2 ^ y.F → y.row b T) : 0 ≤ y.vl b S f ∧ y.vl b S f ≤ 2079 * ((2 ^ y.F : Nat) - 1 - (S : Int)) := by
  have a := y.see_bnd o (S := S) hf
  have lt := add_lt o.F8 hf hS hb
  have p := Nat.two_pow_pos f
  have r := (h (S + 2 ^ f) (by omega) lt).2
  unfold Yd.vl
  rw [Int.natCast_add] at r
  omega
theorem Yd.mx_bnd {y : Yd} (o : y.ok) {b : Nat → Int} {S : Nat} (hS : S < 2 ^ y.F) (h : ∀ T, S < T → T < 2 ^ y.F → y.row b T) : ∀ i, i ≤ y.F → 0 ≤ y.mx b S i ∧ y.mx b S i ≤ 2079 * ((2 ^ y.F : Nat) - 1 - (S : Int)) := by
  intro i
  induction i with
  | zero =>
    intro _
    simp only [Yd.mx]
    omega
  | succ i ih =>
    intro hi
    have := ih (by omega)
    simp only [Yd.mx]
    split
    · exact this
    · rename_i hb
      have v := y.vl_bnd o (show i < y.F by omega) hS hb h
      split <;> omega
theorem Yd.row_congr {y : Yd} (o : y.ok) {b b' : Nat → Int} {S : Nat} (hS : S < 2 ^ y.F) (h : ∀ T, S ≤ T → T < 2 ^ y.F → b' T = b T) (r : y.row b S) : y.row b' S := by
  unfold Yd.row at r ⊢
  rw [h S (Nat.le_refl _) hS, y.mx_congr o hS (fun T h1 h2 => h T (by omega) h2) y.F (Nat.le_refl _)]
  exact r
theorem Yd.tab_uniq {y : Yd} (o : y.ok) {b b' : Nat → Int} (h : y.tab b) (h' : y.tab b') : ∀ S, S < 2 ^ y.F → b S = b' S := by
  have key : ∀ n S, 2 ^ y.F ≤ S + n → S < 2 ^ y.F → b S = b' S := by
    intro n
    induction n with
    | zero => intro S h1 h2; omega
    | succ n ih =>
      intro S h1 h2
      rw [(h S h2).1, (h' S h2).1]
      exact y.mx_congr o h2 (fun T a1 a2 => ih T (by omega) a2) y.F (Nat.le_refl _)
  intro S hS
  exact key (2 ^ y.F) S (by omega) hS
/-- the first field that leads on to the best -/
def Yd.fb (y : Yd) (b : Nat → Int) (S f : Nat) : Prop := f < y.F ∧ ¬ S.testBit f = true ∧ y.vl b S f = b S ∧ ∀ f', f' < f → S.testBit f' = true ∨ ¬ y.vl b S f' = b S
theorem Yd.fb_uniq {y : Yd} {b : Nat → Int} {S f f' : Nat} (h : y.fb b S f) (h' : y.fb b S f') : f = f' := by
  by_cases e : f < f'
  · rcases h'.2.2.2 f e with z | z
    · exact absurd z h.2.1
    · exact absurd h.2.2.1 z
  · by_cases e2 : f' < f
    · rcases h.2.2.2 f' e2 with z | z
      · exact absurd z h'.2.1
      · exact absurd h'.2.2.1 z
    · omega
theorem Yd.mx_at {y : Yd} {b : Nat → Int} {S : Nat} : ∀ i, (y.mx b S i = 0 ∨ ∃ f, f < i ∧ ¬ S.testBit f = true ∧ y.vl b S f = y.mx b S i) ∧ ∀ f, f < i → ¬ S.testBit f = true → y.vl b S f ≤ y.mx b S i := by
  intro i
  induction i with
  | zero => exact ⟨Or.inl rfl, fun f hf => by omega⟩
  | succ i ih =>
    obtain ⟨h1, h2⟩ := ih
    simp only [Yd.mx]
    by_cases hb : S.testBit i = true
    · rw [if_pos hb]
      refine ⟨?_, fun f hf hn => h2 f ?_ hn⟩
      · rcases h1 with z | ⟨f, f1, f2⟩
        · exact Or.inl z
        · exact Or.inr ⟨f, by omega, f2⟩
      · have : ¬ f = i := fun e => hn (e ▸ hb)
        omega
    · rw [if_neg hb]
      by_cases hl : y.mx b S i < y.vl b S i
      · rw [if_pos hl]
        refine ⟨Or.inr ⟨i, by omega, hb, rfl⟩, fun f hf hn => ?_⟩
        by_cases e : f = i
        · rw [e]; exact Int.le_refl _
        · have := h2 f (by omega) hn; omega
      · rw [if_neg hl]
        refine ⟨?_, fun f hf hn => ?_⟩
        · rcases h1 with z | ⟨f, f1, f2⟩
          · exact Or.inl z
          · exact Or.inr ⟨f, by omega, f2⟩
        · by_cases e : f = i
          · rw [e]; omega
          · exact h2 f (by omega) hn
theorem least_ex {p : Nat → Prop} : ∀ n, (∃ i, i < n ∧ p i) → ∃ i, i < n ∧ p i ∧ ∀ j, j < i → ¬ p j := by
  intro n
  induction n with
  | zero => rintro ⟨i, hi, _⟩; omega
  | succ n ih =>
    rintro ⟨i, hi, hp⟩
    by_cases h : ∃ j, j < n ∧ p j
    · obtain ⟨j, j1, j2, j3⟩ := ih h
      exact ⟨j, by omega, j2, j3⟩
    · have : i = n := by
        apply Classical.byContradiction
        intro z
        exact h ⟨i, by omega, hp⟩
      subst this
      exact ⟨i, hi, hp, fun j hj hpj => h ⟨j, hj, hpj⟩⟩
theorem Yd.fb_ex {y : Yd} (o : y.ok) {b : Nat → Int} {S : Nat} (t : y.tab b) (hS : S < 2 ^ y.F) (hn : ∃ f, f < y.F ∧ ¬ S.testBit f = true) : ∃ f, y.fb b S f := by
  have m := y.mx_at (b := b) (S := S) y.F
  have r := t S hS
  have ex : ∃ f, f < y.F ∧ (¬ S.testBit f = true ∧ y.vl b S f = b S) := by
    rcases m.1 with z | ⟨f, f1, f2, f3⟩
    · obtain ⟨f, f1, f2⟩ := hn
      have v := y.vl_bnd o f1 hS f2 (fun T _ h2 => t T h2)
      have l := m.2 f f1 f2
      refine ⟨f, f1, f2, ?_⟩
      have := r.1
      omega
    · exact ⟨f, f1, f2, by rw [f3, r.1]⟩
  obtain ⟨f, f1, f2, f3⟩ := least_ex _ ex
  refine ⟨f, f1, f2.1, f2.2, fun f' hf' => ?_⟩
  have := f3 f' hf'
  by_cases e : S.testBit f' = true
  · exact Or.inl e
  · exact Or.inr (fun z => this ⟨e, z⟩)
/-- the sets on the way -/
def Yd.sq (y : Yd) (b : Nat → Int) : Nat → Nat → Prop
  | 0, S => S = 0
  | i + 1, S => ∃ T f, y.sq b i T ∧ y.fb b T f ∧ S = T + 2 ^ f
theorem Yd.sq_uniq {y : Yd} {b : Nat → Int} : ∀ {i S S' : Nat}, y.sq b i S → y.sq b i S' → S = S' := by
  intro i
  induction i with
  | zero => intro S S' h h'; rw [h, h']
  | succ i ih =>
    rintro S S' ⟨T, f, h1, h2, h3⟩ ⟨T', f', k1, k2, k3⟩
    have e := ih h1 k1
    subst e
    rw [h3, k3, y.fb_uniq h2 k2]
theorem Yd.sq_bnd {y : Yd} (o : y.ok) {b : Nat → Int} : ∀ {i S : Nat}, y.sq b i S → S < 2 ^ y.F ∧ card y.F S = i := by
  intro i
  induction i with
  | zero =>
    intro S h
    rw [h]
    exact ⟨Nat.two_pow_pos _, card_0 _⟩
  | succ i ih =>
    rintro S ⟨T, f, h1, h2, h3⟩
    have := ih h1
    rw [h3]
    exact ⟨add_lt o.F8 h2.1 this.1 h2.2.1, by rw [card_add h2.1 h2.2.1, this.2]⟩
theorem card_free {F S : Nat} (h : card F S < F) : ∃ f, f < F ∧ ¬ S.testBit f = true := by
  apply Classical.byContradiction
  intro hz
  have : card F S = cnt (fun _ => True) F := cnt_congr (fun i hi => ⟨fun _ => trivial, fun _ => Classical.not_not.mp (fun z => hz ⟨i, hi, z⟩)⟩)
  have e : ∀ n, cnt (fun _ => True) n = n := by
    intro n
    induction n with
    | zero => rfl
    | succ n ih => rw [cnt_pos (p := fun _ => True) trivial, ih]
  rw [e] at this
  omega
theorem Yd.fb_congr {y : Yd} {b b' : Nat → Int} {S f : Nat} (o : y.ok) (hS : S < 2 ^ y.F) (h : ∀ T, T < 2 ^ y.F → b T = b' T) (x : y.fb b S f) : y.fb b' S f := by
  obtain ⟨x1, x2, x3, x4⟩ := x
  have v : ∀ f', f' < y.F → ¬ S.testBit f' = true → y.vl b' S f' = y.vl b S f' := by
    intro f' h1 h2
    unfold Yd.vl
    rw [h _ (add_lt o.F8 h1 hS h2)]
  refine ⟨x1, x2, by rw [v f x1 x2, ← h S hS]; exact x3, fun f' hf' => ?_⟩
  rcases x4 f' hf' with z | z
  · exact Or.inl z
  · by_cases e : S.testBit f' = true
    · exact Or.inl e
    · exact Or.inr (by rw [v f' (by omega) e, ← h S hS]; exact z)
theorem Yd.sq_congr {y : Yd} {b b' : Nat → Int} (o : y.ok) (h : ∀ T, T < 2 ^ y.F → b T = b' T) : ∀ {i S : Nat}, y.sq b i S → y.sq b' i S := by
  intro i
  induction i with
  | zero => intro S x; exact x
  | succ i ih =>
    rintro S ⟨T, f, h1, h2, h3⟩
    exact ⟨T, f, ih h1, y.fb_congr o (y.sq_bnd o h1).1 h h2, h3⟩
