/-! how many matchings: by bodies and by men -/
def sm (F : Nat → Int) : Nat → Int
  | 0 => 0
  | n + 1 => sm F n + F n
theorem sm_congr {F G : Nat → Int} : ∀ {n : Nat}, (∀ i, i < n → F i = G i) → sm F n = sm G n := by
  intro n
  induction n with
  | zero => intro _; rfl
  | succ n ih => intro h; simp only [sm]; rw [ih (fun i hi => h i (by omega)), h n (by omega)]
theorem sm_add (F G : Nat → Int) : ∀ n, sm (fun i => F i + G i) n = sm F n + sm G n := by
  intro n
  induction n with
  | zero => rfl
  | succ n ih => simp only [sm]; rw [ih]; omega
theorem sm_0 : ∀ n, sm (fun _ => 0) n = 0 := by
  intro n
  induction n with
  | zero => rfl
  | succ n ih => simp only [sm]; rw [ih]; rfl
theorem sm_swap (F : Nat → Nat → Int) (m : Nat) : ∀ n, sm (fun i => sm (F i) m) n = sm (fun j => sm (fun i => F i j) n) m := by
  intro n
  induction n with
  | zero => simp only [sm]; rw [sm_0]
  | succ n ih =>
    simp only [sm]
    rw [ih, ← sm_add]
theorem sm_one {F : Nat → Int} {a : Nat} : ∀ {n : Nat}, a < n → sm F n = F a + sm (fun i => if i = a then 0 else F i) n := by
  intro n
  induction n with
  | zero => intro h; omega
  | succ n ih =>
    intro h
    simp only [sm]
    by_cases ha : n = a
    · subst ha
      rw [if_pos rfl, sm_congr (G := fun i => if i = n then 0 else F i) (fun i hi => by rw [if_neg (by omega)])]
      omega
    · rw [ih (by omega), if_neg ha]; omega
noncomputable def sif (p : Prop) (x : Int) : Int := by classical exact (if p then x else 0)
theorem sif_pos {p : Prop} {x : Int} (h : p) : sif p x = x := by unfold sif; rw [if_pos h]
theorem sif_neg {p : Prop} {x : Int} (h : ¬ p) : sif p x = 0 := by unfold sif; rw [if_neg h]
theorem sif_congr {p q : Prop} {x y : Int} (h : p ↔ q) (e : p → x = y) : sif p x = sif q y := by
  by_cases hp : p
  · rw [sif_pos hp, sif_pos (h.mp hp), e hp]
  · rw [sif_neg hp, sif_neg (fun z => hp (h.mpr z))]
theorem sm_sif0 {F : Nat → Int} {p : Nat → Prop} {n : Nat} (h : ∀ i, i < n → ¬ p i) : sm (fun i => sif (p i) (F i)) n = 0 := by
  rw [sm_congr (G := fun _ => 0) (fun i hi => sif_neg (h i hi)), sm_0]
theorem sif_sm {F : Nat → Int} {p : Prop} {n : Nat} : sif p (sm F n) = sm (fun i => sif p (F i)) n := by
  by_cases hp : p
  · rw [sif_pos hp]; exact sm_congr (fun i _ => (sif_pos hp).symm)
  · rw [sif_neg hp, sm_sif0 (fun _ _ => hp)]
theorem sif_and {p q : Prop} {x : Int} : sif p (sif q x) = sif (p ∧ q) x := by
  by_cases hp : p
  · rw [sif_pos hp]; exact sif_congr ⟨fun h => ⟨hp, h⟩, fun h => h.2⟩ (fun _ => rfl)
  · rw [sif_neg hp, sif_neg (fun h => hp h.1)]
theorem sif_add {p : Prop} {x y : Int} : sif p (x + y) = sif p x + sif p y := by
  by_cases hp : p
  · simp only [sif_pos hp]
  · simp only [sif_neg hp]; rfl
/-- matchings of size k of the bodies below n that are in B with men in A; a body that isn't free must have one -/
noncomputable def Rn (E : Nat → Nat → Prop) (fr : Nat → Prop) (nm : Nat) : Nat → (Nat → Prop) → (Nat → Prop) → Int → Int
  | 0, _, _, k => sif (k = 0) 1
  | n + 1, B, A, k => sif (B n → fr n) (Rn E fr nm n B A k) + sif (B n) (sm (fun m => sif (A m ∧ E n m) (Rn E fr nm n B (fun x => A x ∧ ¬ x = m) (k - 1))) nm)
theorem Rn_congr {E : Nat → Nat → Prop} {fr : Nat → Prop} {nm : Nat} : ∀ {n : Nat} {B B' A A' : Nat → Prop} {k : Int}, (∀ b, b < n → (B b ↔ B' b)) → (∀ m, m < nm → (A m ↔ A' m)) → Rn E fr nm n B A k = Rn E fr nm n B' A' k := by
  intro n
  induction n with
  | zero => intro B B' A A' k _ _; rfl
  | succ n ih =>
    intro B B' A A' k hB hA
    simp only [Rn]
    congr 1
    · exact sif_congr (by rw [hB n (by omega)]) (fun _ => ih (fun b hb => hB b (by omega)) hA)
    · refine sif_congr (hB n (by omega)) (fun _ => sm_congr (fun m hm => ?_))
      exact sif_congr (by rw [hA m hm]) (fun _ => ih (fun b hb => hB b (by omega)) (fun x hx => by rw [hA x hx]))
theorem Rn_T {E : Nat → Nat → Prop} {nm n : Nat} {B A : Nat → Prop} {k : Int} : Rn E (fun _ => True) nm (n + 1) B A k = Rn E (fun _ => True) nm n B A k + sif (B n) (sm (fun m => sif (A m ∧ E n m) (Rn E (fun _ => True) nm n B (fun x => A x ∧ ¬ x = m) (k - 1))) nm) := by
  simp only [Rn]
  rw [sif_pos (fun _ => trivial)]
/-- one man more -/
theorem Rn_man {E : Nat → Nat → Prop} {nm : Nat} {j : Nat} (hj : j < nm) : ∀ {n : Nat} {B A : Nat → Prop} {k : Int}, ¬ A j → Rn E (fun _ => True) nm n B (fun x => A x ∨ x = j) k = Rn E (fun _ => True) nm n B A k + sm (fun b => sif (B b ∧ E b j) (Rn E (fun _ => True) nm n (fun x => B x ∧ ¬ x = b) A (k - 1))) n := by
  intro n
  induction n with
  | zero => intro B A k _; simp only [Rn, sm]; omega
  | succ n ih =>
    intro B A k hA
    rw [Rn_T, ih (B := B) (A := A) (k := k) hA]
    have l2 : sm (fun m => sif ((A m ∨ m = j) ∧ E n m) (Rn E (fun _ => True) nm n B (fun x => (A x ∨ x = j) ∧ ¬ x = m) (k - 1))) nm
        = sif (E n j) (Rn E (fun _ => True) nm n B A (k - 1)) + (sm (fun m => sif (A m ∧ E n m) (Rn E (fun _ => True) nm n B (fun x => A x ∧ ¬ x = m) (k - 1))) nm
          + sm (fun b => sif (B b ∧ E b j) (sm (fun m => sif (A m ∧ E n m) (Rn E (fun _ => True) nm n (fun x => B x ∧ ¬ x = b) (fun x => A x ∧ ¬ x = m) (k - 1 - 1))) nm)) n) := by
      rw [sm_one (a := j) hj]
      congr 1
      · exact sif_congr ⟨fun z => z.2, fun z => ⟨Or.inr rfl, z⟩⟩ (fun _ => Rn_congr (fun b _ => Iff.rfl) (fun x _ => ⟨fun z => z.1.resolve_right z.2, fun z => ⟨Or.inl z, fun e => hA (e ▸ z)⟩⟩))
      · have s1 : sm (fun b => sif (B b ∧ E b j) (sm (fun m => sif (A m ∧ E n m) (Rn E (fun _ => True) nm n (fun x => B x ∧ ¬ x = b) (fun x => A x ∧ ¬ x = m) (k - 1 - 1))) nm)) n
            = sm (fun m => sif (A m ∧ E n m) (sm (fun b => sif (B b ∧ E b j) (Rn E (fun _ => True) nm n (fun x => B x ∧ ¬ x = b) (fun x => A x ∧ ¬ x = m) (k - 1 - 1))) n)) nm := by
          rw [sm_congr (fun b _ => sif_sm), sm_swap]
          refine sm_congr (fun m _ => ?_)
          rw [sif_sm]
          refine sm_congr (fun b _ => ?_)
          rw [sif_and, sif_and]
          exact sif_congr ⟨fun z => ⟨z.2, z.1⟩, fun z => ⟨z.2, z.1⟩⟩ (fun _ => rfl)
        rw [s1, ← sm_add]
        refine sm_congr (fun m hm => ?_)
        show (if m = j then 0 else sif ((A m ∨ m = j) ∧ E n m) _) = _
        rw [← sif_add]
        by_cases hmj : m = j
        · rw [if_pos hmj]
          exact (sif_neg (fun z => hA (hmj ▸ z.1))).symm
        · rw [if_neg hmj]
          refine sif_congr ⟨fun z => ⟨z.1.resolve_right hmj, z.2⟩, fun z => ⟨Or.inl z.1, z.2⟩⟩ (fun h => ?_)
          have e1 : Rn E (fun _ => True) nm n B (fun x => (A x ∨ x = j) ∧ ¬ x = m) (k - 1) = Rn E (fun _ => True) nm n B (fun x => (A x ∧ ¬ x = m) ∨ x = j) (k - 1) :=
            Rn_congr (fun _ _ => Iff.rfl) (fun x _ => ⟨fun z => z.1.elim (fun a => Or.inl ⟨a, z.2⟩) Or.inr, fun z => z.elim (fun a => ⟨Or.inl a.1, a.2⟩) (fun a => ⟨Or.inr a, fun e => hmj (by rw [← e, a])⟩)⟩)
          rw [e1]
          exact ih (B := B) (A := fun x => A x ∧ ¬ x = m) (k := k - 1) (fun z => hA z.1)
    rw [l2]
    have r1 : sm (fun b => sif (B b ∧ E b j) (Rn E (fun _ => True) nm (n + 1) (fun x => B x ∧ ¬ x = b) A (k - 1))) n
        = sm (fun b => sif (B b ∧ E b j) (Rn E (fun _ => True) nm n (fun x => B x ∧ ¬ x = b) A (k - 1))) n + sif (B n) (sm (fun b => sif (B b ∧ E b j) (sm (fun m => sif (A m ∧ E n m) (Rn E (fun _ => True) nm n (fun x => B x ∧ ¬ x = b) (fun x => A x ∧ ¬ x = m) (k - 1 - 1))) nm)) n) := by
      rw [sif_sm, ← sm_add]
      refine sm_congr (fun b hb => ?_)
      show sif _ _ = sif _ _ + sif _ _
      rw [Rn_T, sif_add, sif_and, sif_and]
      congr 1
      refine sif_congr ⟨fun z => ⟨z.2.1, z.1⟩, fun z => ⟨z.2, z.1, by omega⟩⟩ (fun _ => rfl)
    simp only [sm]
    rw [r1]
    have r2 : Rn E (fun _ => True) nm (n + 1) (fun x => B x ∧ ¬ x = n) A (k - 1) = Rn E (fun _ => True) nm n B A (k - 1) := by
      rw [Rn_T, sif_neg (fun z => z.2 rfl)]
      rw [Int.add_zero]
      exact Rn_congr (fun b hb => ⟨fun z => z.1, fun z => ⟨z, by omega⟩⟩) (fun _ _ => Iff.rfl)
    rw [r2, Rn_T]
    by_cases hb : B n
    · simp only [sif_pos hb]
      rw [show sif (B n ∧ E n j) (Rn E (fun _ => True) nm n B A (k - 1)) = sif (E n j) (Rn E (fun _ => True) nm n B A (k - 1)) from sif_congr ⟨fun z => z.2, fun z => ⟨hb, z⟩⟩ (fun _ => rfl)]
      omega
    · simp only [sif_neg hb]
      rw [sif_neg (fun z => hb z.1)]
      omega
/-- by men -/
noncomputable def Rm (E : Nat → Nat → Prop) (nb : Nat) : Nat → (Nat → Prop) → Int → Int
  | 0, _, k => sif (k = 0) 1
  | j + 1, B, k => Rm E nb j B k + sm (fun b => sif (B b ∧ E b j) (Rm E nb j (fun x => B x ∧ ¬ x = b) (k - 1))) nb
theorem Rn_none {E : Nat → Nat → Prop} {nm : Nat} {k : Int} : ∀ {n : Nat} {B : Nat → Prop}, Rn E (fun _ => True) nm n B (fun _ => False) k = sif (k = 0) 1 := by
  intro n
  induction n with
  | zero => intro B; rfl
  | succ n ih =>
    intro B
    rw [Rn_T, ih, sm_sif0 (fun _ _ z => z.1), sif_congr (y := 0) Iff.rfl (fun _ => rfl)]
    by_cases h : B n
    · rw [sif_pos h]; omega
    · rw [sif_neg h]; omega
theorem Rn_Rm {E : Nat → Nat → Prop} {nb nm : Nat} : ∀ {j : Nat} {B : Nat → Prop} {k : Int}, j ≤ nm → Rn E (fun _ => True) nm nb B (fun x => x < j) k = Rm E nb j B k := by
  intro j
  induction j with
  | zero => intro B k _; simp only [Rm]; rw [← Rn_none (E := E) (nm := nm) (n := nb) (B := B)]; exact Rn_congr (fun _ _ => Iff.rfl) (fun x _ => ⟨fun z => absurd z (Nat.not_lt_zero _), fun z => z.elim⟩)
  | succ j ih =>
    intro B k hj
    have e1 : Rn E (fun _ => True) nm nb B (fun x => x < j + 1) k = Rn E (fun _ => True) nm nb B (fun x => x < j ∨ x = j) k := Rn_congr (fun _ _ => Iff.rfl) (fun x _ => by omega)
    rw [e1, Rn_man (j := j) (by omega) (A := fun x => x < j) (by omega)]
    simp only [Rm]
    rw [ih (by omega)]
    congr 1
    refine sm_congr (fun b _ => ?_)
    show sif (B b ∧ E b j) _ = sif (B b ∧ E b j) _
    rw [ih (by omega)]
/-- where there is a matching -/
theorem Rn_nn {E : Nat → Nat → Prop} {fr : Nat → Prop} {nm : Nat} : ∀ {n : Nat} {B A : Nat → Prop} {k : Int}, 0 ≤ Rn E fr nm n B A k := by
  intro n
  induction n with
  | zero => intro B A k; simp only [Rn]; unfold sif; split <;> omega
  | succ n ih =>
    intro B A k
    simp only [Rn]
    have h1 := ih (B := B) (A := A) (k := k)
    have h2 : ∀ j, 0 ≤ sm (fun m => sif (A m ∧ E n m) (Rn E fr nm n B (fun x => A x ∧ ¬ x = m) (k - 1))) j := by
      intro j
      induction j with
      | zero => exact Int.le_refl 0
      | succ j ih2 =>
        simp only [sm]
        have := ih (B := B) (A := fun x => A x ∧ ¬ x = j) (k := k - 1)
        unfold sif at ih2 ⊢
        split <;> omega
    have h3 := h2 nm
    unfold sif at h3 ⊢
    split <;> split <;> omega
