/-! the classes and the cells, checked -/
def am_isR (t : FieldType) : Bool := match t with
  | .object _ => true
  | .array _ => true
  | _ => false
def am_tyf (T : u_T) (k : Nat) : FieldType := (parseFieldDescriptor (T k).2.2.1).getD .int
def am_clck (c : vw_C) : Bool := (List.range c.2.2).all (fun k => (parseFieldDescriptor (c.2.1 k).2.2.1).isSome && decide ((c.2.1 k).1 = c.1) && (List.range c.2.2).all (fun j => k == j || decide ((c.2.1 k).2.1 ≠ (c.2.1 j).2.1)))
theorem am_cl_ck : am_cl.all am_clck = true := by decide +kernel
theorem am_cls {ci : Nat} {c : vw_C} (h : am_cl[ci]? = some c) : (∀ w ∈ u_ws c.1 c.2.1 c.2.2, w ∈ am_TB) ∧ (∀ k, k < c.2.2 → parseFieldDescriptor (c.2.1 k).2.2.1 = some (am_tyf c.2.1 k)) ∧ (∀ a, a < c.2.2 → ∀ b, b < c.2.2 → a ≠ b → (c.2.1 a).2.1 ≠ (c.2.1 b).2.1) ∧ (∀ k, k < c.2.2 → (c.2.1 k).1 = c.1) := by
  have hm := List.mem_of_getElem? h
  refine ⟨fun w hw => ?_, fun k hk => ?_, fun a ha b hb hab => ?_, fun k hk => ?_⟩
  · have h1 := List.all_eq_true.mp am_cl_in c hm
    have h2 := List.all_eq_true.mp h1 w hw
    simp only [Bool.and_eq_true, decide_eq_true_eq] at h2
    exact List.mem_filter.mpr h2
  · have h1 := List.all_eq_true.mp (List.all_eq_true.mp am_cl_ck c hm) k (List.mem_range.mpr hk)
    simp only [Bool.and_eq_true] at h1
    unfold am_tyf
    cases hp : parseFieldDescriptor (c.2.1 k).2.2.1 with
    | none => rw [hp] at h1; exact absurd h1.1.1 (by simp)
    | some t => rfl
  · have h1 := List.all_eq_true.mp (List.all_eq_true.mp am_cl_ck c hm) a (List.mem_range.mpr ha)
    simp only [Bool.and_eq_true] at h1
    have h2 := List.all_eq_true.mp h1.2 b (List.mem_range.mpr hb)
    simp only [Bool.or_eq_true, beq_iff_eq, decide_eq_true_eq] at h2
    exact h2.resolve_left hab
  · have h1 := List.all_eq_true.mp (List.all_eq_true.mp am_cl_ck c hm) k (List.mem_range.mpr hk)
    simp only [Bool.and_eq_true, decide_eq_true_eq] at h1
    exact h1.1.2
theorem am_R_cl : (List.range 12).all (fun i => match am_cl[i]? with | some c => decide (am_R i = c.1) | none => false) = true := by decide +kernel
theorem am_R_of {ci : Nat} {c : vw_C} (h : am_cl[ci]? = some c) : am_R ci = c.1 := by
  have hl : ci < 12 := (List.getElem?_eq_some_iff.mp h).1
  have h1 := List.all_eq_true.mp am_R_cl ci (List.mem_range.mpr hl)
  rw [h] at h1
  simpa using h1
def am_fdck (c : vw_C) (j : Nat) (f : Nat × Nat) : Bool := (f.1 == 0 && decide (am_tyf c.2.1 j = .int) && !(c.2.1 j).2.2.2) || (f.1 == 8 && am_isR (am_tyf c.2.1 j) && (c.2.1 j).2.2.2 && decide (1 ≤ f.2 ∧ f.2 ≤ 93)) || (f.1 == 2 && am_isR (am_tyf c.2.1 j) && !(c.2.1 j).2.2.2)
def am_cellck (k : Nat) : Bool := if (am_cell k).1 = 0 then (match am_cl[(am_cell k).2.1]? with
    | some c => decide ((am_cell k).2.2.length = c.2.2) && (List.range c.2.2).all (fun j => match am_nth (am_cell k).2.2 j with | some f => am_fdck c j f | none => false)
    | none => false) else (decide ((am_cell k).2.1 ≤ 65536) && ((am_cell k).1 == 1 || (am_cell k).1 == 2 || (am_cell k).1 == 3 || (am_cell k).1 == 4 || (am_cell k).1 == 9))
theorem am_cell_ck : (List.range 94).all am_cellck = true := by decide +kernel
theorem am_cell_hi {k : Nat} (h : 93 < k) : am_cell k = (9, 0, []) := by
  unfold am_cell
  rw [if_neg (by omega), if_pos h]
theorem am_cell_k {k : Nat} (h : ¬ (am_cell k).1 = 9) : am_cellck k = true ∧ k ≤ 93 := by
  by_cases hk : 93 < k
  · rw [am_cell_hi hk] at h
    exact absurd rfl h
  · exact ⟨List.all_eq_true.mp am_cell_ck k (List.mem_range.mpr (by omega)), by omega⟩
theorem am_cell_obj {k : Nat} (h : (am_cell k).1 = 0) : ∃ c : vw_C, am_cl[(am_cell k).2.1]? = some c ∧ (am_cell k).2.2.length = c.2.2 ∧ ∀ (j : Nat) (f : Nat × Nat), am_nth (am_cell k).2.2 j = some f → j < c.2.2 ∧ am_fdck c j f = true := by
  have h1 := (am_cell_k (k := k) (by rw [h]; decide)).1
  unfold am_cellck at h1
  rw [if_pos h] at h1
  cases hc : am_cl[(am_cell k).2.1]? with
  | none => rw [hc] at h1; cases h1
  | some c =>
    rw [hc] at h1
    simp only [Bool.and_eq_true, decide_eq_true_eq] at h1
    refine ⟨c, rfl, h1.1, fun j f hf => ?_⟩
    have hj : j < c.2.2 := by
      rw [am_nth_get] at hf
      rw [← h1.1]
      exact (List.getElem?_eq_some_iff.mp hf).1
    have h2 := List.all_eq_true.mp h1.2 j (List.mem_range.mpr hj)
    rw [hf] at h2
    exact ⟨hj, h2⟩
theorem am_cell_arr {k : Nat} (h : ¬ (am_cell k).1 = 0) (h9 : ¬ (am_cell k).1 = 9) : (am_cell k).2.1 ≤ 65536 ∧ ((am_cell k).1 = 1 ∨ (am_cell k).1 = 2 ∨ (am_cell k).1 = 3 ∨ (am_cell k).1 = 4) := by
  have h1 := (am_cell_k h9).1
  unfold am_cellck at h1
  rw [if_neg h] at h1
  simp only [Bool.and_eq_true, decide_eq_true_eq, Bool.or_eq_true, beq_iff_eq] at h1
  refine ⟨h1.1, ?_⟩
  rcases h1.2 with ((((h | h) | h) | h) | h)
  · exact Or.inl h
  · exact Or.inr (Or.inl h)
  · exact Or.inr (Or.inr (Or.inl h))
  · exact Or.inr (Or.inr (Or.inr h))
  · exact absurd h h9
theorem am_find {α : Type} {l : List α} {P : α → Bool} {q : α} (h : l.find? P = some q) : q ∈ l ∧ P q = true := ⟨List.mem_of_find?_eq_some h, List.find?_some h⟩
theorem am_fx_inv {own idx : Nat} (h : ¬ am_fx own idx = 99999) : (∃ q ∈ am_FL, q.1 = own ∧ q.2.1 = idx ∧ am_fx own idx / 64 = q.2.2.1 ∧ am_fx own idx % 64 = q.2.2.2.1 ∧ am_FL.find? (fun q => q.1 == own && q.2.1 == idx) = some q) ∨ (∃ q ∈ am_WL, q.1 = own ∧ q.2.1 = idx ∧ am_fx own idx / 64 = 15 ∧ am_fx own idx % 64 = q.2.2.1) := by
  unfold am_fx at h ⊢
  cases hf : am_FL.find? (fun q => q.1 == own && q.2.1 == idx) with
  | some q =>
    obtain ⟨h1, h2⟩ := am_find hf
    have h3 := List.all_eq_true.mp am_FL_ok q h1
    unfold am_flok at h3
    simp only [Bool.and_eq_true, beq_iff_eq] at h2
    have h4 : q.2.2.2.1 < 64 := by
      simp only [Bool.and_eq_true, decide_eq_true_eq] at h3
      exact h3.1.1.1
    refine Or.inl ⟨q, h1, h2.1, h2.2, ?_, ?_, rfl⟩
    · show (q.2.2.1 * 64 + q.2.2.2.1) / 64 = _
      omega
    · show (q.2.2.1 * 64 + q.2.2.2.1) % 64 = _
      omega
  | none =>
    rw [hf] at h
    dsimp only at h ⊢
    cases hw : am_WL.find? (fun q => q.1 == own && q.2.1 == idx) with
    | none => rw [hw] at h; exact absurd rfl h
    | some q =>
      obtain ⟨h1, h2⟩ := am_find hw
      have h3 := List.all_eq_true.mp am_WL_ok q h1
      unfold am_wlok at h3
      simp only [Bool.and_eq_true, decide_eq_true_eq] at h3
      simp only [Bool.and_eq_true, beq_iff_eq] at h2
      refine Or.inr ⟨q, h1, h2.1, h2.2, ?_, ?_⟩
      · show (960 + q.2.2.1) / 64 = 15
        omega
      · show (960 + q.2.2.1) % 64 = q.2.2.1
        omega
theorem am_fl_plain {q : Nat × Nat × Nat × Nat × Nat × Nat} (h : q ∈ am_FL) {c : vw_C} (hc : am_cl[q.2.2.1]? = some c) (hn : q.2.2.2.2.1 = 0) : Cond.fieldLink (am_R q.1) q.2.1 (c.2.1 q.2.2.2.1).1 (c.2.1 q.2.2.2.1).2.1 (c.2.1 q.2.2.2.1).2.2.1 ∈ am_TB := by
  have h3 := List.all_eq_true.mp am_FL_ok q h
  unfold am_flok am_nest at h3
  simp only [Bool.and_eq_true, decide_eq_true_eq] at h3
  have h4 := h3.2
  rw [hc] at h4
  dsimp only at h4
  rw [if_pos hn] at h4
  exact am_inT h4 rfl
/-- a field's row: the link, plain or through the nest -/
theorem am_fl_link {q : Nat × Nat × Nat × Nat × Nat × Nat} (h : q ∈ am_FL) {c : vw_C} (hc : am_cl[q.2.2.1]? = some c) : (Cond.fieldLink (am_R q.1) q.2.1 (c.2.1 q.2.2.2.1).1 (c.2.1 q.2.2.2.1).2.1 (c.2.1 q.2.2.2.1).2.2.1 ∈ am_TB) ∨ (Cond.fieldLinkNest (am_R q.1) q.2.1 (c.2.1 q.2.2.2.1).1 (c.2.1 q.2.2.2.1).2.1 (c.2.1 q.2.2.2.1).2.2.1 "StonesAlike" ∈ am_NW) := by
  have h3 := List.all_eq_true.mp am_FL_ok q h
  unfold am_flok am_nest at h3
  simp only [Bool.and_eq_true, decide_eq_true_eq] at h3
  have h4 := h3.2
  rw [hc] at h4
  dsimp only at h4
  by_cases hn : q.2.2.2.2.1 = 0
  · rw [if_pos hn] at h4
    exact Or.inl (am_inT h4 rfl)
  · rw [if_neg hn] at h4
    exact Or.inr (List.mem_filter.mpr ⟨List.mem_of_getElem? h4, rfl⟩)
theorem am_acI : Cond.arrayClass .int ∈ am_TB := List.mem_filter.mpr ⟨by decide +kernel, rfl⟩
theorem am_acJ : Cond.arrayClass .long ∈ am_TB := List.mem_filter.mpr ⟨by decide +kernel, rfl⟩
theorem am_acB : Cond.arrayClass .byte ∈ am_TB := List.mem_filter.mpr ⟨by decide +kernel, rfl⟩
theorem am_acZ : Cond.arrayClass .boolean ∈ am_TB := List.mem_filter.mpr ⟨by decide +kernel, rfl⟩
