/-! THE WORLD of the small machine's heap, and what its values are in the machine -/
def am_tr (fx : Nat → Nat → Nat) (ad : Nat → Nat) (v : am_V) : Value := if v.1 = 0 then .int (Int32.ofInt v.2) else if v.1 = 1 then .long (Int64.ofInt v.2) else if v.1 = 2 then (if v.2 = 0 then .null else .ref (ad v.2.toNat)) else .ref (fx v.1 v.2.toNat)
theorem am_tr_0 (fx : Nat → Nat → Nat) (ad : Nat → Nat) (x : Int) : am_tr fx ad (0, x) = .int (Int32.ofInt x) := rfl
theorem am_tr_1 (fx : Nat → Nat → Nat) (ad : Nat → Nat) (x : Int) : am_tr fx ad (1, x) = .long (Int64.ofInt x) := rfl
theorem am_tr_2 (fx : Nat → Nat → Nat) (ad : Nat → Nat) {x : Int} (h : 0 < x) : am_tr fx ad (2, x) = .ref (ad x.toNat) := by
  simp [am_tr, show ¬ x = 0 by omega]
theorem am_tr_20 (fx : Nat → Nat → Nat) (ad : Nat → Nat) : am_tr fx ad (2, 0) = .null := by simp [am_tr]
theorem am_tr_r (fx : Nat → Nat → Nat) (ad : Nat → Nat) {v : am_V} (h : am_isr v.1 = true) : am_tr fx ad v = .null ∨ ∃ a, am_tr fx ad v = .ref a := by
  obtain ⟨t, x⟩ := v
  have ht : t = 2 ∨ t = 4 ∨ t = 7 := by simpa [am_isr] using h
  rcases ht with rfl | rfl | rfl
  · by_cases hx : x = 0
    · exact Or.inl (by simp [am_tr, hx])
    · exact Or.inr ⟨ad x.toNat, by simp [am_tr, hx]⟩
  · exact Or.inr ⟨fx 4 x.toNat, by simp [am_tr]⟩
  · exact Or.inr ⟨fx 7 x.toNat, by simp [am_tr]⟩
theorem am_tr_cat (fx : Nat → Nat → Nat) (ad : Nat → Nat) (v : am_V) : (am_tr fx ad v).category = if v.1 = 1 then 2 else 1 := by
  unfold am_tr
  by_cases h0 : v.1 = 0
  · simp [h0, Value.category]
  · by_cases h1 : v.1 = 1
    · simp [h1, Value.category]
    · by_cases h2 : v.1 = 2
      · by_cases h3 : v.2 = 0 <;> simp [h2, h3, Value.category]
      · simp [h0, h1, h2, Value.category]
theorem am_tr_cats (fx : Nat → Nat → Nat) (ad : Nat → Nat) (st : List am_V) : (((st.map (am_tr fx ad)).map fun v => v.category).sum) = am_cat st := by
  induction st with
  | nil => rfl
  | cons v r ih =>
    simp only [List.map_cons, List.sum_cons, am_cat, ih, am_tr_cat]
def am_fs (fx : Nat → Nat → Nat) (ad : Nat → Nat) (h : am_H) (k : Nat) : List (Nat × Nat) → Nat → List Value
  | [], _ => []
  | f :: r, j => am_tr fx ad (if f.1 = 8 then 2 else f.1, h k j) :: am_fs fx ad h k r (j + 1)
theorem am_fs_get (fx : Nat → Nat → Nat) (ad : Nat → Nat) (h : am_H) (k : Nat) (fs : List (Nat × Nat)) : ∀ (j i : Nat), (am_fs fx ad h k fs j)[i]? = (am_nth fs i).map (fun f => am_tr fx ad (if f.1 = 8 then 2 else f.1, h k (j + i))) := by
  induction fs with
  | nil => intro j i; simp [am_fs, am_nth]
  | cons f r ih =>
    intro j i
    cases i with
    | zero => simp [am_fs, am_nth]
    | succ i =>
      simp only [am_fs, am_nth, List.getElem?_cons_succ]
      rw [ih (j + 1) i, show j + 1 + i = j + (i + 1) by omega]
theorem am_fs_len (fx : Nat → Nat → Nat) (ad : Nat → Nat) (h : am_H) (k : Nat) (fs : List (Nat × Nat)) : ∀ j : Nat, (am_fs fx ad h k fs j).length = fs.length := by
  induction fs with
  | nil => intro j; rfl
  | cons f r ih => intro j; simp [am_fs, ih]
theorem am_nth_get {α : Type} (l : List α) : ∀ i : Nat, am_nth l i = l[i]? := by
  induction l with
  | nil => intro i; simp [am_nth]
  | cons a r ih =>
    intro i
    cases i with
    | zero => simp [am_nth]
    | succ i => simp [am_nth, ih]
theorem am_st_eq (h : am_H) (c j : Nat) (v : Int) : am_st h c j v c j = v := by simp [am_st]
theorem am_st_ne {h : am_H} {c j c' j' : Nat} {v : Int} (hn : ¬ (c' = c ∧ j' = j)) : am_st h c j v c' j' = h c' j' := by
  unfold am_st
  by_cases h1 : c' = c
  · by_cases h2 : j' = j
    · exact absurd ⟨h1, h2⟩ hn
    · simp [h1, h2]
  · simp [h1]
theorem am_st_nc {h : am_H} {c j c' j' : Nat} {v : Int} (hn : ¬ c' = c) : am_st h c j v c' j' = h c' j' := am_st_ne (fun q => hn q.1)
theorem am_fs_set (fx : Nat → Nat → Nat) (ad : Nat → Nat) (h : am_H) (k : Nat) (fs : List (Nat × Nat)) {i : Nat} {f : Nat × Nat} (hf : am_nth fs i = some f) (v : Int) : (am_fs fx ad h k fs 0).set i (am_tr fx ad (if f.1 = 8 then 2 else f.1, v)) = am_fs fx ad (am_st h k i v) k fs 0 := by
  apply List.ext_getElem?
  intro j
  rw [List.getElem?_set, am_fs_get, am_fs_get, am_fs_len]
  by_cases hj : i = j
  · subst hj
    have hl : i < fs.length := by
      rw [am_nth_get] at hf
      exact (List.getElem?_eq_some_iff.mp hf).1
    simp [hl, hf, am_st_eq]
  · rw [if_neg hj]
    cases am_nth fs j with
    | none => rfl
    | some g => simp [am_st_ne (h := h) (c := k) (j := i) (c' := k) (j' := j) (v := v) (fun q => hj q.2.symm)]
def am_e (cA : Nat → ClassId) (fx : Nat → Nat → Nat) (ad : Nat → Nat) (h : am_H) (k : Nat) : va_E :=
  if (am_cell k).1 = 0 then .inr ((am_cell k).2.1, am_fs fx ad h k (am_cell k).2.2 0) else .inl (cA (am_cell k).1, ((am_cell k).2.1, if (am_cell k).1 = 2 then .inr (.inl (fun j => Int64.ofInt (h k j))) else .inl (fun j => Int32.ofInt (h k j))))
def am_w (cA : Nat → ClassId) (fx : Nat → Nat → Nat) (ad : Nat → Nat) (h : am_H) : va_W := (List.range (h 0 0).toNat).map (fun i => (ad (i + 1), am_e cA fx ad h (i + 1)))
theorem am_w_get (cA : Nat → ClassId) (fx : Nat → Nat → Nat) (ad : Nat → Nat) (h : am_H) {k : Nat} (hk : 1 ≤ k) (hn : (k : Int) ≤ h 0 0) : (am_w cA fx ad h)[k - 1]? = some (ad k, am_e cA fx ad h k) := by
  unfold am_w
  rw [List.getElem?_map, List.getElem?_range (by omega)]
  simp [show k - 1 + 1 = k by omega]
theorem am_w_at {cA : Nat → ClassId} {fx : Nat → Nat → Nat} {ad : Nat → Nat} {h : am_H} {i : Nat} {q : Nat × va_E} (hq : (am_w cA fx ad h)[i]? = some q) : ((i + 1 : Nat) : Int) ≤ h 0 0 ∧ q = (ad (i + 1), am_e cA fx ad h (i + 1)) := by
  unfold am_w at hq
  rw [List.getElem?_map] at hq
  by_cases hi : i < (h 0 0).toNat
  · rw [List.getElem?_range hi] at hq
    exact ⟨by omega, (Option.some.inj hq).symm⟩
  · rw [List.getElem?_eq_none (by simp; omega)] at hq
    cases hq
theorem am_e_eq {cA : Nat → ClassId} {fx : Nat → Nat → Nat} {ad : Nat → Nat} {h h' : am_H} {k : Nat} (hh : ∀ j, h' k j = h k j) : am_e cA fx ad h' k = am_e cA fx ad h k := by
  unfold am_e
  have e1 : am_fs fx ad h' k (am_cell k).2.2 0 = am_fs fx ad h k (am_cell k).2.2 0 := by
    apply List.ext_getElem?
    intro j
    rw [am_fs_get, am_fs_get]
    simp [hh]
  rw [e1]
  simp [hh]
theorem am_w_set {cA : Nat → ClassId} {fx : Nat → Nat → Nat} {ad : Nat → Nat} {h : am_H} {k j : Nat} {v : Int} (hk : 1 ≤ k) {E : va_E} (hE : am_e cA fx ad (am_st h k j v) k = E) : (am_w cA fx ad h).set (k - 1) (ad k, E) = am_w cA fx ad (am_st h k j v) := by
  have h0 : am_st h k j v 0 0 = h 0 0 := am_st_nc (by omega)
  apply List.ext_getElem?
  intro i
  rw [List.getElem?_set]
  unfold am_w
  rw [h0]
  simp only [List.length_map, List.length_range, List.getElem?_map]
  by_cases hi : k - 1 = i
  · subst hi
    by_cases hl : k - 1 < (h 0 0).toNat
    · rw [List.getElem?_range hl]
      simp [hl, show k - 1 + 1 = k by omega, hE]
    · rw [List.getElem?_eq_none (by simp; omega)]
      simp [hl]
  · rw [if_neg hi]
    by_cases hl : i < (h 0 0).toNat
    · rw [List.getElem?_range hl]
      simp only [Option.map_some]
      rw [am_e_eq (h := h) (h' := am_st h k j v) (k := i + 1) (fun q => am_st_nc (by omega))]
    · rw [List.getElem?_eq_none (by simp; omega)]
      rfl
/-- values that are what their kind says; heaps that are -/
def am_okv (n : Int) (v : am_V) : Prop := (v.1 = 0 → am_inI v.2) ∧ (v.1 = 1 → am_inL v.2) ∧ (v.1 = 2 → 0 ≤ v.2 ∧ v.2 ≤ n) ∧ (v.1 = 4 → 0 ≤ v.2 ∧ v.2 < 12) ∧ (v.1 = 7 → v.2 = 0)
theorem am_okv_0 {n x : Int} (h : am_inI x) : am_okv n (0, x) := ⟨fun _ => h, (fun q => by cases q), (fun q => by cases q), (fun q => by cases q), (fun q => by cases q)⟩
theorem am_okv_1 {n x : Int} (h : am_inL x) : am_okv n (1, x) := ⟨(fun q => by cases q), fun _ => h, (fun q => by cases q), (fun q => by cases q), (fun q => by cases q)⟩
theorem am_okv_2 {n x : Int} (h : 0 ≤ x ∧ x ≤ n) : am_okv n (2, x) := ⟨(fun q => by cases q), (fun q => by cases q), fun _ => h, (fun q => by cases q), (fun q => by cases q)⟩
theorem am_okv_9 (n x : Int) : am_okv n (9, x) := ⟨(fun q => by cases q), (fun q => by cases q), (fun q => by cases q), (fun q => by cases q), (fun q => by cases q)⟩
theorem am_okv_up {n n' : Int} {v : am_V} (hn : n ≤ n') (h : am_okv n v) : am_okv n' v := ⟨h.1, h.2.1, fun q => ⟨(h.2.2.1 q).1, Int.le_trans (h.2.2.1 q).2 hn⟩, h.2.2.2.1, h.2.2.2.2⟩
def am_okc (n : Int) (k : Nat) (g : Nat → Int) : Prop := ((am_cell k).1 = 0 → ∀ (j : Nat) (f : Nat × Nat), am_nth (am_cell k).2.2 j = some f → am_okv n (if f.1 = 8 then 2 else f.1, g j)) ∧ ((am_cell k).1 = 1 → ∀ j, am_inI (g j)) ∧ ((am_cell k).1 = 2 → ∀ j, am_inL (g j)) ∧ ((am_cell k).1 = 3 → ∀ j, -128 ≤ g j ∧ g j ≤ 127) ∧ ((am_cell k).1 = 4 → ∀ j, 0 ≤ g j ∧ g j ≤ 1)
def am_okh (h : am_H) : Prop := 0 ≤ h 0 0 ∧ h 0 0 ≤ 93 ∧ ∀ k : Nat, 1 ≤ k → (k : Int) ≤ h 0 0 → am_okc (h 0 0) k (h k)
def am_fin (h : am_H) : Prop := ∀ (k j : Nat) (f : Nat × Nat), 1 ≤ k → (am_cell k).1 = 0 → am_nth (am_cell k).2.2 j = some f → f.1 = 8 → h k j = f.2
def am_csz (k : Nat) : Nat := if (am_cell k).1 = 0 then (am_cell k).2.2.length else (am_cell k).2.1
def am_sz : Nat → Nat
  | 0 => 0
  | n + 1 => am_sz n + am_csz (n + 1)
theorem am_sz_le : ∀ {a b : Nat}, a ≤ b → am_sz a ≤ am_sz b := by
  intro a b h
  induction b with
  | zero => simp [show a = 0 by omega]
  | succ b ih =>
    by_cases hb : a = b + 1
    · rw [hb]; exact Nat.le_refl _
    · exact Nat.le_trans (ih (by omega)) (Nat.le_add_right _ _)
/-- the locals -/
def am_lv (fx : Nat → Nat → Nat) (ad : Nat → Nat) : List am_V → Nat → List (Nat × Value)
  | [], _ => []
  | v :: r, i => if v.1 = 9 then am_lv fx ad r (i + 1) else (i, am_tr fx ad v) :: am_lv fx ad r (i + 1)
theorem am_lv_mem {fx : Nat → Nat → Nat} {ad : Nat → Nat} {q : Nat × Value} : ∀ {ls : List am_V} {i : Nat}, q ∈ am_lv fx ad ls i ↔ ∃ (k : Nat) (v : am_V), ls[k]? = some v ∧ ¬ v.1 = 9 ∧ q = (i + k, am_tr fx ad v) := by
  intro ls
  induction ls with
  | nil => intro i; simp [am_lv]
  | cons a r ih =>
    intro i
    constructor
    · intro h
      unfold am_lv at h
      by_cases ha : a.1 = 9
      · rw [if_pos ha] at h
        obtain ⟨k, v, h1, h2, h3⟩ := ih.mp h
        exact ⟨k + 1, v, by simpa using h1, h2, by rw [h3, show i + 1 + k = i + (k + 1) by omega]⟩
      · rw [if_neg ha] at h
        rcases List.mem_cons.mp h with h | h
        · exact ⟨0, a, rfl, ha, by simpa using h⟩
        · obtain ⟨k, v, h1, h2, h3⟩ := ih.mp h
          exact ⟨k + 1, v, by simpa using h1, h2, by rw [h3, show i + 1 + k = i + (k + 1) by omega]⟩
    · rintro ⟨k, v, h1, h2, h3⟩
      unfold am_lv
      cases k with
      | zero =>
        have : a = v := by simpa using h1
        subst this
        rw [if_neg h2, h3]
        exact List.mem_cons_self
      | succ k =>
        have hm : q ∈ am_lv fx ad r (i + 1) := ih.mpr ⟨k, v, by simpa using h1, h2, by rw [h3, show i + 1 + k = i + (k + 1) by omega]⟩
        by_cases ha : a.1 = 9
        · rw [if_pos ha]; exact hm
        · rw [if_neg ha]; exact List.mem_cons_of_mem _ hm
theorem am_ld_inv {ls : List am_V} : ∀ {k : Nat} {K : am_V → Prop}, am_ld ls k K → ∃ v, ls[k]? = some v ∧ K v := by
  induction ls with
  | nil => intro k K h; exact h.elim
  | cons a r ih =>
    intro k K h
    cases k with
    | zero => exact ⟨a, rfl, h⟩
    | succ k =>
      obtain ⟨v, h1, h2⟩ := ih h
      exact ⟨v, by simpa using h1, h2⟩
theorem am_ldt_inv {t : Nat} {ls : List am_V} {k : Nat} {K : Int → Prop} (h : am_ldt t ls k K) : ∃ x, ls[k]? = some (t, x) ∧ K x := by
  obtain ⟨v, h1, h2⟩ := am_ld_inv h
  by_cases hv : v.1 = t
  · rw [if_pos hv] at h2
    exact ⟨v.2, by rw [h1, ← hv], h2⟩
  · rw [if_neg hv] at h2; exact h2.elim
theorem am_ldr_inv {ls : List am_V} {k : Nat} {K : am_V → Prop} (h : am_ldr ls k K) : ∃ v, ls[k]? = some v ∧ am_isr v.1 = true ∧ K v := by
  obtain ⟨v, h1, h2⟩ := am_ld_inv h
  by_cases hv : am_isr v.1 = true
  · rw [if_pos hv] at h2
    exact ⟨v, h1, hv, h2⟩
  · rw [if_neg hv] at h2; exact h2.elim
theorem am_1_inv {t : Nat} {st : List am_V} {K : Int → List am_V → Prop} (h : am_1 t st K) : ∃ x s, st = (t, x) :: s ∧ K x s := by
  cases st with
  | nil => exact h.elim
  | cons v r =>
    by_cases hv : v.1 = t
    · have h2 : (if v.1 = t then K v.2 r else False) := h
      rw [if_pos hv] at h2
      exact ⟨v.2, r, by rw [← hv], h2⟩
    · have h2 : (if v.1 = t then K v.2 r else False) := h
      rw [if_neg hv] at h2; exact h2.elim
theorem am_2_inv {t u : Nat} {st : List am_V} {K : Int → Int → List am_V → Prop} (h : am_2 t u st K) : ∃ a b s, st = (u, b) :: (t, a) :: s ∧ K a b s := by
  obtain ⟨b, r, e1, h1⟩ := am_1_inv h
  obtain ⟨a, s, e2, h2⟩ := am_1_inv h1
  exact ⟨a, b, s, by rw [e1, e2], h2⟩
theorem am_r_inv {st : List am_V} {K : am_V → List am_V → Prop} (h : am_r st K) : ∃ v s, st = v :: s ∧ am_isr v.1 = true ∧ K v s := by
  cases st with
  | nil => exact h.elim
  | cons v r =>
    have h2 : (if am_isr v.1 = true then K v r else False) := h
    by_cases hv : am_isr v.1 = true
    · rw [if_pos hv] at h2; exact ⟨v, r, rfl, hv, h2⟩
    · rw [if_neg hv] at h2; exact h2.elim
theorem am_c1_inv {st : List am_V} {K : am_V → List am_V → Prop} (h : am_c1 st K) : ∃ v s, st = v :: s ∧ ¬ v.1 = 1 ∧ K v s := by
  cases st with
  | nil => exact h.elim
  | cons v r =>
    have h2 : (if v.1 = 1 then False else K v r) := h
    by_cases hv : v.1 = 1
    · rw [if_pos hv] at h2; exact h2.elim
    · rw [if_neg hv] at h2; exact ⟨v, r, rfl, hv, h2⟩
theorem am_nil_inv {st : List am_V} {K : Prop} (h : am_nil st K) : st = [] ∧ K := by
  cases st with
  | nil => exact ⟨rfl, h⟩
  | cons v r => exact h.elim
theorem am_take_inv : ∀ {n : Nat} {st : List am_V} {K : List am_V → List am_V → Prop}, am_take n st K → ∃ as s, st = as.reverse ++ s ∧ as.length = n ∧ K as s := by
  intro n
  induction n with
  | zero => intro st K h; exact ⟨[], st, rfl, rfl, h⟩
  | succ n ih =>
    intro st K h
    cases st with
    | nil => exact h.elim
    | cons v r =>
      obtain ⟨as, s, h1, h2, h3⟩ := ih (st := r) h
      exact ⟨as ++ [v], s, by simp [h1], by simp [h2], h3⟩
theorem am_sto_get' : ∀ (ls : List am_V) (k : Nat) (v : am_V) (j : Nat), k < ls.length → (am_sto ls k v)[j]? = if j = k then some v else if j + 1 = k ∧ (∃ a, ls[j]? = some a ∧ a.1 = 1) then some (9, 0) else ls[j]? := by
  intro ls
  induction ls with
  | nil => intro k v j h; simp at h
  | cons a r ih =>
    intro k v j h
    cases k with
    | zero => cases j <;> simp [am_sto]
    | succ k =>
      cases k with
      | zero =>
        cases r with
        | nil => simp at h
        | cons b r =>
          cases j with
          | zero => by_cases ha : a.1 = 1 <;> simp [am_sto, ha]
          | succ j => cases j <;> simp [am_sto]
      | succ k =>
        cases j with
        | zero => simp [am_sto]
        | succ j =>
          have h2 := ih (k + 1) v j (by simpa using h)
          simp only [am_sto, List.getElem?_cons_succ, h2, Nat.add_right_cancel_iff]
theorem am_sto_get {ls : List am_V} {k : Nat} {v : am_V} {j : Nat} (h : k < ls.length) : (am_sto ls k v)[j]? = if j = k then some v else if j + 1 = k ∧ (∃ a, ls[j]? = some a ∧ a.1 = 1) then some (9, 0) else ls[j]? := am_sto_get' ls k v j h
theorem am_sto_len' : ∀ (ls : List am_V) (k : Nat) (v : am_V), (am_sto ls k v).length = ls.length := by
  intro ls
  induction ls with
  | nil => intro k v; cases k <;> rfl
  | cons a r ih =>
    intro k v
    cases k with
    | zero => simp [am_sto]
    | succ k =>
      cases k with
      | zero => cases r <;> simp [am_sto]
      | succ k => simp [am_sto, ih]
theorem am_sto_len {ls : List am_V} {k : Nat} {v : am_V} : (am_sto ls k v).length = ls.length := am_sto_len' ls k v
theorem am_kil_get : ∀ {ls : List am_V} {k j : Nat}, (am_kil ls k)[j]? = if j = k ∧ k < ls.length then some (9, 0) else ls[j]? := by
  intro ls
  induction ls with
  | nil => intro k j; simp [am_kil]
  | cons a r ih =>
    intro k j
    cases k with
    | zero => cases j <;> simp [am_kil]
    | succ k =>
      cases j with
      | zero => simp [am_kil]
      | succ j => simp [am_kil, ih]
theorem am_kil_len : ∀ {ls : List am_V} {k : Nat}, (am_kil ls k).length = ls.length := by
  intro ls
  induction ls with
  | nil => intro k; cases k <;> rfl
  | cons a r ih =>
    intro k
    cases k with
    | zero => simp [am_kil]
    | succ k => simp [am_kil, ih]
theorem am_sto_ok {n : Int} {ls : List am_V} {k : Nat} {v : am_V} (hk : k < ls.length) (h : ∀ x ∈ ls, am_okv n x) (hv : am_okv n v) : ∀ x ∈ am_sto ls k v, am_okv n x := by
  intro x hx
  obtain ⟨j, hj⟩ := List.mem_iff_getElem?.mp hx
  rw [am_sto_get hk] at hj
  split at hj
  · cases hj; exact hv
  · split at hj
    · cases hj; exact am_okv_9 _ _
    · exact h x (List.mem_of_getElem? hj)
theorem am_kil_ok {n : Int} {ls : List am_V} {k : Nat} (h : ∀ x ∈ ls, am_okv n x) : ∀ x ∈ am_kil ls k, am_okv n x := by
  intro x hx
  obtain ⟨j, hj⟩ := List.mem_iff_getElem?.mp hx
  rw [am_kil_get] at hj
  split at hj
  · cases hj; exact am_okv_9 _ _
  · exact h x (List.mem_of_getElem? hj)
/-- behind a store of one slot, and of two -/
theorem am_lv_st1 {fx : Nat → Nat → Nat} {ad : Nat → Nat} {lsM : Array Slot} {nL : Nat} {ls : List am_V} {k : Nat} {v : am_V} (hk : k < ls.length) (h : lv_has lsM nL ((k, am_tr fx ad v) :: (am_lv fx ad ls 0).filter (fun q => !(q.1 == k) && !(q.1 + 1 == k && q.2.category == 2)))) : lv_has lsM nL (am_lv fx ad (am_sto ls k v) 0) := by
  refine ⟨h.1, h.2.1, fun q hq => ?_⟩
  obtain ⟨j, w, h1, h2, rfl⟩ := am_lv_mem.mp hq
  rw [am_sto_get hk] at h1
  split at h1
  · next e => cases h1; subst e; exact h.2.2 _ (by simp)
  · next e =>
    split at h1
    · cases h1; exact absurd rfl h2
    · next e2 =>
      refine h.2.2 _ (List.mem_cons_of_mem _ (List.mem_filter.mpr ⟨am_lv_mem.mpr ⟨j, w, h1, h2, rfl⟩, ?_⟩))
      simp only [Nat.zero_add, am_tr_cat]
      by_cases hw : w.1 = 1
      · have : ¬ j + 1 = k := fun q => e2 ⟨q, w, h1, hw⟩
        simp [e, this]
      · simp [e, hw]
theorem am_lv_st2 {fx : Nat → Nat → Nat} {ad : Nat → Nat} {lsM : Array Slot} {nL : Nat} {ls : List am_V} {k : Nat} {v : am_V} (hk : k + 1 < ls.length) (h : lv_has lsM nL ((k, am_tr fx ad v) :: (am_lv fx ad ls 0).filter (fun q => !(q.1 == k) && (!(q.1 == k + 1) && !(q.1 + 1 == k && q.2.category == 2))))) : lv_has lsM nL (am_lv fx ad (am_sto (am_kil ls (k + 1)) k v) 0) := by
  refine ⟨h.1, h.2.1, fun q hq => ?_⟩
  obtain ⟨j, w, h1, h2, rfl⟩ := am_lv_mem.mp hq
  rw [am_sto_get (by rw [am_kil_len]; omega)] at h1
  split at h1
  · next e => cases h1; subst e; exact h.2.2 _ (by simp)
  · next e =>
    split at h1
    · cases h1; exact absurd rfl h2
    · next e2 =>
      rw [am_kil_get] at h1
      split at h1
      · cases h1; exact absurd rfl h2
      · next e3 =>
        have e4 : ¬ j = k + 1 := fun q => e3 ⟨q, hk⟩
        refine h.2.2 _ (List.mem_cons_of_mem _ (List.mem_filter.mpr ⟨am_lv_mem.mpr ⟨j, w, h1, h2, rfl⟩, ?_⟩))
        simp only [Nat.zero_add, am_tr_cat]
        by_cases hw : w.1 = 1
        · have : ¬ j + 1 = k := fun q => e2 ⟨q, w, by rw [am_kil_get, if_neg e3]; exact h1, hw⟩
          simp [e, this, e4]
        · simp [e, hw, e4]
