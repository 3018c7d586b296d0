/-! cx: what is made at the start is computed -/
abbrev cx_L : Type := List (Nat × Nat × Int)
def cx_h : cx_L → am_H
  | [] => fun _ _ => 0
  | q :: l => am_st (cx_h l) q.1 q.2.1 q.2.2
def cx_new (n : Nat) (l : cx_L) : Bool := l.all (fun q => !(q.1 == n + 1))
theorem cx_new_ok {n : Nat} : ∀ {l : cx_L}, cx_new n l = true → ∀ j, cx_h l (n + 1) j = 0 := by
  intro l
  induction l with
  | nil => intro _ j; rfl
  | cons q l ih =>
    intro h j
    have h2 : (!(q.1 == n + 1) && cx_new n l) = true := h
    rw [Bool.and_eq_true] at h2
    have hq : ¬ n + 1 = q.1 := fun e => by rw [← e] at h2; simp at h2
    show am_st (cx_h l) q.1 q.2.1 q.2.2 (n + 1) j = 0
    rw [st_ne hq]
    exact ih h2.2 j
def cx_fld (ci o j : Nat) : Option (Nat × Nat) := if (am_cell o).1 = 0 ∧ (am_cell o).2.1 = ci ∧ 0 < o then am_nth (am_cell o).2.2 j else none
def cx_aty (ty : Jvm.ClassFile.ArrayType) : Nat := match ty with | .int => 1 | .long => 2 | .byte => 3 | .boolean => 4 | _ => 99
/-- an instruction that goes on to the next -/
def cx_s (ini : Bool) (lim : Int) (i : Instr) (ls st : List am_V) (l : cx_L) : Option (List am_V × List am_V × cx_L) := match i with
  | .iconst n => some (ls, (0, n) :: st, l)
  | .iload k => match am_nth ls k with
    | some v => if v.1 = 0 then some (ls, (0, v.2) :: st, l) else none
    | none => none
  | .aload k => match am_nth ls k with
    | some v => if am_isr v.1 = true then some (ls, v :: st, l) else none
    | none => none
  | .istore k => match st with
    | v :: s => if v.1 = 0 ∧ k < ls.length then some (am_sto ls k (0, v.2), s, l) else none
    | [] => none
  | .iinc k n => match am_nth ls k with
    | some v => if v.1 = 0 ∧ am_inI (v.2 + n) then some (am_sto ls k (0, v.2 + n), st, l) else none
    | none => none
  | .iadd => match st with
    | w :: v :: s => if w.1 = 0 ∧ v.1 = 0 ∧ am_inI (v.2 + w.2) then some (ls, (0, v.2 + w.2) :: s, l) else none
    | _ => none
  | .imul => match st with
    | w :: v :: s => if w.1 = 0 ∧ v.1 = 0 ∧ am_inI (v.2 * w.2) then some (ls, (0, v.2 * w.2) :: s, l) else none
    | _ => none
  | .dup => match st with
    | v :: s => if v.1 = 1 then none else some (ls, v :: v :: s, l)
    | [] => none
  | .nop => match st with
    | v :: s => if v.1 = 2 ∧ 0 < v.2 ∧ am_cat s ≤ 8 then some (ls, s, l) else none
    | [] => none
  | .getfield k => match st with
    | v :: s => if v.1 = 2 ∧ 0 < v.2 then (match cx_fld (k / 64) v.2.toNat (k % 64) with
      | some f => if f.1 = 8 then (if cx_h l v.2.toNat (k % 64) = f.2 then some (ls, (2, (f.2 : Int)) :: s, l) else none) else some (ls, (f.1, cx_h l v.2.toNat (k % 64)) :: s, l)
      | none => none) else none
    | [] => none
  | .putfield k => match st with
    | w :: v :: s => if v.1 = 2 ∧ 0 < v.2 then (match cx_fld (k / 64) v.2.toNat (k % 64) with
      | some f => if f.1 = 8 then (if ini = true ∧ w.1 = 2 then some (ls, s, (v.2.toNat, k % 64, w.2) :: l) else none) else (if w.1 = f.1 then some (ls, s, (v.2.toNat, k % 64, w.2) :: l) else none)
      | none => none) else none
    | _ => none
  | .iaload => match st with
    | w :: v :: s => if w.1 = 0 ∧ v.1 = 2 ∧ 0 < v.2 ∧ (am_cell v.2.toNat).1 = 1 ∧ 0 ≤ w.2 ∧ w.2 < (am_cell v.2.toNat).2.1 then some (ls, (0, cx_h l v.2.toNat w.2.toNat) :: s, l) else none
    | _ => none
  | .iastore => match st with
    | x :: w :: v :: s => if x.1 = 0 ∧ w.1 = 0 ∧ v.1 = 2 ∧ 0 < v.2 ∧ (am_cell v.2.toNat).1 = 1 ∧ 0 ≤ w.2 ∧ w.2 < (am_cell v.2.toNat).2.1 then some (ls, s, (v.2.toNat, w.2.toNat, x.2) :: l) else none
    | _ => none
  | .bastore => match st with
    | x :: w :: v :: s => if x.1 = 0 ∧ w.1 = 0 ∧ v.1 = 2 ∧ 0 < v.2 ∧ (am_cell v.2.toNat).1 = 4 ∧ 0 ≤ w.2 ∧ w.2 < (am_cell v.2.toNat).2.1 ∧ 0 ≤ x.2 ∧ x.2 ≤ 1 then some (ls, s, (v.2.toNat, w.2.toNat, x.2) :: l) else none
    | _ => none
  | .new ci => if 0 ≤ cx_h l 0 0 ∧ (am_cell ((cx_h l 0 0).toNat + 1)).1 = 0 ∧ (am_cell ((cx_h l 0 0).toNat + 1)).2.1 = ci ∧ cx_new (cx_h l 0 0).toNat l = true ∧ cx_h l 0 0 + 1 ≤ lim then some (ls, (2, cx_h l 0 0 + 1) :: st, (0, 0, cx_h l 0 0 + 1) :: l) else none
  | .newarray ty => match st with
    | x :: s => if x.1 = 0 ∧ 0 ≤ cx_h l 0 0 ∧ (am_cell ((cx_h l 0 0).toNat + 1)).1 = cx_aty ty ∧ x.2 = (am_cell ((cx_h l 0 0).toNat + 1)).2.1 ∧ cx_new (cx_h l 0 0).toNat l = true ∧ cx_h l 0 0 + 1 ≤ lim then some (ls, (2, cx_h l 0 0 + 1) :: s, (0, 0, cx_h l 0 0 + 1) :: l) else none
    | [] => none
  | _ => none
theorem cx_ld {ls : List am_V} : ∀ {k : Nat} {v : am_V} {K : am_V → Prop}, am_nth ls k = some v → K v → am_ld ls k K := by
  induction ls with
  | nil => intro k v K h; simp [am_nth] at h
  | cons a r ih =>
    intro k v K h hK
    cases k with
    | zero => simp [am_nth] at h; subst h; exact hK
    | succ k => exact ih (by simpa [am_nth] using h) hK
theorem cx_fld_ok {ci o j : Nat} {f : Nat × Nat} (h : cx_fld ci o j = some f) : ((am_cell o).1 = 0 ∧ (am_cell o).2.1 = ci ∧ 0 < o) ∧ am_nth (am_cell o).2.2 j = some f := by
  unfold cx_fld at h
  split at h
  · rename_i a; exact ⟨a, h⟩
  · cases h
section
variable {ini : Bool} {bz : Nat} {lim : Int} {L : Nat} {xs : Nat → Int} {C : Nat → List am_V → am_H → am_K → Prop} {Q : am_K} {T : Nat → List am_V → List am_V → am_H → Prop} {e : Nat} {ls st ls' st' : List am_V} {l l' : cx_L}
theorem cx_get {ci j : Nat} {o : Int} {f : Nat × Nat} {k : am_V → Prop} (ho : 0 < o) (hf : cx_fld ci o.toNat j = some f) (h8 : f.1 = 8 → cx_h l o.toNat j = f.2 ∧ k (2, f.2)) (hn : ¬ f.1 = 8 → k (f.1, cx_h l o.toNat j)) : am_get false ci o j (cx_h l) k := by
  obtain ⟨a, b⟩ := cx_fld_ok hf
  unfold am_get
  rw [if_pos ⟨a.1, a.2.1, ho⟩, b]
  dsimp only
  by_cases h : f.1 = 8
  · rw [if_pos h, if_neg (by decide)]; exact h8 h
  · rw [if_neg h]; exact hn h
theorem cx_put {ci j : Nat} {o : Int} {f : Nat × Nat} {v : am_V} {k : am_H → Prop} (ho : 0 < o) (hf : cx_fld ci o.toNat j = some f) (h8 : f.1 = 8 → ini = true ∧ v.1 = 2) (hn : ¬ f.1 = 8 → v.1 = f.1) (hk : k (am_st (cx_h l) o.toNat j v.2)) : am_put false ini ci o j v (cx_h l) k := by
  obtain ⟨a, b⟩ := cx_fld_ok hf
  unfold am_put
  rw [if_pos ⟨a.1, a.2.1, ho⟩, b]
  dsimp only
  by_cases h : f.1 = 8
  · have := h8 h
    rw [if_pos h, if_neg (by rintro (q | q); exact absurd q (by decide); rw [this.1] at q; exact absurd q (by decide)), if_pos this.2]; exact hk
  · rw [if_neg h, if_pos (hn h)]; exact hk
theorem cx_s_ok {i : Instr} (h : cx_s ini lim i ls st l = some (ls', st', l')) (hT : T e ls' st' (cx_h l')) : am_blk false ini bz lim L xs C Q T e [i] ls st (cx_h l) := by
  unfold cx_s at h
  split at h
  · injection h with h; injection h with h1 h2; injection h2 with h2 h3; subst h1; subst h2; subst h3; exact hT
  · split at h
    · rename_i v hv
      split at h
      · rename_i a
        injection h with h; injection h with h1 h2; injection h2 with h2 h3; subst h1; subst h2; subst h3
        refine cx_ld hv ?_
        rw [if_pos a]; exact hT
      · cases h
    · cases h
  · split at h
    · rename_i v hv
      split at h
      · rename_i a
        injection h with h; injection h with h1 h2; injection h2 with h2 h3; subst h1; subst h2; subst h3
        refine cx_ld hv ?_
        rw [if_pos a]; exact hT
      · cases h
    · cases h
  · split at h
    · rename_i v s
      split at h
      · rename_i a
        injection h with h; injection h with h1 h2; injection h2 with h2 h3; subst h1; subst h2; subst h3
        show (if v.1 = 0 then _ else False)
        rw [if_pos a.1]
        show (if _ then _ else False)
        rw [if_pos a.2]; exact hT
      · cases h
    · cases h
  · split at h
    · rename_i v hv
      split at h
      · rename_i a
        injection h with h; injection h with h1 h2; injection h2 with h2 h3; subst h1; subst h2; subst h3
        refine cx_ld hv ?_
        rw [if_pos a.1]; exact ⟨a.2, hT⟩
      · cases h
    · cases h
  · split at h
    · rename_i w v s
      split at h
      · rename_i a
        injection h with h; injection h with h1 h2; injection h2 with h2 h3; subst h1; subst h2; subst h3
        show (if w.1 = 0 then _ else False)
        rw [if_pos a.1]
        show (if v.1 = 0 then _ else False)
        rw [if_pos a.2.1]; exact ⟨a.2.2, hT⟩
      · cases h
    · cases h
  · split at h
    · rename_i w v s
      split at h
      · rename_i a
        injection h with h; injection h with h1 h2; injection h2 with h2 h3; subst h1; subst h2; subst h3
        show (if w.1 = 0 then _ else False)
        rw [if_pos a.1]
        show (if v.1 = 0 then _ else False)
        rw [if_pos a.2.1]; exact ⟨a.2.2, hT⟩
      · cases h
    · cases h
  · split at h
    · rename_i v s
      split at h
      · cases h
      · rename_i a
        injection h with h; injection h with h1 h2; injection h2 with h2 h3; subst h1; subst h2; subst h3
        show (if v.1 = 1 then False else _)
        rw [if_neg a]; exact hT
    · cases h
  · split at h
    · rename_i v s
      split at h
      · rename_i a
        injection h with h; injection h with h1 h2; injection h2 with h2 h3; subst h1; subst h2; subst h3
        show (if am_isr v.1 = true then _ else False)
        rw [if_pos (by rw [a.1]; rfl)]
        show (if v.1 = 2 ∧ 0 < v.2 ∧ am_cat _ ≤ 8 then _ else False)
        rw [if_pos a]; exact hT
      · cases h
    · cases h
  · split at h
    · rename_i k v s
      split at h
      · rename_i a
        split at h
        · rename_i f hf
          show (if am_isr v.1 = true then _ else False)
          rw [if_pos (by rw [a.1]; rfl)]
          show (if v.1 = 2 then _ else _)
          rw [if_pos a.1]
          split at h
          · rename_i f8
            split at h
            · rename_i hv
              injection h with h; injection h with h1 h2; injection h2 with h2 h3; subst h1; subst h2; subst h3
              exact cx_get a.2 hf (fun _ => ⟨hv, hT⟩) (fun q => absurd f8 q)
            · cases h
          · rename_i f8
            injection h with h; injection h with h1 h2; injection h2 with h2 h3; subst h1; subst h2; subst h3
            exact cx_get a.2 hf (fun q => absurd q f8) (fun _ => hT)
        · cases h
      · cases h
    · cases h
  · split at h
    · rename_i k w v s
      split at h
      · rename_i a
        split at h
        · rename_i f hf
          show (if v.1 = 2 then _ else False)
          rw [if_pos a.1]
          split at h
          · rename_i f8
            split at h
            · rename_i hv
              injection h with h; injection h with h1 h2; injection h2 with h2 h3; subst h1; subst h2; subst h3
              exact cx_put a.2 hf (fun _ => hv) (fun q => absurd f8 q) hT
            · cases h
          · rename_i f8
            split at h
            · rename_i hv
              injection h with h; injection h with h1 h2; injection h2 with h2 h3; subst h1; subst h2; subst h3
              exact cx_put a.2 hf (fun q => absurd q f8) (fun _ => hv) hT
            · cases h
        · cases h
      · cases h
    · cases h
  · split at h
    · rename_i w v s
      split at h
      · rename_i a
        injection h with h; injection h with h1 h2; injection h2 with h2 h3; subst h1; subst h2; subst h3
        show (if w.1 = 0 then _ else False)
        rw [if_pos a.1]
        show (if am_isr v.1 = true then _ else False)
        rw [if_pos (by rw [a.2.1]; rfl)]
        show (if v.1 = 2 then _ else _)
        rw [if_pos a.2.1]
        unfold am_arr
        rw [if_pos ⟨a.2.2.2.1, a.2.2.1⟩]; exact ⟨a.2.2.2.2, hT⟩
      · cases h
    · cases h
  · split at h
    · rename_i x w v s
      split at h
      · rename_i a
        injection h with h; injection h with h1 h2; injection h2 with h2 h3; subst h1; subst h2; subst h3
        show (if x.1 = 0 then _ else False)
        rw [if_pos a.1]
        show (if w.1 = 0 then _ else False)
        rw [if_pos a.2.1]
        show (if v.1 = 2 then _ else False)
        rw [if_pos a.2.2.1]
        unfold am_arr
        rw [if_pos ⟨a.2.2.2.2.1, a.2.2.2.1⟩]; exact ⟨a.2.2.2.2.2, hT⟩
      · cases h
    · cases h
  · split at h
    · rename_i x w v s
      split at h
      · rename_i a
        injection h with h; injection h with h1 h2; injection h2 with h2 h3; subst h1; subst h2; subst h3
        show (if x.1 = 0 then _ else False)
        rw [if_pos a.1]
        show (if w.1 = 0 then _ else False)
        rw [if_pos a.2.1]
        show (if v.1 = 2 then _ else False)
        rw [if_pos a.2.2.1]
        have k4 := a.2.2.2.2.1
        rw [if_neg (by rw [k4]; decide)]
        unfold am_arr
        rw [if_pos ⟨k4, a.2.2.2.1⟩]; exact ⟨a.2.2.2.2.2, hT⟩
      · cases h
    · cases h
  · split at h
    · rename_i a
      injection h with h; injection h with h1 h2; injection h2 with h2 h3; subst h1; subst h2; subst h3
      have en : cx_h l 0 0 = ((cx_h l 0 0).toNat : Nat) := by omega
      refine ⟨(cx_h l 0 0).toNat, en, a.2.1, a.2.2.1, cx_new_ok a.2.2.2.1, a.2.2.2.2, ?_⟩
      rw [← en]; exact hT
    · cases h
  · split at h
    · rename_i x s
      split at h
      · rename_i a
        injection h with h; injection h with h1 h2; injection h2 with h2 h3; subst h1; subst h2; subst h3
        have en : cx_h l 0 0 = ((cx_h l 0 0).toNat : Nat) := by omega
        show (if x.1 = 0 then _ else False)
        rw [if_pos a.1]
        refine ⟨(cx_h l 0 0).toNat, en, a.2.2.1, a.2.2.2.1, cx_new_ok a.2.2.2.2.1, a.2.2.2.2.2, ?_⟩
        rw [← en]; exact hT
      · cases h
    · cases h
  · cases h
end
