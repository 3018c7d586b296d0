/-! cx2: methods computed -/
def cx_cmp (c : Jvm.ClassFile.Cond) (a b : Int) : Bool := match c with
  | .eq => decide (a = b)
  | .ne => decide (¬ a = b)
  | .lt => decide (a < b)
  | .ge => decide (b ≤ a)
  | .gt => decide (b < a)
  | .le => decide (a ≤ b)
theorem cx_cmp_ok {c : Jvm.ClassFile.Cond} {a b : Int} : cx_cmp c a b = true ↔ am_cmp c a b := by
  cases c <;> simp [cx_cmp, am_cmp]
def cx_take : Nat → List am_V → Option (List am_V × List am_V)
  | 0, st => some ([], st)
  | n + 1, v :: st => match cx_take n st with
    | some q => some (q.1 ++ [v], q.2)
    | none => none
  | _ + 1, [] => none
theorem cx_take_ok : ∀ {n : Nat} {st as r : List am_V} {k : List am_V → List am_V → Prop}, cx_take n st = some (as, r) → k as r → am_take n st k := by
  intro n
  induction n with
  | zero => intro st as r k h hk; simp only [cx_take] at h; injection h with h; injection h with h1 h2; subst h1; subst h2; exact hk
  | succ n ih =>
    intro st as r k h hk
    cases st with
    | nil => simp [cx_take] at h
    | cons v st =>
      simp only [cx_take] at h
      cases hq : cx_take n st with
      | none => rw [hq] at h; cases h
      | some q =>
        rw [hq] at h
        dsimp only at h
        injection h with h
        injection h with h1 h2
        subst h1; subst h2
        exact ih (k := fun as r => k (as ++ [v]) r) hq hk
def cx_mc (id : Nat) : Nat := (am_me.getD id (⟨"", "", ""⟩, ⟨#[]⟩, 0, none, 99, 9, 0, 0, 0, 0, 0, 0)).2.2.2.2.2.2.1
def cx_i (call : Nat → List am_V → cx_L → Option (am_V × cx_L)) (own : Nat) (b : ByteArray) (ini : Bool) (bz : Nat) (lim : Int) : Nat → Nat → List am_V → List am_V → cx_L → Option (am_V × cx_L)
  | 0, _, _, _, _ => none
  | f + 1, pc, ls, st, l => match decode b pc with
    | .error _ => none
    | .ok q => if am_lnk q.1 q.2 = true then (match am_res own pc q.1 with
      | none => none
      | some i => match i with
        | .return_ => (match st with
          | [] => if bz = 3 ∧ (ini = true → cx_h l 0 0 = lim) then some ((9, 0), l) else none
          | _ :: _ => none)
        | .goto t => cx_i call own b ini bz lim f t.toNat ls st l
        | .if_icmp c t => (match st with
          | w :: v :: s => if w.1 = 0 ∧ v.1 = 0 then (if cx_cmp c v.2 w.2 = true then cx_i call own b ini bz lim f t.toNat ls s l else cx_i call own b ini bz lim f (pc + q.2) ls s l) else none
          | _ => none)
        | .invokestatic k => (match cx_take (k % 16) st with
          | some z => if am_cat z.2 ≤ 8 ∧ k / 16 % 4 = 3 then (match call (k / 64) z.1 l with
            | some r => cx_i call own b ini bz lim f (pc + q.2) ls z.2 r.2
            | none => none) else none
          | none => none)
        | .invokespecial k => (match cx_take (k % 16) st with
          | some z => if am_cat z.2 ≤ 8 ∧ cx_h l 0 0 + (cx_mc (k / 64) : Nat) ≤ lim then (match call (k / 64) z.1 l with
            | some r => cx_i call own b ini bz lim f (pc + q.2) ls z.2 r.2
            | none => none) else none
          | none => none)
        | j => (match cx_s ini lim j ls st l with
          | some z => cx_i call own b ini bz lim f (pc + q.2) z.1 z.2.1 z.2.2
          | none => none)) else none
theorem cx_dec {own pc : Nat} {b : ByteArray} {q : Instr × Nat} {i : Instr} (hd : decode b pc = .ok q) (hl : am_lnk q.1 q.2 = true) (hr : am_res own pc q.1 = some i) : am_dec own b (pc + q.2) [i] pc = true := by
  obtain ⟨raw, len⟩ := q
  unfold am_dec
  rw [hd]
  dsimp only at hl hr ⊢
  rw [hr, hl]
  simp [am_dec]
section
variable {L : Nat} {xs : Nat → Int} {C : Nat → List am_V → am_H → am_K → Prop} {call : Nat → List am_V → cx_L → Option (am_V × cx_L)} {own : Nat} {b : ByteArray} {ini : Bool} {bz : Nat} {lim : Int}
theorem cx_i_ok (hc : ∀ (id : Nat) (as : List am_V) (l : cx_L) (r : am_V × cx_L) (K : am_K), call id as l = some r → K r.1 (cx_h r.2) → C id as (cx_h l) K) {Q : am_K} {r : am_V × cx_L} (hQ : Q r.1 (cx_h r.2)) : ∀ (f pc : Nat) (ls st : List am_V) (l : cx_L), cx_i call own b ini bz lim f pc ls st l = some r → am_T false ini bz lim L xs own b C Q pc ls st (cx_h l) := by
  intro f
  induction f with
  | zero => intro pc ls st l h; simp [cx_i] at h
  | succ f ih =>
    intro pc ls st l h
    simp only [cx_i] at h
    split at h
    · cases h
    · rename_i q hd
      split at h
      · rename_i hl
        split at h
        · cases h
        · rename_i i hr
          refine am_go (cx_dec hd hl hr) ?_
          split at h
          · split at h
            · split at h
              · rename_i a
                injection h with h
                subst h
                show (if bz = 3 then (if ini = true then (cx_h l 0 0 = lim ∧ Q (9, 0) (cx_h l)) else Q (9, 0) (cx_h l)) else False)
                rw [if_pos a.1]
                by_cases hi : ini = true
                · rw [if_pos hi]; exact ⟨a.2 hi, hQ⟩
                · rw [if_neg hi]; exact hQ
              · cases h
            · cases h
          · exact ih _ _ _ _ h
          · split at h
            · rename_i c t w v s
              split at h
              · rename_i a
                show (if w.1 = 0 then _ else False)
                rw [if_pos a.1]
                show (if v.1 = 0 then _ else False)
                rw [if_pos a.2]
                split at h
                · rename_i hcmp
                  exact ⟨fun _ => ih _ _ _ _ h, fun z => absurd (cx_cmp_ok.mp hcmp) z⟩
                · rename_i hcmp
                  exact ⟨fun z => absurd (cx_cmp_ok.mpr z) hcmp, fun _ => ih _ _ _ _ h⟩
              · cases h
            · cases h
          · split at h
            · rename_i k z hz
              split at h
              · rename_i a
                split at h
                · rename_i r2 hr2
                  refine cx_take_ok hz ?_
                  rw [if_pos a.1, if_neg (by omega), if_neg (by omega), if_neg (by omega)]
                  exact hc _ _ _ r2 _ hr2 (ih _ _ _ _ h)
                · cases h
              · cases h
            · cases h
          · split at h
            · rename_i k z hz
              split at h
              · rename_i a
                split at h
                · rename_i r2 hr2
                  refine cx_take_ok hz ?_
                  rw [if_pos a.1]
                  exact ⟨a.2, hc _ _ _ r2 _ hr2 (ih _ _ _ _ h)⟩
                · cases h
              · cases h
            · cases h
          · split at h
            · rename_i z hz
              exact cx_s_ok (ls' := z.1) (st' := z.2.1) (l' := z.2.2) hz (ih _ _ _ _ h)
            · cases h
      · cases h
end
def cx_c : Nat → Nat → List am_V → cx_L → Option (am_V × cx_L)
  | 0, _, _, _ => none
  | d + 1, id, as, l => match am_nth am_me id with
    | some c => if ¬ c.2.2.2.2.1 = 99 ∧ (c.2.2.2.2.2.1 == 0 || am_rcv c.2.2.2.2.1 as) = true ∧ ¬ id = am_lwid ∧ ¬ c.2.2.1 < (am_spl as).length then cx_i (cx_c d) c.2.2.2.2.1 c.2.1 (c.2.2.2.2.2.1 == 2) (am_rk c.2.2.2.1) (cx_h l 0 0 + (c.2.2.2.2.2.2.1 : Nat)) 3000 0 (am_ent as c.2.2.1) [] l else none
    | none => none
theorem cx_c_ok {L : Nat} {xs : Nat → Int} {P : Nat → List am_V → am_H → am_K → Prop} : ∀ (d id : Nat) (as : List am_V) (l : cx_L) (r : am_V × cx_L) (K : am_K), cx_c d id as l = some r → K r.1 (cx_h r.2) → am_C false L xs P d id as (cx_h l) K := by
  intro d
  induction d with
  | zero => intro id as l r K h; simp [cx_c] at h
  | succ d ih =>
    intro id as l r K h hK
    simp only [cx_c] at h
    unfold am_C
    split at h
    · rename_i c hc
      rw [hc]
      dsimp only
      split at h
      · rename_i a
        rw [if_neg a.1, if_pos a.2.1, if_neg a.2.2.1, if_neg a.2.2.2]
        exact cx_i_ok ih hK _ _ _ _ _ h
      · cases h
    · cases h
/-- so many instructions, one after the other -/
def cx_t (call : Nat → List am_V → cx_L → Option (am_V × cx_L)) (own : Nat) (b : ByteArray) (ini : Bool) (lim : Int) (y : Nat × List am_V × List am_V × cx_L) : Option (Nat × List am_V × List am_V × cx_L) := match decode b y.1 with
  | .error _ => none
  | .ok q => if am_lnk q.1 q.2 = true then (match am_res own y.1 q.1 with
    | none => none
    | some i => match i with
      | .goto t => some (t.toNat, y.2)
      | .if_icmp c t => (match y.2.2.1 with
        | w :: v :: s => if w.1 = 0 ∧ v.1 = 0 then (if cx_cmp c v.2 w.2 = true then some (t.toNat, y.2.1, s, y.2.2.2) else some (y.1 + q.2, y.2.1, s, y.2.2.2)) else none
        | _ => none)
      | .invokestatic k => (match cx_take (k % 16) y.2.2.1 with
        | some z => if am_cat z.2 ≤ 8 ∧ k / 16 % 4 = 3 then (match call (k / 64) z.1 y.2.2.2 with
          | some r => some (y.1 + q.2, y.2.1, z.2, r.2)
          | none => none) else none
        | none => none)
      | j => (match cx_s ini lim j y.2.1 y.2.2.1 y.2.2.2 with
        | some z => some (y.1 + q.2, z.1, z.2.1, z.2.2)
        | none => none)) else none
def cx_p (call : Nat → List am_V → cx_L → Option (am_V × cx_L)) (own : Nat) (b : ByteArray) (ini : Bool) (lim : Int) : Nat → Nat × List am_V × List am_V × cx_L → Option (Nat × List am_V × List am_V × cx_L)
  | 0, y => some y
  | f + 1, y => match cx_t call own b ini lim y with
    | some z => cx_p call own b ini lim f z
    | none => none
section
variable {L : Nat} {xs : Nat → Int} {C : Nat → List am_V → am_H → am_K → Prop} {call : Nat → List am_V → cx_L → Option (am_V × cx_L)} {own : Nat} {b : ByteArray} {ini : Bool} {bz : Nat} {lim : Int} {Q : am_K}
theorem cx_t_ok (hc : ∀ (id : Nat) (as : List am_V) (l : cx_L) (r : am_V × cx_L) (K : am_K), call id as l = some r → K r.1 (cx_h r.2) → C id as (cx_h l) K) {y z : Nat × List am_V × List am_V × cx_L} (h : cx_t call own b ini lim y = some z) (hQ : am_T false ini bz lim L xs own b C Q z.1 z.2.1 z.2.2.1 (cx_h z.2.2.2)) : am_T false ini bz lim L xs own b C Q y.1 y.2.1 y.2.2.1 (cx_h y.2.2.2) := by
  obtain ⟨pc, ls, st, l⟩ := y
  simp only [cx_t] at h
  split at h
  · cases h
  · rename_i q hd
    split at h
    · rename_i hl
      split at h
      · cases h
      · rename_i i hr
        refine am_go (cx_dec hd hl hr) ?_
        split at h
        · injection h with h; subst h; exact hQ
        · split at h
          · rename_i c t w v s
            split at h
            · rename_i a
              show (if w.1 = 0 then _ else False)
              rw [if_pos a.1]
              show (if v.1 = 0 then _ else False)
              rw [if_pos a.2]
              split at h
              · rename_i hcmp
                injection h with h; subst h
                exact ⟨fun _ => hQ, fun z => absurd (cx_cmp_ok.mp hcmp) z⟩
              · rename_i hcmp
                injection h with h; subst h
                exact ⟨fun z => absurd (cx_cmp_ok.mpr z) hcmp, fun _ => hQ⟩
            · cases h
          · cases h
        · split at h
          · rename_i k x hz
            split at h
            · rename_i a
              split at h
              · rename_i r2 hr2
                injection h with h; subst h
                refine cx_take_ok hz ?_
                rw [if_pos a.1, if_neg (by omega), if_neg (by omega), if_neg (by omega)]
                exact hc _ _ _ r2 _ hr2 hQ
              · cases h
            · cases h
          · cases h
        · split at h
          · rename_i x hz
            injection h with h; subst h
            exact cx_s_ok (ls' := x.1) (st' := x.2.1) (l' := x.2.2) hz hQ
          · cases h
    · cases h
theorem cx_p_ok (hc : ∀ (id : Nat) (as : List am_V) (l : cx_L) (r : am_V × cx_L) (K : am_K), call id as l = some r → K r.1 (cx_h r.2) → C id as (cx_h l) K) : ∀ (f : Nat) {y z : Nat × List am_V × List am_V × cx_L}, cx_p call own b ini lim f y = some z → am_T false ini bz lim L xs own b C Q z.1 z.2.1 z.2.2.1 (cx_h z.2.2.2) → am_T false ini bz lim L xs own b C Q y.1 y.2.1 y.2.2.1 (cx_h y.2.2.2) := by
  intro f
  induction f with
  | zero => intro y z h hQ; simp only [cx_p] at h; injection h with h; subst h; exact hQ
  | succ f ih =>
    intro y z h hQ
    simp only [cx_p] at h
    split at h
    · rename_i x hx
      exact cx_t_ok hc hx (ih h hQ)
    · cases h
end
def cx_is (z : Option (Nat × List am_V × List am_V × cx_L)) (y : Nat × List am_V × List am_V × cx_L) : Bool := match z with
  | some x => decide (x.1 = y.1) && (decide (x.2.1 = y.2.1) && (decide (x.2.2.1 = y.2.2.1) && decide (x.2.2.2 = y.2.2.2)))
  | none => false
theorem cx_is_ok {z : Option (Nat × List am_V × List am_V × cx_L)} {y : Nat × List am_V × List am_V × cx_L} (h : cx_is z y = true) : z = some y := by
  cases z with
  | none => cases h
  | some x =>
    obtain ⟨a, b, c, d⟩ := x
    obtain ⟨a', b', c', d'⟩ := y
    simp only [cx_is, Bool.and_eq_true, decide_eq_true_eq] at h
    obtain ⟨h1, h2, h3, h4⟩ := h
    rw [h1, h2, h3, h4]
