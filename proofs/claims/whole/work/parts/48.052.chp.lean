/-! chp: a charter's text, read -/
abbrev Tk : Type := Int × Nat × Nat
def Tk.k (t : Tk) : Int := t.1
def Tk.fr (t : Tk) : Nat := t.2.1
def Tk.to (t : Tk) : Nat := t.2.2
def Dg (s : Nat → Int) (j : Nat) : Prop := 48 ≤ s j ∧ s j ≤ 57
def Ws (s : Nat → Int) (j : Nat) : Prop := s j = 32 ∨ s j = 10
noncomputable def tfr (s : Nat → Int) (n p : Nat) : Nat := run (Ws s) (n - p) p
noncomputable def tk (s : Nat → Int) (n p : Nat) : Tk := by classical exact (if n ≤ tfr s n p then ⟨0, tfr s n p, tfr s n p⟩ else if Sm s (tfr s n p) then ⟨1, tfr s n p, run (Sm s) (n - tfr s n p) (tfr s n p)⟩ else if Dg s (tfr s n p) then ⟨2, tfr s n p, run (Dg s) (n - tfr s n p) (tfr s n p)⟩ else ⟨if s (tfr s n p) = 59 then 3 else 4, tfr s n p, tfr s n p + 1⟩)
theorem tfr_bnd {s : Nat → Int} {n p : Nat} (hp : p ≤ n) : p ≤ tfr s n p ∧ tfr s n p ≤ n := by
  have := run_bnd (ok := Ws s) (n - p) p
  unfold tfr
  omega
theorem run_in {ok : Nat → Prop} {n p : Nat} (hp : p < n) (h : ok p) : p + 1 ≤ run ok (n - p) p ∧ run ok (n - p) p ≤ n := by
  rw [show n - p = (n - (p + 1)) + 1 by omega, run_step h]
  have := run_bnd (ok := ok) (n - (p + 1)) (p + 1)
  omega
theorem run_all {ok : Nat → Prop} : ∀ (f p j : Nat), p ≤ j → j < run ok f p → ok j := by
  intro f
  induction f with
  | zero => intro p j h1 h2; simp [run] at h2; omega
  | succ f ih =>
    intro p j h1 h2
    by_cases h : ok p
    · rw [run_step h] at h2
      by_cases e : j = p
      · rw [e]; exact h
      · exact ih (p + 1) j (by omega) h2
    · rw [run_stop h] at h2; omega
theorem tk_bnd {s : Nat → Int} {n p : Nat} (hp : p ≤ n) : p ≤ (tk s n p).fr ∧ (tk s n p).fr ≤ (tk s n p).to ∧ (tk s n p).to ≤ n ∧ (¬ (tk s n p).k = 0 → p + 1 ≤ (tk s n p).to ∧ (tk s n p).fr + 1 ≤ (tk s n p).to) ∧ (0 ≤ (tk s n p).k ∧ (tk s n p).k ≤ 4) := by
  have b := tfr_bnd (s := s) hp
  unfold tk
  by_cases h0 : n ≤ tfr s n p
  · rw [if_pos h0]; dsimp only [Tk.k, Tk.fr, Tk.to]; exact ⟨b.1, Nat.le_refl _, b.2, fun z => absurd rfl z, by decide, by decide⟩
  · rw [if_neg h0]
    by_cases h1 : Sm s (tfr s n p)
    · rw [if_pos h1]
      have := run_in (n := n) (by omega) h1
      dsimp only [Tk.k, Tk.fr, Tk.to]
      exact ⟨b.1, by omega, by omega, fun _ => ⟨by omega, by omega⟩, by decide, by decide⟩
    · rw [if_neg h1]
      by_cases h2 : Dg s (tfr s n p)
      · rw [if_pos h2]
        have := run_in (n := n) (by omega) h2
        dsimp only [Tk.k, Tk.fr, Tk.to]
        exact ⟨b.1, by omega, by omega, fun _ => ⟨by omega, by omega⟩, by decide, by decide⟩
      · rw [if_neg h2]
        dsimp only [Tk.k, Tk.fr, Tk.to]
        refine ⟨b.1, by omega, by omega, fun _ => ⟨by omega, by omega⟩, ?_, ?_⟩ <;> split <;> decide
theorem tk_sm {s : Nat → Int} {n p : Nat} (h : (tk s n p).k = 1) : ∀ j, (tk s n p).fr ≤ j → j < (tk s n p).to → Sm s j := by
  unfold tk at h ⊢
  by_cases h0 : n ≤ tfr s n p
  · rw [if_pos h0] at h; dsimp only [Tk.k, Tk.fr, Tk.to] at h; exact absurd h (by decide)
  · rw [if_neg h0] at h ⊢
    by_cases h1 : Sm s (tfr s n p)
    · rw [if_pos h1]; exact fun j a b => run_all _ _ j a b
    · rw [if_neg h1] at h
      by_cases h2 : Dg s (tfr s n p)
      · rw [if_pos h2] at h; dsimp only [Tk.k, Tk.fr, Tk.to] at h; exact absurd h (by decide)
      · rw [if_neg h2] at h
        dsimp only [Tk.k, Tk.fr, Tk.to] at h
        split at h <;> exact absurd h (by decide)
def W12 : List (List Int) := [[109, 97, 121], [115, 117, 114, 101], [108, 101, 116, 116, 101, 114, 115], [108, 105, 110, 101, 115], [119, 105, 100, 101], [114, 101, 99, 117, 116], [98, 97, 114], [100, 105, 115, 99], [98, 117, 116, 116, 111, 110], [98, 111, 111, 116, 115], [116, 101, 101, 116, 104], [110, 101, 97, 114]]
def wm (s : Nat → Int) (a b : Nat) (w : List Int) : Prop := w.length = b - a ∧ ∀ i, i < w.length → w.getD i 0 = s (a + i)
noncomputable def wfr (s : Nat → Int) (a b : Nat) : Nat → Nat → Int
  | 0, _ => -1
  | f + 1, k => by classical exact (if wm s a b (W12.getD k []) then (k : Int) else wfr s a b f (k + 1))
noncomputable def widx (s : Nat → Int) (a b : Nat) : Int := wfr s a b 12 0
theorem wfr_bnd {s : Nat → Int} {a b : Nat} : ∀ f k, -1 ≤ wfr s a b f k ∧ wfr s a b f k < k + f + (if f = 0 then 1 else 0) := by
  intro f
  induction f with
  | zero => intro k; simp only [wfr]; constructor <;> simp <;> omega
  | succ f ih =>
    intro k
    simp only [wfr]
    split
    · constructor <;> simp <;> omega
    · have := ih (k + 1)
      by_cases e : f = 0
      · subst e; simp only [wfr] at this ⊢; constructor <;> simp <;> omega
      · rw [if_neg e] at this
        rw [if_neg (by omega)]
        omega
theorem widx_bnd {s : Nat → Int} {a b : Nat} : -1 ≤ widx s a b ∧ widx s a b ≤ 11 := by
  have := wfr_bnd (s := s) (a := a) (b := b) 12 0
  unfold widx
  rw [if_neg (by decide)] at this
  omega
def nvl (s : Nat → Int) : Nat → Nat → Int → Int
  | 0, _, v => v
  | c + 1, p, v => nvl s c (p + 1) (if v ≤ 999 then 10 * v + s p - 48 else v)
abbrev Cs : Type := Tk × Nat × (Nat → Int) × (Nat → Int) × (Nat → Prop) × Nat × (Nat → Nat) × (Nat → Int)
def Cs.t (c : Cs) : Tk := c.1
def Cs.np (c : Cs) : Nat := c.2.1
def Cs.pr (c : Cs) : Nat → Int := c.2.2.1
def Cs.se (c : Cs) : Nat → Int := c.2.2.2.1
def Cs.td (c : Cs) : Nat → Prop := c.2.2.2.2.1
def Cs.nq (c : Cs) : Nat := c.2.2.2.2.2.1
def Cs.bz (c : Cs) : Nat → Nat := c.2.2.2.2.2.2.1
def Cs.bl (c : Cs) : Nat → Int := c.2.2.2.2.2.2.2
abbrev Rs : Type := Cs ⊕ (Int × Nat)
abbrev Rs.ok (c : Cs) : Rs := Sum.inl c
abbrev Rs.bad (w : Int) (p : Nat) : Rs := Sum.inr (w, p)
theorem Rs.ob {c : Cs} {w : Int} {p : Nat} : ¬ Rs.ok c = Rs.bad w p := fun h => nomatch h
theorem Rs.bo {c : Cs} {w : Int} {p : Nat} : ¬ Rs.bad w p = Rs.ok c := fun h => nomatch h
def ltv (t : Nat) : Int := if t = 4 then 0 else 1
def htv (t : Nat) : Int := if t = 0 then 4 else if t = 3 then 8 else 7
def lsv (k : Nat) : Int := if k = 2 then 5 else 1
def hsv (k : Nat) : Int := if k = 0 then 66 else if k = 1 then 6 else if k = 2 then 30 else 99
noncomputable def adv (s : Nat → Int) (n : Nat) (c : Cs) : Cs := ⟨tk s n c.t.to, c.np, c.pr, c.se, c.td, c.nq, c.bz, c.bl⟩
def setpr (c : Cs) (pr : Nat → Int) : Cs := ⟨c.t, c.np, pr, c.se, c.td, c.nq, c.bz, c.bl⟩
def setnp (c : Cs) : Cs := ⟨c.t, c.np + 1, c.pr, c.se, c.td, c.nq, c.bz, c.bl⟩
def setse (c : Cs) (k : Nat) (v : Int) : Cs := ⟨c.t, c.np, c.pr, up c.se k v, fun j => j = k ∨ c.td j, c.nq, c.bz, c.bl⟩
noncomputable def wd (s : Nat → Int) (c : Cs) : Int := by classical exact (if c.t.k = 1 then widx s c.t.fr c.t.to else -1)
noncomputable def nmv (s : Nat → Int) (c : Cs) : Int := nvl s (c.t.to - c.t.fr) c.t.fr 0
theorem wd_bnd {s : Nat → Int} {c : Cs} : -1 ≤ wd s c ∧ wd s c ≤ 11 := by
  unfold wd
  split
  · exact widx_bnd
  · decide
/-- which test a word is -/
noncomputable def tst (s : Nat → Int) (c : Cs) : Nat := (wd s c - 7).toNat
noncomputable def tests (s : Nat → Int) (n : Nat) : Nat → Cs → Bool → Rs
  | 0, c, _ => .ok c
  | f + 1, c, any => by classical exact (if 7 ≤ wd s c then
      (if ¬ c.pr (6 * c.np + 1 + tst s c) = -1 then .bad 3 c.t.fr
      else if tst s c = 1 ∨ tst s c = 2 then tests s n f (setpr (adv s n c) (up c.pr (6 * c.np + 1 + tst s c) 0)) true
      else if ¬ (adv s n c).t.k = 2 then .bad 1 (adv s n c).t.fr
      else if ¬ (ltv (tst s c) ≤ nmv s (adv s n c) ∧ nmv s (adv s n c) ≤ htv (tst s c)) then .bad 2 (adv s n c).t.fr
      else tests s n f (setpr (adv s n (adv s n c)) (up c.pr (6 * c.np + 1 + tst s c) (nmv s (adv s n c)))) true)
    else if any = true then .ok (setnp c) else .bad 1 c.t.fr)
/-- the row of a proof is opened -/
def row0 (pr : Nat → Int) (np : Nat) (w : Int) : Nat → Int := fun j => if j = 6 * np then w else if 6 * np < j ∧ j < 6 * np + 6 then -1 else pr j
noncomputable def prf (s : Nat → Int) (n : Nat) (c : Cs) : Rs := by classical exact (if c.np = 12 then .bad 2 c.t.fr else tests s n (n + 2) (setpr (adv s n c) (row0 c.pr c.np (wd s c))) false)
/-- the word is a bar already -/
def Dup (s : Nat → Int) (c : Cs) : Prop := ∃ k, k < c.nq ∧ c.bz k = c.t.to - c.t.fr ∧ ∀ i, i < c.t.to - c.t.fr → c.bl (8 * k + i) = s (c.t.fr + i)
/-- with the word as one bar more -/
def addb (s : Nat → Int) (c : Cs) : Cs := ⟨c.t, c.np, c.pr, c.se, c.td, c.nq + 1, fun k => if k = c.nq then c.t.to - c.t.fr else c.bz k, fun j => if 8 * c.nq ≤ j ∧ j < 8 * c.nq + (c.t.to - c.t.fr) then s (c.t.fr + (j - 8 * c.nq)) else c.bl j⟩
noncomputable def brs (s : Nat → Int) (n : Nat) : Nat → Cs → Bool → Rs
  | 0, c, _ => .ok c
  | f + 1, c, any => by classical exact (if c.t.k = 1 then
      (if 8 < c.t.to - c.t.fr ∨ c.nq = 8 then .bad 2 c.t.fr
      else if Dup s c then .bad 3 c.t.fr
      else brs s n f (adv s n (addb s c)) true)
    else if any = true then .ok c else .bad 1 c.t.fr)
noncomputable def stg (s : Nat → Int) (n : Nat) (c : Cs) (k : Nat) : Rs := by classical exact (if c.td k then .bad 3 c.t.fr
  else if ¬ (adv s n c).t.k = 2 then .bad 1 (adv s n c).t.fr
  else if ¬ (lsv k ≤ nmv s (adv s n c) ∧ nmv s (adv s n c) ≤ hsv k) then .bad 2 (adv s n c).t.fr
  else .ok (setse (adv s n (adv s n c)) k (nmv s (adv s n c))))
noncomputable def lin (s : Nat → Int) (n : Nat) (c : Cs) : Rs := by classical exact (if ¬ (0 ≤ wd s c ∧ wd s c ≤ 6) then .bad 1 c.t.fr
  else if wd s c ≤ 1 then prf s n c
  else if wd s c = 6 then brs s n (n + 2) (adv s n c) false
  else stg s n c (wd s c - 2).toNat)
noncomputable def lns (s : Nat → Int) (n : Nat) : Nat → Cs → Nat → Rs × Nat
  | 0, c, a => (.ok c, a)
  | f + 1, c, a => by classical exact (if c.t.k = 0 then (.ok c, a) else match lin s n c with
    | .inr x => (Rs.bad x.1 x.2, a)
    | .inl c1 => if ¬ c1.t.k = 3 then (.bad 1 c1.t.fr, a) else lns s n f (adv s n c1) (a + 1))
noncomputable def cs0 (s : Nat → Int) (n : Nat) : Cs := ⟨tk s n 0, 0, fun _ => 0, fun k => if k = 0 then 66 else if k = 1 then 4 else if k = 2 then 18 else 10, fun _ => False, 0, fun _ => 0, fun _ => 0⟩
/-- what a state of the reading holds -/
def Cw (s : Nat → Int) (n : Nat) (c : Cs) : Prop := (c.t.fr ≤ c.t.to) ∧ (c.t.to ≤ n) ∧ (¬ c.t.k = 0 → c.t.fr + 1 ≤ c.t.to) ∧ (0 ≤ c.t.k ∧ c.t.k ≤ 4) ∧ (c.t.k = 1 → ∀ j, c.t.fr ≤ j → j < c.t.to → Sm s j) ∧ (c.np ≤ 12) ∧ (c.nq ≤ 8) ∧ (∀ k, k < c.nq → 1 ≤ c.bz k ∧ c.bz k ≤ 8 ∧ ∀ i, i < c.bz k → 97 ≤ c.bl (8 * k + i) ∧ c.bl (8 * k + i) ≤ 122) ∧ (c.t.k = 2 → ∀ j, c.t.fr ≤ j → j < c.t.to → Dg s j)
theorem Cw.fr {s : Nat → Int} {n : Nat} {c : Cs} (s_ : Cw s n c) : c.t.fr ≤ c.t.to := s_.1
theorem Cw.to {s : Nat → Int} {n : Nat} {c : Cs} (s_ : Cw s n c) : c.t.to ≤ n := s_.2.1
theorem Cw.ad {s : Nat → Int} {n : Nat} {c : Cs} (s_ : Cw s n c) : ¬ c.t.k = 0 → c.t.fr + 1 ≤ c.t.to := s_.2.2.1
theorem Cw.k4 {s : Nat → Int} {n : Nat} {c : Cs} (s_ : Cw s n c) : 0 ≤ c.t.k ∧ c.t.k ≤ 4 := s_.2.2.2.1
theorem Cw.sm {s : Nat → Int} {n : Nat} {c : Cs} (s_ : Cw s n c) : c.t.k = 1 → ∀ j, c.t.fr ≤ j → j < c.t.to → Sm s j := s_.2.2.2.2.1
theorem Cw.np {s : Nat → Int} {n : Nat} {c : Cs} (s_ : Cw s n c) : c.np ≤ 12 := s_.2.2.2.2.2.1
theorem Cw.nq {s : Nat → Int} {n : Nat} {c : Cs} (s_ : Cw s n c) : c.nq ≤ 8 := s_.2.2.2.2.2.2.1
theorem Cw.bz {s : Nat → Int} {n : Nat} {c : Cs} (s_ : Cw s n c) : ∀ k, k < c.nq → 1 ≤ c.bz k ∧ c.bz k ≤ 8 ∧ ∀ i, i < c.bz k → 97 ≤ c.bl (8 * k + i) ∧ c.bl (8 * k + i) ≤ 122 := s_.2.2.2.2.2.2.2.1
theorem Cw.dg {s : Nat → Int} {n : Nat} {c : Cs} (s_ : Cw s n c) : c.t.k = 2 → ∀ j, c.t.fr ≤ j → j < c.t.to → Dg s j := s_.2.2.2.2.2.2.2.2
theorem tk_dg {s : Nat → Int} {n p : Nat} (h : (tk s n p).k = 2) : ∀ j, (tk s n p).fr ≤ j → j < (tk s n p).to → Dg s j := by
  unfold tk at h ⊢
  by_cases h0 : n ≤ tfr s n p
  · rw [if_pos h0] at h; dsimp only [Tk.k, Tk.fr, Tk.to] at h; exact absurd h (by decide)
  · rw [if_neg h0] at h ⊢
    by_cases h1 : Sm s (tfr s n p)
    · rw [if_pos h1] at h; dsimp only [Tk.k, Tk.fr, Tk.to] at h; exact absurd h (by decide)
    · rw [if_neg h1] at h ⊢
      by_cases h2 : Dg s (tfr s n p)
      · rw [if_pos h2]; exact fun j a b => run_all _ _ j a b
      · rw [if_neg h2] at h
        dsimp only [Tk.k, Tk.fr, Tk.to] at h
        split at h <;> exact absurd h (by decide)
theorem Cw.adv {s : Nat → Int} {n : Nat} {c : Cs} (w : Cw s n c) : Cw s n (adv s n c) ∧ c.t.to ≤ (adv s n c).t.to := by
  have b := tk_bnd (s := s) (n := n) (p := c.t.to) w.to
  refine ⟨⟨b.2.1, b.2.2.1, fun z => (b.2.2.2.1 z).2, b.2.2.2.2, fun z => tk_sm z, w.np, w.nq, w.bz, fun z => tk_dg z⟩, by show c.t.to ≤ (tk s n c.t.to).to; omega⟩
theorem adv_to {s : Nat → Int} {n : Nat} {c : Cs} (w : Cw s n c) (h : ¬ (adv s n c).t.k = 0) : c.t.to + 1 ≤ (adv s n c).t.to := (tk_bnd (s := s) (n := n) (p := c.t.to) w.to).2.2.2.1 h |>.1
theorem Cw.pr {s : Nat → Int} {n : Nat} {c : Cs} {pr : Nat → Int} (w : Cw s n c) : Cw s n (setpr c pr) := ⟨w.fr, w.to, w.ad, w.k4, w.sm, w.np, w.nq, w.bz, w.dg⟩
theorem Cw.addb {s : Nat → Int} {n : Nat} {c : Cs} (w : Cw s n c) (hk : c.t.k = 1) (h8 : ¬ (8 < c.t.to - c.t.fr ∨ c.nq = 8)) : Cw s n (addb s c) := by
  have nq := w.nq
  have ad := w.ad (by omega)
  refine ⟨w.fr, w.to, w.ad, w.k4, w.sm, w.np, by show c.nq + 1 ≤ 8; omega, fun k hk' => ?_, w.dg⟩
  have hk2 : k < c.nq + 1 := hk'
  show 1 ≤ (if k = c.nq then c.t.to - c.t.fr else c.bz k) ∧ (if k = c.nq then c.t.to - c.t.fr else c.bz k) ≤ 8 ∧ ∀ i, i < (if k = c.nq then c.t.to - c.t.fr else c.bz k) → 97 ≤ (if 8 * c.nq ≤ 8 * k + i ∧ 8 * k + i < 8 * c.nq + (c.t.to - c.t.fr) then s (c.t.fr + (8 * k + i - 8 * c.nq)) else c.bl (8 * k + i)) ∧ (if 8 * c.nq ≤ 8 * k + i ∧ 8 * k + i < 8 * c.nq + (c.t.to - c.t.fr) then s (c.t.fr + (8 * k + i - 8 * c.nq)) else c.bl (8 * k + i)) ≤ 122
  by_cases e : k = c.nq
  · rw [if_pos e]
    refine ⟨by omega, by omega, fun i hi => ?_⟩
    rw [if_pos (by omega)]
    exact w.sm hk _ (by omega) (by omega)
  · rw [if_neg e]
    have b := w.bz k (by omega)
    refine ⟨b.1, b.2.1, fun i hi => ?_⟩
    rw [if_neg (by omega)]
    exact b.2.2 i hi
theorem cs0_w {s : Nat → Int} {n : Nat} : Cw s n (cs0 s n) := by
  have b := tk_bnd (s := s) (n := n) (p := 0) (by omega)
  exact ⟨b.2.1, b.2.2.1, fun z => (b.2.2.2.1 z).2, b.2.2.2.2, fun z => tk_sm z, Nat.zero_le _, Nat.zero_le _, fun k hk => by have : k < 0 := hk; omega, fun z => tk_dg z⟩
