/-! loops -/
theorem upto {σ : Type} {N : Nat} {I G : Nat → σ → Prop} (step : ∀ i s, i < N → I i s → (∀ s', I (i + 1) s' → G (i + 1) s') → G i s) (fin : ∀ s, I N s → G N s) : ∀ (k i : Nat) (s : σ), i + k = N → I i s → G i s := by
  intro k
  induction k with
  | zero => intro i s hi h; have : i = N := by omega
            subst this; exact fin s h
  | succ k ih => intro i s hi h; exact step i s (by omega) h (fun s' h' => ih (i + 1) s' (by omega) h')
theorem bt_and0 {a b : Int} : am_and a b = 0 ↔ ∀ k, k < 32 → ¬ (bt a k = true ∧ bt b k = true) := by
  constructor
  · intro h k hk hz
    have := bt_and a b k
    rw [h, bt_0, hz.1, hz.2] at this
    exact absurd this (by decide)
  · intro h
    refine bt_ext (am_inI_and a b) (by omega) (fun k hk => ?_)
    rw [bt_and, bt_0]
    have := h k hk
    cases h1 : bt a k <;> cases h2 : bt b k <;> simp_all
theorem bt_f {x : Int} {k : Nat} : bt x k = false ↔ ¬ bt x k = true := by simp
theorem inI_p2 {k : Nat} (h : k < 31) : am_inI (1 * 2 ^ k) := by
  have := am_p2 (k := (k : Int)) (by omega) (by omega)
  rwa [Int.toNat_natCast] at this
