/-! bitCount -/
def cb : Nat → Nat → Nat
  | 0, _ => 0
  | n + 1, S => cb n S + (if S.testBit n = true then 1 else 0)
theorem card_cb (n S : Nat) : card n S = cb n S := by
  unfold card
  induction n with
  | zero => rfl
  | succ n ih =>
    simp only [cb]
    by_cases h : S.testBit n = true
    · rw [cnt_pos (p := fun i => S.testBit i = true) h, ih, if_pos h]
    · rw [cnt_neg (p := fun i => S.testBit i = true) h, ih, if_neg h]; rfl
def bcA (x : Int) : Int := x - am_and (am_ushr x 1) 1431655765
def bcB (x : Int) : Int := am_and (bcA x) 858993459 + am_and (am_ushr (bcA x) 2) 858993459
def bcC (x : Int) : Int := bcB x + am_ushr (bcB x) 4
def bcD (x : Int) : Int := am_and (bcC x) 252645135
def bcE (x : Int) : Int := bcD x + am_ushr (bcD x) 8
def bcF (x : Int) : Int := bcE x + am_ushr (bcE x) 16
theorem bc_all : ∀ x : Fin 1024, am_inI (bcA (x.val : Nat)) ∧ am_inI (bcB (x.val : Nat)) ∧ am_inI (bcC (x.val : Nat)) ∧ am_inI (bcE (x.val : Nat)) ∧ am_inI (bcF (x.val : Nat)) ∧ am_and (bcF (x.val : Nat)) 63 = (cb 10 x.val : Nat) := by decide +kernel
theorem kJ6_bitCount {L : Nat} {xs : Nat → Int} {P : Nat → List am_V → am_H → am_K → Prop} {d : Nat} {h : am_H} {K : am_K} {x : Nat} (hx : x < 1024) (H : K (0, (card 10 x : Nat)) h) : am_C true L xs P (d + 1) 219 [(0, (x : Int))] h K := by
  refine eJ6_bitCount_0f7a4 (bJ6_bitCount_0f7a4_0 ?_)
  obtain ⟨h1, h2, h3, h4, h5, h6⟩ := bc_all ⟨x, hx⟩
  refine ⟨h1, h2, h3, h4, h5, ?_⟩
  rw [card_cb, ← h6] at H
  exact H
