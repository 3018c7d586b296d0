/-! best: a greatest matching with its certificate exists -/
def up (f : Nat → Int) (m : Nat) (v : Int) : Nat → Int := fun j => if j = m then v else f j
theorem up_at {f : Nat → Int} {m : Nat} {v : Int} : up f m v m = v := by simp [up]
theorem up_ne {f : Nat → Int} {m j : Nat} {v : Int} (h : ¬ j = m) : up f m v j = f j := by simp [up, h]
theorem siz_set {nm m : Nat} {f : Nat → Int} {v : Int} (hm : m < nm) (h0 : f m = -1) (hv : ¬ v = -1) : siz nm (up f m v) = siz nm f + 1 := by
  unfold siz
  rw [cnt_erase (p := fun j => ¬ up f m v j = -1) hm (by rw [up_at]; exact hv)]
  congr 1
  refine cnt_congr (fun i hi => ⟨fun z => ?_, fun z => ?_⟩)
  · rw [up_ne z.2] at z; exact z.1
  · have : ¬ i = m := fun e => z (e ▸ h0)
    exact ⟨by rw [up_ne this]; exact z, this⟩
theorem siz_clr {nm m : Nat} {f : Nat → Int} (hm : m < nm) (h0 : ¬ f m = -1) : siz nm (up f m (-1)) + 1 = siz nm f := by
  unfold siz
  rw [cnt_erase (p := fun j => ¬ f j = -1) hm h0]
  congr 1
  refine cnt_congr (fun i hi => ⟨fun z => ?_, fun z => ?_⟩)
  · have : ¬ i = m := fun e => z (by rw [e, up_at])
    rw [up_ne this] at z; exact ⟨z, this⟩
  · rw [up_ne z.2]; exact z.1
def Rch (E : Nat → Nat → Prop) (nb nm : Nat) (f : Nat → Int) : Nat → Nat → Prop
  | 0, b => b < nb ∧ ∀ m, m < nm → ¬ f m = (b : Int)
  | L + 1, b => Rch E nb nm f L b ∨ ∃ b' m, m < nm ∧ Rch E nb nm f L b' ∧ E b' m ∧ f m = (b : Int)
theorem Rch_mono {E : Nat → Nat → Prop} {nb nm : Nat} {f : Nat → Int} {i x : Nat} (h : Rch E nb nm f i x) : ∀ {L : Nat}, i ≤ L → Rch E nb nm f L x := by
  intro L
  induction L with
  | zero => intro hi; have : i = 0 := by omega
            subst this; exact h
  | succ L ih =>
    intro hi
    by_cases e : i = L + 1
    · subst e; exact h
    · exact Or.inl (ih (by omega))
theorem aug {E : Nat → Nat → Prop} {nb nm : Nat} : ∀ (L : Nat) (f : Nat → Int) (b m : Nat), Mt E nb nm f → Rch E nb nm f L b → m < nm → E b m → f m = -1 → ∃ g, Mt E nb nm g ∧ siz nm g = siz nm f + 1 := by
  intro L
  induction L with
  | zero =>
    intro f b m hf hr hm hE h0
    refine ⟨up f m b, ⟨fun j hj => ?_, fun j j' hj hj' he hn => ?_⟩, siz_set hm h0 (by omega)⟩
    · by_cases e : j = m
      · subst e; rw [up_at]; exact Or.inr ⟨by omega, by have := hr.1; omega, by rw [Int.toNat_natCast]; exact hE⟩
      · rw [up_ne e]; exact hf.1 j hj
    · by_cases e : j = m
      · by_cases e' : j' = m
        · omega
        · rw [e, up_at, up_ne e'] at he
          exact absurd he.symm (hr.2 j' hj')
      · by_cases e' : j' = m
        · rw [e', up_at, up_ne e] at he
          exact absurd he (hr.2 j hj)
        · rw [up_ne e] at he hn
          rw [up_ne e'] at he
          exact hf.2 j j' hj hj' he hn
  | succ L ih =>
    intro f b m hf hr hm hE h0
    by_cases hL : Rch E nb nm f L b
    · exact ih f b m hf hL hm hE h0
    · rcases hr with hr | ⟨b', mL, hmL, hr', hE', hfL⟩
      · exact absurd hr hL
      · have hne : ¬ mL = m := fun e => by rw [e, h0] at hfL; omega
        have hbn : b < nb := by
          rcases hf.1 mL hmL with z | z <;> omega
        have v : ∀ j, up (up f m (b : Int)) mL (-1) j = if j = mL then -1 else if j = m then (b : Int) else f j := fun j => rfl
        have h1 : Mt E nb nm (up (up f m (b : Int)) mL (-1)) := by
          refine ⟨fun j hj => ?_, fun j j' hj hj' he hn => ?_⟩
          · rw [v]
            split
            · exact Or.inl rfl
            · split
              · rename_i e; subst e; exact Or.inr ⟨by omega, by omega, by rw [Int.toNat_natCast]; exact hE⟩
              · exact hf.1 j hj
          · rw [v] at he hn
            rw [v] at he
            by_cases e1 : j = mL
            · rw [if_pos e1] at hn; exact absurd rfl hn
            · rw [if_neg e1] at hn he
              by_cases e1' : j' = mL
              · rw [if_pos e1'] at he; rw [he] at hn; exact absurd rfl hn
              · rw [if_neg e1'] at he
                by_cases e2 : j = m
                · by_cases e2' : j' = m
                  · omega
                  · rw [if_pos e2, if_neg e2'] at he
                    exact absurd (hf.2 j' mL hj' hmL (by rw [← he, hfL]) (by rw [← he]; omega)) e1'
                · rw [if_neg e2] at he hn
                  by_cases e2' : j' = m
                  · rw [if_pos e2'] at he
                    exact absurd (hf.2 j mL hj hmL (by rw [he, hfL]) hn) e1
                  · rw [if_neg e2'] at he
                    exact hf.2 j j' hj hj' he hn
        have h2 : siz nm (up (up f m (b : Int)) mL (-1)) = siz nm f := by
          have s1 := siz_set (v := (b : Int)) hm h0 (by omega)
          have s2 := siz_clr (f := up f m (b : Int)) hmL (by rw [up_ne hne, hfL]; omega)
          omega
        have h3 : ∀ i x, i ≤ L → Rch E nb nm f i x → Rch E nb nm (up (up f m (b : Int)) mL (-1)) i x := by
          intro i
          induction i with
          | zero =>
            intro x _ hx
            refine ⟨hx.1, fun j hj hz => ?_⟩
            rw [v] at hz
            split at hz
            · omega
            · split at hz
              · have := hx.2 mL hmL; rw [hfL] at this; exact this hz
              · exact hx.2 j hj hz
          | succ i ihi =>
            intro x hi hx
            have hxL := Rch_mono hx hi
            rcases hx with hx | ⟨x', j, hj, hx', hxE, hxf⟩
            · exact Or.inl (ihi x (by omega) hx)
            · refine Or.inr ⟨x', j, hj, ihi x' (by omega) hx', hxE, ?_⟩
              have n1 : ¬ j = mL := fun e => by
                rw [e, hfL] at hxf
                have : b = x := by omega
                exact hL (this ▸ hxL)
              have n2 : ¬ j = m := fun e => by rw [e, h0] at hxf; omega
              rw [v, if_neg n1, if_neg n2]; exact hxf
        obtain ⟨g, g1, g2⟩ := ih _ b' mL h1 (h3 L b' (Nat.le_refl _) hr') hmL hE' (by rw [up_at])
        exact ⟨g, g1, by omega⟩
theorem mt_max {E : Nat → Nat → Prop} {nb nm : Nat} : ∀ (d : Nat) (f : Nat → Int), Mt E nb nm f → nm ≤ siz nm f + d → ∃ f', Mt E nb nm f' ∧ ∀ g, Mt E nb nm g → siz nm g ≤ siz nm f' := by
  intro d
  induction d with
  | zero =>
    intro f hf hd
    exact ⟨f, hf, fun g hg => by have : siz nm g ≤ nm := cnt_bnd _ _; omega⟩
  | succ d ih =>
    intro f hf hd
    by_cases h : ∃ g, Mt E nb nm g ∧ siz nm f < siz nm g
    · obtain ⟨g, g1, g2⟩ := h
      exact ih g g1 (by omega)
    · refine ⟨f, hf, fun g hg => ?_⟩
      apply Classical.byContradiction
      intro hz
      exact h ⟨g, hg, by omega⟩
theorem lk_ex {E : Nat → Nat → Prop} {nm : Nat} : ∃ f C, Mt E 10 nm f ∧ Cert E 10 nm f C := by
  obtain ⟨f, h1, h2⟩ := mt_max (E := E) (nb := 10) (nm := nm) nm (fun _ => -1) ⟨fun _ _ => Or.inl rfl, fun _ _ _ _ _ hn => absurd rfl hn⟩ (by omega)
  refine ⟨f, fun b => ∃ L, Rch E 10 nm f L b, h1, fun b hb hu => ⟨0, hb, hu⟩, fun b m hb hm ⟨L, hL⟩ hE => ?_⟩
  have hne : ¬ f m = -1 := by
    intro h0
    obtain ⟨g, g1, g2⟩ := aug L f b m h1 hL hm hE h0
    have := h2 g g1
    omega
  refine ⟨hne, L + 1, Or.inr ⟨b, m, hm, hL, hE, ?_⟩⟩
  have := mt_in h1 hm hne
  omega
