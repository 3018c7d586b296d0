/-! chp2: what the reading keeps -/
def Fz (n : Nat) (c : Cs) (f : Nat) : Prop := (c.t.k = 0 ∧ 1 ≤ f) ∨ n + 2 ≤ c.t.to + f
theorem Fz.pos {s : Nat → Int} {n : Nat} {c : Cs} {f : Nat} (w : Cw s n c) (h : Fz n c f) : 1 ≤ f := by
  have := w.to
  rcases h with h | h <;> omega
theorem Fz_adv {s : Nat → Int} {n : Nat} {c : Cs} {f : Nat} (w : Cw s n c) (hk : ¬ c.t.k = 0) (h : Fz n c (f + 1)) : Fz n (adv s n c) f := by
  have h2 : n + 2 ≤ c.t.to + (f + 1) := h.resolve_left (fun q => hk q.1)
  have := w.to
  by_cases e : (adv s n c).t.k = 0
  · exact Or.inl ⟨e, by omega⟩
  · have := adv_to w e; exact Or.inr (by omega)
theorem Fz.mono {n : Nat} {c c' : Cs} {f : Nat} (hk : c'.t = c.t) (h : Fz n c f) : Fz n c' f := by unfold Fz at h ⊢; rw [hk]; exact h
theorem wd_k {s : Nat → Int} {c : Cs} (h : 0 ≤ wd s c) : c.t.k = 1 := by
  unfold wd at h
  split at h
  · assumption
  · omega
theorem tests_w {s : Nat → Int} {n : Nat} : ∀ (f : Nat) (c : Cs) (any : Bool) (c' : Cs), Cw s n c → c.np ≤ 11 → Fz n c f → tests s n f c any = .ok c' → Cw s n c' ∧ c.t.to ≤ c'.t.to ∧ (any = false → ¬ c.t.k = 0) := by
  intro f
  induction f with
  | zero => intro c any c' w _ hf _; have := hf.pos w; omega
  | succ f ih =>
    intro c any c' w hnp hf h
    simp only [tests] at h
    by_cases h7 : 7 ≤ wd s c
    · rw [if_pos h7] at h
      have hk : c.t.k = 1 := wd_k (s := s) (by omega)
      have wa := w.adv
      by_cases hp : ¬ c.pr (6 * c.np + 1 + tst s c) = -1
      · rw [if_pos hp] at h; exact absurd h (by simp)
      · rw [if_neg hp] at h
        have fa := Fz_adv w (by omega) hf
        by_cases h12 : tst s c = 1 ∨ tst s c = 2
        · rw [if_pos h12] at h
          have := ih (setpr (adv s n c) (up c.pr (6 * c.np + 1 + tst s c) 0)) true c' (wa.1.pr) hnp (fa.mono rfl) h
          have e : (setpr (adv s n c) (up c.pr (6 * c.np + 1 + tst s c) 0)).t.to = (adv s n c).t.to := rfl
          exact ⟨this.1, by omega, fun _ => by omega⟩
        · rw [if_neg h12] at h
          by_cases hk2 : ¬ (adv s n c).t.k = 2
          · rw [if_pos hk2] at h; exact absurd h (by simp)
          · rw [if_neg hk2] at h
            have wb := wa.1.adv
            have st := adv_to w (by omega)
            by_cases hr : ¬ (ltv (tst s c) ≤ nmv s (adv s n c) ∧ nmv s (adv s n c) ≤ htv (tst s c))
            · rw [if_pos hr] at h; exact absurd h (by simp)
            · rw [if_neg hr] at h
              have fb : Fz n (adv s n (adv s n c)) f := by
                have h2 : n + 2 ≤ (adv s n c).t.to + f := fa.resolve_left (fun q => by omega)
                have t2 := wa.1.to
                by_cases e : (adv s n (adv s n c)).t.k = 0
                · exact Or.inl ⟨e, by omega⟩
                · have := adv_to wa.1 e; exact Or.inr (by omega)
              have := ih (setpr (adv s n (adv s n c)) (up c.pr (6 * c.np + 1 + tst s c) (nmv s (adv s n c)))) true c' (wb.1.pr) hnp (fb.mono rfl) h
              have e : (setpr (adv s n (adv s n c)) (up c.pr (6 * c.np + 1 + tst s c) (nmv s (adv s n c)))).t.to = (adv s n (adv s n c)).t.to := rfl
              exact ⟨this.1, by omega, fun _ => by omega⟩
    · rw [if_neg h7] at h
      by_cases ha : any = true
      · rw [if_pos ha] at h
        injection h with h
        subst h
        exact ⟨⟨w.fr, w.to, w.ad, w.k4, w.sm, by show c.np + 1 ≤ 12; omega, w.nq, w.bz, w.dg⟩, Nat.le_refl _, fun q => by rw [q] at ha; exact absurd ha (by decide)⟩
      · rw [if_neg ha] at h; exact absurd h (by simp)
theorem brs_w {s : Nat → Int} {n : Nat} : ∀ (f : Nat) (c : Cs) (any : Bool) (c' : Cs), Cw s n c → Fz n c f → brs s n f c any = .ok c' → Cw s n c' ∧ c.t.to ≤ c'.t.to ∧ (any = false → ¬ c.t.k = 0) := by
  intro f
  induction f with
  | zero => intro c any c' w hf _; have := hf.pos w; omega
  | succ f ih =>
    intro c any c' w hf h
    simp only [brs] at h
    by_cases hk : c.t.k = 1
    · rw [if_pos hk] at h
      by_cases h8 : 8 < c.t.to - c.t.fr ∨ c.nq = 8
      · rw [if_pos h8] at h; exact absurd h (by simp)
      · rw [if_neg h8] at h
        by_cases hd : Dup s c
        · rw [if_pos hd] at h; exact absurd h (by simp)
        · rw [if_neg hd] at h
          have wb := w.addb hk h8
          have wa := wb.adv
          have e : (addb s c).t = c.t := rfl
          have := ih _ true c' wa.1 (Fz_adv wb (by rw [e]; omega) (hf.mono e)) h
          have w2 := wa.2
          rw [e] at w2
          exact ⟨this.1, by omega, fun _ => by omega⟩
    · rw [if_neg hk] at h
      by_cases ha : any = true
      · rw [if_pos ha] at h
        injection h with h
        subst h
        exact ⟨w, Nat.le_refl _, fun q => by rw [q] at ha; exact absurd ha (by decide)⟩
      · rw [if_neg ha] at h; exact absurd h (by simp)
theorem Fz_0 {s : Nat → Int} {n : Nat} {c : Cs} (w : Cw s n c) : Fz n c (n + 2) := by
  exact Or.inr (by omega)
theorem lin_w {s : Nat → Int} {n : Nat} {c c' : Cs} (w : Cw s n c) (h : lin s n c = .ok c') : Cw s n c' ∧ c.t.to + 1 ≤ c'.t.to := by
  have wa := w.adv
  unfold lin at h
  by_cases h0 : ¬ (0 ≤ wd s c ∧ wd s c ≤ 6)
  · rw [if_pos h0] at h; exact absurd h (by simp)
  · rw [if_neg h0] at h
    by_cases h1 : wd s c ≤ 1
    · rw [if_pos h1] at h
      unfold prf at h
      by_cases h12 : c.np = 12
      · rw [if_pos h12] at h; exact absurd h (by simp)
      · rw [if_neg h12] at h
        have := tests_w _ (setpr (adv s n c) (row0 c.pr c.np (wd s c))) _ _ (wa.1.pr) (by show c.np ≤ 11; have := w.np; omega) (Fz_0 wa.1.pr) h
        have e : (setpr (adv s n c) (row0 c.pr c.np (wd s c))).t = (adv s n c).t := rfl
        rw [e] at this
        have st := adv_to w (this.2.2 rfl)
        exact ⟨this.1, by omega⟩
    · rw [if_neg h1] at h
      by_cases h6 : wd s c = 6
      · rw [if_pos h6] at h
        have := brs_w _ _ _ _ wa.1 (Fz_0 wa.1) h
        have st := adv_to w (this.2.2 rfl)
        exact ⟨this.1, by omega⟩
      · rw [if_neg h6] at h
        unfold stg at h
        by_cases ht : c.td (wd s c - 2).toNat
        · rw [if_pos ht] at h; exact absurd h (by simp)
        · rw [if_neg ht] at h
          by_cases hk2 : ¬ (adv s n c).t.k = 2
          · rw [if_pos hk2] at h; exact absurd h (by simp)
          · rw [if_neg hk2] at h
            by_cases hr : ¬ (lsv (wd s c - 2).toNat ≤ nmv s (adv s n c) ∧ nmv s (adv s n c) ≤ hsv (wd s c - 2).toNat)
            · rw [if_pos hr] at h; exact absurd h (by simp)
            · rw [if_neg hr] at h
              injection h with h
              have wb := wa.1.adv
              have st := adv_to w (by omega)
              subst h
              refine ⟨⟨wb.1.fr, wb.1.to, wb.1.ad, wb.1.k4, wb.1.sm, wb.1.np, wb.1.nq, wb.1.bz, wb.1.dg⟩, ?_⟩
              show c.t.to + 1 ≤ (adv s n (adv s n c)).t.to
              omega
theorem lns_w {s : Nat → Int} {n : Nat} : ∀ (f : Nat) (c : Cs) (a : Nat) (c' : Cs) (a' : Nat), Cw s n c → lns s n f c a = (.ok c', a') → Cw s n c' := by
  intro f
  induction f with
  | zero => intro c a c' a' w h; simp only [lns] at h; injection h with h1 h2; injection h1 with h1; subst h1; exact w
  | succ f ih =>
    intro c a c' a' w h
    simp only [lns] at h
    by_cases h0 : c.t.k = 0
    · rw [if_pos h0] at h; injection h with h1 h2; injection h1 with h1; subst h1; exact w
    · rw [if_neg h0] at h
      cases hl : lin s n c with
      | inr x => rw [hl] at h; injection h with h1 h2; exact absurd h1 (by simp)
      | inl c1 =>
        rw [hl] at h
        dsimp only at h
        by_cases h3 : ¬ c1.t.k = 3
        · rw [if_pos h3] at h; injection h with h1 h2; exact absurd h1 (by simp)
        · rw [if_neg h3] at h
          exact ih _ _ _ _ ((lin_w w hl).1.adv).1 h
