/-! pair4: men -/
theorem ft_ne {h : am_H} {m : Int} {i : Nat} (hi : ¬ i = 32) : am_ft h m i = h i := by
  unfold am_ft
  iterate 14 rw [st_ne hi]
theorem ft_eq {h : am_H} {M : Nat} : am_ft h (M : Int) = am_st (am_st (am_st (am_st (am_st (am_st (am_st (am_st (am_st (am_st (am_st (am_st (am_st (am_st h 32 (M * 14) (h 28 M / 1000)) 32 (M * 14 + 1) (h 28 M / 100 % 10)) 32 (M * 14 + 2) (h 28 M / 10 % 10)) 32 (M * 14 + 3) (h 28 M % 10)) 32 (M * 14 + 4) (h 27 M)) 32 (M * 14 + 5) (h 30 M)) 32 (M * 14 + 6) (am_and (h 31 M / 2 ^ 0) 1)) 32 (M * 14 + 7) (am_and (h 31 M / 2 ^ 1) 1)) 32 (M * 14 + 8) (am_and (h 31 M / 2 ^ 2) 1)) 32 (M * 14 + 9) (am_and (h 31 M / 2 ^ 3) 1)) 32 (M * 14 + 10) (am_and (h 31 M / 2 ^ 4) 1)) 32 (M * 14 + 11) (am_and (h 31 M / 2 ^ 5) 1)) 32 (M * 14 + 12) (am_and (h 31 M / 2 ^ 6) 1)) 32 (M * 14 + 13) (am_and (h 31 M / 2 ^ 7) 1) := by
  unfold am_ft
  rw [show Int.toNat ((M : Int) * 14 + 6 + (0+1+1+1+1+1+1+1)) = M * 14 + 13 by omega, show Int.toNat ((M : Int) * 14 + 6 + (0+1+1+1+1+1+1)) = M * 14 + 12 by omega, show Int.toNat ((M : Int) * 14 + 6 + (0+1+1+1+1+1)) = M * 14 + 11 by omega, show Int.toNat ((M : Int) * 14 + 6 + (0+1+1+1+1)) = M * 14 + 10 by omega, show Int.toNat ((M : Int) * 14 + 6 + (0+1+1+1)) = M * 14 + 9 by omega, show Int.toNat ((M : Int) * 14 + 6 + (0+1+1)) = M * 14 + 8 by omega, show Int.toNat ((M : Int) * 14 + 6 + (0+1)) = M * 14 + 7 by omega, show Int.toNat ((M : Int) * 14 + 6 + 0) = M * 14 + 6 by omega, show Int.toNat ((M : Int) * 14 + 5) = M * 14 + 5 by omega, show Int.toNat ((M : Int) * 14 + 4) = M * 14 + 4 by omega, show Int.toNat ((M : Int) * 14 + 3) = M * 14 + 3 by omega, show Int.toNat ((M : Int) * 14 + 2) = M * 14 + 2 by omega, show Int.toNat ((M : Int) * 14 + 1) = M * 14 + 1 by omega, show Int.toNat ((M : Int) * 14) = M * 14 by omega, Int.toNat_natCast]
  rfl
theorem ft_out {h : am_H} {M j : Nat} (hj : j < M * 14 ∨ M * 14 + 14 ≤ j) : am_ft h (M : Int) 32 j = h 32 j := by
  rw [ft_eq]
  iterate 14 rw [st_nj (by omega)]
theorem ft_in {h : am_H} {M k : Nat} (hk : k < 14) : am_ft h (M : Int) 32 (M * 14 + k) = tOf (h 27 M) (h 28 M) (h 30 M) (h 31 M) k := by
  rw [ft_eq]
  match k, hk with
  | 0, _ => simp [am_st, tOf]
  | 1, _ => simp [am_st, tOf]
  | 2, _ => simp [am_st, tOf]
  | 3, _ => simp [am_st, tOf]
  | 4, _ => simp [am_st, tOf]
  | 5, _ => simp [am_st, tOf]
  | 6, _ => simp [am_st, tOf]
  | 7, _ => simp [am_st, tOf]
  | 8, _ => simp [am_st, tOf]
  | 9, _ => simp [am_st, tOf]
  | 10, _ => simp [am_st, tOf]
  | 11, _ => simp [am_st, tOf]
  | 12, _ => simp [am_st, tOf]
  | 13, _ => simp [am_st, tOf]
theorem tOf_bnd {u n b t : Int} {k : Nat} (hk : k < 14) (hu : 0 ≤ u ∧ u ≤ 5) (hn : 0 ≤ n ∧ n ≤ 9999) (hb : 0 ≤ b ∧ b ≤ 9) : 0 ≤ tOf u n b t k ∧ tOf u n b t k ≤ 9 := by
  unfold tOf
  split
  · omega
  · split
    · omega
    · split
      · omega
      · split
        · omega
        · split
          · omega
          · split
            · omega
            · rw [bt_test _ (by omega)]; split <;> omega
section
variable {L : Nat} {xs : Nat → Int} {P : Nat → List am_V → am_H → am_K → Prop} {d : Nat} {h : am_H} {Q : am_V → am_V → am_H → Prop}
def manC (h : am_H) (u n y b t : Int) : am_H := am_st (am_ft (am_mn h u n y b t) (h 20 15)) 20 15 (h 20 15 + 1)
def manM (g : am_H) (u n y b t : Int) : am_H := am_st (am_st (am_st (am_st (am_st (am_st (am_t0 g) 62 (Int.toNat (5 * g 59 9)) u) 62 (Int.toNat (5 * g 59 9 + 1)) n) 62 (Int.toNat (5 * g 59 9 + 2)) y) 62 (Int.toNat (5 * g 59 9 + 3)) b) 62 (Int.toNat (5 * g 59 9 + 4)) t) 59 9 (g 59 9 + 1)
theorem agree.ft {D : List (Nat × Option Nat)} {h g : am_H} {m : Int} (a : agree D h g) (n : ∀ j, nd D 32 j = true) : agree D h (am_ft g m) :=
  (((((((((((((a.st (n _)).st (n _)).st (n _)).st (n _)).st (n _)).st (n _)).st (n _)).st (n _)).st (n _)).st (n _)).st (n _)).st (n _)).st (n _)).st (n _)
theorem agree.man {D : List (Nat × Option Nat)} {u n y b t u' n' y' b' t' : Int} (n0 : nd D 20 15 = true) (n1 : nd D 59 9 = true) (n2 : nd D 59 2 = true) (c : ∀ j, nd D 27 j = true ∧ nd D 28 j = true ∧ nd D 29 j = true ∧ nd D 30 j = true ∧ nd D 31 j = true) (f : ∀ j, nd D 32 j = true) (m : ∀ j, nd D 62 j = true) : agree D h (manM (manC h u n y b t) u' n' y' b' t') :=
  ((((((((((((((agree.rf.st (c _).1).st (c _).2.1).st (c _).2.2.1).st (c _).2.2.2.1).st (c _).2.2.2.2).ft f).st n0).t0 n2).st (m _)).st (m _)).st (m _)).st (m _)).st (m _)).st n1)
theorem man_at {u n y b t : Int} {nm : Nat} (h1 : h 20 15 = nm) (h2 : h 59 9 = nm) : manM (manC h u n y b t) u n y b t 20 15 = (nm + 1 : Nat) ∧ manM (manC h u n y b t) u n y b t 59 9 = (nm + 1 : Nat) ∧ (∀ j, manM (manC h u n y b t) u n y b t 27 j = if j = nm then u else h 27 j) ∧ (∀ j, manM (manC h u n y b t) u n y b t 28 j = if j = nm then n else h 28 j) ∧ (∀ j, manM (manC h u n y b t) u n y b t 29 j = if j = nm then y else h 29 j) ∧ (∀ j, manM (manC h u n y b t) u n y b t 30 j = if j = nm then b else h 30 j) ∧ (∀ j, manM (manC h u n y b t) u n y b t 31 j = if j = nm then t else h 31 j) ∧ (∀ j, manM (manC h u n y b t) u n y b t 62 j = if j = 5 * nm + 4 then t else if j = 5 * nm + 3 then b else if j = 5 * nm + 2 then y else if j = 5 * nm + 1 then n else if j = 5 * nm then u else h 62 j) ∧ (∀ j, manM (manC h u n y b t) u n y b t 32 j = am_ft (am_mn h u n y b t) (nm : Int) 32 j) := by
  have t0 : Int.toNat (5 * (nm : Int)) = 5 * nm := by omega
  have t1 : Int.toNat (5 * (nm : Int) + 1) = 5 * nm + 1 := by omega
  have t2 : Int.toNat (5 * (nm : Int) + 2) = 5 * nm + 2 := by omega
  have t3 : Int.toNat (5 * (nm : Int) + 3) = 5 * nm + 3 := by omega
  have t4 : Int.toNat (5 * (nm : Int) + 4) = 5 * nm + 4 := by omega
  have c59 : manC h u n y b t 59 9 = nm := by
    unfold manC; rw [st_ne (by decide), ft_ne (by decide)]; unfold am_mn
    rw [st_ne (by decide), st_ne (by decide), st_ne (by decide), st_ne (by decide), st_ne (by decide)]; exact h2
  have mm : ∀ i, ¬ i = 59 → ¬ i = 62 → manM (manC h u n y b t) u n y b t i = manC h u n y b t i := by
    intro i e1 e2
    unfold manM am_t0
    rw [st_ne e1, st_ne e2, st_ne e2, st_ne e2, st_ne e2, st_ne e2, st_ne e1]
  have mc : ∀ i, ¬ i = 20 → ¬ i = 32 → manC h u n y b t i = am_mn h u n y b t i := by
    intro i e1 e2
    unfold manC
    rw [st_ne e1, ft_ne e2]
  refine ⟨?_, ?_, fun j => ?_, fun j => ?_, fun j => ?_, fun j => ?_, fun j => ?_, fun j => ?_, fun j => ?_⟩
  · rw [mm 20 (by decide) (by decide)]; unfold manC; rw [st_at, h1]; omega
  · unfold manM; rw [st_at, c59]; omega
  · rw [mm 27 (by decide) (by decide), mc 27 (by decide) (by decide)]; unfold am_mn; simp [am_st, h1]
  · rw [mm 28 (by decide) (by decide), mc 28 (by decide) (by decide)]; unfold am_mn; simp [am_st, h1]
  · rw [mm 29 (by decide) (by decide), mc 29 (by decide) (by decide)]; unfold am_mn; simp [am_st, h1]
  · rw [mm 30 (by decide) (by decide), mc 30 (by decide) (by decide)]; unfold am_mn; simp [am_st, h1]
  · rw [mm 31 (by decide) (by decide), mc 31 (by decide) (by decide)]; unfold am_mn; simp [am_st, h1]
  · unfold manM am_t0
    rw [c59, t0, t1, t2, t3, t4, st_ne (by decide), st_ap, st_ap, st_ap, st_ap, st_ap, st_ne (by decide), mc 62 (by decide) (by decide)]
    unfold am_mn
    rw [st_ne (by decide), st_ne (by decide), st_ne (by decide), st_ne (by decide), st_ne (by decide)]
  · rw [mm 32 (by decide) (by decide)]; unfold manC; rw [st_ne (by decide), h1]
theorem pr_man {u n y b t : Int} (I : Inv h) (H : ∀ v g, Inv g → g 0 = h 0 → Q (0, v) (0, v) g) : am_C true L xs P (d + 24) 109 [(2, 1), (0, u), (0, n), (0, y), (0, b), (0, t)] h (fun r1 h1 => am_C true L xs P (d + 24) 169 [(2, 59), (0, u), (0, n), (0, y), (0, b), (0, t)] h1 (fun r2 h2 => Q r1 r2 h2)) := by
  obtain ⟨nm, r⟩ := I.r
  have m1 := r.m1
  have m2 := r.m2
  have m14 := r.m14
  refine kX11_man (d := d + 21) (by omega) (fun w => ?_) (fun w => ?_)
  · have e : ∀ j, manC h u n y b t 59 j = h 59 j := fun j => by
      unfold manC; rw [st_ne (by decide), ft_ne (by decide)]; unfold am_mn
      rw [st_ne (by decide), st_ne (by decide), st_ne (by decide), st_ne (by decide), st_ne (by decide)]
    obtain ⟨a1, a2, a27, a28, a29, a30, a31, a62, a32⟩ := man_at (u := u) (n := n) (y := y) (b := b) (t := t) m1 m2
    refine kX12_man (d := d + 22) (h := manC h u n y b t) (by rw [e]; omega) (fun _ => ?_) (fun w2 => absurd ?_ w2)
    · have ev : manC h u n y b t 59 9 + 1 - 1 = h 20 15 + 1 - 1 := by rw [e, m1, m2]
      have ag : ∀ D, nd D 20 15 = true → nd D 59 9 = true → nd D 59 2 = true → (∀ j, nd D 27 j = true ∧ nd D 28 j = true ∧ nd D 29 j = true ∧ nd D 30 j = true ∧ nd D 31 j = true) → (∀ j, nd D 32 j = true) → (∀ j, nd D 62 j = true) → agree D h (manM (manC h u n y b t) u n y b t) := fun D q1 q2 q3 q4 q5 q6 => agree.man q1 q2 q3 q4 q5 q6
      have aR := ag [(59, some 3), (59, some 4), (59, some 7), (20, some 13), (20, some 14), (21, none), (22, none), (23, none), (24, none), (25, none), (26, none), (61, none)] rfl rfl rfl (fun _ => ⟨rfl, rfl, rfl, rfl, rfl⟩) (fun _ => rfl) (fun _ => rfl)
      have f3 := aR.f 59 3 rfl
      have f4 := aR.f 59 4 rfl
      have f7 := aR.f 59 7 rfl
      have f13 := aR.f 20 13 rfl
      have f14 := aR.f 20 14 rfl
      have e21 := aR.c 21 rfl
      have e22 := aR.c 22 rfl
      have e23 := aR.c 23 rfl
      have e24 := aR.c 24 rfl
      have e25 := aR.c 25 rfl
      have e26 := aR.c 26 rfl
      have e61 := aR.c 61 rfl
      have k62 : ∀ m, ¬ m = nm → ∀ k, k < 5 → manM (manC h u n y b t) u n y b t 62 (5 * m + k) = h 62 (5 * m + k) := by
        intro m hm k hk
        rw [a62, if_neg (by omega), if_neg (by omega), if_neg (by omega), if_neg (by omega), if_neg (by omega)]
      have n62 : manM (manC h u n y b t) u n y b t 62 (5 * nm) = u ∧ manM (manC h u n y b t) u n y b t 62 (5 * nm + 1) = n ∧ manM (manC h u n y b t) u n y b t 62 (5 * nm + 2) = y ∧ manM (manC h u n y b t) u n y b t 62 (5 * nm + 3) = b ∧ manM (manC h u n y b t) u n y b t 62 (5 * nm + 4) = t := by
        refine ⟨?_, ?_, ?_, ?_, ?_⟩ <;> rw [a62]
        · rw [if_neg (by omega), if_neg (by omega), if_neg (by omega), if_neg (by omega), if_pos rfl]
        · rw [if_neg (by omega), if_neg (by omega), if_neg (by omega), if_pos rfl]
        · rw [if_neg (by omega), if_neg (by omega), if_pos rfl]
        · rw [if_neg (by omega), if_pos rfl]
        · rw [if_pos rfl]
      have mnn : am_mn h u n y b t 27 nm = u ∧ am_mn h u n y b t 28 nm = n ∧ am_mn h u n y b t 30 nm = b ∧ am_mn h u n y b t 31 nm = t ∧ am_mn h u n y b t 32 = h 32 := by
        unfold am_mn
        refine ⟨?_, ?_, ?_, ?_, ?_⟩
        · simp [am_st, m1]
        · simp [am_st, m1]
        · simp [am_st, m1]
        · simp [am_st, m1]
        · rw [st_ne (by decide), st_ne (by decide), st_ne (by decide), st_ne (by decide), st_ne (by decide)]
      have tNew : ∀ k, k < 14 → manM (manC h u n y b t) u n y b t 32 (nm * 14 + k) = tOf u n b t k := by
        intro k hk
        rw [a32, ft_in hk, mnn.1, mnn.2.1, mnn.2.2.1, mnn.2.2.2.1]
      have tOld : ∀ m k, m < nm → k < 14 → manM (manC h u n y b t) u n y b t 32 (m * 14 + k) = h 32 (m * 14 + k) := by
        intro m k hm hk
        rw [a32, ft_out (by omega), mnn.2.2.2.2]
      have lr : LkR (manM (manC h u n y b t) u n y b t) (nm + 1) := by
        refine ⟨by rw [f3]; exact r.w, by rw [f4]; exact r.t, by rw [f13, f3, f4]; exact r.cl, by rw [f14, f7]; exact r.st, by rw [f7]; exact r.sb, a1, a2, by omega, by rw [f13, f3, e21, e22]; exact r.co, by rw [e21, e22]; exact r.c25, by rw [e24, e61]; exact r.s25, by rw [f7, f13, e23, e24, e25, e26, e61]; exact r.sd, fun m hm => ?_, fun m hm => ?_, fun m k hm hk => ?_, fun m k hm hk => ?_⟩
        · rw [a27, a28, a29, a30, a31]
          by_cases em : m = nm
          · subst em; rw [if_pos rfl, if_pos rfl, if_pos rfl, if_pos rfl, if_pos rfl, n62.1, n62.2.1, n62.2.2.1, n62.2.2.2.1, n62.2.2.2.2]; exact ⟨rfl, rfl, rfl, rfl, rfl⟩
          · have k0 := k62 m em 0 (by decide)
            rw [Nat.add_zero] at k0
            rw [if_neg em, if_neg em, if_neg em, if_neg em, if_neg em, k0, k62 m em 1 (by decide), k62 m em 2 (by decide), k62 m em 3 (by decide), k62 m em 4 (by decide)]
            exact r.mn m (by omega)
        · by_cases em : m = nm
          · subst em; rw [n62.2.1]; exact w.2.1
          · rw [k62 m em 1 (by decide)]; exact r.mv m hm
        · unfold tM
          by_cases em : m = nm
          · subst em; rw [tNew k hk, n62.1, n62.2.1, n62.2.2.2.1, n62.2.2.2.2]
          · have k0 := k62 m em 0 (by decide)
            rw [Nat.add_zero] at k0
            rw [tOld m k (by omega) hk, k0, k62 m em 1 (by decide), k62 m em 3 (by decide), k62 m em 4 (by decide)]
            exact r.tr m k (by omega) hk
        · by_cases em : m = nm
          · subst em; rw [tNew k hk]; exact tOf_bnd hk w.1 w.2.1 w.2.2.2.1
          · rw [tOld m k (by omega) hk]; exact r.tv m k (by omega) hk
      have q1 : ∀ j : Nat, ∀ D, D = DN ∨ D = DP ∨ D = DT ∨ D = DF ∨ D = DL ∨ D = DY ∨ D = DW → agree D h (manM (manC h u n y b t) u n y b t) := by
        intro _ D hD
        rcases hD with e | e | e | e | e | e | e <;> subst e <;> exact ag _ rfl rfl rfl (fun _ => ⟨rfl, rfl, rfl, rfl, rfl⟩) (fun _ => rfl) (fun _ => rfl)
      have i : Inv (manM (manC h u n y b t) u n y b t) := I.roll ⟨_, lr⟩ (q1 0 _ (by simp)) (q1 0 _ (by simp)) (q1 0 _ (by simp)) (q1 0 _ (by simp)) (q1 0 _ (by simp)) (q1 0 _ (by simp)) (q1 0 _ (by simp))
      have := H (h 20 15 + 1 - 1) _ i ((ag [(0, none)] rfl rfl rfl (fun _ => ⟨rfl, rfl, rfl, rfl, rfl⟩) (fun _ => rfl) (fun _ => rfl)).c 0 rfl)
      rw [ev]
      exact this
    · rw [e]; omega
  · refine kX12_man (d := d + 22) (by omega) (fun w2 => absurd ?_ w) (fun _ => H _ _ (I.xs MS.t0.xs) (XS.h0 MS.t0.xs))
    omega
end
