/-! what fits: the model -/
def am_fm (h : am_H) (a c : Int) : Int := am_mx2 (am_ab (a % h 59 3 - c % h 59 3)) (am_ab (a / h 59 3 - c / h 59 3))
def am_mr (h : am_H) (m c : Int) : Nat → Nat → Int → Int
  | 0, _, acc => acc
  | n + 1, i, acc => am_mr h m c n (i + 1) (if h 61 (4 * i) = h 62 (Int.toNat (5 * m)) ∧ (h 61 (4 * i + 2) ≤ h 62 (Int.toNat (5 * m + 2)) ∧ h 62 (Int.toNat (5 * m + 2)) ≤ h 61 (4 * i + 3)) then (if acc = -1 ∨ am_fm h (h 61 (4 * i + 1)) c < acc then am_fm h (h 61 (4 * i + 1)) c else acc) else acc)
theorem kX12_far {L : Nat} {xs : Nat → Int} {P : Nat → List am_V → am_H → am_K → Prop} {d : Nat} {h : am_H} {K : am_K} {a b : Int} (ha : 0 ≤ a ∧ a ≤ 100) (hb : 0 ≤ b ∧ b ≤ 100) (H : K (0, am_ab (a - b)) h) : am_C true L xs P (d + 1) 177 [(0, a), (0, b)] h K := by
  unfold am_ab at H
  refine eX12_far (bX12_far_0 ⟨fun z => bX12_far_11 ⟨by omega, bX12_far_14 ?_⟩, fun z => ⟨by omega, bX12_far_14 ?_⟩⟩)
  · by_cases e : a - b < 0
    · rw [if_pos e] at H; rw [show b - a = -(a - b) by omega]; exact H
    · rw [if_neg e] at H; rw [show b - a = a - b by omega]; exact H
  · rw [if_neg (by omega)] at H; exact H
/-- the model's rows of stands and men -/
def okM (h : am_H) : Prop := (2 ≤ h 59 3 ∧ h 59 3 ≤ 5) ∧ (0 ≤ h 59 7 ∧ h 59 7 ≤ 20) ∧ (0 ≤ h 59 9 ∧ h 59 9 ≤ 14) ∧ (∀ i, (i : Nat) < 20 → 0 ≤ h 61 (4 * i + 1) ∧ h 61 (4 * i + 1) < 25) ∧ (∀ m, (m : Nat) < 14 → 0 ≤ h 62 (5 * m + 1) ∧ h 62 (5 * m + 1) ≤ 9999)
theorem okM.w {h : am_H} (s_ : okM h) : 2 ≤ h 59 3 ∧ h 59 3 ≤ 5 := s_.1
theorem okM.st {h : am_H} (s_ : okM h) : 0 ≤ h 59 7 ∧ h 59 7 ≤ 20 := s_.2.1
theorem okM.mn {h : am_H} (s_ : okM h) : 0 ≤ h 59 9 ∧ h 59 9 ≤ 14 := s_.2.2.1
theorem okM.sc {h : am_H} (s_ : okM h) : ∀ i, (i : Nat) < 20 → 0 ≤ h 61 (4 * i + 1) ∧ h 61 (4 * i + 1) < 25 := s_.2.2.2.1
theorem okM.mv {h : am_H} (s_ : okM h) : ∀ m, (m : Nat) < 14 → 0 ≤ h 62 (5 * m + 1) ∧ h 62 (5 * m + 1) ≤ 9999 := s_.2.2.2.2
theorem emod_in {a w : Int} (ha : 0 ≤ a ∧ a < 25) (hw : 2 ≤ w ∧ w ≤ 5) : (0 ≤ a % w ∧ a % w ≤ 100) ∧ (0 ≤ a / w ∧ a / w ≤ 100) := by
  have h1 := Int.emod_nonneg a (b := w) (by omega)
  have h2 := Int.emod_lt_of_pos a (b := w) (by omega)
  have h3 := Int.ediv_nonneg ha.1 (b := w) (by omega)
  have h4 : a / w ≤ a := Int.ediv_le_self w ha.1
  omega
set_option maxHeartbeats 1000000 in
theorem kX12_nearOf {L : Nat} {xs : Nat → Int} {P : Nat → List am_V → am_H → am_K → Prop} {d : Nat} {h : am_H} {K : am_K} {m : Nat} {c : Int} (hM : okM h) (hm : m < 14) (hc : 0 ≤ c ∧ c < 25) (H : K (0, am_mr h (m : Int) c (Int.toNat (h 59 7)) 0 (-1)) h) : am_C true L xs P (d + 2) 178 [(2, 59), (0, (m : Int)), (0, c)] h K := by
  have hst := hM.st
  refine eX12_nearOf (bX12_nearOf_0 ?_)
  have main : ∀ (n i : Nat) (acc : Int) (v5 v6 v7 : am_V), (i : Int) + n = h 59 7 → K (0, am_mr h (m : Int) c n i acc) h → tX12_nearOf (h 0 0 + (0 : Nat)) L xs (am_C true L xs P (d + 1)) K 5 [(2, 59), (0, (m : Int)), (0, c), (0, acc), (0, (i : Int)), v5, v6, v7] [] h := by
    intro n
    induction n with
    | zero =>
      intro i acc v5 v6 v7 hi HK
      exact bX12_nearOf_5 ⟨fun _ => bX12_nearOf_165 HK, fun z => by omega⟩
    | succ n ih =>
      intro i acc v5 v6 v7 hi HK
      simp only [am_mr] at HK
      have hsc := hM.sc i (by omega)
      have c1 := emod_in hsc hM.w
      have c2 := emod_in hc hM.w
      have i0 : (4 * (i : Int)).toNat = 4 * i := by omega
      have i1 : (4 * (i : Int) + 1).toNat = 4 * i + 1 := by omega
      have i2 : (4 * (i : Int) + 2).toNat = 4 * i + 2 := by omega
      have i3 : (4 * (i : Int) + 3).toNat = 4 * i + 3 := by omega
      have next : ∀ (acc' : Int) (v5 v6 v7 : am_V), acc' = (if h 61 (4 * i) = h 62 (Int.toNat (5 * m)) ∧ (h 61 (4 * i + 2) ≤ h 62 (Int.toNat (5 * m + 2)) ∧ h 62 (Int.toNat (5 * m + 2)) ≤ h 61 (4 * i + 3)) then (if acc = -1 ∨ am_fm h (h 61 (4 * i + 1)) c < acc then am_fm h (h 61 (4 * i + 1)) c else acc) else acc) → tX12_nearOf (h 0 0 + (0 : Nat)) L xs (am_C true L xs P (d + 1)) K 159 [(2, 59), (0, (m : Int)), (0, c), (0, acc'), (0, (i : Int)), v5, v6, v7] [] h := by
        intro acc' v5 v6 v7 he
        refine bX12_nearOf_159 ⟨by omega, ih (i + 1) acc' v5 v6 v7 (by omega) ?_⟩
        rw [he]; exact HK
      refine bX12_nearOf_5 ⟨fun z => by omega, fun _ => ⟨by omega, by omega, by omega, by omega, ?_⟩⟩
      rw [i0, i2, i3]
      refine ⟨fun gz => next acc _ _ _ ?_, fun gz => ⟨by omega, by omega, by omega, by omega, by omega, by omega, by omega, by omega, by omega, kX12_isIn (d := d) (fun g2 => ?_) (fun g2 => ?_)⟩⟩
      · rw [if_neg (fun z => gz z.1)]
      · refine ⟨fun z => absurd rfl z, fun _ => next acc _ _ _ ?_⟩
        rw [if_neg (fun z => g2 z.2)]
      · refine ⟨fun _ => bX12_nearOf_75 ⟨by omega, by omega, by omega, ?_⟩, fun z => absurd (by decide) z⟩
        have hyes : h 61 (4 * i) = h 62 (Int.toNat (5 * m)) ∧ (h 61 (4 * i + 2) ≤ h 62 (Int.toNat (5 * m + 2)) ∧ h 62 (Int.toNat (5 * m + 2)) ≤ h 61 (4 * i + 3)) := ⟨Classical.not_not.mp gz, g2⟩
        have hw := hM.w
        rw [i1]
        refine ⟨by omega, by omega, kX12_far (d := d) c1.1 c2.1 ⟨by omega, by omega, by omega, by omega, by omega, kX12_far (d := d) c1.2 c2.2 ?_⟩⟩
        have fin : ∀ x5 x6 w : Int, w = am_fm h (h 61 (4 * i + 1)) c → tX12_nearOf (h 0 0 + (0 : Nat)) L xs (am_C true L xs P (d + 1)) K 143 [(2, 59), (0, (m : Int)), (0, c), (0, acc), (0, (i : Int)), (0, x5), (0, x6), v7] [(0, w)] h := by
          intro x5 x6 w hw
          refine bX12_nearOf_143 ⟨fun z => bX12_nearOf_156 (next _ _ _ _ ?_), fun z => ⟨fun z2 => next _ _ _ _ ?_, fun z2 => bX12_nearOf_156 (next _ _ _ _ ?_)⟩⟩
          · rw [if_pos hyes, if_pos (Or.inl z)]; exact hw
          · rw [if_pos hyes, if_neg (fun y => y.elim z (fun y => by omega))]
          · rw [if_pos hyes, if_pos (Or.inr (by omega))]; exact hw
        dsimp only
        refine ⟨fun z => bX12_nearOf_141 (fin _ _ _ ?_), fun z => fin _ _ _ ?_⟩
        · unfold am_fm am_mx2
          split
          · rfl
          · omega
        · unfold am_fm am_mx2
          split
          · omega
          · rfl
  exact main (Int.toNat (h 59 7)) 0 (-1) _ _ _ (by omega) H
/-- what a thing of a man is -/
def tOf (u n b t : Int) (k : Nat) : Int := if k = 0 then n / 1000 else if k = 1 then n / 100 % 10 else if k = 2 then n / 10 % 10 else if k = 3 then n % 10 else if k = 4 then u else if k = 5 then b else am_and (t / 2 ^ (k - 6)) 1
def tM (h : am_H) (m k : Nat) : Int := tOf (h 62 (5 * m)) (h 62 (5 * m + 1)) (h 62 (5 * m + 3)) (h 62 (5 * m + 4)) k
theorem kX12_thingOf {L : Nat} {xs : Nat → Int} {P : Nat → List am_V → am_H → am_K → Prop} {d : Nat} {h : am_H} {K : am_K} {m k : Nat} (hm : m < 14) (hk : k < 14) (hv : 0 ≤ h 62 (5 * m + 1)) (H : K (0, tM h m k) h) : am_C true L xs P (d + 1) 180 [(2, 59), (0, (m : Int)), (0, (k : Int))] h K := by
  unfold tM tOf at H
  have j0 : (5 * (m : Int)).toNat = 5 * m := by omega
  have j1 : (5 * (m : Int) + 1).toNat = 5 * m + 1 := by omega
  have j3 : (5 * (m : Int) + 3).toNat = 5 * m + 3 := by omega
  have j4 : (5 * (m : Int) + 4).toNat = 5 * m + 4 := by omega
  have j6 : ((k : Int) - 6).toNat = k - 6 := by omega
  refine eX12_thingOf (bX12_thingOf_0 ⟨by omega, by omega, by omega, ?_⟩)
  rw [j1]
  refine ⟨fun z => bX12_thingOf_63 ⟨fun z2 => bX12_thingOf_79 ⟨fun z3 => bX12_thingOf_97 ⟨by omega, by omega, by omega, by omega, by omega, bX12_thingOf_114 ?_⟩, fun z3 => ⟨by omega, by omega, by omega, bX12_thingOf_114 ?_⟩⟩, fun z2 => ⟨by omega, by omega, bX12_thingOf_114 ?_⟩⟩, fun z => ⟨fun z1 => bX12_thingOf_28 ⟨fun z2 => bX12_thingOf_43 ⟨fun z3 => bX12_thingOf_58 ⟨by omega, bX12_thingOf_62 ?_⟩, fun z3 => ⟨by omega, by omega, bX12_thingOf_62 ?_⟩⟩, fun z2 => ⟨by omega, by omega, bX12_thingOf_62 ?_⟩⟩, fun z1 => ⟨by omega, bX12_thingOf_62 ?_⟩⟩⟩
  · rw [j4, j6]
    rw [if_neg (by omega), if_neg (by omega), if_neg (by omega), if_neg (by omega), if_neg (by omega), if_neg (by omega)] at H
    exact H
  · rw [j3]
    rw [if_neg (by omega), if_neg (by omega), if_neg (by omega), if_neg (by omega), if_neg (by omega), if_pos (by omega)] at H
    exact H
  · rw [j0]
    rw [if_neg (by omega), if_neg (by omega), if_neg (by omega), if_neg (by omega), if_pos (by omega)] at H
    exact H
  · rw [if_neg (by omega), if_neg (by omega), if_neg (by omega), if_pos (by omega)] at H
    exact H
  · rw [if_neg (by omega), if_neg (by omega), if_pos (by omega)] at H
    exact H
  · rw [if_neg (by omega), if_pos (by omega)] at H
    exact H
  · rw [if_pos (by omega)] at H
    exact H
def Qm (h : am_H) (b m : Nat) : Prop := ∃ t, t < 14 ∧ ¬ h 80 (14 * b + t) = -1 ∧ ¬ h 80 (14 * b + t) = tM h m t
theorem kX12_quarrels {L : Nat} {xs : Nat → Int} {P : Nat → List am_V → am_H → am_K → Prop} {d : Nat} {h : am_H} {K : am_K} {b m : Nat} (hM : okM h) (hb : b < 10) (hm : m < 14) (H0 : ¬ Qm h b m → K (0, 0) h) (H1 : Qm h b m → K (0, 1) h) : am_C true L xs P (d + 2) 181 [(2, 59), (0, (b : Int)), (0, (m : Int))] h K := by
  refine eX12_quarrels (bX12_quarrels_0 ?_)
  refine upto (σ := Unit) (N := 14) (I := fun i _ => ∀ t, t < i → ¬ (¬ h 80 (14 * b + t) = -1 ∧ ¬ h 80 (14 * b + t) = tM h m t)) (G := fun i _ => tX12_quarrels (h 0 0 + (0 : Nat)) L xs (am_C true L xs P (d + 1)) K 2 [(2, 59), (0, (b : Int)), (0, (m : Int)), (0, (i : Int))] [] h) ?_ ?_ 14 0 () (by omega) (fun t ht => by omega)
  · intro i _ hi e1 ih
    have i1 : (14 * (b : Int) + (i : Int)).toNat = 14 * b + i := by omega
    have next : ¬ (¬ h 80 (14 * b + i) = -1 ∧ ¬ h 80 (14 * b + i) = tM h m i) → tX12_quarrels (h 0 0 + (0 : Nat)) L xs (am_C true L xs P (d + 1)) K 45 [(2, 59), (0, (b : Int)), (0, (m : Int)), (0, (i : Int))] [] h := by
      intro hn
      refine bX12_quarrels_45 ⟨by omega, ih () (fun t ht => ?_)⟩
      by_cases e : t = i
      · subst e; exact hn
      · exact e1 t (by omega)
    refine bX12_quarrels_2 ⟨fun z => by omega, fun _ => ⟨by omega, by omega, by omega, ?_⟩⟩
    rw [i1]
    refine ⟨fun gz => next (fun z => z.1 gz), fun gz => ⟨by omega, by omega, by omega, kX12_thingOf (d := d) hm hi (hM.mv m hm).1 ⟨fun ge => next (fun z => z.2 ge), fun ge => ⟨by decide, H1 ⟨i, hi, gz, ge⟩⟩⟩⟩⟩
  · intro _ e1
    exact bX12_quarrels_2 ⟨fun _ => bX12_quarrels_51 ⟨by decide, H0 (fun ⟨t, ht, z⟩ => e1 t ht z)⟩, fun z => by omega⟩
theorem kX12_readMany {L : Nat} {xs : Nat → Int} {P : Nat → List am_V → am_H → am_K → Prop} {d : Nat} {h : am_H} {K : am_K} {b fr to : Nat} (hb : b < 10) (ht : fr ≤ to ∧ to ≤ 14) (H : K (0, (cnt (fun j => ¬ h 80 (14 * b + (fr + j)) = -1) (to - fr) : Nat)) h) : am_C true L xs P (d + 1) 182 [(2, 59), (0, (b : Int)), (0, (fr : Int)), (0, (to : Int))] h K := by
  refine eX12_readMany (bX12_readMany_0 ?_)
  refine upto (σ := Int) (N := to - fr) (I := fun i r => r = (cnt (fun j => ¬ h 80 (14 * b + (fr + j)) = -1) i : Nat)) (G := fun i r => tX12_readMany (h 0 0 + (0 : Nat)) L xs (am_C true L xs P d) K 6 [(2, 59), (0, (b : Int)), (0, (fr : Int)), (0, (to : Int)), (0, r), (0, (fr : Int) + (i : Int))] [] h) ?_ ?_ (to - fr) 0 0 (by omega) rfl
  · intro i r hi er ih
    have i1 : (14 * (b : Int) + ((fr : Int) + (i : Int))).toNat = 14 * b + (fr + i) := by omega
    have cb := cnt_bnd (fun j => ¬ h 80 (14 * b + (fr + j)) = -1) i
    refine bX12_readMany_6 ⟨fun z => by omega, fun _ => ⟨by omega, by omega, by omega, ?_⟩⟩
    rw [i1]
    refine ⟨fun gz => bX12_readMany_34 (bX12_readMany_35 ⟨by omega, by omega, ?_⟩), fun gz => bX12_readMany_35 ⟨by omega, by omega, ?_⟩⟩
    · rw [show (fr : Int) + (i : Int) + 1 = (fr : Int) + ((i + 1 : Nat) : Int) by omega]
      refine ih _ ?_
      rw [cnt_pos (p := fun j => ¬ h 80 (14 * b + (fr + j)) = -1) gz]; omega
    · rw [show (fr : Int) + (i : Int) + 1 = (fr : Int) + ((i + 1 : Nat) : Int) by omega]
      refine ih _ ?_
      rw [cnt_neg (p := fun j => ¬ h 80 (14 * b + (fr + j)) = -1) gz]; omega
  · intro r er
    rw [← er] at H
    exact bX12_readMany_6 ⟨fun _ => bX12_readMany_44 H, fun z => by omega⟩
/-- a proof's line holds, by the model's rows -/
def Hm (h : am_H) (b : Nat) (x : Int) (l : Nat) : Prop := h 72 (6 * l + 1) ≤ (cnt (fun j => ¬ h 80 (14 * b + (0 + j)) = -1) 4 : Nat) ∧ h 72 (6 * l + 4) ≤ (cnt (fun j => ¬ h 80 (14 * b + (6 + j)) = -1) 8 : Nat) ∧ (h 72 (6 * l + 2) = -1 ∨ ¬ h 80 (14 * b + 4) = -1) ∧ (h 72 (6 * l + 3) = -1 ∨ ¬ h 80 (14 * b + 5) = -1) ∧ (h 72 (6 * l + 5) = -1 ∨ (¬ x = -1 ∧ x ≤ h 72 (6 * l + 5)))
def Nmo (h : am_H) (m : Nat) (c : Int) : Int := am_mr h (m : Int) c (Int.toNat (h 59 7)) 0 (-1)
def Pm (h : am_H) (b : Nat) (x : Int) (n : Nat) (s : Int) : Prop := ∃ l, l < n ∧ (h 72 (6 * l) = 1 ∨ s = 0) ∧ Hm h b x l
theorem kX12_proves {L : Nat} {xs : Nat → Int} {P : Nat → List am_V → am_H → am_K → Prop} {d : Nat} {h : am_H} {K : am_K} {b m n : Nat} {s : Int} (hM : okM h) (hb : b < 10) (hm : m < 14) (hn : n ≤ 12) (h31 : h 59 31 = n) (hcb : 0 ≤ h 67 b ∧ h 67 b < 25) (H0 : ¬ Pm h b (Nmo h m (h 67 b)) n s → K (0, 0) h) (H1 : Pm h b (Nmo h m (h 67 b)) n s → K (0, 1) h) : am_C true L xs P (d + 3) 183 [(2, 59), (0, (b : Int)), (0, (m : Int)), (0, s)] h K := by
  refine eX12_proves (bX12_proves_0 ⟨by omega, ?_⟩)
  rw [Int.toNat_natCast]
  refine kX12_nearOf (d := d) hM hm hcb ?_
  show tX12_proves _ _ _ _ _ 16 [(2, 59), (0, (b : Int)), (0, (m : Int)), (0, s), (0, Nmo h m (h 67 b)), (0, 0), (9, 0), (9, 0)] [] h
  generalize Nmo h m (h 67 b) = x at H0 H1
  refine upto (σ := am_V × am_V) (N := n) (I := fun i _ => ¬ Pm h b x i s) (G := fun i v => tX12_proves (h 0 0 + (0 : Nat)) L xs (am_C true L xs P (d + 2)) K 16 [(2, 59), (0, (b : Int)), (0, (m : Int)), (0, s), (0, x), (0, (i : Int)), v.1, v.2] [] h) ?_ ?_ n 0 ((9, 0), (9, 0)) (by omega) (fun ⟨l, l1, _⟩ => by omega)
  · intro i ⟨v6, v7⟩ hi e1 ih
    have i0 : (6 * (i : Int)).toNat = 6 * i := by omega
    have i1 : (6 * (i : Int) + 1).toNat = 6 * i + 1 := by omega
    have i2 : (6 * (i : Int) + 2).toNat = 6 * i + 2 := by omega
    have i3 : (6 * (i : Int) + 3).toNat = 6 * i + 3 := by omega
    have i4 : (6 * (i : Int) + 4).toNat = 6 * i + 4 := by omega
    have i5 : (6 * (i : Int) + 5).toNat = 6 * i + 5 := by omega
    have j4 : (14 * (b : Int) + 4).toNat = 14 * b + 4 := by omega
    have j5 : (14 * (b : Int) + 5).toNat = 14 * b + 5 := by omega
    -- backwards
    have no : ∀ x7 : Int, ¬ ((h 72 (6 * i) = 1 ∨ s = 0) ∧ Hm h b x i) → tX12_proves (h 0 0 + (0 : Nat)) L xs (am_C true L xs P (d + 2)) K 217 [(2, 59), (0, (b : Int)), (0, (m : Int)), (0, s), (0, x), (0, (i : Int)), (0, 6 * (i : Int)), (0, x7)] [(0, 0)] h := by
      intro x7 hz
      refine bX12_proves_217 ⟨fun _ => bX12_proves_226 ⟨by omega, ih (_, _) (fun ⟨l, l1, l2⟩ => ?_)⟩, fun z => absurd rfl z⟩
      by_cases e : l = i
      · subst e; exact hz l2
      · exact e1 ⟨l, by omega, l2⟩
    have no172 : ∀ x7 : Int, ¬ ((h 72 (6 * i) = 1 ∨ s = 0) ∧ Hm h b x i) → tX12_proves (h 0 0 + (0 : Nat)) L xs (am_C true L xs P (d + 2)) K 172 [(2, 59), (0, (b : Int)), (0, (m : Int)), (0, s), (0, x), (0, (i : Int)), (0, 6 * (i : Int)), (0, x7)] [(0, 0)] h :=
      fun x7 hz => bX12_proves_172 ⟨fun _ => bX12_proves_216 (no _ hz), fun z => absurd rfl z⟩
    have no104 : ∀ x7 : Int, ¬ ((h 72 (6 * i) = 1 ∨ s = 0) ∧ Hm h b x i) → tX12_proves (h 0 0 + (0 : Nat)) L xs (am_C true L xs P (d + 2)) K 104 [(2, 59), (0, (b : Int)), (0, (m : Int)), (0, s), (0, x), (0, (i : Int)), (0, 6 * (i : Int)), (0, x7)] [(0, 0)] h :=
      fun x7 hz => bX12_proves_104 ⟨fun _ => bX12_proves_171 (no172 _ hz), fun z => absurd rfl z⟩
    have no52 : ∀ v7 : am_V, ¬ ((h 72 (6 * i) = 1 ∨ s = 0) ∧ Hm h b x i) → tX12_proves (h 0 0 + (0 : Nat)) L xs (am_C true L xs P (d + 2)) K 52 [(2, 59), (0, (b : Int)), (0, (m : Int)), (0, s), (0, x), (0, (i : Int)), (0, 6 * (i : Int)), v7] [(0, 0)] h :=
      fun v7 hz => bX12_proves_52 ⟨fun _ => bX12_proves_103 (no104 _ hz), fun z => absurd rfl z⟩
    have go52 : ∀ v7 : am_V, (h 72 (6 * i) = 1 ∨ s = 0) → tX12_proves (h 0 0 + (0 : Nat)) L xs (am_C true L xs P (d + 2)) K 52 [(2, 59), (0, (b : Int)), (0, (m : Int)), (0, s), (0, x), (0, (i : Int)), (0, 6 * (i : Int)), v7] [(0, 1)] h := by
      intro v7 hs
      refine bX12_proves_52 ⟨fun z => absurd z (by decide), fun _ => kX12_readMany (d := d + 1) (b := b) (fr := 0) (to := 4) hb (by omega) ?_⟩
      dsimp only
      rw [show (4 - 0 : Nat) = 4 from rfl]
      refine ⟨by omega, by omega, ?_⟩
      rw [i1]
      refine ⟨fun g1 => bX12_proves_103 (no104 _ (fun z => by have := z.2.1; omega)), fun g1 => kX12_readMany (d := d + 1) (b := b) (fr := 6) (to := 14) hb (by omega) ?_⟩
      dsimp only
      rw [show (14 - 6 : Nat) = 8 from rfl]
      refine ⟨by omega, by omega, ?_⟩
      rw [i4]
      refine ⟨fun g2 => bX12_proves_103 (no104 _ (fun z => by have := z.2.2.1; omega)), fun g2 => bX12_proves_104 ⟨fun z => absurd z (by decide), fun _ => ⟨by omega, by omega, ?_⟩⟩⟩
      rw [i2, j4]
      have fin : h 72 (6 * i + 2) = -1 ∨ ¬ h 80 (14 * b + 4) = -1 → tX12_proves (h 0 0 + (0 : Nat)) L xs (am_C true L xs P (d + 2)) K 139 [(2, 59), (0, (b : Int)), (0, (m : Int)), (0, s), (0, x), (0, (i : Int)), (0, 6 * (i : Int)), (0, 1)] [] h := by
        intro h4
        refine bX12_proves_139 ⟨by omega, by omega, ?_⟩
        rw [i3, j5]
        have fin2 : h 72 (6 * i + 3) = -1 ∨ ¬ h 80 (14 * b + 5) = -1 → tX12_proves (h 0 0 + (0 : Nat)) L xs (am_C true L xs P (d + 2)) K 167 [(2, 59), (0, (b : Int)), (0, (m : Int)), (0, s), (0, x), (0, (i : Int)), (0, 6 * (i : Int)), (0, 1)] [] h := by
          intro h5
          refine bX12_proves_167 (bX12_proves_172 ⟨fun z => absurd z (by decide), fun _ => ⟨by omega, by omega, ?_⟩⟩)
          rw [i5]
          have yes : (h 72 (6 * i + 5) = -1 ∨ (¬ x = -1 ∧ x ≤ h 72 (6 * i + 5))) → tX12_proves (h 0 0 + (0 : Nat)) L xs (am_C true L xs P (d + 2)) K 212 [(2, 59), (0, (b : Int)), (0, (m : Int)), (0, s), (0, x), (0, (i : Int)), (0, 6 * (i : Int)), (0, 1)] [] h :=
            fun h6 => bX12_proves_212 (bX12_proves_217 ⟨fun z => absurd z (by decide), fun _ => ⟨by decide, H1 ⟨i, hi, hs, by omega, by omega, h4, h5, h6⟩⟩⟩)
          have non : ¬ (h 72 (6 * i + 5) = -1 ∨ (¬ x = -1 ∧ x ≤ h 72 (6 * i + 5))) → tX12_proves (h 0 0 + (0 : Nat)) L xs (am_C true L xs P (d + 2)) K 216 [(2, 59), (0, (b : Int)), (0, (m : Int)), (0, s), (0, x), (0, (i : Int)), (0, 6 * (i : Int)), (0, 1)] [] h :=
            fun h6 => bX12_proves_216 (no _ (fun z => h6 z.2.2.2.2.2))
          refine ⟨fun z => yes (Or.inl z), fun z => ⟨fun z2 => non (fun w => w.elim z (fun w => w.1 z2)), fun z2 => ⟨by omega, by omega, ⟨fun z3 => non (fun w => w.elim z (fun w => by omega)), fun z3 => yes (Or.inr ⟨z2, by omega⟩)⟩⟩⟩⟩
        refine ⟨fun z => fin2 (Or.inl z), fun z => ⟨by omega, by omega, by omega, ⟨fun z2 => bX12_proves_171 (no172 _ (fun w => w.2.2.2.2.1.elim z (fun w => w z2))), fun z2 => fin2 (Or.inr z2)⟩⟩⟩
      refine ⟨fun z => fin (Or.inl z), fun z => ⟨by omega, by omega, by omega, ⟨fun z2 => bX12_proves_171 (no172 _ (fun w => w.2.2.2.1.elim z (fun w => w z2))), fun z2 => fin (Or.inr z2)⟩⟩⟩
    refine bX12_proves_16 ⟨fun z => by omega, fun _ => ⟨by omega, by omega, ?_⟩⟩
    rw [i0]
    refine ⟨fun z => bX12_proves_47 (go52 _ (Or.inl z)), fun z => ⟨fun z2 => bX12_proves_51 (no52 _ (fun w => w.1.elim z z2)), fun z2 => bX12_proves_47 (go52 _ (Or.inr (Classical.not_not.mp z2)))⟩⟩
  · intro ⟨v6, v7⟩ e1
    exact bX12_proves_16 ⟨fun _ => bX12_proves_232 ⟨by decide, H0 e1⟩, fun z => by omega⟩
theorem kX12_fitOf {L : Nat} {xs : Nat → Int} {P : Nat → List am_V → am_H → am_K → Prop} {d : Nat} {h : am_H} {K : am_K} {b m n nm : Nat} (hM : okM h) (hb : b < 10) (hm : m < nm) (hn : n ≤ 12) (h31 : h 59 31 = n) (h9 : h 59 9 = nm) (hcb : 0 ≤ h 67 b ∧ h 67 b < 25) (H : K (0, vd (Qm h b m) (Pm h b (Nmo h m (h 67 b)) n 0) (Pm h b (Nmo h m (h 67 b)) n 1) (∃ o, o < nm ∧ ¬ o = m ∧ ¬ Qm h b o ∧ Pm h b (Nmo h o (h 67 b)) n 1)) h) : am_C true L xs P (d + 4) 184 [(2, 59), (0, (b : Int)), (0, (m : Int))] h K := by
  have hmn := hM.mn
  have hm14 : m < 14 := by omega
  refine eX12_fitOf (bX12_fitOf_0 (kX12_quarrels (d := d + 1) hM hb hm14 (fun gq => ?_) (fun gq => ?_)))
  · refine ⟨fun _ => bX12_fitOf_11 (kX12_proves (d := d) hM hb hm14 hn h31 hcb (fun gp => ?_) (fun gp => ?_)), fun z => absurd rfl z⟩
    · refine ⟨fun z => absurd rfl z, fun _ => ?_⟩
      unfold vd at H
      simp only [gq, gp, if_false, not_false_eq_true, if_true] at H
      exact H
    · refine ⟨fun _ => bX12_fitOf_23 (kX12_proves (d := d) hM hb hm14 hn h31 hcb (fun gs => ?_) (fun gs => ?_)), fun z => absurd (by decide) z⟩
      · refine ⟨fun z => absurd rfl z, fun _ => ?_⟩
        unfold vd at H
        simp only [gq, gp, gs, if_false, not_false_eq_true, if_true, not_true] at H
        exact H
      · refine ⟨fun _ => bX12_fitOf_35 ?_, fun z => absurd (by decide) z⟩
        unfold vd at H
        simp only [gq, gp, gs, if_false, not_true] at H
        refine upto (σ := Unit) (N := nm) (I := fun i _ => ¬ ∃ o, o < i ∧ ¬ o = m ∧ ¬ Qm h b o ∧ Pm h b (Nmo h o (h 67 b)) n 1) (G := fun i _ => tX12_fitOf (h 0 0 + (0 : Nat)) L xs (am_C true L xs P (d + 3)) K 37 [(2, 59), (0, (b : Int)), (0, (m : Int)), (0, (i : Int))] [] h) ?_ ?_ nm 0 () (by omega) (fun ⟨o, o1, _⟩ => by omega)
        · intro i _ hi e1 ih
          have next : ¬ (¬ i = m ∧ ¬ Qm h b i ∧ Pm h b (Nmo h i (h 67 b)) n 1) → tX12_fitOf (h 0 0 + (0 : Nat)) L xs (am_C true L xs P (d + 3)) K 71 [(2, 59), (0, (b : Int)), (0, (m : Int)), (0, (i : Int))] [] h := by
            intro hz
            refine bX12_fitOf_71 ⟨by omega, ih () (fun ⟨o, o1, o2⟩ => ?_)⟩
            by_cases e : o = i
            · subst e; exact hz o2
            · exact e1 ⟨o, by omega, o2⟩
          refine bX12_fitOf_37 ⟨fun z => by omega, fun _ => ⟨fun z => next (fun w => by omega), fun z => kX12_quarrels (d := d + 1) hM hb (by omega) (fun gq2 => ?_) (fun gq2 => ?_)⟩⟩
          · refine ⟨fun z => absurd rfl z, fun _ => kX12_proves (d := d) hM hb (by omega) hn h31 hcb (fun gs2 => ?_) (fun gs2 => ?_)⟩
            · exact ⟨fun _ => next (fun w => gs2 w.2.2), fun z => absurd rfl z⟩
            · refine ⟨fun z => absurd z (by decide), fun _ => ?_⟩
              rw [if_pos ⟨i, hi, by omega, gq2, gs2⟩] at H
              exact H
          · exact ⟨fun _ => next (fun w => w.2.1 gq2), fun z => absurd (by decide) z⟩
        · intro _ e1
          rw [if_neg e1] at H
          exact bX12_fitOf_37 ⟨fun _ => bX12_fitOf_77 H, fun z => by omega⟩
  · refine ⟨fun z => absurd z (by decide), fun _ => ?_⟩
    unfold vd at H
    simp only [gq, if_true] at H
    exact H
