/-! feed: the tape -/
theorem i2b_bnd (a : Int) : -128 ≤ am_i2b a ∧ am_i2b a ≤ 127 := by
  unfold am_i2b
  rw [Int8.toInt_toInt32]
  have h1 := Int8.le_toInt (Int32.ofInt a).toInt8
  have h2 := Int8.toInt_lt (Int32.ofInt a).toInt8
  have e : (2 : Int) ^ 7 = 128 := by decide
  omega
theorem i2b_bit (a : Int) {k : Nat} (hk : k < 8) : bt (am_i2b a) k = bt a k := by
  unfold bt am_i2b
  rw [Int32.ofInt_toInt]
  rw [Int8.toBitVec_toInt32, Int32.toBitVec_toInt8, BitVec.getLsbD_signExtend, BitVec.getLsbD_signExtend]
  have h32 : k < 32 := by omega
  rw [if_pos hk, if_pos h32, decide_eq_true hk, decide_eq_true h32, Bool.true_and, Bool.true_and]
theorem i2b_255 (a : Int) : am_and (am_i2b a) 255 = am_and a 255 := by
  refine bt_ext (am_inI_and _ _) (am_inI_and _ _) (fun k hk => ?_)
  rw [bt_and, bt_and]
  have e : bt (255 : Int) k = decide (k < 8) := bt_full (n := 8) (by decide)
  rw [e]
  by_cases h : k < 8
  · rw [i2b_bit a h]
  · simp [h]
section
variable {L : Nat} {xs : Nat → Int} {P : Nat → List am_V → am_H → am_K → Prop} {d : Nat} {h : am_H} {K : am_K} {Q : am_V → am_V → am_H → Prop}
theorem kX8_append {x : Int} {s : Nat} (h2 : h 2 1 = s) (hs : s + 4 ≤ 400) (H : ∀ g, Fr [2, 3] h g → (∀ j, ¬ j = 1 → g 2 j = h 2 j) → g 2 1 = (s + 4 : Nat) → (∀ j, (j < s ∨ s + 4 ≤ j) → g 3 j = h 3 j) → (∀ i, i < 4 → am_and (g 3 (s + i)) 255 = am_and (x / 2 ^ (24 - 8 * i)) 255) → K (9, 0) g) : am_C true L xs P (d + 1) 82 [(2, 2), (0, x)] h K := by
  refine eX8_append (bX8_append_0 ?_)
  refine upto (σ := am_H) (N := 4) (I := fun i g => Fr [2, 3] h g ∧ (∀ j, ¬ j = 1 → g 2 j = h 2 j) ∧ g 2 1 = (s + i : Nat) ∧ (∀ j, (j < s ∨ s + i ≤ j) → g 3 j = h 3 j) ∧ ∀ k, k < i → am_and (g 3 (s + k)) 255 = am_and (x / 2 ^ (24 - 8 * k)) 255) (G := fun i g => tX8_append (h 0 0 + (0 : Nat)) L xs (am_C true L xs P d) K 3 [(2, 2), (0, x), (0, 24 - 8 * (i : Int))] [] g) ?_ ?_ 4 0 h (by omega) ⟨Fr.rf, fun _ _ => rfl, h2, fun _ _ => rfl, fun k hk => by omega⟩
  · intro i g hi ⟨e1, e2, e3, e4, e5⟩ ih
    have ib := i2b_bnd (x / 2 ^ (24 - 8 * i))
    refine bX8_append_3 ⟨fun z => by omega, fun _ => ⟨fun z => by omega, fun _ => ⟨by omega, ?_⟩⟩⟩
    rw [show Int.toNat (24 - 8 * (i : Int)) = 24 - 8 * i by omega, e3, Int.toNat_natCast]
    refine ⟨⟨by omega, by omega, ib.1, ib.2⟩, ⟨by omega, by omega⟩, ⟨by omega, by omega⟩, ?_⟩
    rw [show 24 - 8 * (i : Int) + -8 = 24 - 8 * ((i + 1 : Nat) : Int) by omega]
    refine ih _ ⟨(e1.st (by decide)).st (by decide), fun j hj => ?_, ?_, fun j hj => ?_, fun k hk => ?_⟩
    · rw [st_nj hj, st_ne (by decide)]; exact e2 j hj
    · rw [st_at]; omega
    · rw [st_ne (by decide), st_nj (by omega)]; exact e4 j (by omega)
    · rw [st_ne (by decide), st_ap]
      by_cases e : k = i
      · rw [if_pos (by omega), e, i2b_255]
      · rw [if_neg (by omega)]; exact e5 k (by omega)
  · intro g ⟨e1, e2, e3, e4, e5⟩
    exact bX8_append_3 ⟨fun _ => bX8_append_46 (H g e1 e2 e3 e4 e5), fun z => by omega⟩
def pick (a b c e f : Int) (k : Nat) : Int := if k < 4 then a else if k < 8 then b else if k < 12 then c else if k < 16 then e else f
theorem kX12_feed {a b c e f : Int} {s : Nat} (h1 : h 59 1 = s) (hs : s ≤ 400) (H0 : ¬ s + 20 ≤ 400 → K (0, -1) (am_t0 h)) (H1 : s + 20 ≤ 400 → ∀ g, Fr [59, 60] h g → (∀ j, ¬ j = 1 → ¬ j = 2 → g 59 j = h 59 j) → g 59 1 = (s + 20 : Nat) → (∀ j, (j < s ∨ s + 20 ≤ j) → g 60 j = h 60 j) → (∀ k, k < 20 → g 60 (s + k) = am_and (pick a b c e f k / 2 ^ (24 - 8 * (k % 4))) 255) → K (0, (s + 20 : Nat)) g) : am_C true L xs P (d + 1) 146 [(2, 59), (0, a), (0, b), (0, c), (0, e), (0, f)] h K := by
  refine eX12_feed (bX12_feed_0 ?_)
  rw [h1]
  refine ⟨⟨by omega, by omega⟩, fun z => bX12_feed_20 ?_, fun z => H0 (by omega)⟩
  have s1 : am_st h 59 2 0 59 1 = s := by rw [st_nj (by decide)]; exact h1
  refine upto (σ := am_V × am_H) (N := 20) (I := fun i s' => Fr [60] (am_st h 59 2 0) s'.2 ∧ (∀ j, (j < s ∨ s + i ≤ j) → s'.2 60 j = h 60 j) ∧ ∀ k, k < i → s'.2 60 (s + k) = am_and (pick a b c e f k / 2 ^ (24 - 8 * (k % 4))) 255) (G := fun i s' => tX12_feed (h 0 0 + (0 : Nat)) L xs (am_C true L xs P d) K 23 [(2, 59), (0, a), (0, b), (0, c), (0, e), (0, f), (0, (i : Int)), s'.1] [] s'.2) ?_ ?_ 20 0 ((9, 0), am_st h 59 2 0) (by omega) ⟨Fr.rf, fun j _ => by dsimp only; rw [st_ne (by decide)], fun k hk => by omega⟩
  · intro i ⟨v, g⟩ hi ⟨e1, e2, e3⟩ ih
    dsimp only at e1 e2 e3 ⊢
    have g1 : g 59 1 = s := by rw [e1 59 (by decide)]; exact s1
    have go : ∀ w : Int, w = pick a b c e f i → tX12_feed (h 0 0 + (0 : Nat)) L xs (am_C true L xs P d) K 76 [(2, 59), (0, a), (0, b), (0, c), (0, e), (0, f), (0, (i : Int)), v] [(0, w)] g := by
      intro w hw
      refine bX12_feed_76 ?_
      rw [g1, show Int.toNat ((s : Int) + (i : Int)) = s + i by omega, show Int.toNat (24 - 8 * ((i : Int) % 4)) = 24 - 8 * (i % 4) by omega]
      refine ⟨⟨by omega, by omega⟩, by omega, ⟨by omega, by omega⟩, ⟨by omega, by omega⟩, by omega, by omega, by omega, ih (_, am_st g 60 (s + i) (am_and (w / 2 ^ (24 - 8 * (i % 4))) 255)) ⟨e1.st (by decide), fun j hj => ?_, fun k hk => ?_⟩⟩
      · dsimp only; rw [st_nj (by omega)]; exact e2 j (by omega)
      · dsimp only
        rw [st_ap]
        by_cases ek : k = i
        · rw [if_pos (by omega), ek, hw]
        · rw [if_neg (by omega)]; exact e3 k (by omega)
    have pk : pick a b c e f i = if i < 4 then a else if i < 8 then b else if i < 12 then c else if i < 16 then e else f := rfl
    refine bX12_feed_23 ⟨fun z => by omega, fun _ => ⟨fun z1 => bX12_feed_40 ⟨fun z2 => bX12_feed_51 ⟨fun z3 => bX12_feed_62 ⟨fun z4 => bX12_feed_74 (go f ?_), fun z4 => go e ?_⟩, fun z3 => go c ?_⟩, fun z2 => go b ?_⟩, fun z1 => go a ?_⟩⟩
    · rw [pk, if_neg (by omega), if_neg (by omega), if_neg (by omega), if_neg (by omega)]
    · rw [pk, if_neg (by omega), if_neg (by omega), if_neg (by omega), if_pos (by omega)]
    · rw [pk, if_neg (by omega), if_neg (by omega), if_pos (by omega)]
    · rw [pk, if_neg (by omega), if_pos (by omega)]
    · rw [pk, if_pos (by omega)]
  · intro ⟨v, g⟩ ⟨e1, e2, e3⟩
    dsimp only at e1 e2 e3 ⊢
    have g1 : g 59 1 = s := by rw [e1 59 (by decide)]; exact s1
    refine bX12_feed_23 ⟨fun _ => bX12_feed_113 ?_, fun z => by omega⟩
    rw [g1]
    refine ⟨⟨by omega, by omega⟩, ?_⟩
    have := H1 (by omega) (am_st g 59 1 ((s : Int) + 20)) ?_ ?_ ?_ ?_ ?_
    · rw [show ((s + 20 : Nat) : Int) = (s : Int) + 20 by omega] at this
      exact this
    · intro i hi
      have h1 : ¬ i = 59 ∧ ¬ i = 60 := by simpa using hi
      rw [st_ne h1.1, e1 i (by simpa using h1.2), st_ne h1.1]
    · intro j h1 h2
      rw [st_nj h1, e1 59 (by decide), st_nj h2]
    · rw [st_at]; omega
    · intro j hj
      rw [st_ne (by decide)]; exact e2 j hj
    · intro k hk
      rw [st_ne (by decide)]; exact e3 k hk
theorem Inv.tape {h g : am_H} (I : Inv h) (t : LkT g) (aN : agree DN h g) (aR : agree DR h g) (aP : agree DP h g) (aF : agree DF h g) (aL : agree DL h g) (aY : agree DY h g) (aW : agree DW h g) : Inv g := by
  obtain ⟨⟨N, nb, n⟩, ⟨nm, r⟩, ⟨c, np, nq, p, s⟩, _, f, l, y, w⟩ := I
  exact ⟨⟨N, nb, n.cg aN⟩, ⟨nm, r.cg aR⟩, ⟨c, np, nq, p.cg aP, s.cg p.hc aP⟩, t, f.cg aF, l.cg aL, y.cg aY, w.cg aW⟩
theorem pr_feed {a b c e f : Int} (I : Inv h) (H : ∀ v g, Inv g → g 0 = h 0 → Q (0, v) (0, v) g) : am_C true L xs P (d + 24) 102 [(2, 1), (0, a), (0, b), (0, c), (0, e), (0, f)] h (fun r1 h1 => am_C true L xs P (d + 24) 146 [(2, 59), (0, a), (0, b), (0, c), (0, e), (0, f)] h1 (fun r2 h2 => Q r1 r2 h2)) := by
  have t := I.t
  have in4 := t.in4
  obtain ⟨s, hs⟩ : ∃ s : Nat, h 59 1 = s := ⟨(h 59 1).toNat, by omega⟩
  have h21 : h 2 1 = s := by rw [t.sz, hs]
  refine eX11_feed (bX11_feed_0 (kX8_hasRoom (d := d + 22) (by omega) (fun z => ⟨fun q => absurd rfl q, fun _ => ?_⟩) (fun z => ⟨fun _ => bX11_feed_14 ?_, fun q => absurd (by decide) q⟩)))
  · exact kX12_feed (d := d + 23) hs (by omega) (fun _ => H _ _ (I.xs MS.t0.xs) (XS.h0 MS.t0.xs)) (fun q => by omega)
  · refine kX8_append (d := d + 22) h21 (by omega) (fun g1 f1 a1 b1 c1 d1 => ?_)
    refine kX8_append (d := d + 22) b1 (by omega) (fun g2 f2 a2 b2 c2 d2 => ?_)
    refine kX8_append (d := d + 22) b2 (by omega) (fun g3 f3 a3 b3 c3 d3 => ?_)
    refine kX8_append (d := d + 22) b3 (by omega) (fun g4 f4 a4 b4 c4 d4 => ?_)
    refine kX8_append (d := d + 22) b4 (by omega) (fun g5 f5 a5 b5 c5 d5 => ?_)
    have F5 : Fr [2, 3] h g5 := f1.tr (f2.tr (f3.tr (f4.tr f5)))
    refine kX12_feed (d := d + 23) (h := g5) (s := s) (by rw [F5 59 (by decide)]; exact hs) (by omega) (fun q => by omega) (fun _ g fg eg e1 o60 n60 => ?_)
    rw [b5]
    have F : Fr [2, 3, 59, 60] h g := (F5.mono (by decide)).tr (fg.mono (by decide))
    have g2' : g 2 = g5 2 := fg 2 (by decide)
    have g3' : g 3 = g5 3 := fg 3 (by decide)
    have e2 : ∀ j, ¬ j = 1 → g 2 j = h 2 j := fun j hj => by rw [g2', a5 j hj, a4 j hj, a3 j hj, a2 j hj, a1 j hj]
    have e59 : ∀ j, ¬ j = 1 → ¬ j = 2 → g 59 j = h 59 j := fun j h1 h2 => by rw [eg j h1 h2, F5 59 (by decide)]
    have lt : LkT g := by
      refine ⟨by rw [g2', b5, e1], by rw [e1]; omega, fun j => ?_⟩
      rw [g3']
      by_cases w0 : j < s
      · rw [o60 j (Or.inl w0), F5 60 (by decide), c5 j (by omega), c4 j (by omega), c3 j (by omega), c2 j (by omega), c1 j (by omega)]
        exact t.sg j
      · by_cases w1 : j < s + 20
        · obtain ⟨k, hk⟩ : ∃ k, j = s + k := ⟨j - s, by omega⟩
          subst hk
          rw [n60 k (by omega)]
          unfold pick
          by_cases k1 : k < 4
          · rw [c5 _ (by omega), c4 _ (by omega), c3 _ (by omega), c2 _ (by omega), if_pos k1, d1 k k1, show k % 4 = k by omega]
          · rw [if_neg k1]
            by_cases k2 : k < 8
            · have := d2 (k - 4) (by omega)
              rw [show s + 4 + (k - 4) = s + k by omega] at this
              rw [c5 _ (by omega), c4 _ (by omega), c3 _ (by omega), if_pos k2, this, show k % 4 = k - 4 by omega]
            · rw [if_neg k2]
              by_cases k3 : k < 12
              · have := d3 (k - 8) (by omega)
                rw [show s + 4 + 4 + (k - 8) = s + k by omega] at this
                rw [c5 _ (by omega), c4 _ (by omega), if_pos k3, this, show k % 4 = k - 8 by omega]
              · rw [if_neg k3]
                by_cases k4 : k < 16
                · have := d4 (k - 12) (by omega)
                  rw [show s + 4 + 4 + 4 + (k - 12) = s + k by omega] at this
                  rw [c5 _ (by omega), if_pos k4, this, show k % 4 = k - 12 by omega]
                · have := d5 (k - 16) (by omega)
                  rw [show s + 4 + 4 + 4 + 4 + (k - 16) = s + k by omega] at this
                  rw [if_neg k4, this, show k % 4 = k - 16 by omega]
        · rw [o60 j (by omega), F5 60 (by decide), c5 j (by omega), c4 j (by omega), c3 j (by omega), c2 j (by omega), c1 j (by omega)]
          exact t.sg j
    have ag : ∀ D : List (Nat × Option Nat), D.all (fun p => !(p.1 == 2) && !(p.1 == 3) && !(p.1 == 60) && (!(p.1 == 59) || (match p.2 with | none => false | some i => !(i == 1) && !(i == 2)))) = true → agree D h g := by
      intro D hD p hp
      have y := (List.all_eq_true.mp hD) p hp
      revert y
      cases p.2 with
      | none =>
        intro y
        simp at y
        exact F p.1 (by simp; omega)
      | some i =>
        intro y
        simp at y
        show g p.1 i = h p.1 i
        by_cases e : p.1 = 59
        · rw [e]
          have := y.2.resolve_left (fun z => z e)
          exact e59 i this.1 this.2
        · rw [F p.1 (by simp; omega)]
    exact H _ _ (I.tape lt (ag _ rfl) (ag _ rfl) (ag _ rfl) (ag _ rfl) (ag _ rfl) (ag _ rfl) (ag _ rfl)) (F 0 (by decide))
end
