/-! shrm: the model's shares -/
section
variable {L : Nat} {xs : Nat → Int} {P : Nat → List am_V → am_H → am_K → Prop} {d : Nat} {h : am_H} {K : am_K}
def Om (h : am_H) (c : Nat) : Prop := h 90 c = 1
theorem kX12_layShare {m n : Nat} {p : Nat → Int} (hM : okM h) (hm : m < 14) (hn : h 59 3 * h 59 4 = n) (hn25 : n ≤ 25) (h90 : ∀ c, c < n → h 90 c = 0 ∨ h 90 c = 1) (hf : ∀ c : Nat, c < n → Nmo h m (c : Int) < 99) (hr : ∀ c, c < n → Rel (p c) (h 88 c) (h 89 c) ∧ p c ≤ 14 * WH) (H : ∀ h', Fr [88, 89] h h' → (∀ c, c < n → Rel (p c + shr (Om h) (fun c => Nmo h m (c : Int)) n c) (h' 88 c) (h' 89 c)) → K (9, 0) h') : am_C true L xs P (d + 3) 202 [(2, 59), (0, (m : Int))] h K := by
  refine eX12_layShare (bX12_layShare_0 ?_)
  refine upto (σ := Int × Nat × am_V) (N := n) (I := fun i s => MlI (Om h) (fun c => Nmo h m (c : Int)) 99 i s.1 s.2.1 ∧ s.2.1 ≤ i) (G := fun i s => tX12_layShare (h 0 0 + (0 : Nat)) L xs (am_C true L xs P (d + 2)) K 8 [(2, 59), (0, (m : Int)), (0, s.1), (0, (s.2.1 : Int)), (0, (i : Int)), s.2.2, (9, 0), (9, 0), (9, 0), (9, 0), (9, 0)] [] h) ?_ ?_ n 0 (99, 0, (9, 0)) (by omega) ⟨Or.inl ⟨fun c hc => by omega, rfl, rfl⟩, Nat.le_refl _⟩
  · intro i ⟨l, a, v5⟩ hi ⟨e1, e2⟩ ih
    dsimp only at e1 e2 ⊢
    have fb := hf i hi
    refine bX12_layShare_8 ?_
    rw [hn, Int.toNat_natCast]
    refine ⟨⟨by omega, by omega⟩, fun z => by omega, fun _ => ⟨by omega, fun _ => ⟨fun z => bX12_layShare_35 ?_, fun z => bX12_layShare_64 ⟨by omega, ih (l, a, v5) ⟨MlI_skip e1 (fun y => by have := Classical.not_not.mp z; unfold Om at y; omega), by dsimp only; omega⟩⟩⟩⟩⟩
    have go : Om h i := (h90 i hi).resolve_left z
    refine kX12_nearOf (d := d) hM hm (by omega) ?_
    have eN : am_mr h (m : Int) (i : Int) (Int.toNat (h 59 7)) 0 (-1) = Nmo h m (i : Int) := rfl
    rw [eN]
    dsimp only
    refine ⟨fun z => bX12_layShare_55 ⟨fun z2 => ?_, fun z2 => ⟨⟨by omega, by omega⟩, ?_⟩⟩, fun z => bX12_layShare_55 ⟨fun z2 => absurd rfl z2, fun z2 => ⟨by decide, ?_⟩⟩⟩
    · exact bX12_layShare_64 ⟨by omega, ih (l, a, _) ⟨MlI_more e1 (by omega) (by omega), by dsimp only; omega⟩⟩
    · have := ih (l, a + 1, (0, Nmo h m (i : Int))) ⟨MlI_same e1 go (Classical.not_not.mp z2) (by omega), by dsimp only; omega⟩
      exact bX12_layShare_64 ⟨by omega, this⟩
    · have := ih (Nmo h m (i : Int), 1, (0, Nmo h m (i : Int))) ⟨MlI_less e1 go (by omega), by dsimp only; omega⟩
      exact bX12_layShare_64 ⟨by omega, this⟩
  · intro ⟨l, a, v5⟩ ⟨e1, e2⟩
    dsimp only at e1 e2 ⊢
    obtain ⟨k1, k2⟩ := MlI_nr e1
    refine bX12_layShare_8 ?_
    rw [hn, Int.toNat_natCast]
    refine ⟨⟨by omega, by omega⟩, fun _ => bX12_layShare_70 ?_, fun z => by omega⟩
    refine upto (σ := am_V × am_V × am_V × am_H) (N := n) (I := fun i s => Fr [88, 89] h s.2.2.2 ∧ (∀ c, c < i → Rel (p c + shr (Om h) (fun c => Nmo h m (c : Int)) n c) (s.2.2.2 88 c) (s.2.2.2 89 c)) ∧ ∀ c, i ≤ c → s.2.2.2 88 c = h 88 c ∧ s.2.2.2 89 c = h 89 c) (G := fun i s => tX12_layShare (h 0 0 + (0 : Nat)) L xs (am_C true L xs P (d + 2)) K 73 [(2, 59), (0, (m : Int)), (0, l), (0, (a : Int)), (0, (i : Int)), s.1, (9, 0), s.2.1, (9, 0), s.2.2.1, (9, 0)] [] s.2.2.2) ?_ ?_ n 0 (v5, (9, 0), (9, 0), h) (by omega) ⟨Fr.rf, fun c hc => by omega, fun _ _ => ⟨rfl, rfl⟩⟩
    · intro i ⟨v5, v7, v9, g⟩ hi ⟨q1, q2, q3⟩ ih
      dsimp only at q1 q2 q3 ⊢
      have g59 : g 59 = h 59 := q1 59 (by decide)
      have g90 : g 90 = h 90 := q1 90 (by decide)
      have sk : shr (Om h) (fun c => Nmo h m (c : Int)) n i = 0 → tX12_layShare (h 0 0 + (0 : Nat)) L xs (am_C true L xs P (d + 2)) K 176 [(2, 59), (0, (m : Int)), (0, l), (0, (a : Int)), (0, (i : Int)), v5, (9, 0), v7, (9, 0), v9, (9, 0)] [] g := by
        intro hz
        refine bX12_layShare_176 ⟨by omega, ih (v5, v7, v9, g) ⟨q1, fun c hc => ?_, fun c hc => q3 c (by omega)⟩⟩
        dsimp only
        by_cases e : c = i
        · subst e
          have := q3 c (Nat.le_refl _)
          rw [hz, Int.add_zero, this.1, this.2]; exact (hr c hi).1
        · exact q2 c (by omega)
      have oM : okM g := by
        obtain ⟨a, b, c, d, e⟩ := hM
        exact ⟨by rw [g59]; exact a, by rw [g59]; exact b, by rw [g59]; exact c, by rw [q1 61 (by decide)]; exact d, by rw [q1 62 (by decide)]; exact e⟩
      have eN : am_mr g (m : Int) (i : Int) (Int.toNat (g 59 7)) 0 (-1) = Nmo h m (i : Int) := by
        unfold Nmo
        rw [g59]
        exact am_mr_congr (q1 61 (by decide)) (q1 62 (by decide)) (by rw [g59]) _ _ _
      refine bX12_layShare_73 ?_
      rw [g59, hn, Int.toNat_natCast, g90]
      refine ⟨⟨by omega, by omega⟩, fun z => by omega, fun _ => ⟨by omega, fun _ => ⟨fun z => sk ?_, fun z => ?_⟩⟩⟩
      · unfold shr
        exact sif_neg (fun y => by have := y.2.1; unfold Om at this; omega)
      · have go : Om h i := (h90 i hi).resolve_left z
        refine kX12_nearOf (d := d) oM hm (by omega) ?_
        rw [eN]
        dsimp only
        refine ⟨fun z2 => bX12_layShare_111 ?_, fun z2 => sk ?_⟩
        · rw [Int.toNat_natCast, (q3 i (Nat.le_refl _)).1, (q3 i (Nat.le_refl _)).2]
          have hN := (k1 i hi).mp ⟨go, z2⟩
          have a1 : 1 ≤ a := by
            have c1 := cnt_pos (p := fun c => Nr (Om h) (fun c => Nmo h m (c : Int)) n c) hN
            have c2 := cnt_off (fun c => Nr (Om h) (fun c => Nmo h m (c : Int)) n c) (i + 1) (n - (i + 1))
            rw [show i + 1 + (n - (i + 1)) = n by omega] at c2
            omega
          have hs : shr (Om h) (fun c => Nmo h m (c : Int)) n i = WH / (a : Int) := by
            unfold shr
            rw [sif_pos ⟨hi, hN⟩, ← k2]
          have r := (hr i hi).1
          have rb := r.bnd
          have pb := (hr i hi).2
          have st := Rel_step r (a := a) ⟨a1, by omega⟩
          have WHv : WH = 26771144400 := rfl
          have u0 := r.u0
          have l1 := r.l1
          have p0 := r.p0
          generalize hU : h 88 i = U at *
          generalize hV : h 89 i = V at *
          have bU : 0 ≤ U * (a : Int) ∧ U * (a : Int) ≤ 374796021600 * 25 := ⟨Int.mul_nonneg u0 (by omega), Int.mul_le_mul (by omega) (by omega) (by omega) (by omega)⟩
          have bV : 0 ≤ V * (a : Int) ∧ V * (a : Int) ≤ 26771144400 * 25 := ⟨Int.mul_nonneg (by omega) (by omega), Int.mul_le_mul (by omega) (by omega) (by omega) (by omega)⟩
          refine ⟨by omega, ⟨by omega, by omega⟩, by omega, ⟨by omega, by omega⟩, by omega, ⟨by omega, by omega⟩, ?_⟩
          generalize hA : U * (a : Int) + V = A at *
          generalize hB : V * (a : Int) = B at *
          obtain ⟨A', eA⟩ : ∃ A' : Nat, A = A' := ⟨A.toNat, by omega⟩
          obtain ⟨B', eB⟩ : ∃ B' : Nat, B = B' := ⟨B.toNat, by omega⟩
          rw [eA, eB]
          rw [eA, eB] at st
          simp only [Int.toNat_natCast] at st
          refine kX12_shared (d := d + 1) ?_
          dsimp only
          refine ⟨⟨by omega, by have := st.2; omega⟩, by omega, ⟨by omega, by have := st.2; omega⟩, by omega, ?_⟩
          refine bX12_layShare_176 ⟨by omega, ih (_, _, _, am_st (am_st g 88 i ((A' : Int) / (Nat.gcd A' B' : Nat))) 89 i ((B' : Int) / (Nat.gcd A' B' : Nat))) ⟨(q1.st (by decide)).st (by decide), fun c hc => ?_, fun c hc => ?_⟩⟩
          · dsimp only
            have v88 : am_st (am_st g 88 i ((A' : Int) / (Nat.gcd A' B' : Nat))) 89 i ((B' : Int) / (Nat.gcd A' B' : Nat)) 88 c = if c = i then (A' : Int) / (Nat.gcd A' B' : Nat) else g 88 c := by rw [st_ne (by decide), st_ap]
            have v89 : am_st (am_st g 88 i ((A' : Int) / (Nat.gcd A' B' : Nat))) 89 i ((B' : Int) / (Nat.gcd A' B' : Nat)) 89 c = if c = i then (B' : Int) / (Nat.gcd A' B' : Nat) else g 89 c := by rw [st_ap, st_ne (by decide)]
            rw [v88, v89]
            by_cases e : c = i
            · rw [if_pos e, if_pos e, e, hs]
              exact st.1
            · rw [if_neg e, if_neg e]; exact q2 c (by omega)
          · dsimp only
            have e : ¬ c = i := by omega
            have v88 : am_st (am_st g 88 i ((A' : Int) / (Nat.gcd A' B' : Nat))) 89 i ((B' : Int) / (Nat.gcd A' B' : Nat)) 88 c = g 88 c := by rw [st_ne (by decide), st_nj e]
            have v89 : am_st (am_st g 88 i ((A' : Int) / (Nat.gcd A' B' : Nat))) 89 i ((B' : Int) / (Nat.gcd A' B' : Nat)) 89 c = g 89 c := by rw [st_nj e, st_ne (by decide)]
            rw [v88, v89]
            exact q3 c (by omega)
        · unfold shr
          exact sif_neg (fun y => z2 ((k1 i hi).mpr y.2).2)
    · intro ⟨v5, v7, v9, g⟩ ⟨q1, q2, q3⟩
      dsimp only at q1 q2 q3 ⊢
      refine bX12_layShare_73 ?_
      rw [q1 59 (by decide), hn]
      exact ⟨⟨by omega, by omega⟩, fun _ => bX12_layShare_182 (H g q1 q2), fun z => by omega⟩
/-- a cell that can be dug, by the model's notes -/
def OpM (g : am_H) (n c : Nat) : Prop := ¬ ∃ k, k < n ∧ g 79 k = 1 ∧ ((g 63 k = 2 ∧ g 64 k = (c : Int)) ∨ (g 63 k = 0 ∧ g 67 (g 64 k).toNat = (c : Int)))
def SH (n N nb np nm nc : Nat) (g : am_H) (w : Int) : Prop := (LD n N nb np nm g) ∧ (am_inI w) ∧ (∀ m, bt w m = true ↔ m < nm ∧ ¬ ∃ b, Km g nb b ∧ Nb g nb nm b m) ∧ (∀ c, c < nc → Rel (PT (OpM g n) (fun m c => Nmo g m (c : Int)) (fun m => bt w m = true) nc nm c) (g 88 c) (g 89 c))
theorem SH.ld {n N nb np nm nc : Nat} {g : am_H} {w : Int} (s_ : SH n N nb np nm nc g w) : LD n N nb np nm g := s_.1
theorem SH.wI {n N nb np nm nc : Nat} {g : am_H} {w : Int} (s_ : SH n N nb np nm nc g w) : am_inI w := s_.2.1
theorem SH.wb {n N nb np nm nc : Nat} {g : am_H} {w : Int} (s_ : SH n N nb np nm nc g w) : ∀ m, bt w m = true ↔ m < nm ∧ ¬ ∃ b, Km g nb b ∧ Nb g nb nm b m := s_.2.2.1
theorem SH.rel {n N nb np nm nc : Nat} {g : am_H} {w : Int} (s_ : SH n N nb np nm nc g w) : ∀ c, c < nc → Rel (PT (OpM g n) (fun m c => Nmo g m (c : Int)) (fun m => bt w m = true) nc nm c) (g 88 c) (g 89 c) := s_.2.2.2
theorem kX12_layShares {N nb np nm n nc : Nat} (hn : n ≤ N) (hO : okL h N nb np nm) (hc : h 59 3 * h 59 4 = nc) (hc25 : nc ≤ 25) (hk2 : ∀ k, k < N → h 63 k = 2 → 0 ≤ h 64 k ∧ h 64 k < 25) (hk0 : ∀ k, k < N → h 63 k = 0 → (0 ≤ h 64 k ∧ h 64 k < 10) ∧ 0 ≤ h 67 (h 64 k).toNat ∧ h 67 (h 64 k).toNat < 25) (hf : ∀ m c : Nat, m < nm → c < nc → Nmo h m (c : Int) < 99) (H : ∀ g w, MS h g → SH n N nb np nm nc g w → K (9, 0) g) : am_C true L xs P (d + 7) 201 [(2, 59), (0, (n : Int))] h K := by
  have hN90 := hO.N90
  refine eX12_layShares (bX12_layShares_0 (kX12_lay' (d := d + 1) hn hO (fun g0 m0 l0 => ?_)))
  have o0 := hO.ms m0
  have hm14 := o0.ok.mn.2
  rw [o0.men] at hm14
  refine kX12_missingNow (d := d) (by omega) o0.wm.nb10 o0.men o0.bodies (fun b hb => (l0.k01 o0 b hb).1) (fun b hb => (l0.k01 o0 b hb).2) (fun g1 w f1 wI wb => ?_)
  have m1 := m0.tr (MS.of f1 (by decide))
  have l1 := l0.fr f1.w83
  have wb1 : ∀ m, bt w m = true ↔ m < nm ∧ ¬ ∃ b, Km g1 nb b ∧ Nb g1 nb nm b m := by
    intro m
    rw [wb]
    have : ∀ b, (Km g0 nb b ∧ Nb g0 nb nm b m) ↔ (Km g1 nb b ∧ Nb g1 nb nm b m) := by
      intro b
      rw [Nb_fr (f1 81 (by decide)) (by rw [f1 59 (by decide)])]
      unfold Km; rw [f1 79 (by decide), f1 68 (by decide)]
    simp only [this]
  have x59 : ∀ g : am_H, Fr [88, 89, 90] g1 g → g 59 3 * g 59 4 = nc := by
    intro g f
    rw [f 59 (by decide), m1.2 3 (by decide) (by decide) (by decide), m1.2 4 (by decide) (by decide) (by decide)]; exact hc
  dsimp only
  refine upto (σ := am_H) (N := nc) (I := fun i g => Fr [88, 89, 90] g1 g ∧ ∀ c, c < i → g 90 c = 1 ∧ g 88 c = 0 ∧ g 89 c = 1) (G := fun i g => tX12_layShares (h 0 0 + (0 : Nat)) L xs (am_C true L xs P (d + 6)) K 12 [(2, 59), (0, (n : Int)), (0, w), (0, (i : Int))] [] g) ?_ ?_ nc 0 g1 (by omega) ⟨Fr.rf, fun c hc => by omega⟩
  · intro i g hi ⟨e1, e2⟩ ih
    refine bX12_layShares_12 ?_
    rw [x59 g e1, Int.toNat_natCast]
    refine ⟨⟨by omega, by omega⟩, fun z => by omega, fun _ => ⟨by omega, by omega, by omega, by omega, ih _ ⟨((e1.st (by decide)).st (by decide)).st (by decide), fun c hc => ?_⟩⟩⟩
    have v90 : am_st (am_st (am_st g 90 i 1) 88 i 0) 89 i 1 90 c = if c = i then 1 else g 90 c := by rw [st_ne (by decide), st_ne (by decide), st_ap]
    have v88 : am_st (am_st (am_st g 90 i 1) 88 i 0) 89 i 1 88 c = if c = i then 0 else g 88 c := by rw [st_ne (by decide), st_ap, st_ne (by decide)]
    have v89 : am_st (am_st (am_st g 90 i 1) 88 i 0) 89 i 1 89 c = if c = i then 1 else g 89 c := by rw [st_ap, st_ne (by decide), st_ne (by decide)]
    rw [v90, v88, v89]
    by_cases e : c = i
    · rw [if_pos e, if_pos e, if_pos e]; exact ⟨rfl, rfl, rfl⟩
    · rw [if_neg e, if_neg e, if_neg e]; exact e2 c (by omega)
  · intro g ⟨e1, e2⟩
    refine bX12_layShares_12 ?_
    rw [x59 g e1]
    refine ⟨⟨by omega, by omega⟩, fun _ => bX12_layShares_52 ?_, fun z => by omega⟩
    have y (i : Nat) (hi : ¬ i = 59) (hj : ¬ (79 ≤ i ∧ i ≤ 92)) : g1 i = h i := m1.1 i hi hj
    refine upto (σ := am_H) (N := n) (I := fun i g' => Fr [90] g g' ∧ ∀ c, c < nc → (g' 90 c = 0 ∨ g' 90 c = 1) ∧ (g' 90 c = 1 ↔ OpM g1 i c)) (G := fun i g' => tX12_layShares (h 0 0 + (0 : Nat)) L xs (am_C true L xs P (d + 6)) K 54 [(2, 59), (0, (n : Int)), (0, w), (0, (i : Int))] [] g') ?_ ?_ n 0 g (by omega) ⟨Fr.rf, fun c hc => by
        have := (e2 c hc).1
        exact ⟨Or.inr this, fun _ ⟨k, hk, _⟩ => by omega, fun _ => this⟩⟩
    · intro i g' hi ⟨q1, q2⟩ ih
      have k79 : ∀ g' : am_H, Fr [90] g g' → g' 79 = g1 79 := fun g' q => by rw [q 79 (by decide), e1 79 (by decide)]
      have k63 : ∀ g' : am_H, Fr [90] g g' → g' 63 = g1 63 := fun g' q => by rw [q 63 (by decide), e1 63 (by decide)]
      have k64 : ∀ g' : am_H, Fr [90] g g' → g' 64 = g1 64 := fun g' q => by rw [q 64 (by decide), e1 64 (by decide)]
      have k67 : ∀ g' : am_H, Fr [90] g g' → g' 67 = g1 67 := fun g' q => by rw [q 67 (by decide), e1 67 (by decide)]
      have b01 := l1.c01 i (by omega)
      have c63 : g1 63 = h 63 := y 63 (by decide) (by decide)
      have c64 : g1 64 = h 64 := y 64 (by decide) (by decide)
      have c67 : g1 67 = h 67 := y 67 (by decide) (by decide)
      have opn : ∀ c, OpM g1 (i + 1) c ↔ (OpM g1 i c ∧ ¬ (g1 79 i = 1 ∧ ((g1 63 i = 2 ∧ g1 64 i = (c : Int)) ∨ (g1 63 i = 0 ∧ g1 67 (g1 64 i).toNat = (c : Int))))) := by
        intro c
        unfold OpM
        constructor
        · intro z
          exact ⟨fun ⟨k, k1, k2⟩ => z ⟨k, by omega, k2⟩, fun y => z ⟨i, by omega, y⟩⟩
        · rintro ⟨z1, z2⟩ ⟨k, k1, k2⟩
          by_cases e : k = i
          · rw [e] at k2; exact z2 k2
          · exact z1 ⟨k, by omega, k2⟩
      -- the second half
      have h90' : ∀ g2 : am_H, Fr [90] g g2 → (∀ c, c < nc → (g2 90 c = 0 ∨ g2 90 c = 1) ∧ (g2 90 c = 1 ↔ (OpM g1 i c ∧ ¬ (g1 79 i = 1 ∧ g1 63 i = 2 ∧ g1 64 i = (c : Int))))) → tX12_layShares (h 0 0 + (0 : Nat)) L xs (am_C true L xs P (d + 6)) K 90 [(2, 59), (0, (n : Int)), (0, w), (0, (i : Int))] [] g2 := by
        intro g2 r1 r2
        have nx : (¬ (g1 79 i = 1 ∧ g1 63 i = 0)) → tX12_layShares (h 0 0 + (0 : Nat)) L xs (am_C true L xs P (d + 6)) K 125 [(2, 59), (0, (n : Int)), (0, w), (0, (i : Int))] [] g2 := by
          intro hz
          refine bX12_layShares_125 ⟨by omega, ih g2 ⟨r1, fun c hc => ⟨(r2 c hc).1, ?_⟩⟩⟩
          rw [(r2 c hc).2, opn]
          refine and_congr_right (fun _ => not_congr ⟨fun z => ⟨z.1, Or.inl z.2⟩, fun z => ⟨z.1, z.2.resolve_right (fun q => hz ⟨z.1, q.1⟩)⟩⟩)
        refine bX12_layShares_90 ?_
        rw [Int.toNat_natCast, k79 g2 r1, k63 g2 r1, k64 g2 r1, k67 g2 r1]
        refine ⟨by omega, fun _ => ⟨fun z => nx (fun q => by omega), fun z => ⟨by omega, fun z2 => nx (fun q => z2 q.2), fun z2 => ?_⟩⟩⟩
        have e63 : g1 63 i = 0 := Classical.not_not.mp z2
        have e79 : g1 79 i = 1 := b01.resolve_left z
        have a := hk0 i (by omega) (by rw [← c63]; exact e63)
        rw [c64, c67]
        refine ⟨by omega, a.1, ⟨a.2.1, a.2.2, by decide, by decide⟩, bX12_layShares_125 ⟨by omega, ih _ ⟨r1.st (by decide), fun c hc => ?_⟩⟩⟩
        rw [st_ap, opn]
        have r := r2 c hc
        by_cases e : c = (h 67 (h 64 i).toNat).toNat
        · rw [if_pos e]
          refine ⟨Or.inl rfl, fun z => by omega, fun z => absurd ⟨e79, Or.inr ⟨e63, ?_⟩⟩ z.2⟩
          rw [c67, c64]; omega
        · rw [if_neg e]
          refine ⟨r.1, ?_⟩
          rw [r.2]
          refine and_congr_right (fun _ => not_congr ⟨fun z => ⟨z.1, Or.inl z.2⟩, fun z => ⟨z.1, z.2.resolve_right (fun q => e ?_)⟩⟩)
          have := q.2
          rw [c67, c64] at this
          omega
      have nx : (¬ (g1 79 i = 1 ∧ g1 63 i = 2)) → tX12_layShares (h 0 0 + (0 : Nat)) L xs (am_C true L xs P (d + 6)) K 90 [(2, 59), (0, (n : Int)), (0, w), (0, (i : Int))] [] g' := by
        intro hz
        refine h90' g' q1 (fun c hc => ⟨(q2 c hc).1, ?_⟩)
        rw [(q2 c hc).2]
        exact ⟨fun z => ⟨z, fun q => hz ⟨q.1, q.2.1⟩⟩, fun z => z.1⟩
      refine bX12_layShares_54 ⟨fun z => by omega, fun _ => ⟨by omega, ?_⟩⟩
      rw [Int.toNat_natCast, k79 g' q1, k63 g' q1, k64 g' q1]
      refine fun _ => ⟨fun z => nx (fun q => by omega), fun z => ⟨by omega, fun z2 => nx (fun q => z2 q.2), fun z2 => ?_⟩⟩
      have e63 : g1 63 i = 2 := Classical.not_not.mp z2
      have e79 : g1 79 i = 1 := b01.resolve_left z
      have a := hk2 i (by omega) (by rw [← c63]; exact e63)
      rw [c64]
      refine ⟨by omega, ⟨a.1, a.2, by decide, by decide⟩, h90' _ (q1.st (by decide)) (fun c hc => ?_)⟩
      rw [st_ap]
      have r := q2 c hc
      by_cases e : c = (h 64 i).toNat
      · rw [if_pos e]
        refine ⟨Or.inl rfl, fun z => by omega, fun z => absurd ⟨e79, e63, ?_⟩ z.2⟩
        rw [c64]; omega
      · rw [if_neg e]
        refine ⟨r.1, ?_⟩
        rw [r.2]
        refine ⟨fun z => ⟨z, fun q => e ?_⟩, fun z => z.1⟩
        have := q.2.2
        rw [c64] at this
        omega
    · intro g2 ⟨q1, q2⟩
      refine bX12_layShares_54 ⟨fun _ => bX12_layShares_131 ?_, fun z => by omega⟩
      have f2 : Fr [88, 89, 90] g1 g2 := e1.tr (q1.mono (by decide))
      refine upto (σ := am_H) (N := nm) (I := fun i g' => Fr [88, 89] g2 g' ∧ ∀ c, c < nc → Rel (PT (OpM g1 n) (fun m c => Nmo g1 m (c : Int)) (fun m => bt w m = true) nc i c) (g' 88 c) (g' 89 c)) (G := fun i g' => tX12_layShares (h 0 0 + (0 : Nat)) L xs (am_C true L xs P (d + 6)) K 133 [(2, 59), (0, (n : Int)), (0, w), (0, (i : Int))] [] g') ?_ ?_ nm 0 g2 (by omega) ⟨Fr.rf, fun c hc => ?_⟩
      · intro i g' hi ⟨r1, r2⟩ ih
        have f3 : Fr [88, 89, 90] g1 g' := f2.tr (r1.mono (by decide))
        have m3 : MS h g' := m1.tr (MS.of f3 (by decide))
        have o3 := hO.ms m3
        refine bX12_layShares_133 ⟨fun z => by rw [o3.men] at z; omega, fun _ => ⟨by omega, ?_⟩⟩
        rw [Int.toNat_natCast, bt_t1 (by omega)]
        have eN : ∀ m c : Nat, Nmo g' m (c : Int) = Nmo g1 m (c : Int) := by
          intro m c
          unfold Nmo
          rw [f3 59 (by decide)]
          exact am_mr_congr (f3 61 (by decide)) (f3 62 (by decide)) (by rw [f3 59 (by decide)]) _ _ _
        have eNh : ∀ m c : Nat, Nmo g1 m (c : Int) = Nmo h m (c : Int) := by
          intro m c
          unfold Nmo
          rw [m1.2 7 (by decide) (by decide) (by decide)]
          exact am_mr_congr (y 61 (by decide) (by decide)) (y 62 (by decide) (by decide)) (m1.2 3 (by decide) (by decide) (by decide)) _ _ _
        refine ⟨fun z => bX12_layShares_155 ⟨by omega, ih g' ⟨r1, fun c hc => ?_⟩⟩, fun z => ?_⟩
        · simp only [PT]
          rw [sif_neg (p := bt w i = true) z, Int.add_zero]; exact r2 c hc
        · have h90 : g' 90 = g2 90 := r1 90 (by decide)
          refine kX12_layShare (d := d + 3) (n := nc) (p := fun c => PT (OpM g1 n) (fun m c => Nmo g1 m (c : Int)) (fun m => bt w m = true) nc i c) o3.ok (by omega) (x59 g' f3) hc25 (fun c hc => by rw [h90]; exact (q2 c hc).1) (fun c hc => by rw [eN, eNh]; exact hf i c hi hc) (fun c hc => ⟨r2 c hc, ?_⟩) (fun g3 f4 rr => bX12_layShares_155 ⟨by omega, ih g3 ⟨r1.tr f4, fun c hc => ?_⟩⟩)
          · have := PT_bnd (op := OpM g1 n) (F := fun m c => Nmo g1 m (c : Int)) (ms := fun m => bt w m = true) (n := nc) (c := c) i
            have WHv : WH = 26771144400 := rfl
            rw [WHv] at this ⊢
            omega
          · simp only [PT]
            rw [sif_pos (p := bt w i = true) (Classical.not_not.mp z)]
            have := rr c hc
            rw [shr_congr (op' := OpM g1 n) (f' := fun c => Nmo g1 i (c : Int)) (fun c hc => by unfold Om; rw [h90]; exact (q2 c hc).2) (fun c _ _ => eN i c)] at this
            exact this
      · intro g3 ⟨r1, r2⟩
        have f3 : Fr [88, 89, 90] g1 g3 := f2.tr (r1.mono (by decide))
        have m3 : MS h g3 := m1.tr (MS.of f3 (by decide))
        have o3 := hO.ms m3
        refine bX12_layShares_133 ⟨fun _ => bX12_layShares_161 (H g3 w m3 ⟨l1.fr (fun i hi => f3 i (by simp; omega)), wI, fun m => ?_, fun c hc => ?_⟩), fun z => by rw [o3.men] at z; omega⟩
        · rw [wb1]
          have : ∀ b, (Km g1 nb b ∧ Nb g1 nb nm b m) ↔ (Km g3 nb b ∧ Nb g3 nb nm b m) := by
            intro b
            rw [Nb_fr (f3 81 (by decide)) (by rw [f3 59 (by decide)])]
            unfold Km; rw [f3 79 (by decide), f3 68 (by decide)]
          simp only [this]
        · have := r2 c hc
          rw [PT_congr (op' := OpM g3 n) (F' := fun m c => Nmo g3 m (c : Int)) (ms' := fun m => bt w m = true) (nm := nm) (fun c _ => by unfold OpM; rw [f3 79 (by decide), f3 63 (by decide), f3 64 (by decide), f3 67 (by decide)]) (fun m c _ _ => by
            unfold Nmo
            rw [f3 59 (by decide)]
            exact (am_mr_congr (f3 61 (by decide)) (f3 62 (by decide)) (by rw [f3 59 (by decide)]) _ _ _).symm) (fun _ _ => Iff.rfl) nm (Nat.le_refl _)] at this
          exact this
      · have := e2 c hc
        rw [q1 88 (by decide), q1 89 (by decide), this.2.1, this.2.2]
        exact Rel_0
end
