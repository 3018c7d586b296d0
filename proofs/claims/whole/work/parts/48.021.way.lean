/-! way: the model's number of namings -/
def Em (h : am_H) (b m : Nat) : Prop := bt (h 81 b) m = true
def Fq (h : am_H) (b : Nat) : Prop := h 81 b = 0 ∨ ¬ bt (h 59 49) b = true
theorem or_add {s m nm : Nat} (hs : s < 2 ^ nm) (hm : m < nm) (hnm : nm ≤ 14) (hb : ¬ s.testBit m = true) : am_or (s : Int) (1 * 2 ^ m) = ((s + 2 ^ m : Nat) : Int) ∧ s + 2 ^ m < 2 ^ nm := by
  have h2 : s + 2 ^ m < 2 ^ nm := by
    apply Nat.lt_pow_two_of_testBit
    intro x hx
    rw [tb_add hb, Nat.testBit_lt_two_pow (Nat.lt_of_lt_of_le hs (Nat.pow_le_pow_right (by decide) hx))]
    simp; omega
  have h3 : 2 ^ nm ≤ 2 ^ 14 := Nat.pow_le_pow_right (by decide) hnm
  refine ⟨?_, h2⟩
  refine bt_ext (am_inI_or _ _) ?_ (fun k hk => ?_)
  · have h4 : s + 2 ^ m < 16384 := Nat.lt_of_lt_of_le h2 h3
    generalize s + 2 ^ m = y at h4
    constructor <;> omega
  · rw [bt_or, bt_nat hk, bt_p2' k (by omega), bt_nat hk, tb_add hb]
theorem sm_z {F : Nat → Int} {n : Nat} (h : ∀ i, i < n → F i = 0) : sm F n = 0 := by
  rw [sm_congr h]; exact sm_0 n
theorem sm_mulc (c : Int) (F : Nat → Int) : ∀ n, sm (fun i => c * F i) n = c * sm F n := by
  intro n
  induction n with
  | zero => simp [sm]
  | succ n ih => simp only [sm]; rw [ih, Int.mul_add]
theorem sm_mono {F : Nat → Int} {a n : Nat} (hF : ∀ i, i < n → 0 ≤ F i) (ha : a ≤ n) : sm F a ≤ sm F n := by
  have e : n = a + (n - a) := by omega
  rw [e, sm_split]
  have := sm_nn (F := fun i => F (a + i)) (n := n - a) (fun i hi => hF _ (by omega))
  omega
theorem row_bnd {v : Int} {q : Nat → Prop} {j : Nat} (hv : 0 ≤ v) (hj : j ≤ 14) : 0 ≤ sm (fun m => sif (q m) v) j ∧ sm (fun m => sif (q m) v) j ≤ 14 * v := by
  have hb : ∀ m, 0 ≤ sif (q m) v ∧ sif (q m) v ≤ v := by
    intro m
    by_cases h : q m
    · rw [sif_pos h]; omega
    · rw [sif_neg h]; omega
  refine ⟨sm_nn (fun m _ => (hb m).1), ?_⟩
  have h1 := sm_le (n := j) (fun m _ => (hb m).2)
  rw [sm_const] at h1
  have h2 : (j : Int) * v ≤ 14 * v := Int.mul_le_mul_of_nonneg_right (by omega) hv
  omega
theorem push_bnd {V : Nat → Int} {N nm s : Nat} {q : Nat → Nat → Prop} (hV : ∀ T, T < N → 0 ≤ V T) (hs : s ≤ N) (hnm : nm ≤ 14) : 0 ≤ sm (fun s => sm (fun m => sif (q s m) (V s)) nm) s ∧ sm (fun s => sm (fun m => sif (q s m) (V s)) nm) s ≤ 14 * sm V s := by
  refine ⟨sm_nn (fun t ht => (row_bnd (hV t (by omega)) hnm).1), ?_⟩
  rw [← sm_mulc]
  exact sm_le (fun t ht => (row_bnd (hV t (by omega)) hnm).2)
theorem push_bnd2 {V : Nat → Int} {N nm s j : Nat} {q : Nat → Nat → Prop} (hV : ∀ T, T < N → 0 ≤ V T) (hs : s < N) (hnm : nm ≤ 14) (hj : j ≤ 14) : 0 ≤ sm (fun s => sm (fun m => sif (q s m) (V s)) nm) s + sm (fun m => sif (q s m) (V s)) j ∧ sm (fun s => sm (fun m => sif (q s m) (V s)) nm) s + sm (fun m => sif (q s m) (V s)) j ≤ 14 * sm V N := by
  have h1 := push_bnd (q := q) hV (Nat.le_of_lt hs) hnm
  have h2 := row_bnd (q := q s) (hV s hs) hj
  have h3 := sm_mono hV (a := s + 1) (by omega)
  simp only [sm] at h3
  omega
theorem sif_le {p : Prop} {x : Int} (h : 0 ≤ x) : 0 ≤ sif p x ∧ sif p x ≤ x := by
  by_cases hp : p
  · rw [sif_pos hp]; omega
  · rw [sif_neg hp]; omega
theorem sm_T {F : Nat → Int} {n : Nat} : sm (fun T => sif (True) (F T)) n = sm F n := sm_congr (fun i _ => sif_pos trivial)
theorem p15_le {j : Nat} (hj : j ≤ 10) : (0 : Int) < 15 ^ j ∧ (15 : Int) ^ j ≤ 576650390625 := by
  have h : ∀ j : Fin 11, (0 : Int) < 15 ^ j.val ∧ (15 : Int) ^ j.val ≤ 576650390625 := by decide
  exact h ⟨j, by omega⟩
theorem lX12_ways {L : Nat} {xs : Nat → Int} {lim : Int} {C : Nat → List am_V → am_H → am_K → Prop} {h : am_H} {K : am_K} {nb nm : Nat} {x1 x2 : Int} (hnm : nm ≤ 14) (hnb : nb ≤ 10) (h9 : h 59 9 = nm) (h12 : h 59 12 = nb) (H : ∀ h', Fr [86, 87] h h' → K (1, Rn (Em h) (Fq h) nm nb (fun _ => True) (fun _ => True) (h 59 50)) h') : tX12_namings lim L xs C K 41 [(2, 59), (0, x1), (0, x2), (9, 0), (9, 0), (9, 0), (9, 0), (9, 0), (9, 0)] [] h := by
  have hsz : 1 ≤ 2 ^ nm ∧ 2 ^ nm ≤ 16384 := by
    have h : ∀ j : Fin 15, 1 ≤ 2 ^ j.val ∧ 2 ^ j.val ≤ 16384 := by decide
    exact h ⟨nm, by omega⟩
  have hszI : ((1 : Int) * 2 ^ nm) = ((2 ^ nm : Nat) : Int) := by simp
  refine bX12_namings_41 ?_
  rw [h9, Int.toNat_natCast]
  refine ⟨⟨by omega, by omega, by omega, inI_p2 (by omega)⟩, ?_⟩
  rw [hszI]
  generalize hN : 2 ^ nm = N at hsz
  refine upto (σ := am_H) (N := N) (I := fun i g => Fr [86, 87] h g ∧ ∀ S, S < i → g 86 S = 0) (G := fun i g => tX12_namings lim L xs C K 51 [(2, 59), (0, x1), (0, x2), (0, (N : Int)), (0, (i : Int)), (9, 0), (9, 0), (9, 0), (9, 0)] [] g) ?_ ?_ N 0 h (by omega) ⟨Fr.rf, fun S hS => by omega⟩
  · intro i g hi ⟨e1, e2⟩ ih
    refine bX12_namings_51 ⟨fun z => by omega, fun _ => ⟨by omega, by omega, ih _ ⟨e1.st (by decide), fun S hS => ?_⟩⟩⟩
    rw [Int.toNat_natCast, st_ap]
    split
    · rfl
    · exact e2 S (by omega)
  · intro g ⟨e1, e2⟩
    refine bX12_namings_51 ⟨fun _ => bX12_namings_71 ⟨by omega, ?_⟩, fun z => by omega⟩
    refine upto (σ := am_V × am_V × am_V × am_H) (N := nb) (I := fun i s => Fr [86, 87] h s.2.2.2 ∧ TabN (Em h) (Fq h) nm i (s.2.2.2 86) ∧ (∀ T, T < N → 0 ≤ s.2.2.2 86 T) ∧ sm (s.2.2.2 86) N ≤ 15 ^ i) (G := fun i s => tX12_namings lim L xs C K 81 [(2, 59), (0, x1), (0, x2), (0, (N : Int)), (0, (i : Int)), s.1, s.2.1, s.2.2.1, (9, 0)] [] s.2.2.2) ?_ ?_ nb 0 ((9, 0), (9, 0), (9, 0), am_st g 86 0 1) (by omega) ?_
    · intro i ⟨v5, v6, v7, g⟩ hi ⟨e1, e2, e3, e4⟩ ih
      dsimp only at e1 e2 e3 e4 ⊢
      have hp := p15_le (j := i) (by omega)
      have g81 : g 81 = h 81 := e1 81 (by decide)
      have g59 : g 59 = h 59 := e1 59 (by decide)
      refine bX12_namings_81 ⟨fun w => by rw [g59, h12] at w; omega, fun _ => ⟨by omega, ?_⟩⟩
      rw [Int.toNat_natCast]
      refine ⟨fun hne => bX12_namings_103 ⟨by omega, ?_⟩, fun hz => bX12_namings_285 ⟨by omega, ih (v5, v6, v7, g) ⟨e1, TabN_step e2 (fun p => ?_), e3, ?_⟩⟩⟩
      · rw [Int.toNat_natCast, bt_t0 (by omega), g59]
        have main : ∀ x5 : Int, (x5 = 0 ∧ ¬ Fq h i) ∨ (x5 = 1 ∧ Fq h i) → ∀ v7 : am_V, tX12_namings lim L xs C K 125 [(2, 59), (0, x1), (0, x2), (0, (N : Int)), (0, (i : Int)), (0, x5), (0, 0), v7, (9, 0)] [] g := by
          intro x5 hx5 v7
          refine upto (σ := am_H) (N := N) (I := fun s g' => Fr [87] g g' ∧ ∀ T, T < s → g' 87 T = sif (Fq h i) (g 86 T)) (G := fun s g' => tX12_namings lim L xs C K 125 [(2, 59), (0, x1), (0, x2), (0, (N : Int)), (0, (i : Int)), (0, x5), (0, (s : Int)), v7, (9, 0)] [] g') ?_ ?_ N 0 g (by omega) ⟨Fr.rf, fun S hS => by omega⟩
          · intro s g' hs ⟨q1, q2⟩ ihs
            have nx : ∀ y : Int, y = sif (Fq h i) (g 86 s) → tX12_namings lim L xs C K 153 [(2, 59), (0, x1), (0, x2), (0, (N : Int)), (0, (i : Int)), (0, x5), (0, (s : Int)), v7, (9, 0)] [(1, y), (0, (s : Int)), (2, 87)] g' := by
              intro y hy
              refine bX12_namings_153 ⟨by omega, by omega, ihs _ ⟨q1.st (by decide), fun T hT => ?_⟩⟩
              rw [Int.toNat_natCast, st_ap]
              split
              · rename_i e; rw [e]; exact hy
              · exact q2 T (by omega)
            refine bX12_namings_125 ⟨fun w => by omega, fun _ => ⟨fun w => bX12_namings_152 (nx 0 ?_), fun w => ⟨by omega, nx _ ?_⟩⟩⟩
            · rcases hx5 with e | e
              · rw [sif_neg e.2]
              · omega
            · rw [Int.toNat_natCast, q1 86 (by decide)]
              rcases hx5 with e | e
              · omega
              · rw [sif_pos e.2]
          · intro g1 ⟨q1, q2⟩
            refine bX12_namings_125 ⟨fun _ => bX12_namings_160 ?_, fun w => by omega⟩
            refine upto (σ := am_V × am_H) (N := N) (I := fun s t => Fr [87] g t.2 ∧ (∀ T, T < N → 0 ≤ t.2 87 T) ∧ ∀ p : Nat → Prop, sm (fun T => sif (p T) (t.2 87 T)) N = sif (Fq h i) (sm (fun T => sif (p T) (g 86 T)) N) + sm (fun s => sm (fun m => sif (¬ s.testBit m = true ∧ Em h i m ∧ p (s + 2 ^ m)) (g 86 s)) nm) s) (G := fun s t => tX12_namings lim L xs C K 163 [(2, 59), (0, x1), (0, x2), (0, (N : Int)), (0, (i : Int)), (0, x5), (0, (s : Int)), t.1, (9, 0)] [] t.2) ?_ ?_ N 0 (v7, g1) (by omega) ⟨q1, fun T hT => ?_, fun p => ?_⟩
            · intro s ⟨v7, g2⟩ hs ⟨r1, r2, r3⟩ ihs
              dsimp only at r1 r2 r3 ⊢
              refine bX12_namings_163 ⟨fun w => by omega, fun _ => ⟨by omega, ?_⟩⟩
              rw [Int.toNat_natCast, r1 86 (by decide)]
              refine ⟨fun w => bX12_namings_184 ?_, fun w => bX12_namings_250 ⟨by omega, ihs (v7, g2) ⟨r1, r2, fun p => ?_⟩⟩⟩
              · refine upto (σ := am_H) (N := nm) (I := fun j g3 => Fr [87] g g3 ∧ (∀ T, T < N → 0 ≤ g3 87 T) ∧ ∀ p : Nat → Prop, sm (fun T => sif (p T) (g3 87 T)) N = sif (Fq h i) (sm (fun T => sif (p T) (g 86 T)) N) + (sm (fun s => sm (fun m => sif (¬ s.testBit m = true ∧ Em h i m ∧ p (s + 2 ^ m)) (g 86 s)) nm) s + sm (fun m => sif (¬ s.testBit m = true ∧ Em h i m ∧ p (s + 2 ^ m)) (g 86 s)) j)) (G := fun j g3 => tX12_namings lim L xs C K 187 [(2, 59), (0, x1), (0, x2), (0, (N : Int)), (0, (i : Int)), (0, x5), (0, (s : Int)), (0, (j : Int)), (9, 0)] [] g3) ?_ ?_ nm 0 g2 (by omega) ⟨r1, r2, fun p => by simp only [sm]; rw [Int.add_zero]; exact r3 p⟩
                · intro j g3 hj ⟨u1, u2, u3⟩ ihj
                  have k81 : g3 81 = h 81 := by rw [u1 81 (by decide), g81]
                  have skip : (¬ (¬ s.testBit j = true ∧ Em h i j)) → tX12_namings lim L xs C K 244 [(2, 59), (0, x1), (0, x2), (0, (N : Int)), (0, (i : Int)), (0, x5), (0, (s : Int)), (0, (j : Int)), (9, 0)] [] g3 := by
                    intro hs
                    refine bX12_namings_244 ⟨by omega, ihj g3 ⟨u1, u2, fun p => ?_⟩⟩
                    simp only [sm]
                    rw [sif_neg (p := ¬ s.testBit j = true ∧ Em h i j ∧ p (s + 2 ^ j)) (fun z => hs ⟨z.1, z.2.1⟩), Int.add_zero]
                    exact u3 p
                  refine bX12_namings_187 ⟨fun w => by rw [u1 59 (by decide), g59, h9] at w; omega, fun _ => ⟨by omega, by omega, ?_⟩⟩
                  rw [Int.toNat_natCast, Int.toNat_natCast, bt_t1 (by omega), k81]
                  refine ⟨fun w => skip (fun z => w z.2), fun w => ⟨by omega, ?_⟩⟩
                  rw [Int.toNat_natCast, bt_t0 (by omega), bt_nat (by omega)]
                  refine ⟨fun w2 => skip (fun z => w2 z.1), fun w2 => ?_⟩
                  have hE : Em h i j := Classical.not_not.mp w
                  have hT : ¬ s.testBit j = true := Classical.not_not.mp w2
                  have oa := or_add (hN ▸ hs) hj hnm hT
                  rw [hN] at oa
                  rw [oa.1, Int.toNat_natCast, u1 86 (by decide)]
                  have v1 := e3 s hs
                  have v2 := u3 (fun _ => True)
                  rw [sm_T, sm_T] at v2
                  have v3 := push_bnd2 (q := fun s m => ¬ s.testBit m = true ∧ Em h i m ∧ True) (nm := nm) e3 hs hnm (j := j) (by omega)
                  have v4 := sm_nn e3
                  have v5 := sif_le (p := Fq h i) v4
                  have v6 := sm_ge u2 oa.2
                  have v7 := u2 _ oa.2
                  have v8 := sm_ge e3 hs
                  have hp9 := p15_le (j := i) (by omega)
                  have y0 : (0 : Int) ≤ ((s + 2 ^ j : Nat) : Int) := Int.natCast_nonneg _
                  have y1 : ((s + 2 ^ j : Nat) : Int) < N := by exact_mod_cast oa.2
                  refine ⟨⟨by omega, by omega, by omega, inI_p2 (by omega)⟩, by omega, by omega, ⟨by omega, by omega⟩, by omega, bX12_namings_244 ⟨by omega, ihj _ ⟨u1.st (by decide), fun T hT' => ?_, fun p => ?_⟩⟩⟩
                  · rw [st_ap]
                    split
                    · omega
                    · exact u2 T hT'
                  · rw [sm_upd (F := g3 87) (p := p) (x := s + 2 ^ j) (v := g 86 s) oa.2 (fun i _ => by rw [st_ap]; split <;> rename_i e <;> simp [e]), u3 p]
                    simp only [sm]
                    rw [show sif (p (s + 2 ^ j)) (g 86 s) = sif (¬ s.testBit j = true ∧ Em h i j ∧ p (s + 2 ^ j)) (g 86 s) from sif_congr ⟨fun z => ⟨hT, hE, z⟩, fun z => z.2.2⟩ (fun _ => rfl)]
                    omega
                · intro g3 ⟨u1, u2, u3⟩
                  refine bX12_namings_187 ⟨fun _ => bX12_namings_250 ⟨by omega, ihs ((0, (nm : Int)), g3) ⟨u1, u2, fun p => ?_⟩⟩, fun w => by rw [u1 59 (by decide), g59, h9] at w; omega⟩
                  simp only [sm]
                  exact u3 p
              · have z0 : g 86 s = 0 := by
                  have := Classical.not_not.mp w
                  unfold am_lcmp at this
                  split at this
                  · omega
                  · split at this <;> omega
                simp only [sm]
                rw [show sm (fun m => sif (¬ s.testBit m = true ∧ Em h i m ∧ p (s + 2 ^ m)) (g 86 s)) nm = 0 from by
                  rw [z0]; exact sm_z (fun m _ => by
                    by_cases hq : (¬ s.testBit m = true ∧ Em h i m ∧ p (s + 2 ^ m))
                    · rw [sif_pos hq]
                    · rw [sif_neg hq]), Int.add_zero]
                exact r3 p
            · intro ⟨v7, g2⟩ ⟨r1, r2, r3⟩
              dsimp only at r1 r2 r3 ⊢
              refine bX12_namings_163 ⟨fun _ => bX12_namings_256 ?_, fun w => by omega⟩
              refine upto (σ := am_H) (N := N) (I := fun s g3 => Fr [86] g2 g3 ∧ ∀ T, T < s → g3 86 T = g2 87 T) (G := fun s g3 => tX12_namings lim L xs C K 259 [(2, 59), (0, x1), (0, x2), (0, (N : Int)), (0, (i : Int)), (0, x5), (0, (s : Int)), v7, (9, 0)] [] g3) ?_ ?_ N 0 g2 (by omega) ⟨Fr.rf, fun S hS => by omega⟩
              · intro s g3 hs ⟨u1, u2⟩ ihs
                refine bX12_namings_259 ⟨fun w => by omega, fun _ => ⟨by omega, by omega, by omega, ihs _ ⟨u1.st (by decide), fun T hT => ?_⟩⟩⟩
                rw [Int.toNat_natCast, st_ap, u1 87 (by decide)]
                split
                · rename_i e; rw [e]
                · exact u2 T (by omega)
              · intro g3 ⟨u1, u2⟩
                refine bX12_namings_259 ⟨fun _ => bX12_namings_285 ⟨by omega, ih (_, _, v7, g3) ⟨(e1.tr (r1.mono (by decide))).tr (u1.mono (by decide)), TabN_step e2 (fun p => ?_), fun T hT => ?_, ?_⟩⟩, fun w => by omega⟩
                · dsimp only
                  rw [hN, ← r3 p]
                  exact sm_congr (fun T hT => by rw [u2 T hT])
                · dsimp only; rw [u2 T hT]; exact r2 T hT
                · dsimp only
                  rw [sm_congr (G := g2 87) (fun T hT => u2 T hT)]
                  have w1 := r3 (fun _ => True)
                  rw [sm_T, sm_T] at w1
                  have w2 := push_bnd (q := fun s m => ¬ s.testBit m = true ∧ Em h i m ∧ True) (nm := nm) e3 (Nat.le_refl N) hnm
                  have w3 := sif_le (p := Fq h i) (sm_nn e3)
                  rw [Int.pow_succ]
                  omega
            · dsimp only; rw [q2 T hT]; exact (sif_le (e3 T hT)).1
            · dsimp only
              simp only [sm]
              rw [Int.add_zero, sif_sm]
              refine sm_congr (fun T hT => ?_)
              rw [q2 T hT, sif_and, sif_and]
              exact sif_congr ⟨fun z => ⟨z.2, z.1⟩, fun z => ⟨z.2, z.1⟩⟩ (fun _ => rfl)
        refine ⟨fun w => bX12_namings_119 (bX12_namings_120 (main 0 (Or.inl ⟨rfl, fun z => ?_⟩) v7)), fun w => bX12_namings_120 (main 1 (Or.inr ⟨rfl, Or.inr (Classical.not_not.mp w)⟩) v7)⟩
        rcases z with z | z
        · rw [g81] at hne; exact hne z
        · exact w z
      · have z0 : h 81 i = 0 := by rw [← g81]; exact Classical.not_not.mp hz
        dsimp only
        rw [sif_pos (p := Fq h i) (Or.inl z0), show sm (fun s => sm (fun m => sif (¬ s.testBit m = true ∧ Em h i m ∧ p (s + 2 ^ m)) (g 86 s)) nm) (2 ^ nm) = 0 from by
          refine sm_z (fun s _ => sm_sif0 (fun m _ z => ?_))
          have := z.2.1
          unfold Em at this
          rw [z0, bt_0] at this; exact absurd this (by decide), Int.add_zero]
      · dsimp only
        rw [Int.pow_succ]
        omega
    · intro ⟨v5, v6, v7, g⟩ ⟨e1, e2, e3, e4⟩
      dsimp only at e1 e2 e3 e4 ⊢
      have g59 : g 59 = h 59 := e1 59 (by decide)
      have hp := p15_le hnb
      refine bX12_namings_81 ⟨fun _ => bX12_namings_291 ?_, fun w => by rw [g59, h12] at w; omega⟩
      refine upto (σ := Int × am_V × am_V) (N := N) (I := fun s t => t.1 = sm (fun T => sif ((card nm T : Int) = h 59 50) (g 86 T)) s) (G := fun s t => tX12_namings lim L xs C K 297 [(2, 59), (0, x1), (0, x2), (0, (N : Int)), (1, t.1), (9, 0), (0, (s : Int)), t.2.1, t.2.2] [] g) ?_ ?_ N 0 (0, v7, (9, 0)) (by omega) rfl
      · intro s ⟨y, v7, v8⟩ hs et ihs
        dsimp only at et ⊢
        have b1 : ∀ T, T < N → 0 ≤ sif ((card nm T : Int) = h 59 50) (g 86 T) ∧ sif ((card nm T : Int) = h 59 50) (g 86 T) ≤ g 86 T := fun T hT => sif_le (e3 T hT)
        have b2 := sm_nn (n := s) (fun T hT => (b1 T (by omega)).1)
        have b3 := sm_le (n := s) (fun T hT => (b1 T (by omega)).2)
        have b4 := sm_mono e3 (a := s + 1) (by omega)
        simp only [sm] at b4
        have b5 := e3 s hs
        refine bX12_namings_297 ⟨fun w => by omega, fun _ => ?_⟩
        refine upto (σ := Unit) (N := nm) (I := fun _ _ => True) (G := fun j _ => tX12_namings lim L xs C K 309 [(2, 59), (0, x1), (0, x2), (0, (N : Int)), (1, y), (9, 0), (0, (s : Int)), (0, (card j s : Int)), (0, (j : Int))] [] g) ?_ ?_ nm 0 () (by omega) trivial
        · intro j _ hj _ ihj
          have cj := cnt_bnd (fun i => s.testBit i = true) j
          refine bX12_namings_309 ⟨fun w => by rw [g59, h9] at w; omega, fun _ => ⟨by omega, ?_⟩⟩
          rw [Int.toNat_natCast, bt_test _ (by omega), bt_nat (by omega)]
          have ec : (card j s : Int) + (if s.testBit j = true then 1 else 0) = (card (j + 1) s : Nat) := by
            unfold card
            by_cases hb : s.testBit j = true
            · rw [if_pos hb, cnt_pos (p := fun i => s.testBit i = true) hb]; omega
            · rw [if_neg hb, cnt_neg (p := fun i => s.testBit i = true) hb]; omega
          rw [ec]
          have cj' := cnt_bnd (fun i => s.testBit i = true) (j + 1)
          refine ⟨?_, by omega, ihj () trivial⟩
          unfold card
          constructor <;> omega
        · intro _ _
          refine bX12_namings_309 ⟨fun _ => bX12_namings_336 ?_, fun w => by rw [g59, h9] at w; omega⟩
          rw [Int.toNat_natCast, g59]
          refine ⟨fun w => bX12_namings_357 ⟨by omega, ihs (y, _, _) ?_⟩, fun w => ⟨by omega, ⟨by omega, by omega⟩, bX12_namings_357 ⟨by omega, ihs (y + g 86 s, _, _) ?_⟩⟩⟩
          · dsimp only
            simp only [sm]
            rw [sif_neg w, Int.add_zero]; exact et
          · dsimp only
            simp only [sm]
            rw [sif_pos (Classical.not_not.mp w), et]
      · intro ⟨y, v7, v8⟩ et
        dsimp only at et ⊢
        refine bX12_namings_297 ⟨fun _ => bX12_namings_363 ?_, fun w => by omega⟩
        have e := e2 (fun _ => True) (h 59 50)
        rw [hN] at e
        have e' : y = Rn (Em h) (Fq h) nm nb (fun _ => True) (fun _ => True) (h 59 50) := by
          rw [et, ← e]
          exact sm_congr (fun T _ => sif_congr ⟨fun z => ⟨fun _ _ _ => trivial, z⟩, fun z => z.2⟩ (fun _ => rfl))
        rw [e']
        exact H g e1
    · dsimp only
      refine ⟨e1.st (by decide), TabN_0 ?_ (fun T hT h0 => ?_), fun T hT => ?_, ?_⟩
      · rw [st_at]
      · rw [st_nj h0]; exact e2 T (hN ▸ hT)
      · rw [st_ap]
        split
        · decide
        · rw [e2 T hT]; exact Int.le_refl 0
      · have : sm (am_st g 86 0 1 86) N = 1 := by
          rw [sm_one (a := 0) (by omega), st_at]
          rw [show sm (fun i => if i = 0 then 0 else am_st g 86 0 1 86 i) N = 0 from by
            refine sm_z (fun i hi => ?_)
            split
            · rfl
            · rename_i e; rw [st_nj e]; exact e2 i hi]
          rfl
        rw [this]; decide
