/-! laid: what lay leaves, and the model's methods above it -/
def MS (h g : am_H) : Prop := (∀ i, ¬ i = 59 → ¬ (79 ≤ i ∧ i ≤ 92) → g i = h i) ∧ (∀ j, ¬ j = 2 → ¬ j = 49 → ¬ j = 50 → g 59 j = h 59 j)
theorem MS.rf {h : am_H} : MS h h := ⟨fun _ _ _ => rfl, fun _ _ _ _ => rfl⟩
theorem MS.tr {h g g' : am_H} (a : MS h g) (b : MS g g') : MS h g' := ⟨fun i h1 h2 => (b.1 i h1 h2).trans (a.1 i h1 h2), fun j h1 h2 h3 => (b.2 j h1 h2 h3).trans (a.2 j h1 h2 h3)⟩
theorem MS.of {S : List Nat} {h g : am_H} (a : Fr S h g) (hS : ∀ i, i ∈ S → 79 ≤ i ∧ i ≤ 92) : MS h g :=
  ⟨fun i _ h2 => a i (fun z => h2 (hS i z)), fun j _ _ _ => by rw [a 59 (fun z => by have := hS 59 z; omega)]⟩
theorem MS.t0 {h : am_H} : MS h (am_t0 h) := ⟨fun i h1 _ => st_ne h1, fun j h1 _ _ => st_nj h1⟩
theorem MS.st {h g : am_H} {c j : Nat} {v : Int} (a : MS h g) (hc : 79 ≤ c ∧ c ≤ 92) : MS h (am_st g c j v) :=
  ⟨fun i h1 h2 => by rw [st_ne (by omega)]; exact a.1 i h1 h2, fun i h1 h2 h3 => by rw [st_ne (by omega)]; exact a.2 i h1 h2 h3⟩
def LD (n N nb np nm : Nat) (g : am_H) : Prop := (∀ k, k < N → g 79 k = 0 ∨ g 79 k = 1) ∧ (∀ k, n ≤ k → k < N → g 79 k = 0) ∧ (AL (g 63) (g 64) n (fun k => g 79 k = 1)) ∧ (∀ b t : Nat, b < 10 → t < 14 → Lst (fun k => g 79 k = 1 ∧ g 63 k = 1 ∧ g 64 k = b ∧ g 65 k = t ∧ g 79 (g 68 b).toNat = 1) (g 66) 0 n (g 80 (14 * b + t))) ∧ (∀ b, b < nb → ∀ m, Em g b m ↔ Bnd (SM g nb np nm) (E0M g nb np nm) nm b m) ∧ (∀ b, bt (g 59 49) b = true ↔ b < nb ∧ ∃ m, m < nm ∧ Own (SM g nb np nm) b m) ∧ (∃ k : Nat, Mx (Ew g nb (-1) 0) nm k ∧ g 59 50 = k)
theorem LD.c01 {n N nb np nm : Nat} {g : am_H} (s_ : LD n N nb np nm g) : ∀ k, k < N → g 79 k = 0 ∨ g 79 k = 1 := s_.1
theorem LD.out {n N nb np nm : Nat} {g : am_H} (s_ : LD n N nb np nm g) : ∀ k, n ≤ k → k < N → g 79 k = 0 := s_.2.1
theorem LD.al {n N nb np nm : Nat} {g : am_H} (s_ : LD n N nb np nm g) : AL (g 63) (g 64) n (fun k => g 79 k = 1) := s_.2.2.1
theorem LD.re {n N nb np nm : Nat} {g : am_H} (s_ : LD n N nb np nm g) : ∀ b t : Nat, b < 10 → t < 14 → Lst (fun k => g 79 k = 1 ∧ g 63 k = 1 ∧ g 64 k = b ∧ g 65 k = t ∧ g 79 (g 68 b).toNat = 1) (g 66) 0 n (g 80 (14 * b + t)) := s_.2.2.2.1
theorem LD.ey {n N nb np nm : Nat} {g : am_H} (s_ : LD n N nb np nm g) : ∀ b, b < nb → ∀ m, Em g b m ↔ Bnd (SM g nb np nm) (E0M g nb np nm) nm b m := s_.2.2.2.2.1
theorem LD.su {n N nb np nm : Nat} {g : am_H} (s_ : LD n N nb np nm g) : ∀ b, bt (g 59 49) b = true ↔ b < nb ∧ ∃ m, m < nm ∧ Own (SM g nb np nm) b m := s_.2.2.2.2.2.1
theorem LD.mx {n N nb np nm : Nat} {g : am_H} (s_ : LD n N nb np nm g) : ∃ k : Nat, Mx (Ew g nb (-1) 0) nm k ∧ g 59 50 = k := s_.2.2.2.2.2.2
theorem SM_congr {h g : am_H} {nb np nm : Nat} (x : Fm h g) : SM g nb np nm = SM h nb np nm := by
  funext b m; unfold SM; rw [FM_congr x]; exact propext (and_congr_left (fun _ => Km_congr x))
theorem E0M_congr {h g : am_H} {nb np nm : Nat} (x : Fm h g) : E0M g nb np nm = E0M h nb np nm := by
  funext b m; unfold E0M; rw [FM_congr x]; exact propext (and_congr_left (fun _ => Km_congr x))
theorem LD.fr {n N nb np nm : Nat} {g g' : am_H} (l : LD n N nb np nm g) (x : ∀ i, ¬ (83 ≤ i ∧ i ≤ 92) → g' i = g i) : LD n N nb np nm g' := by
  have f : Fm g g' := ⟨fun i h1 h2 => x i (by omega), fun j _ _ => by rw [x 59 (by decide)]⟩
  obtain ⟨a, b, c, d, e, f1, f2⟩ := l
  refine ⟨?_, ?_, ?_, ?_, ?_, ?_, ?_⟩
  · rw [x 79 (by decide)]; exact a
  · rw [x 79 (by decide)]; exact b
  · rw [x 79 (by decide), x 63 (by decide), x 64 (by decide)]; exact c
  · rw [x 79 (by decide), x 63 (by decide), x 64 (by decide), x 65 (by decide), x 66 (by decide), x 68 (by decide), x 80 (by decide)]; exact d
  · rw [SM_congr f, E0M_congr f]; unfold Em; rw [x 81 (by decide)]; exact e
  · rw [SM_congr f, x 59 (by decide)]; exact f1
  · rw [Ew_fr (x 81 (by decide)), x 59 (by decide)]; exact f2
theorem okL.ms {h g : am_H} {N nb np nm : Nat} (o : okL h N nb np nm) (x : MS h g) : okL g N nb np nm := by
  obtain ⟨⟨a, b, c, d, e⟩, h1, h2, h3, ⟨w1, w2, w3, w4⟩, h5, h6, h7, h8⟩ := o
  refine ⟨⟨?_, ?_, ?_, ?_, ?_⟩, ?_, h2, ?_, ⟨w1, ?_, ?_, ?_⟩, ?_, h6, ?_, ?_⟩
  · rw [x.2 3 (by decide) (by decide) (by decide)]; exact a
  · rw [x.2 7 (by decide) (by decide) (by decide)]; exact b
  · rw [x.2 9 (by decide) (by decide) (by decide)]; exact c
  · rw [x.1 61 (by decide) (by decide)]; exact d
  · rw [x.1 62 (by decide) (by decide)]; exact e
  · rw [x.2 11 (by decide) (by decide) (by decide)]; exact h1
  · rw [x.2 12 (by decide) (by decide) (by decide)]; exact h3
  · rw [x.1 63 (by decide) (by decide), x.1 64 (by decide) (by decide), x.1 65 (by decide) (by decide)]; exact w2
  · rw [x.1 63 (by decide) (by decide), x.1 64 (by decide) (by decide)]; exact w3
  · rw [x.1 68 (by decide) (by decide)]; exact w4
  · rw [x.2 31 (by decide) (by decide) (by decide)]; exact h5
  · rw [x.2 9 (by decide) (by decide) (by decide)]; exact h7
  · rw [x.1 67 (by decide) (by decide)]; exact h8
theorem kX12_lay' {L : Nat} {xs : Nat → Int} {P : Nat → List am_V → am_H → am_K → Prop} {d : Nat} {h : am_H} {K : am_K} {N nb np nm n : Nat} (hn : n ≤ N) (hO : okL h N nb np nm) (H : ∀ g, MS h g → LD n N nb np nm g → K (9, 0) g) : am_C true L xs P (d + 5) 187 [(2, 59), (0, (n : Int))] h K := by
  refine kX12_lay hn hO (fun k g hk hf h1 h2 h3 h4 h5 => H g ?_ ?_)
  · refine (MS.of hk.fr (by decide)).tr ⟨fun i a b => hf.1 i a (by omega), fun j _ b c => hf.2 j b c⟩
  · have z (j : Nat) (hj : ¬ j = 79 ∧ ¬ j = 80) : k j = h j := hk.fr j (by simpa using hj)
    have y (j : Nat) (hj : ¬ j = 59) (hk : ¬ (81 ≤ j ∧ j ≤ 92)) : g j = k j := hf.1 j hj hk
    obtain ⟨C, h4⟩ := h4
    refine ⟨?_, ?_, ?_, ?_, fun b hb m => ?_, fun b => ?_, _, ⟨_, C, h3, h4, rfl⟩, h5⟩
    · rw [y 79 (by decide) (by decide)]; exact hk.c01
    · rw [y 79 (by decide) (by decide)]; exact hk.out
    · rw [y 79 (by decide) (by decide), y 63 (by decide) (by decide), y 64 (by decide) (by decide), z 63 (by decide), z 64 (by decide)]; exact hk.al
    · rw [y 79 (by decide) (by decide), y 80 (by decide) (by decide), y 63 (by decide) (by decide), y 64 (by decide) (by decide), y 65 (by decide) (by decide), y 66 (by decide) (by decide), y 68 (by decide) (by decide), z 63 (by decide), z 64 (by decide), z 65 (by decide), z 66 (by decide), z 68 (by decide)]; exact hk.re
    · rw [SM_congr hf, E0M_congr hf]; exact h1 b hb m
    · rw [SM_congr hf]; exact h2 b
theorem LD.k01 {n N nb np nm : Nat} {g : am_H} (l : LD n N nb np nm g) (hO : okL g N nb np nm) : ∀ b : Nat, b < nb → (0 ≤ g 68 b ∧ g 68 b < 90) ∧ (g 79 (g 68 b).toNat = 0 ∨ g 79 (g 68 b).toNat = 1) := by
  intro b hb
  have h1 := hO.wm.no b hb
  have h2 := hO.N90
  exact ⟨by omega, l.c01 _ (by omega)⟩
theorem kX12_isBody {L : Nat} {xs : Nat → Int} {P : Nat → List am_V → am_H → am_K → Prop} {d : Nat} {h : am_H} {K : am_K} {N nb np nm : Nat} {n b : Int} (hO : okL h N nb np nm) (Ha : ¬ ((0 ≤ n ∧ n ≤ N) ∧ (0 ≤ b ∧ b < nb)) → K (0, 0) h) (Hb : ((0 ≤ n ∧ n ≤ N) ∧ (0 ≤ b ∧ b < nb)) → ∀ g, MS h g → LD n.toNat N nb np nm g → ¬ Km g nb b.toNat → K (0, 0) g) (Hc : ((0 ≤ n ∧ n ≤ N) ∧ (0 ≤ b ∧ b < nb)) → ∀ g, MS h g → LD n.toNat N nb np nm g → Km g nb b.toNat → K (0, 1) g) : am_C true L xs P (d + 6) 194 [(2, 59), (0, n), (0, b)] h K := by
  have hnb := hO.wm.nb10
  refine eX12_isBody (bX12_isBody_0 (kX12_isKnowing (d := d + 4) (fun w => ?_) (fun w => ?_)))
  · rw [hO.notes] at w
    exact ⟨fun _ => bX12_isBody_20 ⟨by decide, Ha (fun z => w z.1)⟩, fun z => absurd rfl z⟩
  · rw [hO.notes] at w
    refine ⟨fun z => absurd z (by decide), fun _ => ⟨fun w1 => bX12_isBody_20 ⟨by decide, Ha (fun z => by omega)⟩, fun w1 => ?_⟩⟩
    rw [hO.bodies]
    refine ⟨fun w2 => bX12_isBody_22 ?_, fun w2 => bX12_isBody_20 ⟨by decide, Ha (fun z => w2 z.2.2)⟩⟩
    have in' : (0 ≤ n ∧ n ≤ N) ∧ (0 ≤ b ∧ b < nb) := ⟨w, by omega, w2⟩
    rw [show n = ((n.toNat : Nat) : Int) by omega]
    refine kX12_lay' (d := d) (by omega) hO (fun g x l => ?_)
    have k := l.k01 (hO.ms x) b.toNat (by omega)
    refine kX12_isKnown (d := d + 4) (by omega) k.1 (fun gk => ⟨by decide, Hb in' g x l (fun z => by have := z.2; omega)⟩) (fun gk => ⟨by decide, Hc in' g x l ⟨by omega, gk⟩⟩)
theorem Fr.w83 {h g : am_H} (x : Fr [83, 84, 85] h g) : ∀ i, ¬ (83 ≤ i ∧ i ≤ 92) → g i = h i := fun i hi => x i (by simp; omega)
theorem kX12_who {L : Nat} {xs : Nat → Int} {P : Nat → List am_V → am_H → am_K → Prop} {d : Nat} {h : am_H} {K : am_K} {N nb np nm : Nat} {n b : Int} (hO : okL h N nb np nm) (Ha : ∀ g, MS h g → ¬ ((0 ≤ n ∧ n ≤ N) ∧ (0 ≤ b ∧ b < nb)) → K (0, -1) g) (Hb : ((0 ≤ n ∧ n ≤ N) ∧ (0 ≤ b ∧ b < nb)) → ∀ g, MS h g → LD n.toNat N nb np nm g → ¬ Km g nb b.toNat → K (0, -1) g) (Hc : ((0 ≤ n ∧ n ≤ N) ∧ (0 ≤ b ∧ b < nb)) → ∀ g r, MS h g → LD n.toNat N nb np nm g → Km g nb b.toNat → am_inI r → (∀ m, bt r m = true ↔ Wm g nb nm b.toNat m) → K (0, r) g) : am_C true L xs P (d + 7) 195 [(2, 59), (0, n), (0, b)] h K := by
  have hnb := hO.wm.nb10
  refine eX12_who (bX12_who_0 (kX12_isBody (d := d) (hO.ms MS.t0) (fun w => ?_) (fun w g x l k => ?_) (fun w g x l k => ?_)))
  · exact ⟨fun _ => bX12_who_22 (bX12_who_23 (Ha _ MS.t0 w)), fun z => absurd rfl z⟩
  · exact ⟨fun _ => bX12_who_22 (bX12_who_23 (Hb w _ (MS.t0.tr x) l k)), fun z => absurd rfl z⟩
  · have o2 := (hO.ms MS.t0).ms x
    have hm := o2.ok.mn.2
    rw [o2.men] at hm
    refine ⟨fun z => absurd z (by decide), fun _ => ?_⟩
    rw [show b = ((b.toNat : Nat) : Int) by omega]
    refine kX12_whoOf (d := d + 2) (by omega) hnb o2.men o2.bodies (by omega) (fun g' r e1 e2 e3 => bX12_who_23 ?_)
    refine Hc w g' r ((MS.t0.tr x).tr (MS.of e1 (by decide))) (l.fr e1.w83) ?_ e2 (fun m => ?_)
    · unfold Km; rw [e1 79 (by decide), e1 68 (by decide)]; exact k
    · rw [Wm_fr (e1 81 (by decide)) (by rw [e1 59 (by decide)])]; exact e3 m
theorem kX12_named {L : Nat} {xs : Nat → Int} {P : Nat → List am_V → am_H → am_K → Prop} {d : Nat} {h : am_H} {K : am_K} {N nb np nm : Nat} {n b : Int} (hO : okL h N nb np nm) (Ha : ∀ g, MS h g → ¬ ((0 ≤ n ∧ n ≤ N) ∧ (0 ≤ b ∧ b < nb)) → K (0, -1) g) (Hb : ((0 ≤ n ∧ n ≤ N) ∧ (0 ≤ b ∧ b < nb)) → ∀ g, MS h g → LD n.toNat N nb np nm g → ¬ Km g nb b.toNat → K (0, -1) g) (Hc : ((0 ≤ n ∧ n ≤ N) ∧ (0 ≤ b ∧ b < nb)) → ∀ g, MS h g → LD n.toNat N nb np nm g → Km g nb b.toNat → (∀ m, ¬ Nb g nb nm b.toNat m) → K (0, -1) g) (Hd : ((0 ≤ n ∧ n ≤ N) ∧ (0 ≤ b ∧ b < nb)) → ∀ g (m : Nat), MS h g → LD n.toNat N nb np nm g → Km g nb b.toNat → Nb g nb nm b.toNat m → K (0, (m : Int)) g) : am_C true L xs P (d + 7) 196 [(2, 59), (0, n), (0, b)] h K := by
  have hnb := hO.wm.nb10
  refine eX12_named (bX12_named_0 (kX12_isBody (d := d) (hO.ms MS.t0) (fun w => ?_) (fun w g x l k => ?_) (fun w g x l k => ?_)))
  · exact ⟨fun _ => bX12_named_22 (bX12_named_23 (Ha _ MS.t0 w)), fun z => absurd rfl z⟩
  · exact ⟨fun _ => bX12_named_22 (bX12_named_23 (Hb w _ (MS.t0.tr x) l k)), fun z => absurd rfl z⟩
  · have o2 := (hO.ms MS.t0).ms x
    have hm := o2.ok.mn.2
    rw [o2.men] at hm
    refine ⟨fun z => absurd z (by decide), fun _ => ?_⟩
    have eb : b = ((b.toNat : Nat) : Int) := by omega
    have tail : ∀ g' : am_H, Fr [83, 84, 85] g g' → Km g' nb b.toNat := by
      intro g' e1
      unfold Km; rw [e1 79 (by decide), e1 68 (by decide)]; exact k
    rw [eb]
    refine kX12_namedOf (d := d + 1) (by omega) hnb o2.men o2.bodies (by omega) (fun g' e1 e2 => bX12_named_23 ?_) (fun g' m e1 e2 e3 => bX12_named_23 ?_)
    · exact Hc w g' ((MS.t0.tr x).tr (MS.of e1 (by decide))) (l.fr e1.w83) (tail g' e1) (fun m z => e2 m ((Nb_fr (e1 81 (by decide)) (by rw [e1 59 (by decide)])).mp z))
    · exact Hd w g' m ((MS.t0.tr x).tr (MS.of e1 (by decide))) (l.fr e1.w83) (tail g' e1) ((Nb_fr (e1 81 (by decide)) (by rw [e1 59 (by decide)])).mpr e2)
theorem kX12_missing {L : Nat} {xs : Nat → Int} {P : Nat → List am_V → am_H → am_K → Prop} {d : Nat} {h : am_H} {K : am_K} {N nb np nm : Nat} {n : Int} (hO : okL h N nb np nm) (Ha : ∀ g, MS h g → ¬ (0 ≤ n ∧ n ≤ N) → K (0, -1) g) (Hb : (0 ≤ n ∧ n ≤ N) → ∀ g r, MS h g → LD n.toNat N nb np nm g → am_inI r → (∀ m, bt r m = true ↔ m < nm ∧ ¬ ∃ b, Km g nb b ∧ Nb g nb nm b m) → K (0, r) g) : am_C true L xs P (d + 7) 199 [(2, 59), (0, n)] h K := by
  have hnb := hO.wm.nb10
  have hN : am_st h 59 2 0 59 11 = N := (hO.ms MS.t0).notes
  refine eX12_missing (bX12_missing_0 (kX12_isKnowing (d := d + 5) (fun w => ?_) (fun w => ?_)))
  · rw [hN] at w
    exact ⟨fun z => absurd rfl z, fun _ => Ha _ MS.t0 w⟩
  · rw [hN] at w
    refine ⟨fun _ => bX12_missing_15 ?_, fun z => absurd (by decide) z⟩
    rw [show n = ((n.toNat : Nat) : Int) by omega]
    refine kX12_lay' (d := d + 1) (by omega) (hO.ms MS.t0) (fun g x l => ?_)
    have o2 := (hO.ms MS.t0).ms x
    have hm := o2.ok.mn.2
    rw [o2.men] at hm
    refine kX12_missingNow (d := d) (by omega) hnb o2.men o2.bodies (fun b hb => (l.k01 o2 b hb).1) (fun b hb => (l.k01 o2 b hb).2) (fun g' r e1 e2 e3 => ?_)
    refine Hb w g' r ((MS.t0.tr x).tr (MS.of e1 (by decide))) (l.fr e1.w83) e2 (fun m => ?_)
    rw [e3]
    have : ∀ b, (Km g nb b ∧ Nb g nb nm b m) ↔ (Km g' nb b ∧ Nb g' nb nm b m) := by
      intro b
      rw [Nb_fr (e1 81 (by decide)) (by rw [e1 59 (by decide)])]
      unfold Km; rw [e1 79 (by decide), e1 68 (by decide)]
    simp only [this]
theorem kX12_namings {L : Nat} {xs : Nat → Int} {P : Nat → List am_V → am_H → am_K → Prop} {d : Nat} {h : am_H} {K : am_K} {N nb np nm : Nat} {n wh : Int} (hO : okL h N nb np nm) (Ha : ∀ g, MS h g → ¬ ((0 ≤ n ∧ n ≤ N) ∧ (0 ≤ wh ∧ wh ≤ 1)) → K (1, -1) g) (Hb : (0 ≤ n ∧ n ≤ N) → wh = 0 → ∀ g, MS h g → LD n.toNat N nb np nm g → K (1, g 59 50) g) (Hc : (0 ≤ n ∧ n ≤ N) → wh = 1 → ∀ g, MS h g → LD n.toNat N nb np nm g → K (1, Rn (Em g) (Fq g) nm nb (fun _ => True) (fun _ => True) (g 59 50)) g) : am_C true L xs P (d + 6) 191 [(2, 59), (0, n), (0, wh)] h K := by
  have hnb := hO.wm.nb10
  have hN : am_st h 59 2 0 59 11 = N := (hO.ms MS.t0).notes
  refine eX12_namings (bX12_namings_0 (kX12_isKnowing (d := d + 4) (fun w => ?_) (fun w => ?_)))
  · rw [hN] at w
    exact ⟨fun _ => bX12_namings_22 (Ha _ MS.t0 (fun z => w z.1)), fun z => absurd rfl z⟩
  · rw [hN] at w
    refine ⟨fun z => absurd z (by decide), fun _ => kX12_isIn (d := d + 4) (fun w1 => ?_) (fun w1 => ?_)⟩
    · exact ⟨fun z => absurd rfl z, fun _ => bX12_namings_22 (Ha _ MS.t0 (fun z => w1 z.2))⟩
    · refine ⟨fun _ => bX12_namings_26 ?_, fun z => absurd (by decide) z⟩
      have en : n = ((n.toNat : Nat) : Int) := by omega
      have lem : am_C true L xs P (d + 5) 187 [(2, 59), (0, ((n.toNat : Nat) : Int))] (am_t0 h) (fun _ h1 => (¬ wh = 0 → tX12_namings (h 0 0 + (0 : Nat)) L xs (am_C true L xs P (d + 5)) K 41 [(2, 59), (0, n), (0, wh), (9, 0), (9, 0), (9, 0), (9, 0), (9, 0), (9, 0)] [] h1) ∧ (¬ ¬ wh = 0 → K (1, h1 59 50) h1)) := by
        refine kX12_lay' (d := d) (by omega) (hO.ms MS.t0) (fun g x l => ⟨fun w2 => ?_, fun w2 => Hb w (Classical.not_not.mp w2) g (MS.t0.tr x) l⟩)
        have o2 := (hO.ms MS.t0).ms x
        have hm := o2.ok.mn.2
        rw [o2.men] at hm
        refine lX12_ways (by omega) hnb o2.men o2.bodies (fun g' e1 => ?_)
        have e81 : g' 81 = g 81 := e1 81 (by decide)
        have e59 : g' 59 = g 59 := e1 59 (by decide)
        have := Hc w (by omega) g' ((MS.t0.tr x).tr (MS.of e1 (by decide))) (l.fr (fun i hi => e1 i (by simp; omega)))
        have f1 : Em g' = Em g := by unfold Em; rw [e81]
        have f2 : Fq g' = Fq g := by unfold Fq; rw [e81, e59]
        rw [f1, f2, e59] at this
        exact this
      rw [← en] at lem
      exact lem
