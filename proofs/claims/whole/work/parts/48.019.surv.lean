/-! survey, nameAll -/
theorem WN.mono {kd sj th vl : Nat → Int} {n n' nb : Nat} (h : WN kd sj th vl n nb) (hn : n' ≤ n) : WN kd sj th vl n' nb :=
  ⟨h.nb10, fun k hk => h.kds k (by omega), fun k hk => h.k0 k (by omega), fun k hk => h.k1 k (by omega), fun k hk => h.k2 k (by omega), fun k hk => h.k3 k (by omega), fun k k' hk hk' => h.one k k' (by omega) (by omega)⟩
noncomputable def FC (g : am_H) (c np nm b m : Nat) : Int := vd (Qc g b m) (Pc g c b (Ncl g m (g 43 b)) np) (Sc g c b (Ncl g m (g 43 b)) np) (∃ o, o < nm ∧ ¬ o = m ∧ ¬ Qc g b o ∧ Sc g c b (Ncl g o (g 43 b)) np)
theorem vd_3 {Q P S O : Prop} (h : vd Q P S O = 3) : ¬ Q ∧ S ∧ ¬ O := by
  unfold vd at h
  by_cases q : Q <;> by_cases p : P <;> by_cases s : S <;> by_cases o : O <;> simp_all
theorem FC_one {g : am_H} {c np nm b m m' : Nat} (hm : m < nm) (hm' : m' < nm) (h : FC g c np nm b m = 3) (h' : FC g c np nm b m' = 3) : m = m' := by
  apply Classical.byContradiction
  intro hne
  have h1 := vd_3 h
  have h2 := vd_3 h'
  exact h1.2.2 ⟨m', hm', fun e => hne e.symm, h2.1, h2.2.1⟩
theorem FC_congr {g h : am_H} {c np nm b m : Nat} (hc : c = 5 ∨ c = 11) (x : ∀ i, ¬ (44 ≤ i ∧ i ≤ 58) → g i = h i) : FC g c np nm b m = FC h c np nm b m := by
  have eN : ∀ o, Ncl g o (g 43 b) = Ncl h o (h 43 b) := by
    intro o
    unfold Ncl
    rw [x 43 (by omega), x 20 (by omega)]
    exact am_nr_congr (x 23 (by omega)) (x 24 (by omega)) (x 25 (by omega)) (x 26 (by omega)) (x 27 (by omega)) (x 29 (by omega)) (x 21 (by omega)) (x 22 (by omega)) _ _ _
  have eQ : ∀ o, Qc g b o = Qc h b o := by intro o; unfold Qc; rw [x 41 (by omega), x 32 (by omega)]
  have eP : ∀ y, Pc g c b y np = Pc h c b y np := by intro y; unfold Pc Hc; rw [x 42 (by omega), x (c + 3) (by omega), x (c + 4) (by omega)]
  have eS : ∀ y, Sc g c b y np = Sc h c b y np := by intro y; unfold Sc Hc; rw [x 42 (by omega), x (c + 2) (by omega), x (c + 3) (by omega), x (c + 4) (by omega)]
  unfold FC
  simp only [eN, eQ, eP, eS]
theorem GI_congr {n i : Nat} {h g g' : am_H} (hG : GI n i h g) (hf : Fr [39, 40, 41, 42, 43] h g') (e39 : g' 39 = g 39) (e40 : g' 40 = g 40) (e41 : g' 41 = g 41) (e42 : g' 42 = g 42) (e43 : g' 43 = g 43) : GI n i h g' := by
  obtain ⟨fr, s01, st, bo, ce, bc, du, re, ma⟩ := hG
  refine ⟨hf, ?_, ?_, ?_, ?_, ?_, ?_, ?_, ?_⟩
  · rw [e40]; exact s01
  · rw [e40]; exact st
  · rw [e39, e40]; exact bo
  · rw [e40, e43]; exact ce
  · rw [e39, e40]; exact bc
  · rw [e39, e40]; exact du
  · rw [e40, e41]; exact re
  · rw [e41, e42]; exact ma
/-- what the knowledge rows hold (they speak of the notes' rows of g itself) -/
def KC (n : Nat) (g : am_H) : Prop := (∀ k, k < n → g 40 k = 0 ∨ g 40 k = 1) ∧ (∀ k, k < n → (g 40 k = 1 ↔ ∃ j, 0 ≤ j ∧ j < n ∧ g 35 j = 3 ∧ g 36 j = k ∧ g 40 j = 0)) ∧ (∀ b : Nat, bt (g 39 4) b = true ↔ ∃ k, 0 ≤ k ∧ k < n ∧ g 40 k = 0 ∧ g 35 k = 0 ∧ g 36 k = b) ∧ (∀ k, 0 ≤ k → k < n → g 40 k = 0 → g 35 k = 0 → g 43 (g 36 k).toNat = g 38 k) ∧ (∀ c : Nat, bt (g 39 6) c = true ↔ ∃ k, 0 ≤ k ∧ k < n ∧ g 40 k = 0 ∧ g 35 k = 0 ∧ g 38 k = c) ∧ (∀ c : Nat, bt (g 39 5) c = true ↔ ∃ k, 0 ≤ k ∧ k < n ∧ g 40 k = 0 ∧ g 35 k = 2 ∧ g 36 k = c) ∧ (∀ b t : Nat, b < 10 → t < 14 → Lst (fun k => g 40 k = 0 ∧ g 35 k = 1 ∧ g 36 k = b ∧ g 37 k = t) (g 38) 0 n (g 41 (b * 14 + t))) ∧ (∀ b q : Nat, b < 10 → q < 4 → g 42 (b * 4 + q) = cnt (fun t => kOf t = q ∧ ¬ g 41 (b * 14 + t) = -1) 14)
theorem KC.s01 {n : Nat} {g : am_H} (s_ : KC n g) : ∀ k, k < n → g 40 k = 0 ∨ g 40 k = 1 := s_.1
theorem KC.st {n : Nat} {g : am_H} (s_ : KC n g) : ∀ k, k < n → (g 40 k = 1 ↔ ∃ j, 0 ≤ j ∧ j < n ∧ g 35 j = 3 ∧ g 36 j = k ∧ g 40 j = 0) := s_.2.1
theorem KC.bo {n : Nat} {g : am_H} (s_ : KC n g) : ∀ b : Nat, bt (g 39 4) b = true ↔ ∃ k, 0 ≤ k ∧ k < n ∧ g 40 k = 0 ∧ g 35 k = 0 ∧ g 36 k = b := s_.2.2.1
theorem KC.ce {n : Nat} {g : am_H} (s_ : KC n g) : ∀ k, 0 ≤ k → k < n → g 40 k = 0 → g 35 k = 0 → g 43 (g 36 k).toNat = g 38 k := s_.2.2.2.1
theorem KC.bc {n : Nat} {g : am_H} (s_ : KC n g) : ∀ c : Nat, bt (g 39 6) c = true ↔ ∃ k, 0 ≤ k ∧ k < n ∧ g 40 k = 0 ∧ g 35 k = 0 ∧ g 38 k = c := s_.2.2.2.2.1
theorem KC.du {n : Nat} {g : am_H} (s_ : KC n g) : ∀ c : Nat, bt (g 39 5) c = true ↔ ∃ k, 0 ≤ k ∧ k < n ∧ g 40 k = 0 ∧ g 35 k = 2 ∧ g 36 k = c := s_.2.2.2.2.2.1
theorem KC.re {n : Nat} {g : am_H} (s_ : KC n g) : ∀ b t : Nat, b < 10 → t < 14 → Lst (fun k => g 40 k = 0 ∧ g 35 k = 1 ∧ g 36 k = b ∧ g 37 k = t) (g 38) 0 n (g 41 (b * 14 + t)) := s_.2.2.2.2.2.2.1
theorem KC.ma {n : Nat} {g : am_H} (s_ : KC n g) : ∀ b q : Nat, b < 10 → q < 4 → g 42 (b * 4 + q) = cnt (fun t => kOf t = q ∧ ¬ g 41 (b * 14 + t) = -1) 14 := s_.2.2.2.2.2.2.2
theorem GI.kc {n : Nat} {h g : am_H} (hG : GI n 0 h g) : KC n g := by
  obtain ⟨fr, s01, st, bo, ce, bc, du, re, ma⟩ := hG
  have e35 := fr 35 (by decide)
  have e36 := fr 36 (by decide)
  have e37 := fr 37 (by decide)
  have e38 := fr 38 (by decide)
  rw [← e35, ← e36] at st
  rw [← e35, ← e36] at bo
  rw [← e35, ← e36, ← e38] at ce
  rw [← e35, ← e38] at bc
  rw [← e35, ← e36] at du
  rw [← e35, ← e36, ← e37, ← e38] at re
  exact ⟨s01, st, bo, ce, bc, du, re, ma⟩
theorem KC.congr {n : Nat} {g g' : am_H} (hG : KC n g) (x : ∀ i, 35 ≤ i → i ≤ 43 → g' i = g i) : KC n g' := by
  obtain ⟨s01, st, bo, ce, bc, du, re, ma⟩ := hG
  have e35 := x 35 (by decide) (by decide)
  have e36 := x 36 (by decide) (by decide)
  have e37 := x 37 (by decide) (by decide)
  have e38 := x 38 (by decide) (by decide)
  have e39 := x 39 (by decide) (by decide)
  have e40 := x 40 (by decide) (by decide)
  have e41 := x 41 (by decide) (by decide)
  have e42 := x 42 (by decide) (by decide)
  have e43 := x 43 (by decide) (by decide)
  refine ⟨?_, ?_, ?_, ?_, ?_, ?_, ?_, ?_⟩
  · rw [e40]; exact s01
  · rw [e40, e35, e36]; exact st
  · rw [e39, e40, e35, e36]; exact bo
  · rw [e40, e43, e35, e36, e38]; exact ce
  · rw [e39, e40, e35, e38]; exact bc
  · rw [e39, e40, e35, e36]; exact du
  · rw [e40, e41, e35, e36, e37, e38]; exact re
  · rw [e41, e42]; exact ma
/-- what the class's rows are at any time -/
def okC (h : am_H) (c N nb np nm : Nat) : Prop := (c = 5 ∨ c = 11) ∧ (h 4 1 = c) ∧ (h 34 4 = N) ∧ (N ≤ 90) ∧ (h 34 5 = nb) ∧ (WN (h 35) (h 36) (h 37) (h 38) N nb) ∧ (h c 5 = np) ∧ (np ≤ 12) ∧ (h 20 15 = nm) ∧ (am_okR h)
theorem okC.hc {h : am_H} {c N nb np nm : Nat} (s_ : okC h c N nb np nm) : c = 5 ∨ c = 11 := s_.1
theorem okC.h41 {h : am_H} {c N nb np nm : Nat} (s_ : okC h c N nb np nm) : h 4 1 = c := s_.2.1
theorem okC.size {h : am_H} {c N nb np nm : Nat} (s_ : okC h c N nb np nm) : h 34 4 = N := s_.2.2.1
theorem okC.N90 {h : am_H} {c N nb np nm : Nat} (s_ : okC h c N nb np nm) : N ≤ 90 := s_.2.2.2.1
theorem okC.bodies {h : am_H} {c N nb np nm : Nat} (s_ : okC h c N nb np nm) : h 34 5 = nb := s_.2.2.2.2.1
theorem okC.wn {h : am_H} {c N nb np nm : Nat} (s_ : okC h c N nb np nm) : WN (h 35) (h 36) (h 37) (h 38) N nb := s_.2.2.2.2.2.1
theorem okC.proofs {h : am_H} {c N nb np nm : Nat} (s_ : okC h c N nb np nm) : h c 5 = np := s_.2.2.2.2.2.2.1
theorem okC.np12 {h : am_H} {c N nb np nm : Nat} (s_ : okC h c N nb np nm) : np ≤ 12 := s_.2.2.2.2.2.2.2.1
theorem okC.men {h : am_H} {c N nb np nm : Nat} (s_ : okC h c N nb np nm) : h 20 15 = nm := s_.2.2.2.2.2.2.2.2.1
theorem okC.rol {h : am_H} {c N nb np nm : Nat} (s_ : okC h c N nb np nm) : am_okR h := s_.2.2.2.2.2.2.2.2.2
theorem kX2_hasBody {L : Nat} {xs : Nat → Int} {P : Nat → List am_V → am_H → am_K → Prop} {d : Nat} {h : am_H} {K : am_K} {b : Int} (H0 : ¬ (0 ≤ b ∧ b < 10 ∧ bt (h 39 4) b.toNat = true) → K (0, 0) h) (H1 : (0 ≤ b ∧ b < 10 ∧ bt (h 39 4) b.toNat = true) → K (0, 1) h) : am_C true L xs P (d + 2) 25 [(2, 39), (0, b)] h K := by
  refine eX2_hasBody (bX2_hasBody_0 (kX11_within (d := d) (fun g1 => ?_) (fun g1 => ?_)))
  · exact ⟨fun _ => bX2_hasBody_25 (bX2_hasBody_26 ⟨by decide, H0 (fun z => g1 (by omega))⟩), fun z => absurd rfl z⟩
  · refine ⟨fun z => absurd z (by decide), fun _ => kX11_hasBit (d := d) (by omega) (fun g2 => ?_) (fun g2 => ?_)⟩
    · rw [am_bit_bt (by omega) (by omega)] at g2
      exact ⟨fun _ => bX2_hasBody_25 (bX2_hasBody_26 ⟨by decide, H0 (fun z => g2 z.2.2)⟩), fun z => absurd rfl z⟩
    · rw [am_bit_bt (by omega) (by omega)] at g2
      exact ⟨fun z => absurd z (by decide), fun _ => bX2_hasBody_26 ⟨by decide, H1 ⟨by omega, by omega, g2⟩⟩⟩
def SV (n c np nm : Nat) (h g : am_H) : Prop := (Fr [39, 40, 41, 42, 43, 45] h g) ∧ (KC n g) ∧ (∀ b, b < 10 → bt (g 39 4) b = true → ∀ m, m < nm → g 45 (b * 14 + m) = FC g c np nm b m)
theorem SV.fr {n c np nm : Nat} {h g : am_H} (s_ : SV n c np nm h g) : Fr [39, 40, 41, 42, 43, 45] h g := s_.1
theorem SV.kc {n c np nm : Nat} {h g : am_H} (s_ : SV n c np nm h g) : KC n g := s_.2.1
theorem SV.row {n c np nm : Nat} {h g : am_H} (s_ : SV n c np nm h g) : ∀ b, b < 10 → bt (g 39 4) b = true → ∀ m, m < nm → g 45 (b * 14 + m) = FC g c np nm b m := s_.2.2
theorem kX4_weigh {L : Nat} {xs : Nat → Int} {P : Nat → List am_V → am_H → am_K → Prop} {d : Nat} {h : am_H} {K : am_K} {b c n nm : Nat} (hc : c = 5 ∨ c = 11) (hR : am_okR h) (hb : b < 10) (hn : n ≤ 12) (h5 : h c 5 = n) (hnm : h 20 15 = nm) (hcb : 0 ≤ h 43 b ∧ h 43 b < 25) (H : ∀ h', Fr [45] h h' → (∀ j, (j < b * 14 ∨ b * 14 + 14 ≤ j) → h' 45 j = h 45 j) → (∀ m, m < nm → h' 45 (b * 14 + m) = FC h c n nm b m) → K (9, 0) h') : am_C true L xs P (d + 4) 41 [(2, 44), (2, (c : Int)), (2, 20), (2, 39), (0, (b : Int))] h K := by
  rcases hc with rfl | rfl
  · exact kX4_weigh_0 hR hb hn h5 hnm hcb H
  · exact kX4_weigh_1 hR hb hn h5 hnm hcb H
theorem kX11_survey {L : Nat} {xs : Nat → Int} {P : Nat → List am_V → am_H → am_K → Prop} {d : Nat} {h : am_H} {K : am_K} {c N nb np nm : Nat} {n : Int} (hO : okC h c N nb np nm) (H0 : ¬ (0 ≤ n ∧ n ≤ N) → K (0, 0) h) (H1 : (0 ≤ n ∧ n ≤ N) → ∀ h', SV n.toNat c np nm h h' → K (0, 1) h') : am_C true L xs P (d + 5) 139 [(2, 1), (0, n)] h K := by
  have hs := hO.size
  have hN := hO.N90
  have hnb := hO.wn.nb10
  refine eX11_survey (bX11_survey_0 ⟨fun z => bX11_survey_15 ⟨by decide, H0 (by omega)⟩, fun z => ⟨fun z2 => bX11_survey_17 ?_, fun z2 => bX11_survey_15 ⟨by decide, H0 (by omega)⟩⟩⟩)
  rw [show n = ((n.toNat : Nat) : Int) by omega]
  have H1' := H1 (by omega)
  have hWn := hO.wn.mono (n' := n.toNat) (by omega)
  refine kX2_gather (d := d) (by omega) hWn (fun g hG => ?_)
  have fr := hG.fr
  refine upto (σ := am_H) (N := nb) (I := fun i g' => Fr [45] g g' ∧ ∀ b, b < i → bt (g 39 4) b = true → ∀ m, m < nm → g' 45 (b * 14 + m) = FC g c np nm b m) (G := fun i g' => tX11_survey (h 0 0 + (0 : Nat)) L xs (am_C true L xs P (d + 4)) K 31 [(2, 1), (0, ((n.toNat : Nat) : Int)), (0, (i : Int))] [] g') ?_ ?_ nb 0 g (by omega) ⟨Fr.rf, fun b hb => by omega⟩
  · intro i g' hi ⟨e1, e2⟩ ih
    have x (j : Nat) (hj : ¬ j = 45) : g' j = g j := e1 j (by simpa using hj)
    have y (j : Nat) (hj : ¬ (39 ≤ j ∧ j ≤ 43)) : g j = h j := fr j (by
      intro hz
      have : j = 39 ∨ j = 40 ∨ j = 41 ∨ j = 42 ∨ j = 43 := by simpa using hz
      omega)
    refine bX11_survey_31 ⟨fun z => by rw [x 34 (by decide), y 34 (by decide), hO.bodies] at z; omega, fun _ => kX2_hasBody (d := d + 2) (fun gb => ?_) (fun gb => ?_)⟩
    · refine ⟨fun _ => bX11_survey_76 ⟨by omega, ih g' ⟨e1, fun b hb hk => ?_⟩⟩, fun z => absurd rfl z⟩
      by_cases e : b = i
      · subst e
        rw [Int.toNat_natCast, x 39 (by decide)] at gb
        exact absurd ⟨by omega, by omega, hk⟩ gb
      · exact e2 b (by omega) hk
    · refine ⟨fun z => absurd z (by decide), fun _ => ?_⟩
      rw [Int.toNat_natCast, x 39 (by decide)] at gb
      rw [x 4 (by decide), y 4 (by decide), hO.h41]
      obtain ⟨k, k1, k2, k3, k4, k5⟩ := (hG.bo i).mp gb.2.2
      have hce := hG.ce k k1 k2 k3 k4
      rw [k5, Int.toNat_natCast] at hce
      have hv := hWn.k0 k k2 k4
      have hcell : 0 ≤ g' 43 i ∧ g' 43 i < 25 := by rw [x 43 (by decide), hce]; omega
      have hR' : am_okR g' := by
        unfold am_okR
        rw [x 20 (by decide), x 21 (by decide), x 22 (by decide), x 24 (by decide), y 20 (by decide), y 21 (by decide), y 22 (by decide), y 24 (by decide)]
        exact hO.rol
      have hcc := hO.hc
      have go : am_C true L xs P (d + 4) 41 [(2, 44), (2, (c : Int)), (2, 20), (2, 39), (0, (i : Int))] g' (fun _ h1 => tX11_survey (h 0 0 + (0 : Nat)) L xs (am_C true L xs P (d + 4)) K 76 [(2, 1), (0, ((n.toNat : Nat) : Int)), (0, (i : Int))] [] h1) := by
        refine kX4_weigh (d := d) hO.hc hR' (by omega) hO.np12 (by rw [x c (by omega), y c (by omega)]; exact hO.proofs) (by rw [x 20 (by decide), y 20 (by decide)]; exact hO.men) hcell (fun h' w1 w2 w3 => ?_)
        refine bX11_survey_76 ⟨by omega, ih h' ⟨e1.tr w1, fun b hb hk m hm => ?_⟩⟩
        have eF : ∀ b m, FC g' c np nm b m = FC g c np nm b m := fun b m => FC_congr hO.hc (fun i hi => x i (by omega))
        by_cases e : b = i
        · subst e; rw [w3 m hm, eF]
        · rw [w2 _ (by have hmn := hO.rol.2.1; have := hO.men; omega)]; exact e2 b (by omega) hk m hm
      rcases hcc with e | e
      · subst e; exact bX11_survey_64_0 go
      · subst e; exact bX11_survey_64_1 go
  · intro g' ⟨e1, e2⟩
    have x (j : Nat) (hj : ¬ j = 45) : g' j = g j := e1 j (by simpa using hj)
    have y (j : Nat) (hj : ¬ (39 ≤ j ∧ j ≤ 43)) : g j = h j := fr j (by
      intro hz
      have : j = 39 ∨ j = 40 ∨ j = 41 ∨ j = 42 ∨ j = 43 := by simpa using hz
      omega)
    refine bX11_survey_31 ⟨fun _ => bX11_survey_82 ⟨by decide, H1' g' ⟨?_, ?_, ?_⟩⟩, fun z => by rw [x 34 (by decide), y 34 (by decide), hO.bodies] at z; omega⟩
    · exact (fr.mono (by decide)).tr (e1.mono (by decide))
    · exact hG.kc.congr (fun j h1 h2 => x j (by omega))
    · intro b hb hk m hm
      rw [x 39 (by decide)] at hk
      obtain ⟨k, k1, k2, k3, k4, k5⟩ := (hG.bo b).mp hk
      have := hWn.k0 k k2 k4
      rw [e2 b (by omega) hk m hm]
      exact (FC_congr hO.hc (fun i hi => x i (by omega))).symm
def NA (n c np nm : Nat) (h g : am_H) : Prop := (Fr [39, 40, 41, 42, 43, 44, 45, 46, 47, 48, 49, 50, 51] h g) ∧ (KC n g) ∧ (∀ b, b < 10 → ∀ m, Ey g b m ↔ Bnd (fun b m => bt (g 39 4) b = true ∧ FC g c np nm b m = 3) (fun b m => bt (g 39 4) b = true ∧ m < nm ∧ 2 ≤ FC g c np nm b m) nm b m) ∧ (Settled nm g)
theorem NA.fr {n c np nm : Nat} {h g : am_H} (s_ : NA n c np nm h g) : Fr [39, 40, 41, 42, 43, 44, 45, 46, 47, 48, 49, 50, 51] h g := s_.1
theorem NA.kc {n c np nm : Nat} {h g : am_H} (s_ : NA n c np nm h g) : KC n g := s_.2.1
theorem NA.ey {n c np nm : Nat} {h g : am_H} (s_ : NA n c np nm h g) : ∀ b, b < 10 → ∀ m, Ey g b m ↔ Bnd (fun b m => bt (g 39 4) b = true ∧ FC g c np nm b m = 3) (fun b m => bt (g 39 4) b = true ∧ m < nm ∧ 2 ≤ FC g c np nm b m) nm b m := s_.2.2.1
theorem NA.se {n c np nm : Nat} {h g : am_H} (s_ : NA n c np nm h g) : Settled nm g := s_.2.2.2
theorem Bnd_congr {S S' E E' : Nat → Nat → Prop} {n : Nat} (hS : ∀ b m, b < 10 → m < n → (S b m ↔ S' b m)) (hE : ∀ b m, b < 10 → (E b m ↔ E' b m)) {b m : Nat} (hb : b < 10) : Bnd S E n b m ↔ Bnd S' E' n b m := by
  have hO : ∀ b m, b < 10 → m < n → (Own S b m ↔ Own S' b m) := by
    intro b m hb hm
    unfold Own
    rw [hS b m hb hm]
    exact and_congr_right (fun _ => ⟨fun z b' hb' hs => z b' hb' ((hS b' m hb' hm).mpr hs), fun z b' hb' hs => z b' hb' ((hS b' m hb' hm).mp hs)⟩)
  unfold Bnd
  refine or_congr ⟨fun z => ⟨z.1, (hO b m hb z.1).mp z.2⟩, fun z => ⟨z.1, (hO b m hb z.1).mpr z.2⟩⟩ (and_congr ⟨fun z m' hm' ho => z m' hm' ((hO b m' hb hm').mpr ho), fun z m' hm' ho => z m' hm' ((hO b m' hb hm').mp ho)⟩ (and_congr (hE b m hb) ⟨fun z b' hb' ho => z b' hb' ⟨ho.1, (hO b' m hb' ho.1).mpr ho.2⟩, fun z b' hb' ho => z b' hb' ⟨ho.1, (hO b' m hb' ho.1).mp ho.2⟩⟩))
theorem kX11_nameAll {L : Nat} {xs : Nat → Int} {P : Nat → List am_V → am_H → am_K → Prop} {d : Nat} {h : am_H} {K : am_K} {c N nb np nm : Nat} {n : Int} (hO : okC h c N nb np nm) (H0 : ¬ (0 ≤ n ∧ n ≤ N) → K (0, 0) h) (H1 : (0 ≤ n ∧ n ≤ N) → ∀ h', NA n.toNat c np nm h h' → K (0, 1) h') : am_C true L xs P (d + 15) 140 [(2, 1), (0, n)] h K := by
  have hmn := hO.rol.2.1
  have hmen := hO.men
  refine eX11_nameAll (bX11_nameAll_0 (kX11_survey (d := d + 9) hO (fun g0 => ?_) (fun g0 g hS => ?_)))
  · exact ⟨fun z => absurd rfl z, fun _ => ⟨by decide, H0 g0⟩⟩
  · refine ⟨fun _ => bX11_nameAll_10 ?_, fun z => absurd (by decide) z⟩
    have e20 : g 20 15 = nm := by rw [hS.fr 20 (by decide)]; exact hmen
    rw [e20]
    refine kX4_settle (d := d) (by omega) (fun b m m' hb hm hm' h1 h2 => ?_) (fun h' f1 f2 f3 => ⟨by decide, H1 g0 h' ⟨?_, ?_, ?_, f3⟩⟩)
    · rw [hS.row b hb h1.1 m hm] at h1
      rw [hS.row b hb h2.1 m' hm'] at h2
      exact FC_one hm hm' h1.2 h2.2
    · exact (hS.fr.mono (by decide)).tr (f1.mono (by decide))
    · refine hS.kc.congr (fun j h1 h2 => f1 j ?_)
      intro hz
      have : j = 44 ∨ j = 46 ∨ j = 47 ∨ j = 48 ∨ j = 49 ∨ j = 50 ∨ j = 51 := by simpa using hz
      omega
    · have e39 : h' 39 = g 39 := f1 39 (by decide)
      have eF : ∀ b m, FC h' c np nm b m = FC g c np nm b m := fun b m => FC_congr hO.hc (fun i hi => f1 i (by
        intro hz
        have : i = 44 ∨ i = 46 ∨ i = 47 ∨ i = 48 ∨ i = 49 ∨ i = 50 ∨ i = 51 := by simpa using hz
        omega))
      intro b hb m
      rw [f2 b hb m, e39]
      refine Bnd_congr (fun b m hb hm => ?_) (fun b m hb => ?_) hb
      · exact and_congr_right (fun hk => by rw [hS.row b hb hk m hm, eF])
      · exact and_congr_right (fun hk => and_congr_right (fun hm => by rw [hS.row b hb hk m hm, eF]))
