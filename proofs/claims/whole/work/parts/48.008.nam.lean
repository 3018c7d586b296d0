/-! the class's namings: one matching, its chains -/
def PA (nm : Nat) (h h' : am_H) : Prop := Fr [44, 49, 50] h h' ∧ (∀ j, ¬ j = 9 → ¬ j = 10 → h' 44 j = h 44 j) ∧ CM (Ey h) nm (h' 50) (h' 49) (-1) ∧ (∃ C, Cert (Ey h) 10 nm (h' 50) C) ∧ h' 44 10 = siz nm (h' 50)
theorem CM_mt {E : Nat → Nat → Prop} {nm : Nat} {f mo : Nat → Int} (h : CM E nm f mo (-1)) : Mt E 10 nm f := by
  refine ⟨fun m hm => ?_, fun m m' hm hm' he hn => ?_⟩
  · obtain h1 | ⟨h1, h2, h3⟩ := h.2 m hm (by omega)
    · exact Or.inl h1
    · obtain g1 | ⟨g1, g2, g3, g4, g5⟩ := h.1 (f m).toNat (by omega)
      · omega
      · rw [h3, Int.toNat_natCast] at g5
        exact Or.inr ⟨h1, h2, g5⟩
  · obtain h1 | ⟨h1, h2, h3⟩ := h.2 m hm (by omega)
    · exact absurd h1 hn
    · obtain h4 | ⟨h4, h5, h6⟩ := h.2 m' hm' (by omega)
      · omega
      · rw [he, h6] at h3; omega
theorem CM_un {E : Nat → Nat → Prop} {nm : Nat} {f mo : Nat → Int} (h : CM E nm f mo (-1)) {b : Nat} (hb : b < 10) : mo b = -1 ↔ ∀ m, m < nm → ¬ f m = b := by
  constructor
  · intro hz m hm he
    obtain h1 | ⟨h1, h2, h3⟩ := h.2 m hm (by omega)
    · omega
    · rw [he, Int.toNat_natCast] at h3; omega
  · intro hz
    obtain g1 | ⟨g1, g2, g3, g4, g5⟩ := h.1 b hb
    · exact g1
    · exact absurd g4 (hz _ (by omega))
theorem CM_siz {E : Nat → Nat → Prop} {nm : Nat} {f mo : Nat → Int} (h : CM E nm f mo (-1)) : siz nm f = cnt (fun b => ¬ mo b = -1) 10 := by
  unfold siz
  apply Nat.le_antisymm
  · refine cnt_inj (f := fun m => (f m).toNat) (fun m hm hp => ?_) (fun i j hi hj hp hq he => ?_)
    · obtain h1 | ⟨h1, h2, h3⟩ := h.2 m hm (by omega)
      · exact absurd h1 hp
      · exact ⟨by show (f m).toNat < 10; omega, by show ¬ mo (f m).toNat = -1; omega⟩
    · obtain h1 | ⟨h1, h2, h3⟩ := h.2 i hi (by omega)
      · exact absurd h1 hp
      · obtain h4 | ⟨h4, h5, h6⟩ := h.2 j hj (by omega)
        · exact absurd h4 hq
        · have he' : (f i).toNat = (f j).toNat := he
          rw [he', h6] at h3; omega
  · refine cnt_inj (f := fun b => (mo b).toNat) (fun b hb hp => ?_) (fun i j hi hj hp hq he => ?_)
    · obtain g1 | ⟨g1, g2, g3, g4, g5⟩ := h.1 b hb
      · exact absurd g1 hp
      · exact ⟨by show (mo b).toNat < nm; omega, by show ¬ f (mo b).toNat = -1; omega⟩
    · obtain g1 | ⟨g1, g2, g3, g4, g5⟩ := h.1 i hi
      · exact absurd g1 hp
      · obtain k1 | ⟨k1, k2, k3, k4, k5⟩ := h.1 j hj
        · exact absurd k1 hq
        · have he' : (mo i).toNat = (mo j).toNat := he
          rw [he', k4] at g4; omega
theorem kX4_placeAll {L : Nat} {xs : Nat → Int} {P : Nat → List am_V → am_H → am_K → Prop} {d : Nat} {h : am_H} {K : am_K} {nm : Nat} (hnm : nm ≤ 14) (H : ∀ h', PA nm h h' → K (9, 0) h') : am_C true L xs P (d + 13) 46 [(2, 44), (0, (nm : Int))] h K := by
  refine eX4_placeAll (d := d + 12) (bX4_placeAll_0 ?_)
  refine upto (σ := am_H) (N := nm) (I := fun i g => Fr [44, 49, 50] h g ∧ (∀ j, ¬ j = 9 → ¬ j = 10 → g 44 j = h 44 j) ∧ g 44 10 = 0 ∧ ∀ m, m < i → g 50 m = -1) (G := fun i g => tX4_placeAll (h 0 0 + (0 : Nat)) L xs (am_C true L xs P (d + 12)) K 7 [(2, 44), (0, (nm : Int)), (0, (i : Int))] [] g) ?_ ?_ nm 0 _ (by omega) ?_
  · intro i g hi ⟨e1, e2, e3, e4⟩ ih
    refine bX4_placeAll_7 ⟨fun z => by omega, fun _ => ⟨by omega, ⟨by omega, ih _ ⟨e1.st (by decide), ?_, ?_, ?_⟩⟩⟩⟩
    · intro j h1 h2; rw [st_ne (by decide)]; exact e2 j h1 h2
    · rw [st_ne (by decide)]; exact e3
    · intro m hm
      rw [st_ap, Int.toNat_natCast]
      split
      · rfl
      · exact e4 m (by omega)
  · intro g ⟨e1, e2, e3, e4⟩
    refine bX4_placeAll_7 ⟨fun _ => bX4_placeAll_25 ?_, fun z => by omega⟩
    refine upto (σ := am_H) (N := 10) (I := fun i g => Fr [44, 49, 50] h g ∧ (∀ j, ¬ j = 9 → ¬ j = 10 → g 44 j = h 44 j) ∧ g 44 10 = 0 ∧ (∀ m, m < nm → g 50 m = -1) ∧ ∀ m, m < i → g 49 m = -1) (G := fun i g => tX4_placeAll (h 0 0 + (0 : Nat)) L xs (am_C true L xs P (d + 12)) K 27 [(2, 44), (0, (nm : Int)), (0, (i : Int))] [] g) ?_ ?_ 10 0 g (by omega) ⟨e1, e2, e3, e4, fun m hm => by omega⟩
    · intro i g hi ⟨e1, e2, e3, e4, e5⟩ ih
      refine bX4_placeAll_27 ⟨fun z => by omega, fun _ => ⟨by omega, ⟨by omega, ih _ ⟨e1.st (by decide), ?_, ?_, ?_, ?_⟩⟩⟩⟩
      · intro j h1 h2; rw [st_ne (by decide)]; exact e2 j h1 h2
      · rw [st_ne (by decide)]; exact e3
      · intro m hm; rw [st_ne (by decide)]; exact e4 m hm
      · intro m hm
        rw [st_ap, Int.toNat_natCast]
        split
        · rfl
        · exact e5 m (by omega)
    · intro g ⟨e1, e2, e3, e4, e5⟩
      refine bX4_placeAll_27 ⟨fun _ => bX4_placeAll_46 ?_, fun z => by omega⟩
      refine upto (σ := am_H) (N := 10) (I := fun i g => Fr [44, 49, 50] h g ∧ (∀ j, ¬ j = 9 → ¬ j = 10 → g 44 j = h 44 j) ∧ CM (Ey h) nm (g 50) (g 49) (-1) ∧ (∀ b, i ≤ b → b < 10 → g 49 b = -1) ∧ g 44 10 = cnt (fun b => ¬ g 49 b = -1) i ∧ ∃ D, Cl (Ey h) nm (g 50) D ∧ ∀ b, b < i → g 49 b = -1 → ∀ m, m < nm → Ey h b m → D m) (G := fun i g => tX4_placeAll (h 0 0 + (0 : Nat)) L xs (am_C true L xs P (d + 12)) K 48 [(2, 44), (0, (nm : Int)), (0, (i : Int))] [] g) ?_ ?_ 10 0 g (by omega) ⟨e1, e2, ?_, ?_, ?_, ?_⟩
      · intro i g hi ⟨e1, e2, e3, e4, e5, D, e6, e7⟩ ih
        have hE : Ey (am_st g 44 9 0) = Ey h := by unfold Ey; rw [st_ne (by decide), e1 46 (by decide)]
        have x50 : am_st g 44 9 0 50 = g 50 := st_ne (by decide)
        have x49 : am_st g 44 9 0 49 = g 49 := st_ne (by decide)
        refine bX4_placeAll_48 ⟨fun z => by omega, fun _ => ?_⟩
        refine kX4_giveMan (d := d) (s := i) hnm hi 10 _ _ _ _ (by omega) (by omega) (by omega) (by omega) (by rw [hE, x50, x49]; exact e3) (by rw [x49]; exact e4 i (by omega) hi) (by omega) (Or.inl (by rw [x49, Int.toNat_natCast]; exact e4 i (by omega) hi)) (fun h' hF => ?_) (fun h' hS => ?_)
        · obtain ⟨f1, f2, f3, f4, f5⟩ := hF
          rw [st_at] at f5
          rw [hE, x50] at f5
          rw [hE, Int.toNat_natCast] at f4
          refine ⟨fun _ => bX4_placeAll_79 ⟨by omega, ih h' ⟨?_, ?_, ?_, ?_, ?_, fun m => D m ∨ (m < nm ∧ bt (h' 44 9) m = true), ?_, ?_⟩⟩, fun z => absurd rfl z⟩
          · intro c hc
            have : ¬ c = 44 ∧ ¬ c = 49 ∧ ¬ c = 50 := by simpa using hc
            rw [f1 c this.1, st_ne this.1, e1 c hc]
          · intro j h1 h2; rw [f2 j h1, st_nj h1, e2 j h1 h2]
          · rw [f1 50 (by decide), f1 49 (by decide), x50, x49]; exact e3
          · intro b h1 h2; rw [f1 49 (by decide), x49]; exact e4 b (by omega) h2
          · rw [f2 10 (by decide), st_nj (by decide), f1 49 (by decide), x49, e5]
            rw [cnt_neg (p := fun b => ¬ g 49 b = -1) (fun z => z (e4 i (by omega) hi))]
          · rw [f1 50 (by decide), x50]
            intro m hm hd
            rcases hd with hd | hd
            · exact ⟨(e6 m hm hd).1, fun m' hm' he => Or.inl ((e6 m hm hd).2 m' hm' he)⟩
            · rcases f5 m hm hd.2 with z | z
              · rw [bt_0] at z; exact absurd z (by decide)
              · exact ⟨z.1, fun m' hm' he => Or.inr ⟨hm', z.2 m' hm' he⟩⟩
          · intro b hb hz m hm he
            by_cases hbi : b < i
            · exact Or.inl (e7 b hbi (by rw [f1 49 (by decide), x49] at hz; exact hz) m hm he)
            · have : b = i := by omega
              subst this
              exact Or.inr ⟨hm, f4 m hm he⟩
        · obtain ⟨s1, s2, s3, s4, s5, s6⟩ := hS
          rw [hE, x50] at s6
          rw [hE, x49, Int.toNat_natCast, e4 i (by omega) hi] at s3
          rw [x49] at s5
          rw [Int.toNat_natCast] at s4
          have t10 : h' 44 10 = g 44 10 := by rw [s2 10 (by decide), st_nj (by decide)]
          have hcb := cnt_bnd (fun b => ¬ g 49 b = -1) i
          refine ⟨fun z => absurd z (by decide), fun _ => ⟨by rw [t10, e5]; omega, bX4_placeAll_79 ⟨by omega, ih _ ⟨?_, ?_, ?_, ?_, ?_, D, ?_, ?_⟩⟩⟩⟩
          · refine Fr.st ?_ (by decide)
            intro c hc
            have : ¬ c = 44 ∧ ¬ c = 49 ∧ ¬ c = 50 := by simpa using hc
            rw [s1 c hc, st_ne this.1, e1 c hc]
          · intro j h1 h2; rw [st_nj h2, s2 j h1, st_nj h1, e2 j h1 h2]
          · rw [st_ne (by decide), st_ne (by decide)]; exact s3
          · intro b h1 h2; rw [st_ne (by decide)]; exact (s5 b h2 (by omega)).1 (e4 b (by omega) h2)
          · rw [st_at, t10, e5, st_ne (by decide), cnt_pos (p := fun b => ¬ h' 49 b = -1) s4]
            have : cnt (fun b => ¬ g 49 b = -1) i = cnt (fun b => ¬ h' 49 b = -1) i := cnt_congr (fun b hb => ⟨(s5 b (by omega) (by omega)).2.1, fun z y => z ((s5 b (by omega) (by omega)).1 y)⟩)
            omega
          · rw [st_ne (by decide)]
            intro m hm hd
            rw [(s6 D e6).2 m hm hd]
            exact e6 m hm hd
          · intro b hb hz m hm he
            rw [st_ne (by decide)] at hz
            have hbi : ¬ b = i := fun e => by subst e; exact s4 hz
            exact e7 b (by omega) (Classical.byContradiction (fun y => (s5 b (by omega) (by omega)).2.1 y hz)) m hm he
      · intro g ⟨e1, e2, e3, e4, e5, D, e6, e7⟩
        refine bX4_placeAll_48 ⟨fun _ => bX4_placeAll_85 (H g ⟨e1, e2, e3, ⟨fun b => ∀ m, m < nm → Ey h b m → D m, ?_, ?_⟩, ?_⟩), fun z => by omega⟩
        · intro b hb hu
          exact e7 b hb ((CM_un e3 hb).mpr hu)
        · intro b m hb hm hc he
          exact e6 m hm (hc m hm he)
        · rw [e5, CM_siz e3]
      · refine ⟨fun b hb => Or.inl (e5 b hb), fun m hm _ => Or.inl (e4 m hm)⟩
      · intro b _ hb; exact e5 b hb
      · rw [e3]; rfl
      · exact ⟨fun _ => False, fun m _ z => z.elim, fun b hb => by omega⟩
  · refine ⟨Fr.st Fr.rf (by decide), fun j h1 h2 => st_nj h2, st_at, fun m hm => by omega⟩
/-- the chains' row -/
def Ch (h : am_H) (x y : Nat) : Prop := bt (h 51 x) y = true
theorem kX4_linkChains {L : Nat} {xs : Nat → Int} {P : Nat → List am_V → am_H → am_K → Prop} {d : Nat} {h : am_H} {K : am_K} {nm : Nat} (hnm : nm ≤ 14) (hCM : CM (Ey h) nm (h 50) (h 49) (-1)) (H : ∀ h', Fr [51] h h' → Chn (Ey h) 10 nm (h 50) (Ch h') → (∀ x y, x < 10 → 10 ≤ y → ¬ Ch h' x y) → K (9, 0) h') : am_C true L xs P (d + 2) 48 [(2, 44)] h K := by
  refine eX4_linkChains (bX4_linkChains_0 ?_)
  have hman : ∀ y, y < 10 → ¬ h 49 y = -1 → 0 ≤ h 49 y ∧ h 49 y < nm := fun y hy hn => by
    obtain z | z := hCM.1 y hy
    · exact absurd z hn
    · exact ⟨z.1, z.2.1⟩
  refine upto (σ := am_V × am_H) (N := 10) (I := fun i s => Fr [51] h s.2 ∧ ∀ x, x < i → ∀ y, Ch s.2 x y ↔ y < 10 ∧ (y = x ∨ (¬ h 49 y = -1 ∧ Ey h x (h 49 y).toNat))) (G := fun i s => tX4_linkChains (h 0 0 + (0 : Nat)) L xs (am_C true L xs P (d + 1)) K 2 [(2, 44), (0, (i : Int)), s.1] [] s.2) ?_ ?_ 10 0 ((9, 0), h) (by omega) ⟨Fr.rf, fun x hx => by omega⟩
  · intro i ⟨v, g⟩ hi ⟨e1, e2⟩ ih
    refine bX4_linkChains_2 ⟨fun z => by omega, fun _ => ⟨⟨by omega, by omega, by omega, am_p2 (by omega) (by omega)⟩, by omega, ?_⟩⟩
    simp only [Int.toNat_natCast]
    refine upto (σ := am_H) (N := 10) (I := fun k g => Fr [51] h g ∧ (∀ x, x < i → ∀ y, Ch g x y ↔ y < 10 ∧ (y = x ∨ (¬ h 49 y = -1 ∧ Ey h x (h 49 y).toNat))) ∧ ∀ y, Ch g i y ↔ y < 10 ∧ (y = i ∨ (y < k ∧ ¬ h 49 y = -1 ∧ Ey h i (h 49 y).toNat))) (G := fun k g => tX4_linkChains (h 0 0 + (0 : Nat)) L xs (am_C true L xs P (d + 1)) K 19 [(2, 44), (0, (i : Int)), (0, (k : Int))] [] g) ?_ ?_ 10 0 _ (by omega) ⟨e1.st (by decide), ?_, ?_⟩
    · intro k g hk ⟨e1, e2, e3⟩ ihk
      have e49 : g 49 = h 49 := e1 49 (by decide)
      have e46 : g 46 = h 46 := e1 46 (by decide)
      refine bX4_linkChains_19 ⟨fun z => by omega, fun _ => ⟨by omega, ⟨fun gz => ?_, fun gz => ⟨by omega, by omega, ?_⟩⟩⟩⟩
      · rw [Int.toNat_natCast, e49] at gz
        refine bX4_linkChains_65 ⟨by omega, ihk g ⟨e1, e2, fun y => ?_⟩⟩
        rw [e3]
        refine and_congr_right (fun _ => or_congr_right ⟨fun z => ⟨by omega, z.2⟩, fun z => ⟨?_, z.2⟩⟩)
        have : ¬ y = k := fun e => z.2.1 (e ▸ gz)
        omega
      · rw [Int.toNat_natCast, e49] at gz
        simp only [Int.toNat_natCast]
        rw [e49, e46]
        have hr := hman k (by omega) gz
        rw [show h 49 k = (((h 49 k).toNat : Nat) : Int) by omega]
        refine kBit (d := d) (by omega) (fun gb => ?_) (fun gb => ?_)
        · refine ⟨fun _ => bX4_linkChains_65 ⟨by omega, ihk g ⟨e1, e2, fun y => ?_⟩⟩, fun z => absurd rfl z⟩
          rw [e3]
          refine and_congr_right (fun _ => or_congr_right ⟨fun z => ⟨by omega, z.2⟩, fun z => ⟨?_, z.2⟩⟩)
          have : ¬ y = k := fun e => by
            have := z.2.2
            rw [e] at this; unfold Ey at this; rw [gb] at this; exact absurd this (by decide)
          omega
        · refine ⟨fun z => absurd z (by decide), fun _ => ⟨by omega, ⟨⟨by omega, by omega, by omega, inI_p2 (by omega)⟩, by omega, bX4_linkChains_65 ⟨by omega, ihk _ ⟨e1.st (by decide), fun x hx y => ?_, fun y => ?_⟩⟩⟩⟩⟩
          · unfold Ch at e2 ⊢
            rw [st_nj (by omega)]; exact e2 x hx y
          · unfold Ch at e3 ⊢
            rw [st_at, bt_or, bt_p2' y (by omega), Bool.or_eq_true, e3, decide_eq_true_eq]
            constructor
            · rintro (⟨h1, h2 | h2⟩ | h2)
              · exact ⟨h1, Or.inl h2⟩
              · exact ⟨h1, Or.inr ⟨by omega, h2.2⟩⟩
              · subst h2; exact ⟨by omega, Or.inr ⟨by omega, gz, gb⟩⟩
            · rintro ⟨h1, h2 | h2⟩
              · exact Or.inl ⟨h1, Or.inl h2⟩
              · by_cases hyk : y = k
                · exact Or.inr hyk
                · exact Or.inl ⟨h1, Or.inr ⟨by omega, h2.2⟩⟩
    · intro g ⟨e1, e2, e3⟩
      refine bX4_linkChains_19 ⟨fun _ => bX4_linkChains_71 ⟨by omega, ih ((0, ((10 : Nat) : Int)), g) ⟨e1, fun x hx y => ?_⟩⟩, fun z => by omega⟩
      by_cases hxi : x < i
      · exact e2 x hxi y
      · have : x = i := by omega
        subst this
        rw [e3]
        exact and_congr_right (fun hy => or_congr_right ⟨fun z => z.2, fun z => ⟨hy, z⟩⟩)
    · intro x hx y
      have := e2 x hx y
      unfold Ch at this ⊢
      rw [st_nj (by omega)]; exact this
    · intro y
      unfold Ch
      rw [st_at, bt_p2' y (by omega), decide_eq_true_eq]
      constructor
      · intro z; exact ⟨by omega, Or.inl z⟩
      · rintro ⟨_, z | z⟩
        · exact z
        · omega
  · intro ⟨v, g⟩ ⟨e1, e2⟩
    refine bX4_linkChains_2 ⟨fun _ => bX4_linkChains_77 ?_, fun z => by omega⟩
    -- Warshall
    refine upto (σ := am_V × am_H) (N := 10) (I := fun k s => Fr [51] h s.2 ∧ (∀ x, x < 10 → Ch s.2 x x) ∧ (∀ x m, x < 10 → m < nm → Ey h x m → ¬ h 50 m = -1 → Ch s.2 x (h 50 m).toNat) ∧ (∀ C : Nat → Prop, (∀ x m, x < 10 → m < nm → C x → Ey h x m → ¬ h 50 m = -1 → C (h 50 m).toNat) → ∀ x y, x < 10 → C x → Ch s.2 x y → C y) ∧ (∀ x y z, x < 10 → z < k → Ch s.2 x z → Ch s.2 z y → Ch s.2 x y) ∧ (∀ x y, x < 10 → Ch s.2 x y → y < 10)) (G := fun i s => tX4_linkChains (h 0 0 + (0 : Nat)) L xs (am_C true L xs P (d + 1)) K 79 [(2, 44), (0, (i : Int)), s.1] [] s.2) ?_ ?_ 10 0 (v, g) (by omega) ⟨e1, ?_, ?_, ?_, ?_, ?_⟩
    · intro k ⟨v, g⟩ hk ⟨e1, e2, e3, e4, e5, e6⟩ ih
      refine bX4_linkChains_79 ⟨fun z => by omega, fun _ => ?_⟩
      refine upto (σ := am_H) (N := 10) (I := fun i g' => Fr [51] h g' ∧ (∀ x, i ≤ x → ∀ y, Ch g' x y ↔ Ch g x y) ∧ ∀ x, x < i → ∀ y, Ch g' x y ↔ (Ch g x y ∨ (Ch g x k ∧ Ch g k y))) (G := fun i g' => tX4_linkChains (h 0 0 + (0 : Nat)) L xs (am_C true L xs P (d + 1)) K 87 [(2, 44), (0, (k : Int)), (0, (i : Int))] [] g') ?_ ?_ 10 0 g (by omega) ⟨e1, fun _ _ _ => Iff.rfl, fun x hx => by omega⟩
      · intro i g' hi ⟨q1, q2, q3⟩ ihi
        have hrow : ∀ y, Ch g' k y ↔ Ch g k y := by
          intro y
          by_cases hki : k < i
          · rw [q3 k hki]
            exact ⟨fun z => z.elim id (fun z => z.2), Or.inl⟩
          · exact q2 k (by omega) y
        refine bX4_linkChains_87 ⟨fun z => by omega, fun _ => ⟨by omega, kBit (d := d) (by omega) (fun gb => ?_) (fun gb => ?_)⟩⟩
        · rw [Int.toNat_natCast] at gb
          have hn : ¬ Ch g i k := fun z => by
            have := (q2 i (by omega) k).mpr z
            unfold Ch at this; rw [gb] at this; exact absurd this (by decide)
          refine ⟨fun _ => bX4_linkChains_121 ⟨by omega, ihi g' ⟨q1, fun x hx => q2 x (by omega), fun x hx y => ?_⟩⟩, fun z => absurd rfl z⟩
          by_cases hxi : x < i
          · exact q3 x hxi y
          · have : x = i := by omega
            subst this
            rw [q2 x (by omega)]
            exact ⟨Or.inl, fun z => z.elim id (fun z => absurd z.1 hn)⟩
        · rw [Int.toNat_natCast] at gb
          have hn : Ch g i k := (q2 i (by omega) k).mp gb
          simp only [Int.toNat_natCast]
          refine ⟨fun z => absurd z (by decide), fun _ => ⟨by omega, by omega, by omega, bX4_linkChains_121 ⟨by omega, ihi _ ⟨q1.st (by decide), fun x hx y => ?_, fun x hx y => ?_⟩⟩⟩⟩
          · have := q2 x (by omega) y
            unfold Ch at this ⊢
            rw [st_nj (by omega)]; exact this
          · by_cases hxi : x < i
            · have := q3 x hxi y
              unfold Ch at this ⊢
              rw [st_nj (by omega)]; exact this
            · have : x = i := by omega
              subst this
              have h1 := q2 x (by omega) y
              have h2 := hrow y
              unfold Ch at h1 h2 ⊢
              rw [st_at, bt_or, Bool.or_eq_true, h1, h2]
              exact ⟨fun z => z.elim Or.inl (fun z => Or.inr ⟨hn, z⟩), fun z => z.elim Or.inl (fun z => Or.inr z.2)⟩
      · intro g' ⟨q1, q2, q3⟩
        refine bX4_linkChains_87 ⟨fun _ => bX4_linkChains_127 ⟨by omega, ih ((0, ((10 : Nat) : Int)), g') ⟨q1, fun x hx => (q3 x hx x).mpr (Or.inl (e2 x hx)), fun x m hx hm he hn => (q3 x hx _).mpr (Or.inl (e3 x m hx hm he hn)), fun C hC x y hx hc hxy => ?_, fun x y z hx hz hxz hzy => ?_, fun x y hx hxy => ?_⟩⟩, fun z => by omega⟩
        · rcases (q3 x hx y).mp hxy with z | z
          · exact e4 C hC x y hx hc z
          · exact e4 C hC k y hk (e4 C hC x k hx hc z.1) z.2
        · rw [q3 x hx z] at hxz
          rw [q3 z (by omega) y] at hzy
          rw [q3 x hx y]
          by_cases hzk : z < k
          · rcases hxz with a | a <;> rcases hzy with b | b
            · exact Or.inl (e5 x y z hx hzk a b)
            · exact Or.inr ⟨e5 x k z hx hzk a b.1, b.2⟩
            · exact Or.inr ⟨a.1, e5 k y z hk hzk a.2 b⟩
            · exact Or.inr ⟨a.1, b.2⟩
          · have : z = k := by omega
            subst this
            have a : Ch g x z := hxz.elim id (fun z => z.1)
            have b : Ch g z y := hzy.elim id (fun z => z.2)
            exact Or.inr ⟨a, b⟩
        · rcases (q3 x hx y).mp hxy with z | z
          · exact e6 x y hx z
          · exact e6 k y hk z.2
    · intro ⟨v, g⟩ ⟨e1, e2, e3, e4, e5, e6⟩
      refine bX4_linkChains_79 ⟨fun _ => bX4_linkChains_133 (H g e1 ⟨e2, fun x y z hx hy hz => e5 x z y hx hy, e3, fun C hC x y hx _ => e4 C hC x y hx⟩ (fun x y hx hy z => by have := e6 x y hx z; omega)), fun z => by omega⟩
    · intro x hx; rw [e2 x hx]; exact ⟨hx, Or.inl rfl⟩
    · intro x m hx hm he hn
      obtain z | ⟨z1, z2, z3⟩ := hCM.2 m hm (by omega)
      · exact absurd z hn
      · rw [e2 x hx]
        exact ⟨by omega, Or.inr ⟨by omega, by rw [z3, Int.toNat_natCast]; exact he⟩⟩
    · intro C hC x y hx hc hxy
      rw [e2 x hx] at hxy
      rcases hxy with ⟨hy, z | ⟨z1, z2⟩⟩
      · rw [z]; exact hc
      · obtain w | ⟨w1, w2, w3, w4, w5⟩ := hCM.1 y hy
        · exact absurd w z1
        · have := hC x (h 49 y).toNat hx (by omega) hc z2 (by omega)
          rw [w4, Int.toNat_natCast] at this; exact this
    · intro x y z _ hz; omega
    · intro x y hx hxy
      rw [e2 x hx] at hxy
      exact hxy.1
