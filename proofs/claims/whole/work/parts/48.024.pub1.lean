/-! pub1: the class's methods above nameAll -/
def CS (h g : am_H) : Prop := ∀ i, ¬ i = 33 → ¬ (39 ≤ i ∧ i ≤ 54) → ¬ i = 58 → g i = h i
theorem CS.rf {h : am_H} : CS h h := fun _ _ _ _ => rfl
theorem CS.tr {h g g' : am_H} (a : CS h g) (b : CS g g') : CS h g' := fun i h1 h2 h3 => (b i h1 h2 h3).trans (a i h1 h2 h3)
theorem CS.of {S : List Nat} {h g : am_H} (a : Fr S h g) (hS : ∀ i, i ∈ S → i = 33 ∨ (39 ≤ i ∧ i ≤ 54) ∨ i = 58) : CS h g := fun i h1 h2 h3 => a i (fun z => by have := hS i z; omega)
theorem FC_congr2 {g h : am_H} {c np nm b m : Nat} (hc : c = 5 ∨ c = 11) (x : ∀ i, i < 44 → ¬ i = 33 → g i = h i) : FC g c np nm b m = FC h c np nm b m := by
  have eN : ∀ o, Ncl g o (g 43 b) = Ncl h o (h 43 b) := by
    intro o
    unfold Ncl
    rw [x 43 (by omega) (by omega), x 20 (by omega) (by omega)]
    exact am_nr_congr (x 23 (by omega) (by omega)) (x 24 (by omega) (by omega)) (x 25 (by omega) (by omega)) (x 26 (by omega) (by omega)) (x 27 (by omega) (by omega)) (x 29 (by omega) (by omega)) (x 21 (by omega) (by omega)) (x 22 (by omega) (by omega)) _ _ _
  have eQ : ∀ o, Qc g b o = Qc h b o := by intro o; unfold Qc; rw [x 41 (by omega) (by omega), x 32 (by omega) (by omega)]
  have eP : ∀ y, Pc g c b y np = Pc h c b y np := by intro y; unfold Pc Hc; rw [x 42 (by omega) (by omega), x (c + 3) (by omega) (by omega), x (c + 4) (by omega) (by omega)]
  have eS : ∀ y, Sc g c b y np = Sc h c b y np := by intro y; unfold Sc Hc; rw [x 42 (by omega) (by omega), x (c + 2) (by omega) (by omega), x (c + 3) (by omega) (by omega), x (c + 4) (by omega) (by omega)]
  unfold FC
  simp only [eN, eQ, eP, eS]
def NG (n c np nm : Nat) (g : am_H) : Prop := (KC n g) ∧ (∀ b, b < 10 → ∀ m, Ey g b m ↔ Bnd (fun b m => bt (g 39 4) b = true ∧ FC g c np nm b m = 3) (fun b m => bt (g 39 4) b = true ∧ m < nm ∧ 2 ≤ FC g c np nm b m) nm b m) ∧ (Settled nm g)
theorem NG.kc {n c np nm : Nat} {g : am_H} (s_ : NG n c np nm g) : KC n g := s_.1
theorem NG.ey {n c np nm : Nat} {g : am_H} (s_ : NG n c np nm g) : ∀ b, b < 10 → ∀ m, Ey g b m ↔ Bnd (fun b m => bt (g 39 4) b = true ∧ FC g c np nm b m = 3) (fun b m => bt (g 39 4) b = true ∧ m < nm ∧ 2 ≤ FC g c np nm b m) nm b m := s_.2.1
theorem NG.se {n c np nm : Nat} {g : am_H} (s_ : NG n c np nm g) : Settled nm g := s_.2.2
theorem Ey_congr {g g' : am_H} (x : g' 46 = g 46) : Ey g' = Ey g := by unfold Ey; rw [x]
theorem Settled.congr {nm : Nat} {g g' : am_H} (s : Settled nm g) (h44 : g' 44 = g 44) (h46 : g' 46 = g 46) (h47 : g' 47 = g 47) (h48 : g' 48 = g 48) (h49 : g' 49 = g 49) (h50 : g' 50 = g 50) (h51 : g' 51 = g 51) : Settled nm g' := by
  obtain ⟨a1, a2, a3, a4, a5, a6, a7⟩ := s
  have c1 : Ch g' = Ch g := by unfold Ch; rw [h51]
  refine ⟨?_, ?_, ?_, ?_, ?_, ?_, ?_⟩
  · rw [Ey_congr h46, h50, h49]; exact a1
  · rw [Ey_congr h46, h50]; exact a2
  · rw [Ey_congr h46, h50, c1]; exact a3
  · rw [h44, h50]; exact a4
  · rw [Ey_congr h46, h47, h50, c1]; exact a5
  · rw [h47]; exact a6
  · rw [h47, h48, h49, h50, c1]; exact a7
theorem NG.fr {n c np nm : Nat} {g g' : am_H} (hc : c = 5 ∨ c = 11) (l : NG n c np nm g) (x : ∀ i, i < 52 → ¬ i = 33 → g' i = g i) : NG n c np nm g' := by
  obtain ⟨a, b, s⟩ := l
  refine ⟨a.congr (fun i h1 h2 => x i (by omega) (by omega)), ?_, s.congr (x 44 (by omega) (by omega)) (x 46 (by omega) (by omega)) (x 47 (by omega) (by omega)) (x 48 (by omega) (by omega)) (x 49 (by omega) (by omega)) (x 50 (by omega) (by omega)) (x 51 (by omega) (by omega))⟩
  have e1 : ∀ b m, FC g' c np nm b m = FC g c np nm b m := fun b m => FC_congr2 hc (fun i h1 h2 => x i (by omega) h2)
  rw [Ey_congr (x 46 (by omega) (by omega)), x 39 (by omega) (by omega)]
  simp only [e1]
  exact b
theorem NA.ng {n c np nm : Nat} {h g : am_H} (a : NA n c np nm h g) : NG n c np nm g := ⟨a.kc, a.ey, a.se⟩
theorem NA.cs {n c np nm : Nat} {h g : am_H} (a : NA n c np nm h g) : CS h g := CS.of a.fr (by simp)
theorem okC.nm14 {h : am_H} {c N nb np nm : Nat} (o : okC h c N nb np nm) : nm ≤ 14 := by have := o.rol.2.1; rw [o.men] at this; omega
theorem Settled.n48 {nm : Nat} {g : am_H} (hnm : nm ≤ 14) (s : Settled nm g) : ∀ b, b < 10 → g 48 b = -1 ∨ (0 ≤ g 48 b ∧ g 48 b < 14) := by
  intro b hb
  have := s.named b hb
  by_cases h1 : Loose 10 nm (g 50) (Ch g) b
  · exact Or.inl (this.2 (Or.inl h1))
  · by_cases h2 : g 47 b = 2 ^ (g 49 b).toNat
    · have h3 := this.1 h1 h2
      exact Or.inr (by omega)
    · exact Or.inl (this.2 (Or.inr h2))
theorem kX11_missingMen {L : Nat} {xs : Nat → Int} {P : Nat → List am_V → am_H → am_K → Prop} {d : Nat} {h : am_H} {K : am_K} {nm : Nat} (hnm : nm ≤ 14) (hm : h 20 15 = nm) (s : Settled nm h) (H : ∀ r : Int, am_inI r → (∀ m, bt r m = true ↔ m < nm ∧ ¬ ∃ b, b < 10 ∧ h 48 b = m) → K (0, r) h) : am_C true L xs P (d + 2) 141 [(2, 1)] h K := by
  refine eX11_missingMen (bX11_missingMen_0 ?_)
  rw [hm, Int.toNat_natCast]
  have hp := inI_p2 (k := nm) (by omega)
  have hp2 := p2_pos nm
  refine ⟨⟨by omega, by omega, by omega, hp⟩, ⟨by omega, by have := hp.2; omega⟩, kX4_menNamed (d := d) (s.n48 hnm) (fun r hr => H _ (am_inI_and _ _) (fun m => ?_))⟩
  rw [Int.one_mul, bt_and, Bool.and_eq_true, bt_full (by omega), decide_eq_true_eq]
  refine and_congr_right (fun hm' => ?_)
  rw [bt_xor, bt_m1 (by omega)]
  have := hr m
  by_cases hb : bt r m = true
  · rw [hb]; exact ⟨fun z => absurd z (by decide), fun z => absurd (this.mp hb) z⟩
  · rw [bt_f.mpr hb]; exact ⟨fun _ z => hb (this.mpr z), fun _ => by decide⟩
theorem kX11_who {L : Nat} {xs : Nat → Int} {P : Nat → List am_V → am_H → am_K → Prop} {d : Nat} {h : am_H} {K : am_K} {c N nb np nm : Nat} {n b : Int} (hO : okC h c N nb np nm) (Ha : ¬ (0 ≤ n ∧ n ≤ N) → K (0, -1) h) (Hb : (0 ≤ n ∧ n ≤ N) → ∀ g, CS h g → NG n.toNat c np nm g → ¬ (0 ≤ b ∧ b < 10 ∧ bt (g 39 4) b.toNat = true) → K (0, -1) g) (Hc : (0 ≤ n ∧ n ≤ N) → ∀ g, CS h g → NG n.toNat c np nm g → (0 ≤ b ∧ b < 10 ∧ bt (g 39 4) b.toNat = true) → K (0, g 47 b.toNat) g) : am_C true L xs P (d + 16) 118 [(2, 1), (0, n), (0, b)] h K := by
  refine eX11_who (bX11_who_0 (kX11_nameAll (d := d) hO (fun w => ?_) (fun w g a => ?_)))
  · exact ⟨fun _ => bX11_who_31 (bX11_who_32 (Ha w)), fun z => absurd rfl z⟩
  · refine ⟨fun z => absurd z (by decide), fun _ => kX2_hasBody (d := d + 13) (fun w1 => ?_) (fun w1 => ?_)⟩
    · exact ⟨fun _ => bX11_who_31 (bX11_who_32 (Hb w g a.cs a.ng w1)), fun z => absurd rfl z⟩
    · exact ⟨fun z => absurd z (by decide), fun _ => ⟨by omega, bX11_who_32 (Hc w g a.cs a.ng w1)⟩⟩
theorem kX11_named {L : Nat} {xs : Nat → Int} {P : Nat → List am_V → am_H → am_K → Prop} {d : Nat} {h : am_H} {K : am_K} {c N nb np nm : Nat} {n b : Int} (hO : okC h c N nb np nm) (Ha : ¬ (0 ≤ n ∧ n ≤ N) → K (0, -1) h) (Hb : (0 ≤ n ∧ n ≤ N) → ∀ g, CS h g → NG n.toNat c np nm g → ¬ (0 ≤ b ∧ b < 10 ∧ bt (g 39 4) b.toNat = true) → K (0, -1) g) (Hc : (0 ≤ n ∧ n ≤ N) → ∀ g, CS h g → NG n.toNat c np nm g → (0 ≤ b ∧ b < 10 ∧ bt (g 39 4) b.toNat = true) → K (0, g 48 b.toNat) g) : am_C true L xs P (d + 16) 119 [(2, 1), (0, n), (0, b)] h K := by
  refine eX11_named (bX11_named_0 (kX11_nameAll (d := d) hO (fun w => ?_) (fun w g a => ?_)))
  · exact ⟨fun _ => bX11_named_31 (bX11_named_32 (Ha w)), fun z => absurd rfl z⟩
  · refine ⟨fun z => absurd z (by decide), fun _ => kX2_hasBody (d := d + 13) (fun w1 => ?_) (fun w1 => ?_)⟩
    · exact ⟨fun _ => bX11_named_31 (bX11_named_32 (Hb w g a.cs a.ng w1)), fun z => absurd rfl z⟩
    · exact ⟨fun z => absurd z (by decide), fun _ => ⟨by omega, bX11_named_32 (Hc w g a.cs a.ng w1)⟩⟩
theorem kX11_missing {L : Nat} {xs : Nat → Int} {P : Nat → List am_V → am_H → am_K → Prop} {d : Nat} {h : am_H} {K : am_K} {c N nb np nm : Nat} {n : Int} (hO : okC h c N nb np nm) (Ha : ¬ (0 ≤ n ∧ n ≤ N) → K (0, -1) h) (Hb : (0 ≤ n ∧ n ≤ N) → ∀ g r, CS h g → NG n.toNat c np nm g → am_inI r → (∀ m, bt r m = true ↔ m < nm ∧ ¬ ∃ b, b < 10 ∧ g 48 b = m) → K (0, r) g) : am_C true L xs P (d + 16) 121 [(2, 1), (0, n)] h K := by
  refine eX11_missing (bX11_missing_0 (kX11_nameAll (d := d) hO (fun w => ?_) (fun w g a => ?_)))
  · exact ⟨fun _ => bX11_missing_15 (bX11_missing_16 (Ha w)), fun z => absurd rfl z⟩
  · refine ⟨fun z => absurd z (by decide), fun _ => kX11_missingMen (d := d + 13) hO.nm14 (by rw [a.cs 20 (by decide) (by decide) (by decide)]; exact hO.men) a.se (fun r r1 r2 => bX11_missing_16 (Hb w g r a.cs a.ng r1 r2))⟩
theorem kX11_namings {L : Nat} {xs : Nat → Int} {P : Nat → List am_V → am_H → am_K → Prop} {d : Nat} {h : am_H} {K : am_K} {c N nb np nm : Nat} {n wh : Int} (hO : okC h c N nb np nm) (Ha : ¬ ((0 ≤ n ∧ n ≤ N) ∧ (0 ≤ wh ∧ wh ≤ 1)) → K (1, -1) h) (Hb : (0 ≤ n ∧ n ≤ N) → wh = 0 → ∀ g, CS h g → NG n.toNat c np nm g → K (1, g 44 10) g) (Hc : (0 ≤ n ∧ n ≤ N) → wh = 1 → ∀ g, CS h g → NG n.toNat c np nm g → K (1, Rm (Ey g) nb nm (fun _ => True) (g 44 10)) g) : am_C true L xs P (d + 16) 117 [(2, 1), (0, n), (0, wh)] h K := by
  refine eX11_namings (bX11_namings_0 (kX11_within (d := d + 14) (fun w1 => ?_) (fun w1 => ?_)))
  · exact ⟨fun _ => bX11_namings_17 (Ha (fun z => w1 z.2)), fun z => absurd rfl z⟩
  · refine ⟨fun z => absurd z (by decide), fun _ => kX11_nameAll (d := d) hO (fun w => ?_) (fun w g a => ?_)⟩
    · exact ⟨fun z => absurd rfl z, fun _ => bX11_namings_17 (Ha (fun z => w z.1))⟩
    · refine ⟨fun _ => bX11_namings_21 ⟨fun w2 => bX11_namings_36 ?_, fun w2 => bX11_namings_57 (Hb w (Classical.not_not.mp w2) g a.cs a.ng)⟩, fun z => absurd (by decide) z⟩
      rw [a.cs 34 (by decide) (by decide) (by decide), a.cs 20 (by decide) (by decide) (by decide), hO.bodies, hO.men]
      refine kX4_tally (d := d + 12) hO.wn.nb10 hO.nm14 (fun g' e => bX11_namings_57 ?_)
      have := Hc w (by omega) g' (a.cs.tr (CS.of e (by decide))) (a.ng.fr hO.hc (fun i h1 h2 => e i (by simp; omega)))
      rw [Ey_congr (e 46 (by decide)), e 44 (by decide)] at this
      exact this
theorem kX11_fits {L : Nat} {xs : Nat → Int} {P : Nat → List am_V → am_H → am_K → Prop} {d : Nat} {h : am_H} {K : am_K} {c N nb np nm : Nat} {n b m : Int} (hO : okC h c N nb np nm) (Ha : ¬ (0 ≤ n ∧ n ≤ N) → K (0, -1) h) (Hb : (0 ≤ n ∧ n ≤ N) → ∀ g, SV n.toNat c np nm h g → CS h g → ¬ ((0 ≤ b ∧ b < 10 ∧ bt (g 39 4) b.toNat = true) ∧ (0 ≤ m ∧ m < nm)) → K (0, -1) g) (Hc : (0 ≤ n ∧ n ≤ N) → ∀ g, SV n.toNat c np nm h g → CS h g → ((0 ≤ b ∧ b < 10 ∧ bt (g 39 4) b.toNat = true) ∧ (0 ≤ m ∧ m < nm)) → K (0, FC g c np nm b.toNat m.toNat) g) : am_C true L xs P (d + 6) 116 [(2, 1), (0, n), (0, b), (0, m)] h K := by
  have hnm := hO.nm14
  refine eX11_fits (bX11_fits_0 (kX11_survey (d := d) hO (fun w => ?_) (fun w g a => ?_)))
  · exact ⟨fun _ => bX11_fits_30 (Ha w), fun z => absurd rfl z⟩
  · have cs : CS h g := CS.of a.fr (by simp)
    have h20 := cs 20 (by decide) (by decide) (by decide)
    refine ⟨fun z => absurd z (by decide), fun _ => kX2_hasBody (d := d + 3) (fun w1 => ?_) (fun w1 => ?_)⟩
    · exact ⟨fun _ => bX11_fits_30 (Hb w g a cs (fun z => w1 z.1)), fun z => absurd rfl z⟩
    · refine ⟨fun z => absurd z (by decide), fun _ => kX6_hasMan (d := d + 4) (fun w2 => ?_) (fun w2 => ?_)⟩
      · rw [h20, hO.men] at w2
        exact ⟨fun z => absurd rfl z, fun _ => bX11_fits_30 (Hb w g a cs (fun z => w2 z.2))⟩
      · rw [h20, hO.men] at w2
        refine ⟨fun _ => bX11_fits_32 (kX4_verdict (d := d + 4) (by omega) (by omega) ?_), fun z => absurd (by decide) z⟩
        have := a.row b.toNat (by omega) w1.2.2 m.toNat (by omega)
        rw [show Int.toNat (b * 14 + m) = b.toNat * 14 + m.toNat by omega, this]
        exact Hc w g a cs ⟨w1, w2⟩
/-! next -/
noncomputable def aF (W : Nat → Prop) (th : Nat → Int) (nm : Nat) : Nat → Int
  | 0 => 0
  | i + 1 => if sif (W i) (cnt (fun o => W o ∧ th i = th o) nm : Nat) ≤ aF W th nm i then aF W th nm i else sif (W i) (cnt (fun o => W o ∧ th i = th o) nm : Nat)
def Al (W : Nat → Prop) (th : Nat → Int) (n i : Nat) (a : Int) : Prop := 0 ≤ a ∧ (∀ m, m < i → W m → (cnt (fun o => W o ∧ th m = th o) n : Int) ≤ a) ∧ (a = 0 ∨ ∃ m, m < i ∧ W m ∧ a = (cnt (fun o => W o ∧ th m = th o) n : Nat))
theorem Al_uniq {W : Nat → Prop} {th : Nat → Int} {n i : Nat} {a a' : Int} (h : Al W th n i a) (h' : Al W th n i a') : a = a' := by
  obtain ⟨h0, h1, h2⟩ := h
  obtain ⟨k0, k1, k2⟩ := h'
  rcases h2 with h2 | ⟨m, m1, m2, m3⟩ <;> rcases k2 with k2 | ⟨p, p1, p2, p3⟩
  · omega
  · have := h1 p p1 p2; omega
  · have := k1 m m1 m2; omega
  · have := h1 p p1 p2; have := k1 m m1 m2; omega
theorem aF_Al (W : Nat → Prop) (th : Nat → Int) (nm : Nat) : ∀ i, Al W th nm i (aF W th nm i) := by
  intro i
  induction i with
  | zero => exact ⟨Int.le_refl 0, fun m hm => by omega, Or.inl rfl⟩
  | succ i ih =>
    obtain ⟨h0, h1, h2⟩ := ih
    simp only [aF]
    by_cases hW : W i
    · rw [sif_pos hW]
      split
      · rename_i hs
        refine ⟨h0, fun m hm hw => ?_, ?_⟩
        · by_cases e : m = i
          · subst e; exact hs
          · exact h1 m (by omega) hw
        · rcases h2 with h2 | ⟨m, m1, m2⟩
          · exact Or.inl h2
          · exact Or.inr ⟨m, by omega, m2⟩
      · rename_i hs
        refine ⟨by omega, fun m hm hw => ?_, Or.inr ⟨i, by omega, hW, rfl⟩⟩
        by_cases e : m = i
        · subst e; omega
        · have := h1 m (by omega) hw; omega
    · rw [sif_neg hW, if_pos h0]
      refine ⟨h0, fun m hm hw => h1 m ?_ hw, ?_⟩
      · have : ¬ m = i := fun e => hW (e ▸ hw)
        omega
      · rcases h2 with h2 | ⟨m, m1, m2⟩
        · exact Or.inl h2
        · exact Or.inr ⟨m, by omega, m2⟩
theorem aF_bnd (W : Nat → Prop) (th : Nat → Int) (nm i : Nat) : 0 ≤ aF W th nm i ∧ aF W th nm i ≤ nm := by
  obtain ⟨h0, h1, h2⟩ := aF_Al W th nm i
  refine ⟨h0, ?_⟩
  rcases h2 with h2 | ⟨m, m1, m2, m3⟩
  · omega
  · have := cnt_bnd (fun o => W o ∧ th m = th o) nm; omega
theorem aF_congr {W W' : Nat → Prop} {th th' : Nat → Int} {nm : Nat} (hW : ∀ m, m < nm → (W m ↔ W' m)) (ht : ∀ m, m < nm → th m = th' m) : ∀ i, i ≤ nm → aF W th nm i = aF W' th' nm i := by
  intro i
  induction i with
  | zero => intro _; rfl
  | succ i ih =>
    intro hi
    have e1 : (cnt (fun o => W o ∧ th i = th o) nm) = cnt (fun o => W' o ∧ th' i = th' o) nm := cnt_congr (fun o ho => by rw [hW o ho, ht i (by omega), ht o ho])
    have e2 : ∀ x : Int, sif (W i) x = sif (W' i) x := fun x => sif_congr (hW i (by omega)) (fun _ => rfl)
    simp only [aF]
    rw [ih (by omega), e1, e2]
theorem Al_step {W : Nat → Prop} {th : Nat → Int} {i : Nat} {a : Int} (hA : Al W th i i a) (hW : W i) : Al W th (i + 1) (i + 1) (if a < (cnt (fun o => W o ∧ th i = th o) i : Nat) + 1 then (cnt (fun o => W o ∧ th i = th o) i : Nat) + 1 else a) := by
  obtain ⟨h0, h1, h2⟩ := hA
  have ci : cnt (fun o => W o ∧ th i = th o) (i + 1) = cnt (fun o => W o ∧ th i = th o) i + 1 := cnt_pos (p := fun o => W o ∧ th i = th o) ⟨hW, rfl⟩
  have cs : ∀ m, th m = th i → cnt (fun o => W o ∧ th m = th o) (i + 1) = cnt (fun o => W o ∧ th i = th o) i + 1 := by intro m e; rw [e, ci]
  have cn : ∀ m, ¬ th m = th i → cnt (fun o => W o ∧ th m = th o) (i + 1) = cnt (fun o => W o ∧ th m = th o) i := fun m e => cnt_neg (p := fun o => W o ∧ th m = th o) (fun z => e z.2)
  generalize hv : cnt (fun o => W o ∧ th i = th o) i = v at ci cs
  refine ⟨by split <;> omega, fun m hm hw => ?_, ?_⟩
  · by_cases e : th m = th i
    · rw [cs m e]; split <;> omega
    · rw [cn m e]
      have hmi : ¬ m = i := fun z => e (by rw [z])
      have := h1 m (by omega) hw
      split <;> omega
  · split
    · exact Or.inr ⟨i, by omega, hW, by rw [ci]; omega⟩
    · rcases h2 with h2 | ⟨m, m1, m2, m3⟩
      · omega
      · refine Or.inr ⟨m, by omega, m2, ?_⟩
        by_cases e : th m = th i
        · rw [show cnt (fun o => W o ∧ th m = th o) i = v by rw [e, hv]] at m3; omega
        · rw [cn m e]; exact m3
theorem Al_skip {W : Nat → Prop} {th : Nat → Int} {i : Nat} {a : Int} (hA : Al W th i i a) (hW : ¬ W i) : Al W th (i + 1) (i + 1) a := by
  obtain ⟨h0, h1, h2⟩ := hA
  have cn : ∀ m, cnt (fun o => W o ∧ th m = th o) (i + 1) = cnt (fun o => W o ∧ th m = th o) i := fun m => cnt_neg (p := fun o => W o ∧ th m = th o) (fun z => hW z.1)
  refine ⟨h0, fun m hm hw => ?_, ?_⟩
  · rw [cn]
    have : ¬ m = i := fun e => hW (e ▸ hw)
    exact h1 m (by omega) hw
  · rcases h2 with h2 | ⟨m, m1, m2, m3⟩
    · exact Or.inl h2
    · exact Or.inr ⟨m, by omega, m2, by rw [cn]; exact m3⟩
theorem kX6_mostAlike {L : Nat} {xs : Nat → Int} {P : Nat → List am_V → am_H → am_K → Prop} {d : Nat} {h : am_H} {K : am_K} {nm t : Nat} {w : Int} (hnm : nm ≤ 14) (hm : h 20 15 = nm) (ht : t < 14) (hv : ∀ m, m < nm → 0 ≤ h 32 (m * 14 + t) ∧ h 32 (m * 14 + t) ≤ 9) (H : ∀ h', Fr [33] h h' → K (0, aF (fun m => bt w m = true) (fun m => h 32 (m * 14 + t)) nm nm) h') : am_C true L xs P (d + 2) 71 [(2, 20), (0, w), (0, (t : Int))] h K := by
  refine eX6_mostAlike (bX6_mostAlike_0 ?_)
  refine upto (σ := am_H) (N := 10) (I := fun i g => Fr [33] h g ∧ ∀ j, j < i → g 33 j = 0) (G := fun i g => tX6_mostAlike (h 0 0 + (0 : Nat)) L xs (am_C true L xs P (d + 1)) K 2 [(2, 20), (0, w), (0, (t : Int)), (0, (i : Int)), (9, 0), (9, 0)] [] g) ?_ ?_ 10 0 h (by omega) ⟨Fr.rf, fun j hj => by omega⟩
  · intro i g hi ⟨e1, e2⟩ ih
    refine bX6_mostAlike_2 ⟨fun z => by omega, fun _ => ⟨by omega, by omega, ih _ ⟨e1.st (by decide), fun j hj => ?_⟩⟩⟩
    rw [Int.toNat_natCast, st_ap]
    split
    · rfl
    · exact e2 j (by omega)
  · intro g ⟨e1, e2⟩
    refine bX6_mostAlike_2 ⟨fun _ => bX6_mostAlike_21 ?_, fun z => by omega⟩
    refine upto (σ := Int × am_V × am_H) (N := nm) (I := fun i s => Fr [33] h s.2.2 ∧ (∀ v : Nat, v < 10 → s.2.2 33 v = (cnt (fun o => bt w o = true ∧ (v : Int) = h 32 (o * 14 + t)) i : Nat)) ∧ Al (fun m => bt w m = true) (fun m => h 32 (m * 14 + t)) i i s.1) (G := fun i s => tX6_mostAlike (h 0 0 + (0 : Nat)) L xs (am_C true L xs P (d + 1)) K 26 [(2, 20), (0, w), (0, (t : Int)), (0, s.1), (0, (i : Int)), s.2.1] [] s.2.2) ?_ ?_ nm 0 (0, (9, 0), g) (by omega) ⟨e1, fun v hv => e2 v hv, Int.le_refl 0, fun m hm => by omega, Or.inl rfl⟩
    · intro i ⟨a, v5, g⟩ hi ⟨q1, q2, q3⟩ ih
      dsimp only at q1 q2 q3 ⊢
      have g20 : g 20 = h 20 := q1 20 (by decide)
      have g32 : g 32 = h 32 := q1 32 (by decide)
      refine bX6_mostAlike_26 ⟨fun z => by rw [g20, hm] at z; omega, fun _ => kBit (d := d) (by omega) (fun gb => ?_) (fun gb => ?_)⟩
      · refine ⟨fun _ => bX6_mostAlike_76 ⟨by omega, ih (a, v5, g) ⟨q1, fun v hv => ?_, Al_skip q3 (by rw [gb]; decide)⟩⟩, fun z => absurd rfl z⟩
        dsimp only
        rw [q2 v hv, cnt_neg (p := fun o => bt w o = true ∧ (v : Int) = h 32 (o * 14 + t)) (fun z => by rw [gb] at z; exact absurd z.1 (by decide))]
      · have vi := hv i hi
        refine ⟨fun z => absurd z (by decide), fun _ => kX6_trait (d := d) (by omega) (by omega) ?_⟩
        dsimp only
        rw [show Int.toNat ((i : Int) * 14 + (t : Int)) = i * 14 + t by omega, g32]
        have cv := q2 (h 32 (i * 14 + t)).toNat (by omega)
        rw [show (((h 32 (i * 14 + t)).toNat : Nat) : Int) = h 32 (i * 14 + t) by omega] at cv
        have cb := cnt_bnd (fun o => bt w o = true ∧ h 32 (i * 14 + t) = h 32 (o * 14 + t)) i
        refine ⟨by omega, by rw [cv]; exact ⟨by omega, by omega⟩, by omega, by omega, kJ9_max_7cf53 (d := d) ?_⟩
        dsimp only
        rw [st_at, cv]
        refine bX6_mostAlike_76 ⟨by omega, ih (_, _, am_st g 33 (h 32 (i * 14 + t)).toNat ((cnt (fun o => bt w o = true ∧ h 32 (i * 14 + t) = h 32 (o * 14 + t)) i : Nat) + 1)) ⟨q1.st (by decide), fun v hv' => ?_, Al_step q3 gb⟩⟩
        dsimp only
        rw [st_ap]
        by_cases e : v = (h 32 (i * 14 + t)).toNat
        · rw [if_pos e]
          have e' : (v : Int) = h 32 (i * 14 + t) := by omega
          rw [e', cnt_pos (p := fun o => bt w o = true ∧ h 32 (i * 14 + t) = h 32 (o * 14 + t)) ⟨gb, rfl⟩]
          omega
        · rw [if_neg e, q2 v hv', cnt_neg (p := fun o => bt w o = true ∧ (v : Int) = h 32 (o * 14 + t)) (fun z => by have := z.2; omega)]
    · intro ⟨a, v5, g⟩ ⟨q1, q2, q3⟩
      dsimp only at q1 q2 q3 ⊢
      refine bX6_mostAlike_26 ⟨fun _ => bX6_mostAlike_82 ?_, fun z => by rw [q1 20 (by decide), hm] at z; omega⟩
      rw [Al_uniq q3 (aF_Al _ _ _ _)]
      exact H g q1
def Bst (U : Nat → Prop) (al : Nat → Int) (i : Nat) (b f : Int) : Prop := (b = -1 ∧ ∀ t, t < i → ¬ U t) ∨ ∃ t0, t0 < i ∧ b = (t0 : Int) ∧ U t0 ∧ f = al t0 ∧ (∀ t, t < t0 → U t → al t0 < al t) ∧ ∀ t, t < i → U t → al t0 ≤ al t
theorem Bst_uniq {U U' : Nat → Prop} {al al' : Nat → Int} {i : Nat} {b f b' f' : Int} (hU : ∀ t, t < i → (U t ↔ U' t)) (ha : ∀ t, t < i → U t → al t = al' t) (h : Bst U al i b f) (h' : Bst U' al' i b' f') : b = b' := by
  rcases h with ⟨h1, h2⟩ | ⟨t, t1, t2, t3, t4, t5, t6⟩ <;> rcases h' with ⟨k1, k2⟩ | ⟨s, s1, s2, s3, s4, s5, s6⟩
  · omega
  · exact absurd ((hU s s1).mpr s3) (h2 s s1)
  · exact absurd ((hU t t1).mp t3) (k2 t t1)
  · have us := (hU s s1).mpr s3
    have ut := (hU t t1).mp t3
    have as := ha s s1 us
    have at' := ha t t1 t3
    have x1 := t6 s s1 us
    have x2 := s6 t t1 ut
    by_cases e : t < s
    · have := s5 t e ut; omega
    · by_cases e2 : s < t
      · have := t5 s e2 us; omega
      · omega
theorem Bst_skip {U : Nat → Prop} {al : Nat → Int} {i : Nat} {b f : Int} (h : Bst U al i b f) (hU : ¬ U i) : Bst U al (i + 1) b f := by
  have lt : ∀ t, t < i + 1 → U t → t < i := fun t ht hu => by
    have : ¬ t = i := fun e => hU (e ▸ hu)
    omega
  rcases h with ⟨h1, h2⟩ | ⟨t, t1, t2, t3, t4, t5, t6⟩
  · exact Or.inl ⟨h1, fun t ht hu => h2 t (lt t ht hu) hu⟩
  · exact Or.inr ⟨t, by omega, t2, t3, t4, t5, fun s hs hu => t6 s (lt s hs hu) hu⟩
theorem Bst_new {U : Nat → Prop} {al : Nat → Int} {i : Nat} {b f : Int} (h : Bst U al i b f) (hU : U i) (hl : b = -1 ∨ al i < f) : Bst U al (i + 1) (i : Int) (al i) := by
  refine Or.inr ⟨i, by omega, rfl, hU, rfl, fun t ht hu => ?_, fun t ht hu => ?_⟩
  · rcases h with ⟨h1, h2⟩ | ⟨s, t1, t2, t3, t4, t5, t6⟩
    · exact absurd hu (h2 t ht)
    · have := t6 t ht hu
      rcases hl with hl | hl <;> omega
  · by_cases e : t = i
    · subst e; exact Int.le_refl _
    · rcases h with ⟨h1, h2⟩ | ⟨s, t1, t2, t3, t4, t5, t6⟩
      · exact absurd hu (h2 t (by omega))
      · have := t6 t (by omega) hu
        rcases hl with hl | hl <;> omega
theorem Bst_old {U : Nat → Prop} {al : Nat → Int} {i : Nat} {b f : Int} (h : Bst U al i b f) (hl : ¬ b = -1 ∧ f ≤ al i) : Bst U al (i + 1) b f := by
  rcases h with ⟨h1, h2⟩ | ⟨t, t1, t2, t3, t4, t5, t6⟩
  · exact absurd h1 hl.1
  · refine Or.inr ⟨t, by omega, t2, t3, t4, t5, fun s hs hu => ?_⟩
    by_cases e : s = i
    · subst e; omega
    · exact t6 s (by omega) hu
theorem kX11_readNext {L : Nat} {xs : Nat → Int} {P : Nat → List am_V → am_H → am_K → Prop} {d : Nat} {h : am_H} {K : am_K} {nm b : Nat} {w : Int} (hnm : nm ≤ 14) (hm : h 20 15 = nm) (hb : b < 10) (hv : ∀ m t, m < nm → t < 14 → 0 ≤ h 32 (m * 14 + t) ∧ h 32 (m * 14 + t) ≤ 9) (H : ∀ h' r f, Fr [33] h h' → Bst (fun t => h 41 (b * 14 + t) = -1) (fun t => aF (fun m => bt w m = true) (fun m => h 32 (m * 14 + t)) nm nm) 14 r f → K (0, r) h') : am_C true L xs P (d + 3) 143 [(2, 1), (0, (b : Int)), (0, w)] h K := by
  refine eX11_readNext (bX11_readNext_0 ?_)
  refine upto (σ := Int × Int × am_V × am_H) (N := 14) (I := fun i s => Fr [33] h s.2.2.2 ∧ Bst (fun t => h 41 (b * 14 + t) = -1) (fun t => aF (fun m => bt w m = true) (fun m => h 32 (m * 14 + t)) nm nm) i s.1 s.2.1 ∧ (s.1 = -1 → s.2.1 = 15)) (G := fun i s => tX11_readNext (h 0 0 + (0 : Nat)) L xs (am_C true L xs P (d + 2)) K 9 [(2, 1), (0, (b : Int)), (0, w), (0, s.1), (0, s.2.1), (0, (i : Int)), s.2.2.1] [] s.2.2.2) ?_ ?_ 14 0 (-1, 15, (9, 0), h) (by omega) ⟨Fr.rf, Or.inl ⟨rfl, fun t ht => by omega⟩, fun _ => rfl⟩
  · intro i ⟨r, f, v6, g⟩ hi ⟨e1, e2, e3⟩ ih
    dsimp only at e1 e2 e3 ⊢
    have g41 : g 41 = h 41 := e1 41 (by decide)
    have g32 : g 32 = h 32 := e1 32 (by decide)
    refine bX11_readNext_9 ⟨fun z => by omega, fun _ => kX2_reading (d := d + 1) (by omega) (by omega) ?_⟩
    dsimp only
    rw [show Int.toNat ((b : Int) * 14 + (i : Int)) = b * 14 + i by omega, g41]
    refine ⟨fun z => bX11_readNext_56 ⟨by omega, ih (r, f, v6, g) ⟨e1, Bst_skip e2 z, e3⟩⟩, fun z => ?_⟩
    refine kX6_mostAlike (d := d) hnm (by rw [e1 20 (by decide)]; exact hm) hi (by rw [g32]; exact fun m hm' => hv m i hm' hi) (fun g' q => ?_)
    rw [g32]
    dsimp only
    have ab := aF_bnd (fun m => bt w m = true) (fun m => h 32 (m * 14 + i)) nm nm
    refine ⟨fun y => bX11_readNext_56 ⟨by omega, ih (r, f, _, g') ⟨e1.tr q, Bst_old e2 ⟨fun zz => ?_, y⟩, e3⟩⟩, fun y => bX11_readNext_56 ⟨by omega, ih (_, _, _, g') ⟨e1.tr q, Bst_new e2 (Classical.not_not.mp z) (Or.inr ?_), fun zz => ?_⟩⟩⟩
    · have := e3 zz; omega
    · omega
    · have zz' : (i : Int) = -1 := zz
      omega
  · intro ⟨r, f, v6, g⟩ ⟨e1, e2, e3⟩
    dsimp only at e1 e2 e3 ⊢
    exact bX11_readNext_9 ⟨fun _ => bX11_readNext_62 (H g r f e1 e2), fun z => by omega⟩
theorem kX11_next {L : Nat} {xs : Nat → Int} {P : Nat → List am_V → am_H → am_K → Prop} {d : Nat} {h : am_H} {K : am_K} {c N nb np nm : Nat} {n b : Int} (hO : okC h c N nb np nm) (hv : ∀ m t, m < nm → t < 14 → 0 ≤ h 32 (m * 14 + t) ∧ h 32 (m * 14 + t) ≤ 9) (Ha : ¬ (0 ≤ n ∧ n ≤ N) → K (0, -1) h) (Hb : (0 ≤ n ∧ n ≤ N) → ∀ g, CS h g → NG n.toNat c np nm g → (¬ (0 ≤ b ∧ b < 10 ∧ bt (g 39 4) b.toNat = true) ∨ ((0 ≤ b ∧ b < 10 ∧ bt (g 39 4) b.toNat = true) ∧ (¬ g 48 b.toNat = -1 ∨ g 47 b.toNat = 0))) → K (0, -1) g) (Hc : (0 ≤ n ∧ n ≤ N) → ∀ g r f, CS h g → NG n.toNat c np nm g → (0 ≤ b ∧ b < 10 ∧ bt (g 39 4) b.toNat = true) → g 48 b.toNat = -1 → ¬ g 47 b.toNat = 0 → Bst (fun t => g 41 (b.toNat * 14 + t) = -1) (fun t => aF (fun m => bt (g 47 b.toNat) m = true) (fun m => g 32 (m * 14 + t)) nm nm) 14 r f → K (0, r) g) : am_C true L xs P (d + 16) 120 [(2, 1), (0, n), (0, b)] h K := by
  refine eX11_next (bX11_next_0 (kX11_nameAll (d := d) hO (fun w => ?_) (fun w g a => ?_)))
  · exact ⟨fun _ => bX11_next_44 (Ha w), fun z => absurd rfl z⟩
  · refine ⟨fun z => absurd z (by decide), fun _ => kX2_hasBody (d := d + 13) (fun w1 => ?_) (fun w1 => ?_)⟩
    · exact ⟨fun _ => bX11_next_44 (Hb w g a.cs a.ng (Or.inl w1)), fun z => absurd rfl z⟩
    · refine ⟨fun z => absurd z (by decide), fun _ => ⟨by omega, fun w2 => bX11_next_44 (Hb w g a.cs a.ng (Or.inr ⟨w1, Or.inl w2⟩)), fun w2 => ⟨by omega, fun w3 => bX11_next_46 ⟨by omega, ?_⟩, fun w3 => bX11_next_44 (Hb w g a.cs a.ng (Or.inr ⟨w1, Or.inr (Classical.not_not.mp w3)⟩))⟩⟩⟩
      have lem : am_C true L xs P (d + 15) 143 [(2, 1), (0, ((b.toNat : Nat) : Int)), (0, g 47 b.toNat)] g (fun r1 h1 => K (0, r1.2) h1) := by
        refine kX11_readNext (d := d + 12) hO.nm14 (by rw [a.cs 20 (by decide) (by decide) (by decide)]; exact hO.men) (by omega) (by rw [a.cs 32 (by decide) (by decide) (by decide)]; exact hv) (fun g' r f q1 q2 => ?_)
        have := Hc w g' r f (a.cs.tr (CS.of q1 (by decide))) (a.ng.fr hO.hc (fun i h1 h2 => q1 i (by simp; omega))) (by rw [q1 39 (by decide)]; exact w1) (by rw [q1 48 (by decide)]; exact Classical.not_not.mp w2) (by rw [q1 47 (by decide)]; exact w3)
        rw [q1 41 (by decide), q1 47 (by decide), q1 32 (by decide)] at this
        exact this q2
      rw [show ((b.toNat : Nat) : Int) = b by omega] at lem
      exact lem
