/-! settle -/
def Settled (nm : Nat) (h : am_H) : Prop := (CM (Ey h) nm (h 50) (h 49) (-1)) ∧ (∃ C, Cert (Ey h) 10 nm (h 50) C) ∧ (Chn (Ey h) 10 nm (h 50) (Ch h)) ∧ (h 44 10 = siz nm (h 50)) ∧ (∀ b, b < 10 → ∀ m, bt (h 47 b) m = true ↔ m < nm ∧ Ey h b m ∧ Takes (Ey h) 10 nm (h 50) (Ch h) b m) ∧ (∀ b, b < 10 → am_inI (h 47 b)) ∧ (∀ b, b < 10 → (¬ Loose 10 nm (h 50) (Ch h) b → h 47 b = 2 ^ (h 49 b).toNat → h 48 b = h 49 b ∧ 0 ≤ h 49 b ∧ h 49 b < nm) ∧ ((Loose 10 nm (h 50) (Ch h) b ∨ ¬ h 47 b = 2 ^ (h 49 b).toNat) → h 48 b = -1))
theorem Settled.cm {nm : Nat} {h : am_H} (s_ : Settled nm h) : CM (Ey h) nm (h 50) (h 49) (-1) := s_.1
theorem Settled.cert {nm : Nat} {h : am_H} (s_ : Settled nm h) : ∃ C, Cert (Ey h) 10 nm (h 50) C := s_.2.1
theorem Settled.chn {nm : Nat} {h : am_H} (s_ : Settled nm h) : Chn (Ey h) 10 nm (h 50) (Ch h) := s_.2.2.1
theorem Settled.placed {nm : Nat} {h : am_H} (s_ : Settled nm h) : h 44 10 = siz nm (h 50) := s_.2.2.2.1
theorem Settled.who {nm : Nat} {h : am_H} (s_ : Settled nm h) : ∀ b, b < 10 → ∀ m, bt (h 47 b) m = true ↔ m < nm ∧ Ey h b m ∧ Takes (Ey h) 10 nm (h 50) (Ch h) b m := s_.2.2.2.2.1
theorem Settled.whoI {nm : Nat} {h : am_H} (s_ : Settled nm h) : ∀ b, b < 10 → am_inI (h 47 b) := s_.2.2.2.2.2.1
theorem Settled.named {nm : Nat} {h : am_H} (s_ : Settled nm h) : ∀ b, b < 10 → (¬ Loose 10 nm (h 50) (Ch h) b → h 47 b = 2 ^ (h 49 b).toNat → h 48 b = h 49 b ∧ 0 ≤ h 49 b ∧ h 49 b < nm) ∧ ((Loose 10 nm (h 50) (Ch h) b ∨ ¬ h 47 b = 2 ^ (h 49 b).toNat) → h 48 b = -1) := s_.2.2.2.2.2.2
theorem Mt_congr {E E' : Nat → Nat → Prop} {nb nm : Nat} {f : Nat → Int} (h : ∀ b m, b < nb → m < nm → (E b m ↔ E' b m)) (hf : Mt E nb nm f) : Mt E' nb nm f :=
  ⟨fun m hm => (hf.1 m hm).imp id (fun z => ⟨z.1, z.2.1, (h _ m (by omega) hm).mp z.2.2⟩), hf.2⟩
theorem Cert_congr {E E' : Nat → Nat → Prop} {nb nm : Nat} {f : Nat → Int} {C : Nat → Prop} (h : ∀ b m, b < nb → m < nm → (E b m ↔ E' b m)) (hf : Cert E nb nm f C) : Cert E' nb nm f C :=
  ⟨hf.1, fun b m hb hm hc he => hf.2 b m hb hm hc ((h b m hb hm).mpr he)⟩
theorem kX4_settle {L : Nat} {xs : Nat → Int} {P : Nat → List am_V → am_H → am_K → Prop} {d : Nat} {h : am_H} {K : am_K} {nm : Nat} {kb : Int} (hnm : nm ≤ 14) (hU : ∀ b m m', b < 10 → m < nm → m' < nm → (bt kb b = true ∧ h 45 (b * 14 + m) = 3) → (bt kb b = true ∧ h 45 (b * 14 + m') = 3) → m = m') (H : ∀ h', Fr [44, 46, 47, 48, 49, 50, 51] h h' → (∀ b, b < 10 → ∀ m, Ey h' b m ↔ Bnd (fun b m => bt kb b = true ∧ h 45 (b * 14 + m) = 3) (fun b m => bt kb b = true ∧ m < nm ∧ 2 ≤ h 45 (b * 14 + m)) nm b m) → Settled nm h' → K (9, 0) h') : am_C true L xs P (d + 14) 42 [(2, 44), (0, kb), (0, (nm : Int))] h K := by
  refine eX4_settle (bX4_settle_0 ?_)
  have k0 : Su (am_st h 44 8 kb) = fun b m => bt kb b = true ∧ h 45 (b * 14 + m) = 3 := by
    unfold Su Kn; rw [st_at, st_ne (by decide)]
  refine kX4_gatherCandidates (d := d + 11) hnm (fun h1 f1 c1 => ?_)
  have e44 : h1 44 = am_st h 44 8 kb 44 := f1 44 (by decide)
  have e45 : h1 45 = h 45 := by rw [f1 45 (by decide), st_ne (by decide)]
  have k1 : Su h1 = fun b m => bt kb b = true ∧ h 45 (b * 14 + m) = 3 := by
    rw [← k0]; unfold Su Kn; rw [e44, e45, st_ne (h := h) (c := 44) (c' := 45) (by decide)]
  refine kX4_bindSure (d := d + 10) hnm (by rw [k1]; exact hU) (fun h2 f2 c2 => ?_)
  refine kX4_placeAll (d := d) hnm (fun h3 f3 => ?_)
  obtain ⟨p1, p2, p3, ⟨C, p4⟩, p5⟩ := f3
  have ey3 : Ey h3 = Ey h2 := by unfold Ey; rw [p1 46 (by decide)]
  refine kX4_linkChains (d := d + 11) hnm (by rw [ey3]; exact p3) (fun h4 f4 c4 n4 => ?_)
  have ey4 : Ey h4 = Ey h3 := by unfold Ey; rw [f4 46 (by decide)]
  have e50 : h4 50 = h3 50 := f4 50 (by decide)
  have e49 : h4 49 = h3 49 := f4 49 (by decide)
  have hCM : CM (Ey h4) nm (h4 50) (h4 49) (-1) := by rw [ey4, ey3, e50, e49]; exact p3
  have hCert : Cert (Ey h4) 10 nm (h4 50) C := by rw [ey4, ey3, e50]; exact p4
  have hChn : Chn (Ey h4) 10 nm (h4 50) (Ch h4) := by rw [ey4, e50]; exact c4
  refine kX4_looseBodies (d := d + 12) (fun lo hlo => ?_)
  have hLoose : ∀ b, b < 10 → (bt lo b = true ↔ Loose 10 nm (h4 50) (Ch h4) b) := by
    intro b hb
    rw [hlo]
    constructor
    · rintro ⟨u, h1, h2, h3⟩; exact ⟨u, h1, (CM_un hCM h1).mp h2, h3⟩
    · rintro ⟨u, h1, h2, h3⟩; exact ⟨u, h1, (CM_un hCM h1).mpr h2, h3⟩
  refine kX4_givingBodies (d := d + 11) hnm n4 (fun gi hgi => ?_)
  dsimp only
  have hEB : ∀ b, b < 10 → ∀ m, Ey h4 b m ↔ Bnd (fun b m => bt kb b = true ∧ h 45 (b * 14 + m) = 3) (fun b m => bt kb b = true ∧ m < nm ∧ 2 ≤ h 45 (b * 14 + m)) nm b m := by
    intro b hb m
    rw [ey4, ey3, c2 b hb m, k1]
    have e0 : ∀ m, Ey h1 b m ↔ bt kb b = true ∧ m < nm ∧ 2 ≤ h 45 (b * 14 + m) := by
      intro m
      rw [c1 b hb m]
      unfold Kn
      rw [st_at, st_ne (by decide)]
    unfold Bnd
    rw [e0 m]
  have hlt : ∀ b m, b < 10 → Ey h4 b m → m < nm := by
    intro b m hb he
    rcases (hEB b hb m).mp he with z | z
    · exact z.1
    · exact z.2.1.2.1
  have hFr : Fr [44, 46, 47, 48, 49, 50, 51] h h4 := by
    have a0 : Fr [44, 46, 47, 48, 49, 50, 51] h (am_st h 44 8 kb) := Fr.rf.st (by decide)
    have a1 : Fr [44, 46, 47, 48, 49, 50, 51] (am_st h 44 8 kb) h1 := f1.mono (by decide)
    have a2 : Fr [44, 46, 47, 48, 49, 50, 51] h1 h2 := f2.mono (by decide)
    have a3 : Fr [44, 46, 47, 48, 49, 50, 51] h2 h3 := p1.mono (by decide)
    have a4 : Fr [44, 46, 47, 48, 49, 50, 51] h3 h4 := f4.mono (by decide)
    exact (((a0.tr a1).tr a2).tr a3).tr a4
  have hpl : h4 44 10 = siz nm (h4 50) := by rw [f4 44 (by decide), e50]; exact p5
  have hfr : ∀ m, m < nm → h4 50 m = -1 ∨ (0 ≤ h4 50 m ∧ h4 50 m < 10) := fun m hm => (hCM.2 m hm (by omega)).imp id (fun z => ⟨z.1, z.2.1⟩)
  have hTk : ∀ b m, b < 10 → m < nm → ((bt lo b = true ∨ (h4 50 m = -1 ∨ bt gi (h4 50 m).toNat = true ∨ Ch h4 (h4 50 m).toNat b)) ↔ Takes (Ey h4) 10 nm (h4 50) (Ch h4) b m) := by
    intro b m hb hm
    unfold Takes
    rw [hLoose b hb]
    refine or_congr_right ?_
    rcases hfr m hm with z | z
    · exact ⟨fun _ => Or.inl z, fun _ => Or.inl z⟩
    · rw [hgi _ (by omega)]
  -- the rows
  refine upto (σ := am_V × am_H) (N := 10) (I := fun i s => Fr [47, 48] h4 s.2 ∧ (∀ b, b < i → (∀ m, bt (s.2 47 b) m = true ↔ m < nm ∧ Ey h4 b m ∧ Takes (Ey h4) 10 nm (h4 50) (Ch h4) b m) ∧ am_inI (s.2 47 b) ∧ (¬ Loose 10 nm (h4 50) (Ch h4) b → s.2 47 b = 2 ^ (h4 49 b).toNat → s.2 48 b = h4 49 b ∧ 0 ≤ h4 49 b ∧ h4 49 b < nm) ∧ ((Loose 10 nm (h4 50) (Ch h4) b ∨ ¬ s.2 47 b = 2 ^ (h4 49 b).toNat) → s.2 48 b = -1))) (G := fun i s => tX4_settle (h 0 0 + (0 : Nat)) L xs (am_C true L xs P (d + 13)) K 39 [(2, 44), (0, kb), (0, (nm : Int)), (0, lo), (0, gi), (0, (i : Int)), s.1] [] s.2) ?_ ?_ 10 0 ((9, 0), h4) (by omega) ⟨Fr.rf, fun b hb => by omega⟩
  · intro i ⟨v, g⟩ hi ⟨e1, e2⟩ ih
    dsimp only at e1 e2
    refine bX4_settle_39 ⟨fun z => by omega, fun _ => ⟨by omega, by omega, ?_⟩⟩
    simp only [Int.toNat_natCast]
    refine upto (σ := am_H) (N := nm) (I := fun k g' => Fr [47, 48] h4 g' ∧ (∀ b, ¬ b = i → g' 47 b = g 47 b ∧ g' 48 b = g 48 b) ∧ g' 48 i = -1 ∧ am_inI (g' 47 i) ∧ ∀ m, bt (g' 47 i) m = true ↔ m < k ∧ Ey h4 i m ∧ Takes (Ey h4) 10 nm (h4 50) (Ch h4) i m) (G := fun k g' => tX4_settle (h 0 0 + (0 : Nat)) L xs (am_C true L xs P (d + 13)) K 65 [(2, 44), (0, kb), (0, (nm : Int)), (0, lo), (0, gi), (0, (i : Int)), (0, (k : Int))] [] g') ?_ ?_ nm 0 _ (by omega) ⟨(e1.st (by decide)).st (by decide), ?_, ?_, ?_, ?_⟩
    · intro k g' hk ⟨q1, q2, q3, q4, q5⟩ ihk
      have x46 : g' 46 = h4 46 := q1 46 (by decide)
      have x50 : g' 50 = h4 50 := q1 50 (by decide)
      have x51 : g' 51 = h4 51 := q1 51 (by decide)
      have no : ¬ (Ey h4 i k ∧ Takes (Ey h4) 10 nm (h4 50) (Ch h4) i k) → tX4_settle (h 0 0 + (0 : Nat)) L xs (am_C true L xs P (d + 13)) K 122 [(2, 44), (0, kb), (0, (nm : Int)), (0, lo), (0, gi), (0, (i : Int)), (0, (k : Int))] [] g' := by
        intro hn
        refine bX4_settle_122 ⟨by omega, ihk g' ⟨q1, q2, q3, q4, fun m => ?_⟩⟩
        rw [q5]
        refine ⟨fun z => ⟨by omega, z.2⟩, fun z => ⟨?_, z.2⟩⟩
        have : ¬ m = k := fun e => hn (e ▸ z.2)
        omega
      have yes : (Ey h4 i k ∧ Takes (Ey h4) 10 nm (h4 50) (Ch h4) i k) → tX4_settle (h 0 0 + (0 : Nat)) L xs (am_C true L xs P (d + 13)) K 108 [(2, 44), (0, kb), (0, (nm : Int)), (0, lo), (0, gi), (0, (i : Int)), (0, (k : Int))] [] g' := by
        intro hy
        refine bX4_settle_108 ⟨by omega, ⟨⟨by omega, by omega, by omega, am_p2 (by omega) (by omega)⟩, by omega, bX4_settle_122 ⟨by omega, ihk _ ⟨q1.st (by decide), ?_, ?_, ?_, ?_⟩⟩⟩⟩
        · intro b hb
          simp only [Int.toNat_natCast]
          rw [st_nj hb, st_ne (by decide)]; exact q2 b hb
        · rw [st_ne (by decide)]; exact q3
        · simp only [Int.toNat_natCast]; rw [st_at]; exact am_inI_or _ _
        · intro m
          simp only [Int.toNat_natCast]
          rw [st_at, bt_or, Bool.or_eq_true, q5, bt_p2' m (by omega), decide_eq_true_eq]
          constructor
          · rintro (z | z)
            · exact ⟨by omega, z.2⟩
            · subst z; exact ⟨by omega, hy⟩
          · intro z
            by_cases hmk : m = k
            · exact Or.inr hmk
            · exact Or.inl ⟨by omega, z.2⟩
      refine bX4_settle_65 ⟨fun z => by omega, fun _ => ⟨by omega, kBit (d := d + 12) (by omega) (fun gb => ?_) (fun gb => ?_)⟩⟩
      · refine ⟨fun _ => no (fun z => ?_), fun z => absurd rfl z⟩
        have := z.1
        rw [Int.toNat_natCast, x46] at gb
        unfold Ey at this; rw [gb] at this; exact absurd this (by decide)
      · rw [Int.toNat_natCast, x46] at gb
        have gE : Ey h4 i k := gb
        refine ⟨fun z => absurd z (by decide), fun _ => kBit (d := d + 12) (by omega) (fun gl => ?_) (fun gl => ?_)⟩
        · refine ⟨fun z => absurd rfl z, fun _ => kX4_canTake (d := d + 11) hi (by omega) (by rw [x50]; exact hfr k hk) (fun gc => ?_) (fun gc => ?_)⟩
          · refine ⟨fun _ => no (fun z => ?_), fun z => absurd rfl z⟩
            rw [← hTk i k hi hk, gl] at z
            unfold Ch at gc z
            rw [x50, x51] at gc
            exact gc (z.2.resolve_left (by decide))
          · refine ⟨fun z => absurd z (by decide), fun _ => yes ⟨gE, ?_⟩⟩
            rw [← hTk i k hi hk]
            unfold Ch at gc ⊢
            rw [x50, x51] at gc
            exact Or.inr gc
        · refine ⟨fun _ => yes ⟨gE, ?_⟩, fun z => absurd (by decide) z⟩
          rw [← hTk i k hi hk]
          exact Or.inl gl
    · intro g' ⟨q1, q2, q3, q4, q5⟩
      have x49 : g' 49 = h4 49 := q1 49 (by decide)
      have fin : ∀ g2 : am_H, Fr [47, 48] h4 g2 → g2 47 = g' 47 → (∀ b, ¬ b = i → g2 48 b = g' 48 b) → (¬ Loose 10 nm (h4 50) (Ch h4) i → g2 47 i = 2 ^ (h4 49 i).toNat → g2 48 i = h4 49 i ∧ 0 ≤ h4 49 i ∧ h4 49 i < nm) → ((Loose 10 nm (h4 50) (Ch h4) i ∨ ¬ g2 47 i = 2 ^ (h4 49 i).toNat) → g2 48 i = -1) → tX4_settle (h 0 0 + (0 : Nat)) L xs (am_C true L xs P (d + 13)) K 170 [(2, 44), (0, kb), (0, (nm : Int)), (0, lo), (0, gi), (0, (i : Int)), (0, (nm : Int))] [] g2 := by
        intro g2 r1 r2 r3 r4 r5
        refine bX4_settle_170 ⟨by omega, ih (_, g2) ⟨r1, fun b hb => ?_⟩⟩
        dsimp only
        by_cases hbi : b = i
        · subst hbi
          refine ⟨fun m => by rw [r2, q5], by rw [r2]; exact q4, r4, r5⟩
        · rw [r2, r3 b hbi, (q2 b hbi).1, (q2 b hbi).2]
          exact e2 b (by omega)
      refine bX4_settle_65 ⟨fun _ => bX4_settle_128 (kBit (d := d + 12) (by omega) (fun gl => ?_) (fun gl => ?_)), fun z => by omega⟩
      · have nl : ¬ Loose 10 nm (h4 50) (Ch h4) i := fun z => by rw [← hLoose i hi, gl] at z; exact absurd z (by decide)
        have hmo : 0 ≤ h4 49 i ∧ h4 49 i < nm := by
          obtain z | z := hCM.1 i hi
          · exact absurd ⟨i, hi, (CM_un hCM hi).mp z, hChn.1 i hi⟩ nl
          · exact ⟨z.1, z.2.1⟩
        refine ⟨fun z => absurd rfl z, fun _ => ?_⟩
        simp only [Int.toNat_natCast]
        rw [x49]
        refine ⟨by omega, by omega, ⟨by omega, by omega, by omega, am_p2 (by omega) (by omega)⟩, ⟨fun gz => ?_, fun gz => ⟨by omega, by omega, ?_⟩⟩⟩
        · rw [Int.one_mul] at gz
          exact fin g' q1 rfl (fun _ _ => rfl) (fun _ z => absurd z gz) (fun _ => q3)
        · have gz' := Classical.not_not.mp gz
          rw [Int.one_mul] at gz'
          refine fin _ (q1.st (by decide)) (st_ne (by decide)) (fun b hb => st_nj hb) (fun _ _ => ⟨st_at, hmo⟩) (fun z => ?_)
          rcases z with z | z
          · exact absurd z nl
          · rw [st_ne (by decide)] at z; exact absurd gz' z
      · have yl : Loose 10 nm (h4 50) (Ch h4) i := by rw [← hLoose i hi]; exact gl
        exact ⟨fun _ => fin g' q1 rfl (fun _ _ => rfl) (fun z => absurd yl z) (fun _ => q3), fun z => absurd (by decide) z⟩
    · intro b hb; rw [st_ne (by decide), st_nj hb, st_nj hb, st_ne (by decide)]; exact ⟨rfl, rfl⟩
    · rw [st_at]
    · rw [st_ne (by decide), st_at]; decide
    · intro m
      rw [st_ne (by decide), st_at, bt_0]
      exact ⟨fun z => absurd z (by decide), fun z => by omega⟩
  · intro ⟨v, g⟩ ⟨e1, e2⟩
    dsimp only at e1 e2
    refine bX4_settle_39 ⟨fun _ => bX4_settle_176 (H g (hFr.tr (e1.mono (by decide))) ?_ ?_), fun z => by omega⟩
    · have : Ey g = Ey h4 := by unfold Ey; rw [e1 46 (by decide)]
      rw [this]; exact hEB
    · have y1 : Ey g = Ey h4 := by unfold Ey; rw [e1 46 (by decide)]
      have y2 : Ch g = Ch h4 := by unfold Ch; rw [e1 51 (by decide)]
      have y3 : g 50 = h4 50 := e1 50 (by decide)
      have y4 : g 49 = h4 49 := e1 49 (by decide)
      refine ⟨?_, ⟨C, ?_⟩, ?_, ?_, ?_, ?_, ?_⟩
      · rw [y1, y3, y4]; exact hCM
      · rw [y1, y3]; exact hCert
      · rw [y1, y2, y3]; exact hChn
      · rw [e1 44 (by decide), y3]; exact hpl
      · rw [y1, y2, y3]; exact fun b hb => (e2 b hb).1
      · exact fun b hb => (e2 b hb).2.1
      · rw [y2, y3, y4]; exact fun b hb => (e2 b hb).2.2
theorem kX4_menNamed {L : Nat} {xs : Nat → Int} {P : Nat → List am_V → am_H → am_K → Prop} {d : Nat} {h : am_H} {K : am_K} (hn : ∀ b, b < 10 → h 48 b = -1 ∨ (0 ≤ h 48 b ∧ h 48 b < 14)) (H : ∀ r : Int, (∀ y, bt r y = true ↔ ∃ b, b < 10 ∧ h 48 b = y) → K (0, r) h) : am_C true L xs P (d + 1) 52 [(2, 44)] h K := by
  refine eX4_menNamed (bX4_menNamed_0 ?_)
  refine upto (σ := Int) (N := 10) (I := fun i r => ∀ y : Nat, bt r y = true ↔ ∃ b, b < i ∧ h 48 b = y) (G := fun i r => tX4_menNamed (h 0 0 + (0 : Nat)) L xs (am_C true L xs P d) K 4 [(2, 44), (0, r), (0, (i : Int))] [] h) ?_ ?_ 10 0 0 (by omega) ?_
  · intro i r hi e1 ih
    refine bX4_menNamed_4 ⟨fun z => by omega, fun _ => ⟨by omega, ?_⟩⟩
    simp only [Int.toNat_natCast]
    refine ⟨fun gz => ?_, fun gz => ⟨by omega, ?_⟩⟩
    · refine bX4_menNamed_31 ⟨by omega, ih r (fun y => ?_)⟩
      rw [e1]
      refine ⟨fun ⟨b, z1, z2⟩ => ⟨b, by omega, z2⟩, fun ⟨b, z1, z2⟩ => ⟨b, ?_, z2⟩⟩
      have : ¬ b = i := fun e => by subst e; omega
      omega
    · have hr := (hn i hi).resolve_left gz
      refine ⟨⟨by omega, by omega, by omega, am_p2 (by omega) (by omega)⟩, bX4_menNamed_31 ⟨by omega, ih _ (fun y => ?_)⟩⟩
      rw [bt_or, Bool.or_eq_true, e1, bt_p2' y (by omega), decide_eq_true_eq]
      constructor
      · rintro (⟨b, z1, z2⟩ | z)
        · exact ⟨b, by omega, z2⟩
        · exact ⟨i, by omega, by omega⟩
      · rintro ⟨b, z1, z2⟩
        by_cases hbi : b = i
        · subst hbi; exact Or.inr (by omega)
        · exact Or.inl ⟨b, by omega, z2⟩
  · intro r e1
    exact bX4_menNamed_4 ⟨fun _ => bX4_menNamed_37 (H r e1), fun z => by omega⟩
  · intro y; rw [bt_0]; exact ⟨fun z => absurd z (by decide), fun ⟨b, z, _⟩ => by omega⟩
