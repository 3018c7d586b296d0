/-! lay -/
noncomputable def FM (g : am_H) (np nm b m : Nat) : Int := vd (Qm g b m) (Pm g b (Nmo g m (g 67 b)) np 0) (Pm g b (Nmo g m (g 67 b)) np 1) (∃ o, o < nm ∧ ¬ o = m ∧ ¬ Qm g b o ∧ Pm g b (Nmo g o (g 67 b)) np 1)
theorem am_mr_congr {g h : am_H} {m c : Int} (h61 : g 61 = h 61) (h62 : g 62 = h 62) (h3 : g 59 3 = h 59 3) : ∀ (n i : Nat) (acc : Int), am_mr g m c n i acc = am_mr h m c n i acc := by
  intro n
  induction n with
  | zero => intro i acc; rfl
  | succ n ih => intro i acc; simp only [am_mr]; rw [ih, h61, h62]; unfold am_fm; rw [h3]
/-- the model's rows are the same but for scratch -/
def Fm (h g : am_H) : Prop := (∀ i, ¬ i = 59 → ¬ (81 ≤ i ∧ i ≤ 92) → g i = h i) ∧ (∀ j, ¬ j = 49 → ¬ j = 50 → g 59 j = h 59 j)
theorem Fm.rf {h : am_H} : Fm h h := ⟨fun _ _ _ => rfl, fun _ _ _ => rfl⟩
theorem Fm.tr {h g g' : am_H} (a : Fm h g) (b : Fm g g') : Fm h g' := ⟨fun i h1 h2 => (b.1 i h1 h2).trans (a.1 i h1 h2), fun j h1 h2 => (b.2 j h1 h2).trans (a.2 j h1 h2)⟩
theorem Fm.st {h g : am_H} {c j : Nat} {v : Int} (a : Fm h g) (hc : 81 ≤ c ∧ c ≤ 92) : Fm h (am_st g c j v) :=
  ⟨fun i h1 h2 => by rw [st_ne (by omega)]; exact a.1 i h1 h2, fun i h1 h2 => by rw [st_ne (by omega)]; exact a.2 i h1 h2⟩
theorem Fm.st59 {h g : am_H} {j : Nat} {v : Int} (a : Fm h g) (hj : j = 49 ∨ j = 50) : Fm h (am_st g 59 j v) :=
  ⟨fun i h1 h2 => by rw [st_ne h1]; exact a.1 i h1 h2, fun i h1 h2 => by rw [st_nj (by omega)]; exact a.2 i h1 h2⟩
theorem Fm.of {S : List Nat} {h g : am_H} (a : Fr S h g) (hS : ∀ i, i ∈ S → 81 ≤ i ∧ i ≤ 92) : Fm h g :=
  ⟨fun i h1 h2 => a i (fun z => h2 (hS i z)), fun j _ _ => by rw [a 59 (fun z => by have := hS 59 z; omega)]⟩
theorem FM_congr {g h : am_H} {np nm b m : Nat} (x : Fm h g) : FM g np nm b m = FM h np nm b m := by
  have eN : ∀ o, Nmo g o (g 67 b) = Nmo h o (h 67 b) := by
    intro o
    unfold Nmo
    rw [x.1 67 (by decide) (by decide), x.2 7 (by decide) (by decide)]
    exact am_mr_congr (x.1 61 (by decide) (by decide)) (x.1 62 (by decide) (by decide)) (x.2 3 (by decide) (by decide)) _ _ _
  have eQ : ∀ o, Qm g b o = Qm h b o := by intro o; unfold Qm tM; rw [x.1 80 (by decide) (by decide), x.1 62 (by decide) (by decide)]
  have eP : ∀ y s, Pm g b y np s = Pm h b y np s := by intro y s; unfold Pm Hm; rw [x.1 72 (by decide) (by decide), x.1 80 (by decide) (by decide)]
  unfold FM
  simp only [eN, eQ, eP]
theorem FM_one {g : am_H} {np nm b m m' : Nat} (hm : m < nm) (hm' : m' < nm) (h : FM g np nm b m = 3) (h' : FM g np nm b m' = 3) : m = m' := by
  apply Classical.byContradiction
  intro hne
  have h1 := vd_3 h
  have h2 := vd_3 h'
  exact h1.2.2 ⟨m', hm', fun e => hne e.symm, h2.1, h2.2.1⟩
theorem okM.congr {g h : am_H} (x : Fm h g) (o : okM h) : okM g := by
  obtain ⟨a, b, c, d, e⟩ := o
  refine ⟨?_, ?_, ?_, ?_, ?_⟩
  · rw [x.2 3 (by decide) (by decide)]; exact a
  · rw [x.2 7 (by decide) (by decide)]; exact b
  · rw [x.2 9 (by decide) (by decide)]; exact c
  · rw [x.1 61 (by decide) (by decide)]; exact d
  · rw [x.1 62 (by decide) (by decide)]; exact e
/-- known, by the model -/
def Km (g : am_H) (nb b : Nat) : Prop := b < nb ∧ g 79 (g 68 b).toNat = 1
def okL (h : am_H) (N nb np nm : Nat) : Prop := (okM h) ∧ (h 59 11 = N) ∧ (N ≤ 90) ∧ (h 59 12 = nb) ∧ (WM h N N nb) ∧ (h 59 31 = np) ∧ (np ≤ 12) ∧ (h 59 9 = nm) ∧ (∀ b : Nat, b < nb → 0 ≤ h 67 b ∧ h 67 b < 25)
theorem okL.ok {h : am_H} {N nb np nm : Nat} (s_ : okL h N nb np nm) : okM h := s_.1
theorem okL.notes {h : am_H} {N nb np nm : Nat} (s_ : okL h N nb np nm) : h 59 11 = N := s_.2.1
theorem okL.N90 {h : am_H} {N nb np nm : Nat} (s_ : okL h N nb np nm) : N ≤ 90 := s_.2.2.1
theorem okL.bodies {h : am_H} {N nb np nm : Nat} (s_ : okL h N nb np nm) : h 59 12 = nb := s_.2.2.2.1
theorem okL.wm {h : am_H} {N nb np nm : Nat} (s_ : okL h N nb np nm) : WM h N N nb := s_.2.2.2.2.1
theorem okL.proofs {h : am_H} {N nb np nm : Nat} (s_ : okL h N nb np nm) : h 59 31 = np := s_.2.2.2.2.2.1
theorem okL.np12 {h : am_H} {N nb np nm : Nat} (s_ : okL h N nb np nm) : np ≤ 12 := s_.2.2.2.2.2.2.1
theorem okL.men {h : am_H} {N nb np nm : Nat} (s_ : okL h N nb np nm) : h 59 9 = nm := s_.2.2.2.2.2.2.2.1
theorem okL.cells {h : am_H} {N nb np nm : Nat} (s_ : okL h N nb np nm) : ∀ b : Nat, b < nb → 0 ≤ h 67 b ∧ h 67 b < 25 := s_.2.2.2.2.2.2.2.2
theorem WM.mono {h : am_H} {n n' N nb : Nat} (w : WM h n N nb) (hn : n' ≤ n) : WM h n' N nb := ⟨w.nb10, fun k hk => w.k1 k (by omega), fun k hk => w.k3 k (by omega), w.no⟩
/-- S and E0 of the model -/
def SM (g : am_H) (nb np nm b m : Nat) : Prop := Km g nb b ∧ FM g np nm b m = 3
def E0M (g : am_H) (nb np nm b m : Nat) : Prop := Km g nb b ∧ m < nm ∧ 2 ≤ FM g np nm b m
theorem Km_congr {h g : am_H} {nb b : Nat} (x : Fm h g) : Km g nb b ↔ Km h nb b := by unfold Km; rw [x.1 79 (by decide) (by decide), x.1 68 (by decide) (by decide)]
theorem kX12_lay {L : Nat} {xs : Nat → Int} {P : Nat → List am_V → am_H → am_K → Prop} {d : Nat} {h : am_H} {K : am_K} {N nb np nm n : Nat} (hn : n ≤ N) (hO : okL h N nb np nm) (H : ∀ k g, KM n N h k → Fm k g → (∀ b, b < nb → ∀ m, bt (g 81 b) m = true ↔ Bnd (SM k nb np nm) (E0M k nb np nm) nm b m) → (∀ b, bt (g 59 49) b = true ↔ b < nb ∧ ∃ m, m < nm ∧ Own (SM k nb np nm) b m) → Mt (Ew g nb (-1) 0) 10 nm (g 83) → (∃ C, Cert (Ew g nb (-1) 0) 10 nm (g 83) C) → g 59 50 = siz nm (g 83) → K (9, 0) g) : am_C true L xs P (d + 5) 187 [(2, 59), (0, (n : Int))] h K := by
  have hnb := hO.wm.nb10
  have hN := hO.N90
  have hmn := hO.ok.mn
  have hmen := hO.men
  have hm14 : nm ≤ 14 := by omega
  refine eX12_lay (bX12_lay_0 (kX12_know (d := d + 2) hn hN hO.notes (hO.wm.mono hn) (fun k hk => ?_)))
  have z (j : Nat) (hj : ¬ j = 79 ∧ ¬ j = 80) : k j = h j := hk.fr j (by simpa using hj)
  have okk : okM k := by
    obtain ⟨a, b, c, d, e⟩ := hO.ok
    exact ⟨by rw [z 59 (by decide)]; exact a, by rw [z 59 (by decide)]; exact b, by rw [z 59 (by decide)]; exact c, by rw [z 61 (by decide)]; exact d, by rw [z 62 (by decide)]; exact e⟩
  have k12 : k 59 12 = nb := by rw [z 59 (by decide)]; exact hO.bodies
  have k9 : k 59 9 = nm := by rw [z 59 (by decide)]; exact hO.men
  have k31 : k 59 31 = np := by rw [z 59 (by decide)]; exact hO.proofs
  have k67 : ∀ b : Nat, b < nb → 0 ≤ k 67 b ∧ k 67 b < 25 := by rw [z 67 (by decide)]; exact hO.cells
  have k68 : ∀ b : Nat, b < nb → 0 ≤ k 68 b ∧ k 68 b < N := by rw [z 68 (by decide)]; exact hO.wm.no
  have S1 : ∀ b m m', m < nm → m' < nm → SM k nb np nm b m → SM k nb np nm b m' → m = m' := fun b m m' hm hm' h1 h2 => FM_one hm hm' h1.2 h2.2
  -- phase 1
  refine upto (σ := am_V × am_V × am_H) (N := nb) (I := fun i s => Fm k s.2.2 ∧ (∀ b, b < i → (∀ m, bt (s.2.2 81 b) m = true ↔ E0M k nb np nm b m) ∧ ((s.2.2 82 b = -1 ∧ ∀ m, m < nm → ¬ SM k nb np nm b m) ∨ (0 ≤ s.2.2 82 b ∧ s.2.2 82 b < nm ∧ SM k nb np nm b (s.2.2 82 b).toNat)))) (G := fun i s => tX12_lay (h 0 0 + (0 : Nat)) L xs (am_C true L xs P (d + 4)) K 7 [(2, 59), (0, (n : Int)), (0, (i : Int)), s.1, s.2.1] [] s.2.2) ?_ ?_ nb 0 ((9, 0), (9, 0), k) (by omega) ⟨Fm.rf, fun b hb => by omega⟩
  · intro i ⟨v3, v4, g⟩ hi ⟨e1, e2⟩ ih
    dsimp only at e1 e2 ⊢
    refine bX12_lay_7 ⟨fun w => by rw [e1.2 12 (by decide) (by decide), k12] at w; omega, fun _ => ⟨by omega, by omega, ?_⟩⟩
    rw [Int.toNat_natCast]
    -- the men
    have fin : ∀ (j : Int) (v4 : am_V) (g' : am_H), Fm k g' → (∀ b, ¬ b = i → g' 81 b = g 81 b ∧ g' 82 b = g 82 b) → (∀ m, bt (g' 81 i) m = true ↔ E0M k nb np nm i m) → ((g' 82 i = -1 ∧ ∀ m, m < nm → ¬ SM k nb np nm i m) ∨ (0 ≤ g' 82 i ∧ g' 82 i < nm ∧ SM k nb np nm i (g' 82 i).toNat)) → tX12_lay (h 0 0 + (0 : Nat)) L xs (am_C true L xs P (d + 4)) K 92 [(2, 59), (0, (n : Int)), (0, (i : Int)), (0, j), v4] [] g' := by
      intro j v4 g' q1 q2 q3 q4
      refine bX12_lay_92 ⟨by omega, ih (_, _, g') ⟨q1, fun b hb => ?_⟩⟩
      dsimp only
      by_cases e : b = i
      · subst e; exact ⟨q3, q4⟩
      · rw [(q2 b e).1, (q2 b e).2]; exact e2 b (by omega)
    refine upto (σ := am_V × am_H) (N := nm) (I := fun j s => Fm k s.2 ∧ (∀ b, ¬ b = i → s.2 81 b = g 81 b ∧ s.2 82 b = g 82 b) ∧ (∀ m, bt (s.2 81 i) m = true ↔ Km k nb i ∧ m < j ∧ 2 ≤ FM k np nm i m) ∧ ((s.2 82 i = -1 ∧ ∀ m, m < j → ¬ SM k nb np nm i m) ∨ (0 ≤ s.2 82 i ∧ s.2 82 i < j ∧ SM k nb np nm i (s.2 82 i).toNat))) (G := fun j s => tX12_lay (h 0 0 + (0 : Nat)) L xs (am_C true L xs P (d + 4)) K 31 [(2, 59), (0, (n : Int)), (0, (i : Int)), (0, (j : Int)), s.1] [] s.2) ?_ ?_ nm 0 (v4, am_st (am_st g 81 i 0) 82 i (-1)) (by omega) ⟨(e1.st (by decide)).st (by decide), fun b hb => ?_, fun m => ?_, Or.inl ⟨?_, fun m hm => by omega⟩⟩
    · intro j ⟨v4, g'⟩ hj ⟨q1, q2, q3, q4⟩ ihj
      dsimp only at q1 q2 q3 q4 ⊢
      have hk8 := k68 i hi
      refine bX12_lay_31 ⟨fun w => by rw [q1.2 9 (by decide) (by decide), k9] at w; omega, fun _ => kX12_isKnown (d := d + 3) (by omega) (by rw [Int.toNat_natCast, q1.1 68 (by decide) (by decide)]; omega) (fun gk => ?_) (fun gk => ?_)⟩
      · rw [Int.toNat_natCast, q1.1 68 (by decide) (by decide), q1.1 79 (by decide) (by decide)] at gk
        have nk : ¬ Km k nb i := fun w => by have := w.2; omega
        refine ⟨fun _ => fin _ _ g' q1 q2 (fun m => ?_) ?_, fun w => absurd rfl w⟩
        · rw [q3]; exact ⟨fun w => absurd w.1 nk, fun w => absurd w.1 nk⟩
        · rcases q4 with w | w
          · exact Or.inl ⟨w.1, fun m hm s => nk s.1⟩
          · exact absurd w.2.2.1 nk
      · rw [Int.toNat_natCast, q1.1 68 (by decide) (by decide), q1.1 79 (by decide) (by decide)] at gk
        have yk : Km k nb i := ⟨hi, gk⟩
        refine ⟨fun w => absurd w (by decide), fun _ => ?_⟩
        refine kX12_fitOf (d := d) (okk.congr q1) (by omega) hj hO.np12 (by rw [q1.2 31 (by decide) (by decide)]; exact k31) (by rw [q1.2 9 (by decide) (by decide)]; exact k9) (by rw [q1.1 67 (by decide) (by decide)]; exact k67 i hi) ?_
        have eF : FM g' np nm i j = FM k np nm i j := FM_congr q1
        show (FM g' np nm i j ≤ 1 → _) ∧ (¬ FM g' np nm i j ≤ 1 → _)
        have tail : ∀ g2 : am_H, Fm k g2 → (∀ b, ¬ b = i → g2 81 b = g 81 b ∧ g2 82 b = g 82 b) → (∀ m, bt (g2 81 i) m = true ↔ Km k nb i ∧ m < j + 1 ∧ 2 ≤ FM k np nm i m) → g2 82 i = g' 82 i → tX12_lay (h 0 0 + (0 : Nat)) L xs (am_C true L xs P (d + 4)) K 73 [(2, 59), (0, (n : Int)), (0, (i : Int)), (0, (j : Int)), (0, FM g' np nm i j)] [] g2 := by
          intro g2 r1 r2 r3 r4
          refine bX12_lay_73 ⟨fun w => bX12_lay_86 ⟨by omega, ihj (_, g2) ⟨r1, r2, r3, ?_⟩⟩, fun w => ⟨by omega, bX12_lay_86 ⟨by omega, (by rw [Int.toNat_natCast]; exact ihj ((0, FM g' np nm i j), am_st g2 82 i (j : Int)) ⟨r1.st (by decide), fun b hb => (by show am_st g2 82 i (j : Int) 81 b = _ ∧ am_st g2 82 i (j : Int) 82 b = _; rw [st_ne (by decide), st_nj hb]; exact r2 b hb), fun m => (by show bt (am_st g2 82 i (j : Int) 81 i) m = true ↔ _; rw [st_ne (by decide)]; exact r3 m), Or.inr (by
            show 0 ≤ am_st g2 82 i (j : Int) 82 i ∧ am_st g2 82 i (j : Int) 82 i < ((j + 1 : Nat) : Int) ∧ SM k nb np nm i (am_st g2 82 i (j : Int) 82 i).toNat
            rw [st_at, Int.toNat_natCast]
            exact ⟨by omega, by omega, yk, by rw [← eF]; exact Classical.not_not.mp w⟩)⟩)⟩⟩⟩
          · dsimp only
            rw [r4]
            rcases q4 with y | y
            · refine Or.inl ⟨y.1, fun m hm s => ?_⟩
              by_cases e : m = j
              · subst e; rw [eF] at w; exact w s.2
              · exact y.2 m (by omega) s
            · exact Or.inr ⟨y.1, by omega, y.2.2⟩
        refine ⟨fun w => tail g' q1 q2 (fun m => ?_) rfl, fun w => ⟨by omega, ⟨by omega, by omega, by omega, am_p2 (by omega) (by omega)⟩, by omega, tail _ (q1.st (by decide)) (fun b hb => ?_) (fun m => ?_) (by rw [st_ne (by decide)])⟩⟩
        · rw [q3]
          refine and_congr_right (fun _ => ⟨fun y => ⟨by omega, y.2⟩, fun y => ⟨?_, y.2⟩⟩)
          have : ¬ m = j := fun e => by subst e; rw [eF] at w; omega
          omega
        · rw [Int.toNat_natCast, st_nj hb, st_ne (by decide)]; exact q2 b hb
        · simp only [Int.toNat_natCast]
          rw [st_at, bt_or, Bool.or_eq_true, q3, bt_p2' m (by omega), decide_eq_true_eq]
          constructor
          · rintro (y | y)
            · exact ⟨y.1, by omega, y.2.2⟩
            · subst y; exact ⟨yk, by omega, by rw [eF] at w; omega⟩
          · intro y
            by_cases e : m = j
            · exact Or.inr e
            · exact Or.inl ⟨y.1, by omega, y.2.2⟩
    · intro ⟨v4, g'⟩ ⟨q1, q2, q3, q4⟩
      dsimp only at q1 q2 q3 q4 ⊢
      exact bX12_lay_31 ⟨fun _ => fin _ _ g' q1 q2 q3 q4, fun w => by rw [q1.2 9 (by decide) (by decide), k9] at w; omega⟩
    · dsimp only; rw [st_ne (by decide), st_nj hb, st_nj hb, st_ne (by decide)]; exact ⟨rfl, rfl⟩
    · dsimp only; rw [st_ne (by decide), st_at, bt_0]
      exact ⟨fun w => absurd w (by decide), fun w => by omega⟩
    · dsimp only; rw [st_at]
  · intro ⟨v3, v4, g⟩ ⟨e1, e2⟩
    dsimp only at e1 e2 ⊢
    refine bX12_lay_7 ⟨fun _ => bX12_lay_98 ?_, fun w => by rw [e1.2 12 (by decide) (by decide), k12] at w; omega⟩
    -- what mustBe says
    have mb : ∀ b, b < nb → ∀ m, m < nm → (SM k nb np nm b m ↔ g 82 b = m) := by
      intro b hb m hm
      rcases (e2 b hb).2 with w | w
      · exact ⟨fun s => absurd s (w.2 m hm), fun s => by omega⟩
      · constructor
        · intro s
          have := S1 b m (g 82 b).toNat hm (by omega) s w.2.2
          omega
        · intro s
          have : (g 82 b).toNat = m := by omega
          rw [← this]; exact w.2.2
    have ownI : ∀ b, b < nb → ¬ g 82 b = -1 → (Own (SM k nb np nm) b (g 82 b).toNat ↔ ∀ o, o < nb → o = b ∨ ¬ g 82 o = g 82 b) := by
      intro b hb hne
      have w := (e2 b hb).2.resolve_left (fun w => hne w.1)
      unfold Own
      constructor
      · intro s o ho
        by_cases e : o = b
        · exact Or.inl e
        · refine Or.inr (fun ee => e (s.2 o (by omega) ((mb o ho _ (by omega)).mpr ?_)))
          omega
      · intro s
        refine ⟨w.2.2, fun o ho hs => ?_⟩
        rcases s o hs.1.1 with y | y
        · exact y
        · have := (mb o hs.1.1 (g 82 b).toNat (by omega)).mp hs
          exact absurd (by omega) y
    -- phase 2
    refine upto (σ := am_V × am_V × am_H) (N := nb) (I := fun i s => Fm k s.2.2 ∧ s.2.2 81 = g 81 ∧ s.2.2 82 = g 82 ∧ ∀ b, bt (s.2.2 59 49) b = true ↔ b < i ∧ ∃ m, m < nm ∧ Own (SM k nb np nm) b m) (G := fun i s => tX12_lay (h 0 0 + (0 : Nat)) L xs (am_C true L xs P (d + 4)) K 105 [(2, 59), (0, (n : Int)), (0, (i : Int)), s.1, s.2.1] [] s.2.2) ?_ ?_ nb 0 (v3, v4, am_st g 59 49 0) (by omega) ⟨e1.st59 (by decide), (by show am_st g 59 49 0 81 = g 81; exact st_ne (by decide)), (by show am_st g 59 49 0 82 = g 82; exact st_ne (by decide)), fun b => by
      show bt (am_st g 59 49 0 59 49) b = true ↔ _
      rw [st_at, bt_0]; exact ⟨fun w => absurd w (by decide), fun w => by omega⟩⟩
    · intro i ⟨v3, v4, g2⟩ hi ⟨q1, q2, q3, q4⟩ ih
      dsimp only at q1 q2 q3 q4 ⊢
      refine bX12_lay_105 ⟨fun w => by rw [q1.2 12 (by decide) (by decide), k12] at w; omega, fun _ => ⟨by omega, ?_⟩⟩
      rw [Int.toNat_natCast, q3]
      have skip : ∀ v3 v4 : am_V, (¬ ∃ m, m < nm ∧ Own (SM k nb np nm) i m) → tX12_lay (h 0 0 + (0 : Nat)) L xs (am_C true L xs P (d + 4)) K 194 [(2, 59), (0, (n : Int)), (0, (i : Int)), v3, v4] [] g2 := by
        intro v3 v4 hno
        refine bX12_lay_194 ⟨by omega, ih (v3, v4, g2) ⟨q1, q2, q3, fun b => ?_⟩⟩
        dsimp only
        rw [q4]
        refine ⟨fun w => ⟨by omega, w.2⟩, fun w => ⟨?_, w.2⟩⟩
        have : ¬ b = i := fun e => hno (e ▸ w.2)
        omega
      refine ⟨fun hne => bX12_lay_126 ?_, fun hne => skip _ _ (fun ⟨m, hm, ho⟩ => ?_)⟩
      · have w := (e2 i hi).2.resolve_left (fun w => hne w.1)
        refine upto (σ := Int) (N := nb) (I := fun o r => (r = 1 ∧ ∀ o', o' < o → o' = i ∨ ¬ g 82 o' = g 82 i) ∨ (r = 0 ∧ ¬ ∀ o', o' < o → o' = i ∨ ¬ g 82 o' = g 82 i)) (G := fun o r => tX12_lay (h 0 0 + (0 : Nat)) L xs (am_C true L xs P (d + 4)) K 131 [(2, 59), (0, (n : Int)), (0, (i : Int)), (0, r), (0, (o : Int))] [] g2) ?_ ?_ nb 0 1 (by omega) (Or.inl ⟨rfl, fun o ho => by omega⟩)
        · intro o r ho er iho
          have nx : ∀ (r' : Int), ((r' = 1 ∧ ∀ o', o' < o + 1 → o' = i ∨ ¬ g 82 o' = g 82 i) ∨ (r' = 0 ∧ ¬ ∀ o', o' < o + 1 → o' = i ∨ ¬ g 82 o' = g 82 i)) → tX12_lay (h 0 0 + (0 : Nat)) L xs (am_C true L xs P (d + 4)) K 171 [(2, 59), (0, (n : Int)), (0, (i : Int)), (0, r), (0, (o : Int))] [(0, r')] g2 := fun r' hr' => bX12_lay_171 ⟨by omega, iho r' hr'⟩
          refine bX12_lay_131 ⟨fun y => by rw [q1.2 12 (by decide) (by decide), k12] at y; omega, fun _ => ⟨fun y => ?_, fun y => ?_⟩⟩
          · refine bX12_lay_170 (nx 0 (Or.inr ⟨rfl, fun s => ?_⟩))
            rcases er with e | e
            · omega
            · exact e.2 (fun o' ho' => s o' (by omega))
          · have er' := er.resolve_right (fun e => y e.1)
            refine ⟨fun y2 => bX12_lay_166 (nx 1 (Or.inl ⟨rfl, fun o' ho' => ?_⟩)), fun y2 => ⟨by omega, by omega, ?_⟩⟩
            · by_cases e : o' = o
              · left; omega
              · exact er'.2 o' (by omega)
            · rw [Int.toNat_natCast, Int.toNat_natCast, q3]
              refine ⟨fun y3 => bX12_lay_170 (nx 0 (Or.inr ⟨rfl, fun s => ?_⟩)), fun y3 => bX12_lay_166 (nx 1 (Or.inl ⟨rfl, fun o' ho' => ?_⟩))⟩
              · rcases s o (by omega) with e | e
                · omega
                · exact e y3
              · by_cases e : o' = o
                · subst e; exact Or.inr y3
                · exact er'.2 o' (by omega)
        · intro r er
          refine bX12_lay_131 ⟨fun _ => bX12_lay_178 ⟨fun y => skip _ _ (fun ⟨m, hm, ho⟩ => ?_), fun y => ⟨⟨by omega, by omega, by omega, am_p2 (by omega) (by omega)⟩, bX12_lay_194 ⟨by omega, ih (_, _, am_st g2 59 49 (am_or (g2 59 49) (1 * 2 ^ ((i : Int)).toNat))) ⟨q1.st59 (by decide), ?_, ?_, fun b => ?_⟩⟩⟩⟩, fun y => by rw [q1.2 12 (by decide) (by decide), k12] at y; omega⟩
          · have e := er.resolve_left (fun e => by omega)
            have hm' := (mb i hi m hm).mp ho.1
            refine e.2 ((ownI i hi hne).mp ?_)
            rw [hm', Int.toNat_natCast]; exact ho
          · dsimp only; rw [st_ne (by decide)]; exact q2
          · dsimp only; rw [st_ne (by decide)]; exact q3
          · have e := er.resolve_right (fun e => y e.1)
            have ho : Own (SM k nb np nm) i (g 82 i).toNat := (ownI i hi hne).mpr e.2
            dsimp only
            rw [st_at, Int.toNat_natCast, bt_or, Bool.or_eq_true, q4, bt_p2' b (by omega), decide_eq_true_eq]
            constructor
            · rintro (s | s)
              · exact ⟨by omega, s.2⟩
              · subst s; exact ⟨by omega, _, by omega, ho⟩
            · intro s
              by_cases e : b = i
              · exact Or.inr e
              · exact Or.inl ⟨by omega, s.2⟩
      · have := (mb i hi m hm).mp ho.1
        omega
    · intro ⟨v3, v4, g2⟩ ⟨q1, q2, q3, q4⟩
      dsimp only at q1 q2 q3 q4 ⊢
      refine bX12_lay_105 ⟨fun _ => bX12_lay_200 ?_, fun w => by rw [q1.2 12 (by decide) (by decide), k12] at w; omega⟩
      have suI : ∀ b, b < nb → (bt (g2 59 49) b = true ↔ (0 ≤ g 82 b ∧ g 82 b < nm ∧ Own (SM k nb np nm) b (g 82 b).toNat)) := by
        intro b hb
        rw [q4]
        constructor
        · rintro ⟨_, m, hm, ho⟩
          have := (mb b hb m hm).mp ho.1
          rw [this, Int.toNat_natCast]
          exact ⟨by omega, by omega, ho⟩
        · intro s; exact ⟨hb, _, by omega, s.2.2⟩
      -- phase 3
      refine upto (σ := am_V × am_V × am_H) (N := nb) (I := fun i s => Fm k s.2.2 ∧ s.2.2 82 = g 82 ∧ s.2.2 59 49 = g2 59 49 ∧ (∀ b, i ≤ b → s.2.2 81 b = g 81 b) ∧ ∀ b, b < i → ∀ m, bt (s.2.2 81 b) m = true ↔ Bnd (SM k nb np nm) (E0M k nb np nm) nm b m) (G := fun i s => tX12_lay (h 0 0 + (0 : Nat)) L xs (am_C true L xs P (d + 4)) K 202 [(2, 59), (0, (n : Int)), (0, (i : Int)), s.1, s.2.1] [] s.2.2) ?_ ?_ nb 0 (v3, v4, g2) (by omega) ⟨q1, q3, rfl, fun b _ => (by dsimp only; rw [q2]), fun b hb => by omega⟩
      · intro i ⟨v3, v4, g3⟩ hi ⟨r1, r2, r3, r4, r5⟩ ih
        dsimp only at r1 r2 r3 r4 r5 ⊢
        refine bX12_lay_202 ⟨fun w => by rw [r1.2 12 (by decide) (by decide), k12] at w; omega, fun _ => ?_⟩
        refine upto (σ := am_H) (N := nb) (I := fun o g4 => Fm k g4 ∧ g4 82 = g 82 ∧ g4 59 49 = g2 59 49 ∧ (∀ b, ¬ b = i → g4 81 b = g3 81 b) ∧ ∀ m, bt (g4 81 i) m = true ↔ E0M k nb np nm i m ∧ ∀ o', o' < o → ¬ o' = i → bt (g2 59 49) o' = true → ¬ g 82 o' = m) (G := fun o g4 => tX12_lay (h 0 0 + (0 : Nat)) L xs (am_C true L xs P (d + 4)) K 212 [(2, 59), (0, (n : Int)), (0, (i : Int)), (0, (o : Int)), v4] [] g4) ?_ ?_ nb 0 g3 (by omega) ⟨r1, r2, r3, fun _ _ => rfl, fun m => ?_⟩
        · intro o g4 ho ⟨s1, s2, s3, s4, s5⟩ iho
          have skip : (o = i ∨ ¬ bt (g2 59 49) o = true) → tX12_lay (h 0 0 + (0 : Nat)) L xs (am_C true L xs P (d + 4)) K 256 [(2, 59), (0, (n : Int)), (0, (i : Int)), (0, (o : Int)), v4] [] g4 := by
            intro hs
            refine bX12_lay_256 ⟨by omega, iho g4 ⟨s1, s2, s3, s4, fun m => ?_⟩⟩
            rw [s5]
            refine and_congr_right (fun _ => ⟨fun w o' ho' h1 h2 => ?_, fun w o' ho' => w o' (by omega)⟩)
            by_cases e : o' = o
            · subst e; rcases hs with hs | hs
              · exact absurd hs h1
              · exact absurd h2 hs
            · exact w o' (by omega) h1 h2
          refine bX12_lay_212 ⟨fun w => by rw [s1.2 12 (by decide) (by decide), k12] at w; omega, fun _ => ⟨fun w => skip (Or.inl (by omega)), fun w => ⟨by omega, ?_⟩⟩⟩
          rw [Int.toNat_natCast, s3, bt_t1 (by omega)]
          refine ⟨fun w2 => skip (Or.inr w2), fun w2 => ?_⟩
          have hsu := Classical.not_not.mp w2
          have su := (suI o ho).mp hsu
          rw [s2]
          refine ⟨by omega, by omega, ⟨by omega, su.1, by omega, am_p2 su.1 (by omega)⟩, by omega, bX12_lay_256 ⟨by omega, iho _ ⟨s1.st (by decide), ?_, ?_, fun b hb => ?_, fun m => ?_⟩⟩⟩
          · rw [st_ne (by decide)]; exact s2
          · rw [st_ne (by decide)]; exact s3
          · rw [Int.toNat_natCast, st_nj hb]; exact s4 b hb
          · rw [Int.toNat_natCast, st_at, bt_and, Bool.and_eq_true, s5, bt_xor, bt_p2' m (by omega)]
            constructor
            · rintro ⟨⟨a1, a2⟩, a3⟩
              refine ⟨a1, fun o' ho' h1 h2 => ?_⟩
              by_cases e : o' = o
              · subst e
                intro hm
                have : m = (g 82 o').toNat := by omega
                have hm32 : m < 32 := by have := a1.2.1; omega
                rw [bt_m1 hm32] at a3
                simp [this] at a3
              · exact a2 o' (by omega) h1 h2
            · rintro ⟨a1, a2⟩
              refine ⟨⟨a1, fun o' ho' => a2 o' (by omega)⟩, ?_⟩
              have hm32 : m < 32 := by have := a1.2.1; omega
              have : ¬ m = (g 82 o).toNat := fun e => a2 o (by omega) (by omega) hsu (by omega)
              rw [bt_m1 hm32]
              simp [this]
        · intro g4 ⟨s1, s2, s3, s4, s5⟩
          refine bX12_lay_212 ⟨fun _ => bX12_lay_262 ⟨by omega, ?_⟩, fun w => by rw [s1.2 12 (by decide) (by decide), k12] at w; omega⟩
          rw [Int.toNat_natCast, s3, bt_t1 (by omega), s2]
          have nxt : ∀ g5 : am_H, Fm k g5 → g5 82 = g 82 → g5 59 49 = g2 59 49 → (∀ b, ¬ b = i → g5 81 b = g3 81 b) → (∀ m, bt (g5 81 i) m = true ↔ Bnd (SM k nb np nm) (E0M k nb np nm) nm i m) → tX12_lay (h 0 0 + (0 : Nat)) L xs (am_C true L xs P (d + 4)) K 288 [(2, 59), (0, (n : Int)), (0, (i : Int)), (0, (nb : Int)), v4] [] g5 := by
            intro g5 t1 t2 t3 t4 t5
            refine bX12_lay_288 ⟨by omega, ih (_, _, g5) ⟨t1, t2, t3, fun b hb => ?_, fun b hb => ?_⟩⟩
            · dsimp only; rw [t4 b (by omega)]; exact r4 b (by omega)
            · dsimp only
              by_cases e : b = i
              · subst e; exact t5
              · rw [t4 b e]; exact r5 b (by omega)
          refine ⟨fun w => nxt g4 s1 s2 s3 s4 (fun m => ?_), fun w => ?_⟩
          · rw [s5]
            have nown : ∀ m', m' < nm → ¬ Own (SM k nb np nm) i m' := fun m' hm' ho => w ((suI i hi).mpr (by
              have := (mb i hi m' hm').mp ho.1
              rw [this, Int.toNat_natCast]; exact ⟨by omega, by omega, ho⟩))
            unfold Bnd
            constructor
            · rintro ⟨a1, a2⟩
              refine Or.inr ⟨nown, a1, fun b' hb' ho => ?_⟩
              have hb2 := ho.2.1.1.1
              have hm := (mb b' hb2 m ho.1).mp ho.2.1
              refine a2 b' hb2 (fun e => nown m ho.1 (e ▸ ho.2)) ((suI b' hb2).mpr ?_) hm
              rw [hm, Int.toNat_natCast]; exact ⟨by omega, by have := ho.1; omega, ho.2⟩
            · rintro (a | ⟨a1, a2, a3⟩)
              · exact absurd a.2 (nown m a.1)
              · refine ⟨a2, fun o' ho' h1 h2 hm => ?_⟩
                have su := (suI o' ho').mp h2
                have e : (g 82 o').toNat = m := by omega
                rw [e] at su
                exact a3 o' (by omega) ⟨by omega, su.2.2⟩
          · have hsu := Classical.not_not.mp w
            have su := (suI i hi).mp hsu
            refine ⟨by omega, ⟨by omega, su.1, by omega, am_p2 su.1 (by omega)⟩, by omega, nxt _ (s1.st (by decide)) ?_ ?_ (fun b hb => ?_) (fun m => ?_)⟩
            · rw [st_ne (by decide)]; exact s2
            · rw [st_ne (by decide)]; exact s3
            · rw [st_nj hb]; exact s4 b hb
            · rw [st_at, bt_p2' m (by omega), decide_eq_true_eq]
              unfold Bnd
              constructor
              · intro e; rw [e]; exact Or.inl ⟨by omega, su.2.2⟩
              · rintro (a | ⟨a1, a2, a3⟩)
                · exact S1 i m _ a.1 (by omega) a.2.1 su.2.2.1
                · exact absurd su.2.2 (a1 _ (by omega))
        · rw [r4 i (Nat.le_refl _), (e2 i hi).1 m]
          exact ⟨fun w => ⟨w, fun o' ho' => by omega⟩, fun w => w.1⟩
      · intro ⟨v3, v4, g3⟩ ⟨r1, r2, r3, r4, r5⟩
        dsimp only at r1 r2 r3 r4 r5 ⊢
        refine bX12_lay_202 ⟨fun _ => bX12_lay_294 ?_, fun w => by rw [r1.2 12 (by decide) (by decide), k12] at w; omega⟩
        refine kX12_matched (d := d + 1) hm14 hnb (by rw [r1.2 9 (by decide) (by decide)]; exact k9) (by rw [r1.2 12 (by decide) (by decide)]; exact k12) (fun g5 t1 t2 t3 => ?_)
        have x81 : am_st g5 59 50 (siz nm (g5 83) : Nat) 81 = g3 81 := by rw [st_ne (by decide), t1 81 (by decide)]
        have x83 : am_st g5 59 50 (siz nm (g5 83) : Nat) 83 = g5 83 := st_ne (by decide)
        have eE : Ew (am_st g5 59 50 (siz nm (g5 83) : Nat)) nb (-1) 0 = Ew g3 nb (-1) 0 := by unfold Ew Eg; rw [x81]
        refine H k _ hk ((r1.tr (Fm.of t1 (by decide))).st59 (by decide)) (fun b hb m => ?_) (fun b => ?_) ?_ ?_ ?_
        · rw [x81]; exact r5 b hb m
        · rw [st_nj (by decide), t1 59 (by decide), r3]; exact q4 b
        · rw [eE, x83]; exact t2
        · rw [eE, x83]; exact t3
        · rw [st_at, x83]
