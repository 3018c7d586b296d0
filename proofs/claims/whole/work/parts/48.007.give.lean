/-! giveMan: one body is given a man -/
theorem kBit {L : Nat} {xs : Nat → Int} {P : Nat → List am_V → am_H → am_K → Prop} {d : Nat} {h : am_H} {K : am_K} {x : Int} {k : Nat} (hk : k < 32) (H0 : bt x k = false → K (0, 0) h) (H1 : bt x k = true → K (0, 1) h) : am_C true L xs P (d + 1) 135 [(0, x), (0, (k : Int))] h K := by
  refine kX11_hasBit (by omega) (fun g => H0 ?_) (fun g => H1 ?_)
  · rw [am_bit_bn (by omega)] at g; simpa using g
  · rw [am_bit_bn (by omega)] at g; exact g
/-- who may be whom, by the class's row -/
def Ey (h : am_H) (b m : Nat) : Prop := bt (h 46 b) m = true
/-- men and bodies of one matching; man x is about to be taken -/
def CM (E : Nat → Nat → Prop) (nm : Nat) (f mo : Nat → Int) (x : Int) : Prop :=
  (∀ b : Nat, b < 10 → mo b = -1 ∨ (0 ≤ mo b ∧ mo b < nm ∧ ¬ mo b = x ∧ f (mo b).toNat = b ∧ E b (mo b).toNat)) ∧
  (∀ m : Nat, m < nm → ¬ (m : Int) = x → f m = -1 ∨ (0 ≤ f m ∧ f m < 10 ∧ mo (f m).toNat = m))
/-- taking a man: what is left of the consistency -/
theorem CM_take {E : Nat → Nat → Prop} {nm : Nat} {f mo : Nat → Int} {m c : Nat} {x0 : Int} (hc : c < 10) (hm : m < nm) (hE : E c m) (hx0 : mo c = x0) (hmx : ¬ (m : Int) = x0) (h : CM E nm f mo m) : CM E nm (fun j => if j = m then (c : Int) else f j) (fun j => if j = c then (m : Int) else mo j) x0 := by
  refine ⟨fun y hy => ?_, fun z hz hzx => ?_⟩
  · by_cases hyc : y = c
    · subst hyc
      simp only [if_true]
      refine Or.inr ⟨by omega, by omega, hmx, ?_, ?_⟩
      · rw [Int.toNat_natCast]; simp
      · rw [Int.toNat_natCast]; exact hE
    · simp only [if_neg hyc]
      obtain h1 | ⟨h1, h2, h3, h4, h5⟩ := h.1 y hy
      · exact Or.inl h1
      · refine Or.inr ⟨h1, h2, fun e => ?_, ?_, h5⟩
        · obtain g1 | ⟨g1, g2, g3, g4, g5⟩ := h.1 c hc
          · omega
          · rw [e, ← hx0, g4] at h4; omega
        · rw [if_neg (by omega)]; exact h4
  · by_cases hzm : z = m
    · subst hzm
      simp only [if_true]
      refine Or.inr ⟨by omega, by omega, ?_⟩
      rw [Int.toNat_natCast]; simp
    · simp only [if_neg hzm]
      obtain h1 | ⟨h1, h2, h3⟩ := h.2 z hz (by omega)
      · exact Or.inl h1
      · refine Or.inr ⟨h1, h2, ?_⟩
        rw [if_neg (fun e => hzx (by rw [← h3, e, hx0]))]
        exact h3
/-- a set of men whose bodies have no other men -/
def Cl (E : Nat → Nat → Prop) (nm : Nat) (f : Nat → Int) (D : Nat → Prop) : Prop := ∀ m, m < nm → D m → ¬ f m = -1 ∧ ∀ m', m' < nm → E (f m).toNat m' → D m'
def GF (nm : Nat) (b : Int) (h h' : am_H) : Prop :=
  (∀ c, ¬ c = 44 → h' c = h c) ∧ (∀ j, ¬ j = 9 → h' 44 j = h 44 j) ∧ (∀ m, m < nm → bt (h 44 9) m = true → bt (h' 44 9) m = true) ∧ (∀ m, m < nm → Ey h b.toNat m → bt (h' 44 9) m = true) ∧ (∀ m, m < nm → bt (h' 44 9) m = true → bt (h 44 9) m = true ∨ (¬ h 50 m = -1 ∧ ∀ m', m' < nm → Ey h (h 50 m).toNat m' → bt (h' 44 9) m' = true))
def GS (nm : Nat) (b : Int) (h h' : am_H) : Prop :=
  Fr [44, 49, 50] h h' ∧ (∀ j, ¬ j = 9 → h' 44 j = h 44 j) ∧ CM (Ey h) nm (h' 50) (h' 49) (h 49 b.toNat) ∧ ¬ h' 49 b.toNat = -1 ∧ (∀ y : Nat, y < 10 → ¬ (y : Int) = b → (h 49 y = -1 → h' 49 y = -1) ∧ (¬ h 49 y = -1 → ¬ h' 49 y = -1) ∧ (¬ h 49 y = -1 → bt (h 44 9) (h 49 y).toNat = true → h' 49 y = h 49 y)) ∧ (∀ D : Nat → Prop, Cl (Ey h) nm (h 50) D → (¬ ∀ m, m < nm → Ey h b.toNat m → D m) ∧ (∀ m, m < nm → D m → h' 50 m = h 50 m))
theorem CM_few {E : Nat → Nat → Prop} {nm : Nat} {f mo : Nat → Int} {s : Nat} (hs : s < 10) (h : CM E nm f mo (-1)) (hu : mo s = -1) (p : Nat → Prop) : cnt (fun m => p m ∧ ¬ f m = -1) nm ≤ 9 := by
  have h1 : cnt (fun m => p m ∧ ¬ f m = -1) nm ≤ cnt (fun b => ¬ b = s) 10 := by
    refine cnt_inj (f := fun m => (f m).toNat) (fun m hm hp => ?_) (fun i j hi hj hp hq he => ?_)
    · obtain h1 | ⟨h1, h2, h3⟩ := h.2 m hm (by omega)
      · exact absurd h1 hp.2
      · refine ⟨by show (f m).toNat < 10; omega, fun e => ?_⟩
        have e' : (f m).toNat = s := e
        rw [e', hu] at h3; omega
    · obtain h1 | ⟨h1, h2, h3⟩ := h.2 i hi (by omega)
      · exact absurd h1 hp.2
      · obtain h4 | ⟨h4, h5, h6⟩ := h.2 j hj (by omega)
        · exact absurd h4 hq.2
        · have he' : (f i).toNat = (f j).toNat := he
          rw [he', h6] at h3; omega
  have h2 := cnt_erase (p := fun _ => True) hs trivial
  have h3 := cnt_bnd (fun _ => True) 10
  have h4 : cnt (fun i => True ∧ ¬ i = s) 10 = cnt (fun b => ¬ b = s) 10 := cnt_congr (fun i _ => ⟨fun z => z.2, fun z => ⟨trivial, z⟩⟩)
  omega
theorem kX4_giveMan {L : Nat} {xs : Nat → Int} {P : Nat → List am_V → am_H → am_K → Prop} {d : Nat} {nm s : Nat} (hnm : nm ≤ 14) (hs : s < 10) : ∀ (n : Nat) (h : am_H) (K : am_K) (b dep : Int), dep + n = 10 → 0 ≤ dep → 0 ≤ b → b < 10 → CM (Ey h) nm (h 50) (h 49) (-1) → h 49 s = -1 → dep ≤ cnt (fun m => bt (h 44 9) m = true ∧ ¬ h 50 m = -1) nm → (h 49 b.toNat = -1 ∨ bt (h 44 9) (h 49 b.toNat).toNat = true) → (∀ h', GF nm b h h' → K (0, 0) h') → (∀ h', GS nm b h h' → K (0, 1) h') → am_C true L xs P (d + n + 2) 47 [(2, 44), (0, b), (0, (nm : Int)), (0, dep)] h K := by
  intro n
  induction n with
  | zero =>
    intro h K b dep hd _ _ _ hCM hu hcnt
    have := CM_few hs hCM hu (fun m => bt (h 44 9) m = true)
    omega
  | succ n ih =>
    intro h K b dep hd hd0 hb0 hb1 hCM hu hcnt hmb H0 H1
    refine eX4_giveMan (d := d + n + 2) (bX4_giveMan_0 ?_)
    -- the loop: k men left from i on, the heap is g
    have main : ∀ (k i : Nat) (g : am_H), i + k = nm → (∀ c, ¬ c = 44 → g c = h c) → (∀ j, ¬ j = 9 → g 44 j = h 44 j) → (∀ m, m < nm → bt (h 44 9) m = true → bt (g 44 9) m = true) → (∀ m, m < i → Ey h b.toNat m → bt (g 44 9) m = true) → (∀ m, m < nm → bt (g 44 9) m = true → bt (h 44 9) m = true ∨ (¬ h 50 m = -1 ∧ ∀ m', m' < nm → Ey h (h 50 m).toNat m' → bt (g 44 9) m' = true)) → tX4_giveMan (h 0 0 + (0 : Nat)) L xs (am_C true L xs P (d + n + 2)) K 3 [(2, 44), (0, b), (0, (nm : Int)), (0, dep), (0, (i : Int))] [] g := by
      intro k
      induction k with
      | zero =>
        intro i g hi e1 e2 e3 e4 e5
        refine bX4_giveMan_3 ⟨fun g1 => by omega, fun _ => ⟨fun _ => bX4_giveMan_102 ⟨by decide, H0 g ⟨e1, e2, e3, fun m hm => e4 m (by omega), e5⟩⟩, fun g1 => by omega⟩⟩
      | succ k ihk =>
        intro i g hi e1 e2 e3 e4 e5
        have next : ∀ g' : am_H, (∀ c, ¬ c = 44 → g' c = h c) → (∀ j, ¬ j = 9 → g' 44 j = h 44 j) → (∀ m, m < nm → bt (h 44 9) m = true → bt (g' 44 9) m = true) → (∀ m, m < i + 1 → Ey h b.toNat m → bt (g' 44 9) m = true) → (∀ m, m < nm → bt (g' 44 9) m = true → bt (h 44 9) m = true ∨ (¬ h 50 m = -1 ∧ ∀ m', m' < nm → Ey h (h 50 m).toNat m' → bt (g' 44 9) m' = true)) → tX4_giveMan (h 0 0 + (0 : Nat)) L xs (am_C true L xs P (d + n + 2)) K 96 [(2, 44), (0, b), (0, (nm : Int)), (0, dep), (0, (i : Int))] [] g' := by
          intro g' q1 q2 q3 q4 q5
          exact bX4_giveMan_96 ⟨by omega, ihk (i + 1) g' (by omega) q1 q2 q3 q4 q5⟩
        refine bX4_giveMan_3 ⟨fun g1 => by omega, fun _ => ⟨fun g1 => by omega, fun _ => ⟨by omega, ?_⟩⟩⟩
        have e46 : g 46 = h 46 := e1 46 (by decide)
        have e49 : g 49 = h 49 := e1 49 (by decide)
        have e50 : g 50 = h 50 := e1 50 (by decide)
        refine kBit (d := d + n + 1) (k := i) (by omega) (fun gb => ?_) (fun gb => ?_)
        · refine ⟨fun _ => ?_, fun z => absurd rfl z⟩
          refine next g e1 e2 e3 (fun m hm he => ?_) e5
          by_cases hmi : m < i
          · exact e4 m hmi he
          · have : m = i := by omega
            subst this
            rw [bt_and, bt_xor, bt_m1 (by omega), e46] at gb
            unfold Ey at he
            rw [he] at gb
            simpa using gb
        · refine ⟨fun z => absurd z (by decide), fun _ => ⟨⟨by omega, by omega, by omega, am_p2 (by omega) (by omega)⟩, ⟨by omega, ?_⟩⟩⟩
          rw [bt_and, bt_xor, bt_m1 (by omega), e46] at gb
          simp only [Int.toNat_natCast]
          have gE : Ey h b.toNat i := by
            unfold Ey
            cases hh : bt (h 46 b.toNat) i with
            | true => rfl
            | false => rw [hh] at gb; simp at gb
          have gT : bt (g 44 9) i = false := by
            cases hh : bt (g 44 9) i with
            | false => rfl
            | true => rw [hh] at gb; simp at gb
          have hmx : ¬ (i : Int) = h 49 b.toNat := by
            intro e
            rcases hmb with z | z
            · omega
            · have := e3 i (by omega) (by rw [← e, Int.toNat_natCast] at z; exact z)
              rw [gT] at this; exact absurd this (by decide)
          -- the new row of tried ones
          have tb : ∀ m, bt (am_or (g 44 9) (1 * 2 ^ i)) m = (bt (g 44 9) m || decide (m = i)) := fun m => by rw [bt_or, bt_p2' m (by omega)]
          have u1 : ∀ c, ¬ c = 44 → am_st g 44 9 (am_or (g 44 9) (1 * 2 ^ i)) c = h c := fun c hc => by rw [st_ne hc, e1 c hc]
          have u2 : ∀ j, ¬ j = 9 → am_st g 44 9 (am_or (g 44 9) (1 * 2 ^ i)) 44 j = h 44 j := fun j hj => by rw [st_nj hj, e2 j hj]
          have u3 : am_st g 44 9 (am_or (g 44 9) (1 * 2 ^ i)) 44 9 = am_or (g 44 9) (1 * 2 ^ i) := st_at
          refine ⟨fun gz => ?_, fun gz => ⟨by omega, ⟨by omega, ?_⟩⟩⟩
          · -- nobody has him
            refine bX4_giveMan_78 ⟨by omega, by omega, by decide, H1 _ ?_⟩
            simp only [Int.toNat_natCast]
            rw [e50] at gz
            have hCM' : CM (Ey h) nm (h 50) (h 49) i := by
              refine ⟨fun y hy => ?_, fun z hz hzx => hCM.2 z hz (by omega)⟩
              obtain h1 | ⟨h1, h2, h3, h4, h5⟩ := hCM.1 y hy
              · exact Or.inl h1
              · exact Or.inr ⟨h1, h2, fun e => by rw [e, Int.toNat_natCast, gz] at h4; omega, h4, h5⟩
            have hT := CM_take (c := b.toNat) (x0 := h 49 b.toNat) (by omega) (by omega : i < nm) gE rfl hmx hCM'
            rw [show ((b.toNat : Nat) : Int) = b by omega] at hT
            have v50 : am_st (am_st (am_st g 44 9 (am_or (g 44 9) (1 * 2 ^ i))) 50 i b) 49 b.toNat i 50 = fun j => if j = i then b else h 50 j := by
              rw [st_ne (by decide)]; funext j; rw [st_ap, u1 50 (by decide)]
            have v49 : am_st (am_st (am_st g 44 9 (am_or (g 44 9) (1 * 2 ^ i))) 50 i b) 49 b.toNat i 49 = fun j => if j = b.toNat then (i : Int) else h 49 j := by
              funext j; rw [st_ap, st_ne (by decide), u1 49 (by decide)]
            refine ⟨?_, ?_, ?_, ?_, ?_, ?_⟩
            · intro c hc
              have : ¬ c = 44 ∧ ¬ c = 49 ∧ ¬ c = 50 := by simpa using hc
              rw [st_ne this.2.1, st_ne this.2.2, u1 c this.1]
            · intro j hj
              rw [st_ne (by decide), st_ne (by decide), u2 j hj]
            · rw [v50, v49]; exact hT
            · rw [v49]; simp only [if_true]; omega
            · intro y hy hyb
              rw [v49]
              have : ¬ y = b.toNat := by omega
              simp only [if_neg this]
              exact ⟨fun z => z, fun z => z, fun _ _ => trivial⟩
            · intro D hD
              have hDi : ¬ D i := fun z => (hD i (by omega) z).1 gz
              refine ⟨fun z => hDi (z i (by omega) gE), fun m hm hDm => ?_⟩
              rw [v50]
              simp only [if_neg (fun e : m = i => hDi (e ▸ hDm))]
          · -- who has him is moved
            rw [e50] at gz ⊢
            obtain h1 | ⟨hk0, hk1, hk2⟩ := hCM.2 i (by omega) (by omega)
            · exact absurd h1 gz
            refine ih _ _ _ _ (by omega) (by omega) hk0 hk1 ?_ ?_ ?_ ?_ (fun h' hF => ?_) (fun h' hS => ?_)
            · have x1 : Ey (am_st g 44 9 (am_or (g 44 9) (1 * 2 ^ i))) = Ey h := by unfold Ey; rw [u1 46 (by decide)]
              rw [x1, u1 50 (by decide), u1 49 (by decide)]; exact hCM
            · rw [u1 49 (by decide)]; exact hu
            · rw [u3, u1 50 (by decide)]
              have c1 : cnt (fun m => bt (h 44 9) m = true ∧ ¬ h 50 m = -1) nm ≤ cnt (fun m => (bt (am_or (g 44 9) (1 * 2 ^ i)) m = true ∧ ¬ h 50 m = -1) ∧ ¬ m = i) nm := by
                refine cnt_le (fun m hm hp => ⟨⟨?_, hp.2⟩, fun e => ?_⟩)
                · rw [tb, e3 m hm hp.1]; rfl
                · have := e3 m hm hp.1
                  rw [e, gT] at this; exact absurd this (by decide)
              have c2 := cnt_erase (p := fun m => bt (am_or (g 44 9) (1 * 2 ^ i)) m = true ∧ ¬ h 50 m = -1) (by omega : i < nm) ⟨by rw [tb]; simp, gz⟩
              omega
            · right
              rw [u3, u1 49 (by decide), hk2, Int.toNat_natCast, tb]; simp
            · -- it failed: on
              obtain ⟨f1, f2, f3, f4, f5⟩ := hF
              have x1 : Ey (am_st g 44 9 (am_or (g 44 9) (1 * 2 ^ i))) = Ey h := by unfold Ey; rw [u1 46 (by decide)]
              rw [u3] at f3 f5
              rw [x1] at f4 f5
              rw [u1 50 (by decide)] at f5
              refine ⟨fun _ => ?_, fun z => absurd rfl z⟩
              refine next h' (fun c hc => by rw [f1 c hc, u1 c hc]) (fun j hj => by rw [f2 j hj, u2 j hj]) (fun m hm ht => f3 m hm (by rw [tb, e3 m hm ht]; rfl)) (fun m hm he => ?_) (fun m hm ht => ?_)
              · by_cases hmi : m < i
                · exact f3 m (by omega) (by rw [tb, e4 m hmi he]; rfl)
                · have : m = i := by omega
                  subst this
                  exact f3 m (by omega) (by rw [tb]; simp)
              · rcases f5 m hm ht with z | z
                · rw [tb] at z
                  by_cases hmi : m = i
                  · subst hmi
                    exact Or.inr ⟨gz, fun m' hm' he => f4 m' hm' he⟩
                  · simp only [hmi, decide_false, Bool.or_false] at z
                    rcases e5 m hm z with z | z
                    · exact Or.inl z
                    · exact Or.inr ⟨z.1, fun m' hm' he => f3 m' hm' (by rw [tb, z.2 m' hm' he]; rfl)⟩
                · exact Or.inr z
            · -- it went: he is taken
              refine ⟨fun z => absurd z (by decide), fun _ => ?_⟩
              have x1 : Ey (am_st g 44 9 (am_or (g 44 9) (1 * 2 ^ i))) = Ey h := by unfold Ey; rw [u1 46 (by decide)]
              obtain ⟨s1, s2, s3, s4, s5, s6⟩ := hS
              rw [x1] at s3 s6
              rw [u1 49 (by decide)] at s3 s5
              rw [u1 50 (by decide)] at s6
              rw [u3] at s5
              rw [hk2] at s3
              have hne : ¬ ((b.toNat : Nat) : Int) = h 50 i := by
                intro e
                apply hmx
                rw [← hk2, ← e, Int.toNat_natCast]
              have hmb' : h' 49 b.toNat = h 49 b.toNat := by
                rcases hmb with z | z
                · rw [z]; exact (s5 b.toNat (by omega) hne).1 z
                · by_cases hz : h 49 b.toNat = -1
                  · rw [hz]; exact (s5 b.toNat (by omega) hne).1 hz
                  · refine (s5 b.toNat (by omega) hne).2.2 hz ?_
                    obtain w | w := hCM.1 b.toNat (by omega)
                    · exact absurd w hz
                    · rw [tb, e3 _ (by omega) z]; rfl
              refine bX4_giveMan_78 ⟨by omega, by omega, by decide, H1 _ ?_⟩
              simp only [Int.toNat_natCast]
              have hT := CM_take (c := b.toNat) (x0 := h 49 b.toNat) (by omega) (by omega : i < nm) gE hmb' hmx s3
              rw [show ((b.toNat : Nat) : Int) = b by omega] at hT
              have v50 : am_st (am_st h' 50 i b) 49 b.toNat i 50 = fun j => if j = i then b else h' 50 j := by
                rw [st_ne (by decide)]; funext j; rw [st_ap]
              have v49 : am_st (am_st h' 50 i b) 49 b.toNat i 49 = fun j => if j = b.toNat then (i : Int) else h' 49 j := by
                funext j; rw [st_ap, st_ne (by decide)]
              refine ⟨?_, ?_, ?_, ?_, ?_, ?_⟩
              · intro c hc
                have : ¬ c = 44 ∧ ¬ c = 49 ∧ ¬ c = 50 := by simpa using hc
                rw [st_ne this.2.1, st_ne this.2.2, s1 c hc, u1 c this.1]
              · intro j hj
                rw [st_ne (by decide), st_ne (by decide), s2 j hj, u2 j hj]
              · rw [v50, v49]; exact hT
              · rw [v49]; simp only [if_true]; omega
              · intro y hy hyb
                rw [v49]
                have hyb' : ¬ y = b.toNat := by omega
                simp only [if_neg hyb']
                by_cases hyi : (y : Int) = h 50 i
                · have hy2 : h 49 y = i := by rw [← hk2, ← hyi, Int.toNat_natCast]
                  refine ⟨fun z => by omega, fun _ => ?_, fun _ z => ?_⟩
                  · have : (h 50 i).toNat = y := by omega
                    rw [this] at s4; exact s4
                  · rw [hy2, Int.toNat_natCast] at z
                    have := e3 i (by omega) z
                    rw [gT] at this; exact absurd this (by decide)
                · refine ⟨(s5 y hy hyi).1, (s5 y hy hyi).2.1, fun z1 z2 => (s5 y hy hyi).2.2 z1 ?_⟩
                  obtain w | w := hCM.1 y hy
                  · exact absurd w z1
                  · rw [tb, e3 _ (by omega) z2]; rfl
              · intro D hD
                obtain ⟨r1, r2⟩ := s6 D hD
                have hDi : ¬ D i := fun z => r1 (hD i (by omega) z).2
                refine ⟨fun z => hDi (z i (by omega) gE), fun m hm hDm => ?_⟩
                rw [v50]
                simp only [if_neg (fun e : m = i => hDi (e ▸ hDm))]
                exact r2 m hm hDm
    exact main nm 0 h (by omega) (fun _ _ => rfl) (fun _ _ => rfl) (fun _ _ z => z) (fun m hm => by omega) (fun _ _ z => Or.inl z)
