/-! grows, matched -/
def BI (E : Nat → Nat → Prop) (okb : Nat → Prop) (nm : Nat) (st : Int) (h g : am_H) (rk : Nat → Nat) (i l : Nat) : Prop := (Fr [84, 85] h g) ∧ (g 85 0 = st) ∧ (1 ≤ l) ∧ (l = 1 + cnt (fun m => ¬ g 84 m = -1) nm) ∧ (∀ m, m < nm → ¬ g 84 m = -1 → ¬ h 83 m = -1 ∧ 0 ≤ g 84 m ∧ g 84 m < 10 ∧ E (g 84 m).toNat m ∧ ¬ h 83 m = g 84 m ∧ rk m < i ∧ g 85 (rk m) = g 84 m ∧ ∃ j, j < l ∧ g 85 j = h 83 m) ∧ (∀ j, 1 ≤ j → j < l → ∃ m, m < nm ∧ ¬ g 84 m = -1 ∧ h 83 m = g 85 j ∧ rk m < j) ∧ (∀ j, j < l → 0 ≤ g 85 j ∧ g 85 j < 10 ∧ okb (g 85 j).toNat)
theorem BI.fr {E : Nat → Nat → Prop} {okb : Nat → Prop} {nm : Nat} {st : Int} {h g : am_H} {rk : Nat → Nat} {i l : Nat} (s_ : BI E okb nm st h g rk i l) : Fr [84, 85] h g := s_.1
theorem BI.q0 {E : Nat → Nat → Prop} {okb : Nat → Prop} {nm : Nat} {st : Int} {h g : am_H} {rk : Nat → Nat} {i l : Nat} (s_ : BI E okb nm st h g rk i l) : g 85 0 = st := s_.2.1
theorem BI.l1 {E : Nat → Nat → Prop} {okb : Nat → Prop} {nm : Nat} {st : Int} {h g : am_H} {rk : Nat → Nat} {i l : Nat} (s_ : BI E okb nm st h g rk i l) : 1 ≤ l := s_.2.2.1
theorem BI.lc {E : Nat → Nat → Prop} {okb : Nat → Prop} {nm : Nat} {st : Int} {h g : am_H} {rk : Nat → Nat} {i l : Nat} (s_ : BI E okb nm st h g rk i l) : l = 1 + cnt (fun m => ¬ g 84 m = -1) nm := s_.2.2.2.1
theorem BI.vis {E : Nat → Nat → Prop} {okb : Nat → Prop} {nm : Nat} {st : Int} {h g : am_H} {rk : Nat → Nat} {i l : Nat} (s_ : BI E okb nm st h g rk i l) : ∀ m, m < nm → ¬ g 84 m = -1 → ¬ h 83 m = -1 ∧ 0 ≤ g 84 m ∧ g 84 m < 10 ∧ E (g 84 m).toNat m ∧ ¬ h 83 m = g 84 m ∧ rk m < i ∧ g 85 (rk m) = g 84 m ∧ ∃ j, j < l ∧ g 85 j = h 83 m := s_.2.2.2.2.1
theorem BI.par {E : Nat → Nat → Prop} {okb : Nat → Prop} {nm : Nat} {st : Int} {h g : am_H} {rk : Nat → Nat} {i l : Nat} (s_ : BI E okb nm st h g rk i l) : ∀ j, 1 ≤ j → j < l → ∃ m, m < nm ∧ ¬ g 84 m = -1 ∧ h 83 m = g 85 j ∧ rk m < j := s_.2.2.2.2.2.1
theorem BI.qok {E : Nat → Nat → Prop} {okb : Nat → Prop} {nm : Nat} {st : Int} {h g : am_H} {rk : Nat → Nat} {i l : Nat} (s_ : BI E okb nm st h g rk i l) : ∀ j, j < l → 0 ≤ g 85 j ∧ g 85 j < 10 ∧ okb (g 85 j).toNat := s_.2.2.2.2.2.2
theorem cnt_few {E : Nat → Nat → Prop} {nm : Nat} {st : Int} {f : Nat → Int} {p : Nat → Prop} (hst : 0 ≤ st ∧ st < 10) (hf : Mt E 10 nm f) (hu : ∀ m, m < nm → ¬ f m = st) (hp : ∀ m, m < nm → p m → ¬ f m = -1) : cnt p nm ≤ 9 := by
  have h1 : cnt p nm ≤ cnt (fun b => ¬ b = st.toNat) 10 := by
    refine cnt_inj (f := fun m => (f m).toNat) (fun m hm hpm => ?_) (fun i j hi hj hpi hpj he => ?_)
    · have := mt_in hf hm (hp m hm hpm)
      have hum := hu m hm
      exact ⟨by show (f m).toNat < 10; omega, by show ¬ (f m).toNat = st.toNat; omega⟩
    · have h1 := mt_in hf hi (hp i hi hpi)
      have h2 := mt_in hf hj (hp j hj hpj)
      have he' : (f i).toNat = (f j).toNat := he
      exact hf.2 i j hi hj (by omega) (hp i hi hpi)
  have h2 := cnt_erase (p := fun _ => True) (by omega : st.toNat < 10) trivial
  have h3 := cnt_bnd (fun _ => True) 10
  have h4 : cnt (fun i => True ∧ ¬ i = st.toNat) 10 = cnt (fun b => ¬ b = st.toNat) 10 := cnt_congr (fun i _ => ⟨fun z => z.2, fun z => ⟨trivial, z⟩⟩)
  omega
def GV (E : Nat → Nat → Prop) (nm : Nat) (st : Int) (f : Nat → Int) : Prop := ∃ V : Nat → Prop, Cl E nm f V ∧ ∀ m, m < nm → E st.toNat m → V m
theorem kX12_grows {L : Nat} {xs : Nat → Int} {P : Nat → List am_V → am_H → am_K → Prop} {d : Nat} {h : am_H} {K : am_K} {nm : Nat} {E : Nat → Nat → Prop} {okb : Nat → Prop} {st gone : Int} (hnm : nm ≤ 14) (h9 : h 59 9 = nm) (hst : 0 ≤ st ∧ st < 10) (hso : okb st.toNat) (hE : ∀ b m, b < 10 → m < nm → okb b → (E b m ↔ Eg h gone b m)) (hf : Mt E 10 nm (h 83)) (hfo : ∀ m, m < nm → ¬ h 83 m = -1 → okb (h 83 m).toNat) (hu : ∀ m, m < nm → ¬ h 83 m = st) (H0 : ∀ h', Fr [84, 85] h h' → GV E nm st (h 83) → K (0, 0) h') (H1 : ∀ h', Fr [83, 84, 85] h h' → TE E nm st (h 83) (h' 83) → K (0, 1) h') : am_C true L xs P (d + 2) 189 [(2, 59), (0, st), (0, gone)] h K := by
  refine eX12_grows (bX12_grows_0 ?_)
  refine upto (σ := am_H) (N := 14) (I := fun i g => Fr [84, 85] h g ∧ ∀ m, m < i → g 84 m = -1) (G := fun i g => tX12_grows (h 0 0 + (0 : Nat)) L xs (am_C true L xs P (d + 1)) K 2 [(2, 59), (0, st), (0, gone), (0, (i : Int)), (9, 0), (9, 0), (9, 0)] [] g) ?_ ?_ 14 0 h (by omega) ⟨Fr.rf, fun m hm => by omega⟩
  · intro i g hi ⟨e1, e2⟩ ih
    refine bX12_grows_2 ⟨fun z => by omega, fun _ => ⟨by omega, by omega, ih _ ⟨e1.st (by decide), fun m hm => ?_⟩⟩⟩
    rw [Int.toNat_natCast, st_ap]
    split
    · rfl
    · exact e2 m (by omega)
  · intro g ⟨e1, e2⟩
    refine bX12_grows_2 ⟨fun _ => bX12_grows_21 ⟨by omega, ?_⟩, fun z => by omega⟩
    -- the search
    have outer : ∀ (k i l : Nat) (g : am_H) (rk : Nat → Nat) (v5 v6 : am_V), i + k = 11 → i ≤ l → BI E okb nm st h g rk i l → (∀ j, j < i → ∀ m, m < nm → E (g 85 j).toNat m → ¬ g 84 m = -1) → tX12_grows (h 0 0 + (0 : Nat)) L xs (am_C true L xs P (d + 1)) K 33 [(2, 59), (0, st), (0, gone), (0, (i : Int)), (0, (l : Int)), v5, v6] [] g := by
      intro k
      induction k with
      | zero =>
        intro i l g rk v5 v6 hi hil hI _
        have := cnt_few hst hf hu (p := fun m => ¬ g 84 m = -1) (fun m hm hp => (hI.vis m hm hp).1)
        have := hI.lc
        omega
      | succ k ih =>
        intro i l g rk v5 v6 hi hil hI hP
        have few := cnt_few hst hf hu (p := fun m => ¬ g 84 m = -1) (fun m hm hp => (hI.vis m hm hp).1)
        have hlc := hI.lc
        by_cases hlt : i < l
        · refine bX12_grows_33 ⟨fun z => by omega, fun _ => ⟨by omega, by omega, ?_⟩⟩
          rw [Int.toNat_natCast, show (i : Int) + 1 = ((i + 1 : Nat) : Int) by omega]
          obtain ⟨qb0, qb1, qbo⟩ := hI.qok i hlt
          generalize hbdef : g 85 i = b at qb0 qb1 qbo
          -- the men
          refine upto (σ := Nat × am_H × (Nat → Nat)) (N := nm) (I := fun m s => i < s.1 ∧ BI E okb nm st h s.2.1 s.2.2 (i + 1) s.1 ∧ (∀ j, j ≤ i → s.2.1 85 j = g 85 j) ∧ (∀ j, j < i → ∀ m, m < nm → E (s.2.1 85 j).toNat m → ¬ s.2.1 84 m = -1) ∧ ∀ m', m' < m → E b.toNat m' → ¬ s.2.1 84 m' = -1) (G := fun m s => tX12_grows (h 0 0 + (0 : Nat)) L xs (am_C true L xs P (d + 1)) K 53 [(2, 59), (0, st), (0, gone), (0, ((i + 1 : Nat) : Int)), (0, (s.1 : Int)), (0, b), (0, (m : Int))] [] s.2.1) ?_ ?_ nm 0 (l, g, rk) (by omega) ⟨hlt, ⟨hI.fr, hI.q0, hI.l1, hI.lc, fun m hm hv => by
            obtain ⟨a1, a2, a3, a4, a5, a6, a7, a8⟩ := hI.vis m hm hv
            exact ⟨a1, a2, a3, a4, a5, by show rk m < i + 1; omega, a7, a8⟩, hI.par, hI.qok⟩, fun _ _ => rfl, hP, fun m' hm' => by omega⟩
          · intro m ⟨l2, g2, rk2⟩ hm ⟨i1, i2, i3, i4, i5⟩ ihm
            dsimp only at i1 i2 i3 i4 i5 ⊢
            have x81 : g2 81 = h 81 := i2.fr 81 (by decide)
            have x83 : g2 83 = h 83 := i2.fr 83 (by decide)
            have x59 : g2 59 = h 59 := i2.fr 59 (by decide)
            have hEb : E b.toNat m ↔ Eg h gone b.toNat m := hE _ m (by omega) hm qbo
            have skip : (E b.toNat m → ¬ g2 84 m = -1) → tX12_grows (h 0 0 + (0 : Nat)) L xs (am_C true L xs P (d + 1)) K 141 [(2, 59), (0, st), (0, gone), (0, ((i + 1 : Nat) : Int)), (0, (l2 : Int)), (0, b), (0, (m : Int))] [] g2 := by
              intro hs
              refine bX12_grows_141 ⟨by omega, ihm (l2, g2, rk2) ⟨i1, i2, i3, i4, fun m' hm' he => ?_⟩⟩
              by_cases e : m' = m
              · subst e; exact hs he
              · exact i5 m' (by omega) he
            refine bX12_grows_53 ⟨fun z => by rw [x59, h9] at z; omega, fun _ => ⟨by omega, by omega, ?_⟩⟩
            rw [Int.toNat_natCast, x81]
            refine ⟨fun gz => skip (fun he => ?_), fun gz => ⟨by omega, ⟨fun gc => ?_, fun gc => skip (fun _ => gc)⟩⟩⟩
            · rw [bt_t0 (by omega)] at gz
              rw [hEb] at he
              exact absurd he gz
            · rw [bt_t0 (by omega)] at gz
              have he : E b.toNat m := hEb.mpr (Classical.not_not.mp gz)
              have gq : g2 85 i = b := by rw [i3 i (by omega)]; exact hbdef
              have hnb : ¬ h 83 m = b := by
                intro e
                by_cases hi0 : i = 0
                · subst hi0
                  rw [i2.q0] at gq
                  exact hu m hm (by rw [e, gq])
                · obtain ⟨m', r1, r2, r3, r4⟩ := i2.par i (by omega) i1
                  have : m = m' := hf.2 m m' hm r1 (by rw [e, r3, gq]) (by omega)
                  subst this
                  exact r2 gc
              -- the new rank
              have vk : ∀ z, z < nm → ¬ (am_st g2 84 m b) 84 z = -1 → z = m ∨ ¬ g2 84 z = -1 := by
                intro z hz hv
                by_cases e : z = m
                · exact Or.inl e
                · rw [st_nj e] at hv; exact Or.inr hv
              refine bX12_grows_95 ⟨by omega, by omega, ?_⟩
              rw [Int.toNat_natCast, x83]
              have few2 := cnt_few hst hf hu (p := fun m => ¬ g2 84 m = -1) (fun m hm hp => (i2.vis m hm hp).1)
              have hlc2 := i2.lc
              refine ⟨fun gf => ?_, fun gf => ?_⟩
              · -- he is matched: his body waits
                have few3 := cnt_few hst hf hu (p := fun z => ¬ am_st g2 84 m b 84 z = -1) (fun z hz hv => by
                  rcases vk z hz hv with e | e
                  · rw [e]; exact gf
                  · exact (i2.vis z hz e).1)
                have cn : cnt (fun z => ¬ am_st g2 84 m b 84 z = -1) nm = cnt (fun m => ¬ g2 84 m = -1) nm + 1 := by
                  rw [cnt_erase (p := fun z => ¬ am_st g2 84 m b 84 z = -1) hm (by rw [st_at]; omega)]
                  congr 1
                  refine cnt_congr (fun z hz => ?_)
                  by_cases e : z = m
                  · subst e; exact ⟨fun w => absurd rfl w.2, fun w => absurd gc w⟩
                  · rw [st_nj e]; exact ⟨fun w => w.1, fun w => ⟨w, e⟩⟩
                have hfm := mt_in hf hm gf
                refine bX12_grows_124 ⟨by omega, by omega, by omega, bX12_grows_141 ⟨by omega, ?_⟩⟩
                rw [Int.toNat_natCast, Int.toNat_natCast, st_ne (c := 84) (c' := 83) (by decide), x83, show (l2 : Int) + 1 = ((l2 + 1 : Nat) : Int) by omega]
                have y84 : am_st (am_st g2 84 m b) 85 l2 (h 83 m) 84 = am_st g2 84 m b 84 := st_ne (by decide)
                have y85 : ∀ j, am_st (am_st g2 84 m b) 85 l2 (h 83 m) 85 j = if j = l2 then h 83 m else g2 85 j := by
                  intro j; rw [st_ap, st_ne (by decide)]
                refine ihm (l2 + 1, am_st (am_st g2 84 m b) 85 l2 (h 83 m), fun z => if z = m then i else rk2 z) ⟨by show i < l2 + 1; omega, ⟨(i2.fr.st (by decide)).st (by decide), ?_, by show 1 ≤ l2 + 1; omega, ?_, ?_, ?_, ?_⟩, ?_, ?_, ?_⟩
                · dsimp only; rw [y85, if_neg (by omega)]; exact i2.q0
                · dsimp only; rw [y84, cn]; omega
                · intro z hz hv
                  dsimp only at hv ⊢
                  rw [y84] at hv ⊢
                  by_cases e : z = m
                  · subst e
                    rw [st_at]
                    refine ⟨gf, qb0, qb1, he, hnb, ?_, ?_, l2, by omega, ?_⟩
                    · rw [if_pos rfl]; omega
                    · rw [if_pos rfl, y85, if_neg (by omega)]; exact gq
                    · rw [y85, if_pos rfl]
                  · rw [st_nj e] at hv ⊢
                    obtain ⟨a1, a2, a3, a4, a5, a6, a7, j, a8, a9⟩ := i2.vis z hz hv
                    refine ⟨a1, a2, a3, a4, a5, ?_, ?_, j, by omega, ?_⟩
                    · rw [if_neg e]; exact a6
                    · rw [if_neg e, y85, if_neg (by omega)]; exact a7
                    · rw [y85, if_neg (by omega)]; exact a9
                · intro j h1 h2
                  dsimp only at h2 ⊢
                  rw [y85]
                  by_cases e : j = l2
                  · subst e
                    refine ⟨m, hm, ?_, ?_, ?_⟩
                    · rw [y84, st_at]; omega
                    · rw [if_pos rfl]
                    · rw [if_pos rfl]; omega
                  · rw [if_neg e]
                    obtain ⟨m', r1, r2, r3, r4⟩ := i2.par j h1 (by omega)
                    have hne : ¬ m' = m := fun e => r2 (e ▸ gc)
                    refine ⟨m', r1, ?_, r3, ?_⟩
                    · rw [y84, st_nj hne]; exact r2
                    · rw [if_neg hne]; exact r4
                · intro j hj
                  dsimp only at hj ⊢
                  rw [y85]
                  split
                  · exact ⟨hfm.1, hfm.2.1, hfo m hm gf⟩
                  · exact i2.qok j (by omega)
                · intro j hj
                  dsimp only
                  rw [y85, if_neg (by omega)]; exact i3 j hj
                · intro j hj z hz hez
                  dsimp only at hez ⊢
                  rw [y85, if_neg (by omega)] at hez
                  rw [y84, st_ap]
                  split
                  · omega
                  · exact i4 j hj z hz hez
                · intro z hz hez
                  dsimp only
                  rw [y84, st_ap]
                  split
                  · omega
                  · exact i5 z (by omega) hez
              · -- nobody has him: the way is turned
                have gf' := Classical.not_not.mp gf
                refine kX12_turn (d := d) (E := E) (rk := fun z => if z = m then i else rk2 z) hnm ?_ hst hm ?_ ?_ ?_ (fun h' f' t' => ⟨by decide, H1 h' ?_ ?_⟩)
                · rw [st_ne (by decide), x59]; exact h9
                · rw [st_at]; omega
                · rw [st_ne (by decide), x83]; exact gf'
                · rw [st_ne (h := g2) (c := 84) (c' := 83) (by decide), x83]
                  refine ⟨hf, hu, fun z hz hv => ?_, fun z hz hv hne => ?_⟩
                  · by_cases e : z = m
                    · subst e; rw [st_at]; exact ⟨qb0, qb1, he, hnb⟩
                    · rw [st_nj e] at hv ⊢
                      obtain ⟨a1, a2, a3, a4, a5, a6, a7, j, a8, a9⟩ := i2.vis z hz hv
                      exact ⟨a2, a3, a4, a5⟩
                  · have back : ∀ j, 1 ≤ j → j < l2 → ∃ m', m' < nm ∧ ¬ am_st g2 84 m b 84 m' = -1 ∧ h 83 m' = g2 85 j ∧ (if m' = m then i else rk2 m') < j := by
                      intro j h1 h2
                      obtain ⟨m', r1, r2, r3, r4⟩ := i2.par j h1 h2
                      have hne : ¬ m' = m := fun e => r2 (e ▸ gc)
                      exact ⟨m', r1, by rw [st_nj hne]; exact r2, r3, by rw [if_neg hne]; exact r4⟩
                    by_cases e : z = m
                    · subst e
                      rw [st_at] at hne ⊢
                      have hi0 : 1 ≤ i := by
                        apply Classical.byContradiction
                        intro hz
                        have : i = 0 := by omega
                        subst this
                        exact hne (by rw [← gq]; exact i2.q0)
                      obtain ⟨m', r1, r2, r3, r4⟩ := back i hi0 i1
                      exact ⟨m', r1, r2, by rw [r3, gq], by dsimp only; rw [if_pos rfl]; exact r4⟩
                    · rw [st_nj e] at hv hne ⊢
                      obtain ⟨a1, a2, a3, a4, a5, a6, a7, j, a8, a9⟩ := i2.vis z hz hv
                      have hr0 : 1 ≤ rk2 z := by
                        apply Classical.byContradiction
                        intro hz
                        have : rk2 z = 0 := by omega
                        rw [this, i2.q0] at a7
                        exact hne a7.symm
                      obtain ⟨m', r1, r2, r3, r4⟩ := back (rk2 z) hr0 (by omega)
                      exact ⟨m', r1, r2, by rw [r3, a7], by dsimp only; rw [if_neg e]; exact r4⟩
                · have a1 : Fr [83, 84, 85] h g2 := i2.fr.mono (by decide)
                  exact (a1.st (by decide)).tr (f'.mono (by decide))
                · rw [st_ne (h := g2) (c := 84) (c' := 83) (by decide), x83] at t'
                  exact t'
          · intro ⟨l2, g2, rk2⟩ ⟨i1, i2, i3, i4, i5⟩
            dsimp only at i1 i2 i3 i4 i5 ⊢
            have x59 : g2 59 = h 59 := i2.fr 59 (by decide)
            refine bX12_grows_53 ⟨fun _ => bX12_grows_147 (ih (i + 1) l2 g2 rk2 _ _ (by omega) (by omega) i2 (fun j hj m hm he => ?_)), fun z => by rw [x59, h9] at z; omega⟩
            by_cases e : j = i
            · subst e
              rw [i3 j (Nat.le_refl _), hbdef] at he
              exact i5 m hm he
            · exact i4 j (by omega) m hm he
        · refine bX12_grows_33 ⟨fun _ => bX12_grows_150 ⟨by decide, H0 g hI.fr ⟨fun m => ¬ g 84 m = -1, fun m hm hv => ?_, fun m hm he => ?_⟩⟩, fun z => by omega⟩
          · obtain ⟨a1, a2, a3, a4, a5, a6, a7, j, a8, a9⟩ := hI.vis m hm hv
            refine ⟨a1, fun m' hm' he => hP j (by omega) m' hm' ?_⟩
            rw [a9]; exact he
          · refine hP 0 (by have := hI.l1; omega) m hm ?_
            rw [hI.q0]; exact he
    have x84 : ∀ m, m < nm → am_st g 85 0 st 84 m = -1 := fun m hm => by rw [st_ne (by decide)]; exact e2 m (by omega)
    refine outer 11 0 1 (am_st g 85 0 st) (fun _ => 0) _ _ (by omega) (by omega) ⟨e1.st (by decide), st_at, by omega, ?_, ?_, ?_, ?_⟩ (fun j hj => by omega)
    · have : cnt (fun m => ¬ am_st g 85 0 st 84 m = -1) nm = cnt (fun _ => False) nm := cnt_congr (fun m hm => ⟨fun z => z (x84 m hm), fun z => z.elim⟩)
      have h0 : ∀ n, cnt (fun _ => False) n = 0 := by intro n; induction n with
        | zero => rfl
        | succ n ih => rw [cnt_neg (by simp)]; exact ih
      rw [this, h0]
    · intro m hm hv; exact absurd (x84 m hm) hv
    · intro j h1 h2; omega
    · intro j hj
      have : j = 0 := by omega
      subst this
      rw [st_at]; exact ⟨hst.1, hst.2, hso⟩
theorem siz_bodies {E : Nat → Nat → Prop} {nm : Nat} {f : Nat → Int} (hf : Mt E 10 nm f) : siz nm f = cnt (fun b => ∃ m, m < nm ∧ f m = (b : Nat)) 10 := by
  unfold siz
  apply Nat.le_antisymm
  · refine cnt_inj (f := fun m => (f m).toNat) (fun m hm hp => ?_) (fun i j hi hj hp hq he => ?_)
    · have := mt_in hf hm hp
      exact ⟨by show (f m).toNat < 10; omega, m, hm, by show f m = ((f m).toNat : Nat); omega⟩
    · have h1 := mt_in hf hi hp
      have h2 := mt_in hf hj hq
      have he' : (f i).toNat = (f j).toNat := he
      exact hf.2 i j hi hj (by omega) hp
  · refine cnt_inj (f := fun b => if h : ∃ m, m < nm ∧ f m = (b : Nat) then h.choose else 0) (fun b hb hc => ?_) (fun i j hi hj hp hq he => ?_)
    · show (if h : ∃ m, m < nm ∧ f m = (b : Nat) then h.choose else 0) < nm ∧ _
      rw [dif_pos hc]
      have h1 := hc.choose_spec
      exact ⟨h1.1, by omega⟩
    · have he' : (if h : ∃ m, m < nm ∧ f m = (i : Nat) then h.choose else 0) = (if h : ∃ m, m < nm ∧ f m = (j : Nat) then h.choose else 0) := he
      rw [dif_pos hp, dif_pos hq] at he'
      have h1 := hp.choose_spec
      have h2 := hq.choose_spec
      rw [← he', h1.2] at h2
      omega
/-- who may be whom, one body and some men left out -/
def Ew (h : am_H) (nb : Nat) (w gone : Int) (b m : Nat) : Prop := Eg h gone b m ∧ ¬ (b : Int) = w ∧ b < nb
theorem kX12_matched {L : Nat} {xs : Nat → Int} {P : Nat → List am_V → am_H → am_K → Prop} {d : Nat} {h : am_H} {K : am_K} {nb nm : Nat} {w gone : Int} (hnm : nm ≤ 14) (hnb : nb ≤ 10) (h9 : h 59 9 = nm) (h12 : h 59 12 = nb) (H : ∀ h', Fr [83, 84, 85] h h' → Mt (Ew h nb w gone) 10 nm (h' 83) → (∃ C, Cert (Ew h nb w gone) 10 nm (h' 83) C) → K (0, (siz nm (h' 83) : Nat)) h') : am_C true L xs P (d + 3) 188 [(2, 59), (0, w), (0, gone)] h K := by
  refine eX12_matched (bX12_matched_0 ?_)
  refine upto (σ := am_H) (N := 14) (I := fun i g => Fr [83, 84, 85] h g ∧ ∀ m, m < i → g 83 m = -1) (G := fun i g => tX12_matched (h 0 0 + (0 : Nat)) L xs (am_C true L xs P (d + 2)) K 2 [(2, 59), (0, w), (0, gone), (0, (i : Int)), (9, 0)] [] g) ?_ ?_ 14 0 h (by omega) ⟨Fr.rf, fun m hm => by omega⟩
  · intro i g hi ⟨e1, e2⟩ ih
    refine bX12_matched_2 ⟨fun z => by omega, fun _ => ⟨by omega, by omega, ih _ ⟨e1.st (by decide), fun m hm => ?_⟩⟩⟩
    rw [Int.toNat_natCast, st_ap]
    split
    · rfl
    · exact e2 m (by omega)
  · intro g ⟨e1, e2⟩
    refine bX12_matched_2 ⟨fun _ => bX12_matched_21 ?_, fun z => by omega⟩
    refine upto (σ := Int × am_H) (N := nb) (I := fun i s => Fr [83, 84, 85] h s.2 ∧ Mt (Ew h nb w gone) 10 nm (s.2 83) ∧ s.1 = (siz nm (s.2 83) : Nat) ∧ (∀ b : Nat, i ≤ b → ∀ m, m < nm → ¬ s.2 83 m = b) ∧ ∃ D, Cl (Ew h nb w gone) nm (s.2 83) D ∧ ∀ b : Nat, b < i → (∀ m, m < nm → ¬ s.2 83 m = b) → ∀ m, m < nm → Ew h nb w gone b m → D m) (G := fun i s => tX12_matched (h 0 0 + (0 : Nat)) L xs (am_C true L xs P (d + 2)) K 26 [(2, 59), (0, w), (0, gone), (0, s.1), (0, (i : Int))] [] s.2) ?_ ?_ nb 0 (0, g) (by omega) ⟨e1, ?_, ?_, ?_, ?_⟩
    · intro i ⟨r, g⟩ hi ⟨i1, i2, i3, i4, D, i5, i6⟩ ih
      dsimp only at i1 i2 i3 i4 i5 i6 ⊢
      have x59 : g 59 = h 59 := i1 59 (by decide)
      refine bX12_matched_26 ⟨fun z => by rw [x59, h12] at z; omega, fun _ => ⟨fun gz => ?_, fun gz => ?_⟩⟩
      · refine bX12_matched_54 ⟨by omega, ih (r, g) ⟨i1, i2, i3, fun b hb => i4 b (by omega), D, i5, fun b hb hub m hm he => ?_⟩⟩
        by_cases e : b = i
        · subst e; exact absurd gz he.2.1
        · exact i6 b (by omega) hub m hm he
      · have hsz : siz nm (g 83) ≤ 14 := Nat.le_trans (cnt_bnd _ _) hnm
        refine kX12_grows (d := d) (E := Ew h nb w gone) (okb := fun b => ¬ (b : Int) = w ∧ b < nb) hnm (by rw [x59]; exact h9) (by omega) (by rw [Int.toNat_natCast]; exact ⟨gz, hi⟩) (fun b m hb hm ho => ?_) i2 (fun m hm hn => ?_) (i4 i (Nat.le_refl _)) (fun h' f' gv => ?_) (fun h' f' te => ?_)
        · unfold Ew Eg
          rw [i1 81 (by decide)]
          exact ⟨fun z => z.1, fun z => ⟨z, ho⟩⟩
        · have := mt_in i2 hm hn
          exact this.2.2.2
        · obtain ⟨V, v1, v2⟩ := gv
          rw [Int.toNat_natCast] at v2
          have x83 : h' 83 = g 83 := f' 83 (by decide)
          refine ⟨fun _ => bX12_matched_54 ⟨by omega, ih (r, h') ⟨i1.tr (f'.mono (by decide)), ?_, ?_, ?_, fun m => D m ∨ V m, ?_, ?_⟩⟩, fun z => absurd rfl z⟩
          · dsimp only; rw [x83]; exact i2
          · dsimp only; rw [x83]; exact i3
          · dsimp only; rw [x83]; exact fun b hb => i4 b (by omega)
          · dsimp only; rw [x83]
            intro m hm hd
            rcases hd with hd | hd
            · exact ⟨(i5 m hm hd).1, fun m' hm' he => Or.inl ((i5 m hm hd).2 m' hm' he)⟩
            · exact ⟨(v1 m hm hd).1, fun m' hm' he => Or.inr ((v1 m hm hd).2 m' hm' he)⟩
          · dsimp only; rw [x83]
            intro b hb hub m hm he
            by_cases e : b = i
            · subst e; exact Or.inr (v2 m hm he)
            · exact Or.inl (i6 b (by omega) hub m hm he)
        · obtain ⟨t1, t2, t3⟩ := te
          have hs : siz nm (h' 83) = siz nm (g 83) + 1 := by
            rw [siz_bodies t1, siz_bodies i2]
            rw [cnt_erase (p := fun b => ∃ m, m < nm ∧ h' 83 m = (b : Nat)) (by omega : i < 10) ((t2 i (by omega)).mpr (Or.inr rfl))]
            congr 1
            refine cnt_congr (fun b hb => ?_)
            rw [t2 b (by omega)]
            constructor
            · rintro ⟨z | z, z2⟩
              · exact z
              · omega
            · intro z
              refine ⟨Or.inl z, fun e => ?_⟩
              obtain ⟨m, z1, z2⟩ := z
              exact i4 i (Nat.le_refl _) m z1 (by rw [z2, e])
          refine ⟨fun z => absurd z (by decide), fun _ => ⟨by omega, bX12_matched_54 ⟨by omega, ih (r + 1, h') ⟨i1.tr f', t1, ?_, ?_, D, ?_, ?_⟩⟩⟩⟩
          · dsimp only; rw [hs]; omega
          · intro b hb m hm he
            rcases (t2 b (by omega)).mp ⟨m, hm, he⟩ with ⟨z, z1, z2⟩ | z
            · exact i4 b (by omega) z z1 z2
            · omega
          · intro m hm hd
            dsimp only
            rw [t3 D i5 m hm hd]; exact i5 m hm hd
          · intro b hb hub m hm he
            dsimp only at hub
            have : ¬ b = i := fun e => by
              subst e
              obtain ⟨z, z1, z2⟩ := (t2 b (by omega)).mpr (Or.inr rfl)
              exact hub z z1 z2
            refine i6 b (by omega) (fun z hz hze => ?_) m hm he
            obtain ⟨y, y1, y2⟩ := (t2 b (by omega)).mpr (Or.inl ⟨z, hz, hze⟩)
            exact hub y y1 y2
    · intro ⟨r, g⟩ ⟨i1, i2, i3, i4, D, i5, i6⟩
      dsimp only at i1 i2 i3 i4 i5 i6 ⊢
      have x59 : g 59 = h 59 := i1 59 (by decide)
      have H2 := H g i1 i2 ⟨fun b => ∀ m, m < nm → Ew h nb w gone b m → D m, fun b hb hub => ?_, fun b m hb hm hc he => i5 m hm (hc m hm he)⟩
      · rw [← i3] at H2
        exact bX12_matched_26 ⟨fun _ => bX12_matched_60 H2, fun z => by rw [x59, h12] at z; omega⟩
      · intro m hm he
        exact i6 b he.2.2 hub m hm he
    · exact ⟨fun m hm => Or.inl (e2 m (by omega)), fun m m' hm _ _ hn => absurd (e2 m (by omega)) hn⟩
    · dsimp only
      have : siz nm (g 83) = 0 := by
        unfold siz
        rw [cnt_congr (q := fun _ => False) (fun m hm => ⟨fun z => z (e2 m (by omega)), fun z => z.elim⟩)]
        have h0 : ∀ n, cnt (fun _ => False) n = 0 := by intro n; induction n with
          | zero => rfl
          | succ n ih => rw [cnt_neg (by simp)]; exact ih
        exact h0 nm
      rw [this]; rfl
    · intro b _ m hm he
      dsimp only at he
      rw [e2 m (by omega)] at he; omega
    · exact ⟨fun _ => False, fun m _ z => z.elim, fun b hb => by omega⟩
