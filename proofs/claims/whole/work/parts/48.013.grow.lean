/-! the model's search -/
theorem bt_test (x : Int) {k : Nat} (hk : k < 32) : am_and (x / 2 ^ k) 1 = if bt x k = true then 1 else 0 := by
  rw [am_and1]
  have h1 := bt_iff x hk
  split
  · rename_i hb; exact h1.mp hb
  · rename_i hb
    have : ¬ x / 2 ^ k % 2 = 1 := fun z => hb (h1.mpr z)
    omega
theorem bt_t0 {x : Int} {k : Nat} (hk : k < 32) : am_and (x / 2 ^ k) 1 = 0 ↔ ¬ bt x k = true := by
  rw [bt_test x hk]; split <;> simp_all
theorem bt_t1 {x : Int} {k : Nat} (hk : k < 32) : am_and (x / 2 ^ k) 1 = 1 ↔ bt x k = true := by
  rw [bt_test x hk]; split <;> simp_all
/-- the model's row, less those who are gone -/
def Eg (h : am_H) (gone : Int) (b m : Nat) : Prop := bt (am_and (h 81 b) (am_xor gone (-1))) m = true
theorem Eg_iff {h : am_H} {gone : Int} {b m : Nat} (hm : m < 32) : Eg h gone b m ↔ bt (h 81 b) m = true ∧ ¬ bt gone m = true := by
  unfold Eg
  rw [bt_and, bt_xor, bt_m1 hm]
  cases bt (h 81 b) m <;> cases bt gone m <;> simp
/-- the way back -/
def TB (E : Nat → Nat → Prop) (nm : Nat) (st : Int) (f0 cf : Nat → Int) (rk : Nat → Nat) : Prop := (Mt E 10 nm f0) ∧ (∀ m, m < nm → ¬ f0 m = st) ∧ (∀ m, m < nm → ¬ cf m = -1 → 0 ≤ cf m ∧ cf m < 10 ∧ E (cf m).toNat m ∧ ¬ f0 m = cf m) ∧ (∀ m, m < nm → ¬ cf m = -1 → ¬ cf m = st → ∃ m', m' < nm ∧ ¬ cf m' = -1 ∧ f0 m' = cf m ∧ rk m' < rk m)
theorem TB.mt {E : Nat → Nat → Prop} {nm : Nat} {st : Int} {f0 cf : Nat → Int} {rk : Nat → Nat} (s_ : TB E nm st f0 cf rk) : Mt E 10 nm f0 := s_.1
theorem TB.un {E : Nat → Nat → Prop} {nm : Nat} {st : Int} {f0 cf : Nat → Int} {rk : Nat → Nat} (s_ : TB E nm st f0 cf rk) : ∀ m, m < nm → ¬ f0 m = st := s_.2.1
theorem TB.cfr {E : Nat → Nat → Prop} {nm : Nat} {st : Int} {f0 cf : Nat → Int} {rk : Nat → Nat} (s_ : TB E nm st f0 cf rk) : ∀ m, m < nm → ¬ cf m = -1 → 0 ≤ cf m ∧ cf m < 10 ∧ E (cf m).toNat m ∧ ¬ f0 m = cf m := s_.2.2.1
theorem TB.par {E : Nat → Nat → Prop} {nm : Nat} {st : Int} {f0 cf : Nat → Int} {rk : Nat → Nat} (s_ : TB E nm st f0 cf rk) : ∀ m, m < nm → ¬ cf m = -1 → ¬ cf m = st → ∃ m', m' < nm ∧ ¬ cf m' = -1 ∧ f0 m' = cf m ∧ rk m' < rk m := s_.2.2.2
/-- on the way: man m is about to be taken -/
def TS (E : Nat → Nat → Prop) (nm : Nat) (f0 cf : Nat → Int) (rk : Nat → Nat) (g : Nat → Int) (m : Nat) : Prop := (m < nm) ∧ (¬ cf m = -1) ∧ (g m = f0 m) ∧ (∀ z, z < nm → rk z < rk m → g z = f0 z) ∧ (∀ z, z < nm → ¬ z = m → g z = -1 ∨ (0 ≤ g z ∧ g z < 10 ∧ E (g z).toNat z)) ∧ (∀ z z', z < nm → z' < nm → ¬ z = m → ¬ z' = m → g z = g z' → ¬ g z = -1 → z = z') ∧ (∀ b : Int, 0 ≤ b → ((∃ z, z < nm ∧ ¬ z = m ∧ g z = b) ↔ (∃ z, z < nm ∧ f0 z = b))) ∧ (∀ D : Nat → Prop, Cl E nm f0 D → ¬ D m ∧ ∀ z, z < nm → D z → g z = f0 z)
theorem TS.lt {E : Nat → Nat → Prop} {nm : Nat} {f0 cf : Nat → Int} {rk : Nat → Nat} {g : Nat → Int} {m : Nat} (s_ : TS E nm f0 cf rk g m) : m < nm := s_.1
theorem TS.vis {E : Nat → Nat → Prop} {nm : Nat} {f0 cf : Nat → Int} {rk : Nat → Nat} {g : Nat → Int} {m : Nat} (s_ : TS E nm f0 cf rk g m) : ¬ cf m = -1 := s_.2.1
theorem TS.here {E : Nat → Nat → Prop} {nm : Nat} {f0 cf : Nat → Int} {rk : Nat → Nat} {g : Nat → Int} {m : Nat} (s_ : TS E nm f0 cf rk g m) : g m = f0 m := s_.2.2.1
theorem TS.old {E : Nat → Nat → Prop} {nm : Nat} {f0 cf : Nat → Int} {rk : Nat → Nat} {g : Nat → Int} {m : Nat} (s_ : TS E nm f0 cf rk g m) : ∀ z, z < nm → rk z < rk m → g z = f0 z := s_.2.2.2.1
theorem TS.ok {E : Nat → Nat → Prop} {nm : Nat} {f0 cf : Nat → Int} {rk : Nat → Nat} {g : Nat → Int} {m : Nat} (s_ : TS E nm f0 cf rk g m) : ∀ z, z < nm → ¬ z = m → g z = -1 ∨ (0 ≤ g z ∧ g z < 10 ∧ E (g z).toNat z) := s_.2.2.2.2.1
theorem TS.inj {E : Nat → Nat → Prop} {nm : Nat} {f0 cf : Nat → Int} {rk : Nat → Nat} {g : Nat → Int} {m : Nat} (s_ : TS E nm f0 cf rk g m) : ∀ z z', z < nm → z' < nm → ¬ z = m → ¬ z' = m → g z = g z' → ¬ g z = -1 → z = z' := s_.2.2.2.2.2.1
theorem TS.set {E : Nat → Nat → Prop} {nm : Nat} {f0 cf : Nat → Int} {rk : Nat → Nat} {g : Nat → Int} {m : Nat} (s_ : TS E nm f0 cf rk g m) : ∀ b : Int, 0 ≤ b → ((∃ z, z < nm ∧ ¬ z = m ∧ g z = b) ↔ (∃ z, z < nm ∧ f0 z = b)) := s_.2.2.2.2.2.2.1
theorem TS.cl {E : Nat → Nat → Prop} {nm : Nat} {f0 cf : Nat → Int} {rk : Nat → Nat} {g : Nat → Int} {m : Nat} (s_ : TS E nm f0 cf rk g m) : ∀ D : Nat → Prop, Cl E nm f0 D → ¬ D m ∧ ∀ z, z < nm → D z → g z = f0 z := s_.2.2.2.2.2.2.2
def TE (E : Nat → Nat → Prop) (nm : Nat) (st : Int) (f f' : Nat → Int) : Prop := Mt E 10 nm f' ∧ (∀ b : Int, 0 ≤ b → ((∃ z, z < nm ∧ f' z = b) ↔ ((∃ z, z < nm ∧ f z = b) ∨ b = st))) ∧ (∀ D : Nat → Prop, Cl E nm f D → ∀ z, z < nm → D z → f' z = f z)
theorem lX12_turn {L : Nat} {xs : Nat → Int} {P : Nat → List am_V → am_H → am_K → Prop} {d : Nat} {h : am_H} {lim : Int} {K : am_K} {nm : Nat} {E : Nat → Nat → Prop} {st : Int} {f0 : Nat → Int} {rk : Nat → Nat} {x1 : Int} (hnm : nm ≤ 14) (h9 : h 59 9 = nm) (hst : 0 ≤ st ∧ st < 10) (hB : TB E nm st f0 (h 84) rk) (H : ∀ h', Fr [83] h h' → TE E nm st f0 (h' 83) → K (9, 0) h') : ∀ (n m : Nat) (g : am_H) (v4 v5 v6 : am_V), rk m ≤ n → Fr [83] h g → TS E nm f0 (h 84) rk (g 83) m → tX12_turn lim L xs (am_C true L xs P d) K 2 [(2, 59), (0, x1), (0, st), (0, (m : Int)), v4, v5, v6] [] g := by
  intro n
  induction n with
  | zero =>
    intro m g v4 v5 v6 hr hF hT
    have e84 : g 84 = h 84 := hF 84 (by decide)
    have e59 : g 59 = h 59 := hF 59 (by decide)
    have hb := hB.cfr m hT.lt hT.vis
    have hlt := hT.lt
    have hs : h 84 m = st := by
      apply Classical.byContradiction
      intro hz
      obtain ⟨m', q1, q2, q3, q4⟩ := hB.par m hT.lt hT.vis hz
      omega
    refine bX12_turn_2 ⟨fun z => by omega, fun _ => ⟨by omega, ?_⟩⟩
    rw [Int.toNat_natCast, e84, hs]
    refine bX12_turn_21 ⟨fun z => ?_, fun z => ⟨fun _ => ?_, fun w => absurd rfl w⟩⟩
    · rw [e59, h9] at z; omega
    · refine bX12_turn_58 ⟨by omega, bX12_turn_2 ⟨fun _ => bX12_turn_72 ?_, fun w => absurd rfl w⟩⟩
      rw [Int.toNat_natCast]
      refine H _ (hF.st (by decide)) ?_
      rw [hs] at hb
      have nst : ∀ z, z < nm → ¬ z = m → ¬ g 83 z = st := by
        intro z hz hzm he
        obtain ⟨w, w1, w2⟩ := (hT.set st (by omega)).mp ⟨z, hz, hzm, he⟩
        exact hB.un w w1 w2
      refine ⟨⟨fun z hz => ?_, fun z z' hz hz' he hn => ?_⟩, fun b hb0 => ?_, fun D hD z hz hDz => ?_⟩
      · rw [st_ap]
        split
        · rename_i e; subst e; exact Or.inr ⟨by omega, by omega, hb.2.2.1⟩
        · rename_i e; exact hT.ok z hz e
      · rw [st_ap] at he hn
        rw [st_ap] at he
        by_cases e1 : z = m <;> by_cases e2 : z' = m
        · omega
        · rw [if_pos e1, if_neg e2] at he; exact absurd he.symm (nst z' hz' e2)
        · rw [if_neg e1, if_pos e2] at he; exact absurd he (nst z hz e1)
        · rw [if_neg e1, if_neg e2] at he; rw [if_neg e1] at hn; exact hT.inj z z' hz hz' e1 e2 he hn
      · rw [← hT.set b hb0]
        constructor
        · rintro ⟨z, z1, z2⟩
          rw [st_ap] at z2
          by_cases e : z = m
          · rw [if_pos e] at z2; exact Or.inr z2.symm
          · rw [if_neg e] at z2; exact Or.inl ⟨z, z1, e, z2⟩
        · rintro (⟨z, z1, z2, z3⟩ | z)
          · exact ⟨z, z1, by rw [st_ap, if_neg z2]; exact z3⟩
          · exact ⟨m, hT.lt, by rw [st_at, z]⟩
      · have := hT.cl D hD
        rw [st_ap, if_neg (fun e : z = m => this.1 (e ▸ hDz))]
        exact this.2 z hz hDz
  | succ n ih =>
    intro m g v4 v5 v6 hr hF hT
    have e84 : g 84 = h 84 := hF 84 (by decide)
    have e59 : g 59 = h 59 := hF 59 (by decide)
    have hb := hB.cfr m hT.lt hT.vis
    have hlt := hT.lt
    refine bX12_turn_2 ⟨fun z => by omega, fun _ => ⟨by omega, ?_⟩⟩
    rw [Int.toNat_natCast, e84]
    by_cases hs : h 84 m = st
    · rw [hs]
      refine bX12_turn_21 ⟨fun z => ?_, fun z => ⟨fun _ => ?_, fun w => absurd rfl w⟩⟩
      · rw [e59, h9] at z; omega
      · refine bX12_turn_58 ⟨by omega, bX12_turn_2 ⟨fun _ => bX12_turn_72 ?_, fun w => absurd rfl w⟩⟩
        rw [Int.toNat_natCast]
        refine H _ (hF.st (by decide)) ?_
        rw [hs] at hb
        have nst : ∀ z, z < nm → ¬ z = m → ¬ g 83 z = st := by
          intro z hz hzm he
          obtain ⟨w, w1, w2⟩ := (hT.set st (by omega)).mp ⟨z, hz, hzm, he⟩
          exact hB.un w w1 w2
        refine ⟨⟨fun z hz => ?_, fun z z' hz hz' he hn => ?_⟩, fun b hb0 => ?_, fun D hD z hz hDz => ?_⟩
        · rw [st_ap]
          split
          · rename_i e; subst e; exact Or.inr ⟨by omega, by omega, hb.2.2.1⟩
          · rename_i e; exact hT.ok z hz e
        · rw [st_ap] at he hn
          rw [st_ap] at he
          by_cases e1 : z = m <;> by_cases e2 : z' = m
          · omega
          · rw [if_pos e1, if_neg e2] at he; exact absurd he.symm (nst z' hz' e2)
          · rw [if_neg e1, if_pos e2] at he; exact absurd he (nst z hz e1)
          · rw [if_neg e1, if_neg e2] at he; rw [if_neg e1] at hn; exact hT.inj z z' hz hz' e1 e2 he hn
        · rw [← hT.set b hb0]
          constructor
          · rintro ⟨z, z1, z2⟩
            rw [st_ap] at z2
            by_cases e : z = m
            · rw [if_pos e] at z2; exact Or.inr z2.symm
            · rw [if_neg e] at z2; exact Or.inl ⟨z, z1, e, z2⟩
          · rintro (⟨z, z1, z2, z3⟩ | z)
            · exact ⟨z, z1, by rw [st_ap, if_neg z2]; exact z3⟩
            · exact ⟨m, hT.lt, by rw [st_at, z]⟩
        · have := hT.cl D hD
          rw [st_ap, if_neg (fun e : z = m => this.1 (e ▸ hDz))]
          exact this.2 z hz hDz
    · obtain ⟨m', q1, q2, q3, q4⟩ := hB.par m hT.lt hT.vis hs
      have hmm : ¬ m' = m := fun e => by rw [e] at q4; omega
      have gm' : g 83 m' = h 84 m := by rw [hT.old m' q1 q4]; exact q3
      have uniq : ∀ z, z < nm → g 83 z = h 84 m → z = m' := by
        intro z hz he
        by_cases hzm : z = m
        · rw [hzm, hT.here] at he; exact absurd he hb.2.2.2
        · exact hT.inj z m' hz q1 hzm hmm (by rw [he, gm']) (by omega)
      refine upto (σ := Int) (N := nm) (I := fun i r => r = if m' < i then (m' : Int) else -1) (G := fun i r => tX12_turn lim L xs (am_C true L xs P d) K 21 [(2, 59), (0, x1), (0, st), (0, (m : Int)), (0, h 84 m), (0, r), (0, (i : Int))] [] g) ?_ ?_ nm 0 (-1) (by omega) (by rw [if_neg (by omega)])
      · intro i r hi er ih2
        refine bX12_turn_21 ⟨fun z => by rw [e59, h9] at z; omega, fun _ => ⟨fun z => absurd z hs, fun _ => ⟨by omega, ?_⟩⟩⟩
        rw [Int.toNat_natCast]
        refine ⟨fun gz => bX12_turn_52 ⟨by omega, ih2 _ ?_⟩, fun gz => bX12_turn_52 ⟨by omega, ih2 _ ?_⟩⟩
        · have : ¬ m' = i := fun e => gz (e ▸ gm')
          rw [er]
          by_cases hmi : m' < i
          · rw [if_pos hmi, if_pos (by omega)]
          · rw [if_neg hmi, if_neg (by omega)]
        · have := uniq i hi (Classical.not_not.mp gz)
          rw [if_pos (by omega)]; omega
      · intro r er
        rw [if_pos q1] at er
        subst er
        refine bX12_turn_21 ⟨fun _ => bX12_turn_58 ⟨by omega, ?_⟩, fun z => by rw [e59, h9] at z; omega⟩
        rw [Int.toNat_natCast]
        refine ih m' _ _ _ _ (by omega) (hF.st (by decide)) ?_
        have x83 : am_st g 83 m (h 84 m) 83 = fun j => if j = m then h 84 m else g 83 j := by funext j; rw [st_ap]
        rw [x83]
        refine ⟨q1, q2, ?_, ?_, ?_, ?_, ?_, ?_⟩
        · show (if m' = m then _ else _) = _
          rw [if_neg hmm]; exact hT.old m' q1 q4
        · intro z hz hrz
          show (if z = m then _ else _) = _
          rw [if_neg (fun e => by rw [e] at hrz; omega)]
          exact hT.old z hz (by omega)
        · intro z hz hzm
          show (if z = m then _ else _) = -1 ∨ _
          by_cases e : z = m
          · subst e; simp only [if_true]; exact Or.inr ⟨hb.1, hb.2.1, hb.2.2.1⟩
          · simp only [if_neg e]; exact hT.ok z hz e
        · intro z z' hz hz' h1 h2 he hn
          have he' : (if z = m then h 84 m else g 83 z) = (if z' = m then h 84 m else g 83 z') := he
          have hn' : ¬ (if z = m then h 84 m else g 83 z) = -1 := hn
          by_cases e1 : z = m <;> by_cases e2 : z' = m
          · omega
          · rw [if_pos e1, if_neg e2] at he'; exact absurd (uniq z' hz' he'.symm) h2
          · rw [if_neg e1, if_pos e2] at he'; exact absurd (uniq z hz he') h1
          · rw [if_neg e1, if_neg e2] at he'; rw [if_neg e1] at hn'; exact hT.inj z z' hz hz' e1 e2 he' hn'
        · intro b hb0
          rw [← hT.set b hb0]
          constructor
          · rintro ⟨z, z1, z2, z3⟩
            have z3' : (if z = m then h 84 m else g 83 z) = b := z3
            by_cases e : z = m
            · rw [if_pos e] at z3'; exact ⟨m', q1, hmm, by rw [gm']; exact z3'⟩
            · rw [if_neg e] at z3'; exact ⟨z, z1, e, z3'⟩
          · rintro ⟨z, z1, z2, z3⟩
            by_cases e : z = m'
            · refine ⟨m, hT.lt, fun e2 => hmm e2.symm, ?_⟩
              show (if m = m then h 84 m else g 83 m) = b
              rw [if_pos rfl, ← gm', ← e]; exact z3
            · refine ⟨z, z1, e, ?_⟩
              show (if z = m then h 84 m else g 83 z) = b
              rw [if_neg z2]; exact z3
        · intro D hD
          have hc := hT.cl D hD
          refine ⟨fun hDm' => ?_, fun z hz hDz => ?_⟩
          · have := (hD m' q1 hDm').2 m hT.lt
            rw [q3] at this
            exact hc.1 (this hb.2.2.1)
          · show (if z = m then h 84 m else g 83 z) = f0 z
            rw [if_neg (fun e : z = m => hc.1 (e ▸ hDz))]
            exact hc.2 z hz hDz
theorem kX12_turn {L : Nat} {xs : Nat → Int} {P : Nat → List am_V → am_H → am_K → Prop} {d : Nat} {h : am_H} {K : am_K} {nm : Nat} {E : Nat → Nat → Prop} {st : Int} {rk : Nat → Nat} {m : Nat} (hnm : nm ≤ 14) (h9 : h 59 9 = nm) (hst : 0 ≤ st ∧ st < 10) (hm : m < nm) (hv : ¬ h 84 m = -1) (hfree : h 83 m = -1) (hB : TB E nm st (h 83) (h 84) rk) (H : ∀ h', Fr [83] h h' → TE E nm st (h 83) (h' 83) → K (9, 0) h') : am_C true L xs P (d + 1) 190 [(2, 59), (0, (m : Int)), (0, st)] h K := by
  refine eX12_turn (bX12_turn_0 ?_)
  refine lX12_turn hnm h9 hst hB H (rk m) m h _ _ _ (Nat.le_refl _) Fr.rf ⟨hm, hv, rfl, fun _ _ _ => rfl, fun z hz _ => ?_, fun z z' hz hz' _ _ => hB.mt.2 z z' hz hz', fun b hb => ?_, fun D hD => ⟨fun hDm => (hD m hm hDm).1 hfree, fun _ _ _ => rfl⟩⟩
  · exact hB.mt.1 z hz
  · constructor
    · rintro ⟨z, z1, z2, z3⟩; exact ⟨z, z1, z3⟩
    · rintro ⟨z, z1, z2⟩; exact ⟨z, z1, fun e => by rw [e, hfree] at z2; omega, z2⟩
