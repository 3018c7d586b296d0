/-! shr: the shares of the cells -/
theorem nr_bnd {h : am_H} {m : Nat} {c : Int} (hR : am_okR h) (hc : 0 ≤ c ∧ c < 25) : -1 ≤ Ncl h m c ∧ Ncl h m c ≤ 4 := by
  have fb : ∀ a : Int, 0 ≤ a ∧ a < 25 → 0 ≤ am_fr h a c ∧ am_fr h a c ≤ 4 := by
    intro a ha
    have c1 := hR.2.2.1 a.toNat (by omega)
    have c2 := hR.2.2.1 c.toNat (by omega)
    unfold am_fr am_mx2 am_ab
    split <;> split <;> split <;> omega
  have key : ∀ (n i : Nat) (acc : Int), i + n ≤ 20 → -1 ≤ acc ∧ acc ≤ 4 → -1 ≤ am_nr h (m : Int) c n i acc ∧ am_nr h (m : Int) c n i acc ≤ 4 := by
    intro n
    induction n with
    | zero => intro i acc _ ha; exact ha
    | succ n ih =>
      intro i acc hi ha
      simp only [am_nr]
      refine ih (i + 1) _ (by omega) ?_
      have := fb (h 24 i) (hR.2.2.2 i (by omega))
      split
      · split <;> omega
      · exact ha
  unfold Ncl
  exact key _ 0 _ (by have := hR.1; omega) (by decide)
/-- least and how many, as far as i -/
def MlI (op : Nat → Prop) (f : Nat → Int) (top : Int) (i : Nat) (l : Int) (a : Nat) : Prop := ((∀ c, c < i → ¬ op c) ∧ l = top ∧ a = 0) ∨ ((∀ c, c < i → op c → l ≤ f c) ∧ a = cnt (fun c => op c ∧ f c = l) i ∧ ∃ c, c < i ∧ op c ∧ f c = l)
theorem MlI_skip {op : Nat → Prop} {f : Nat → Int} {top : Int} {i : Nat} {l : Int} {a : Nat} (h : MlI op f top i l a) (ho : ¬ op i) : MlI op f top (i + 1) l a := by
  have lt : ∀ c, c < i + 1 → op c → c < i := fun c hc hp => by
    have : ¬ c = i := fun e => ho (e ▸ hp)
    omega
  rcases h with ⟨h1, h2, h3⟩ | ⟨h1, h2, c, c1, c2⟩
  · exact Or.inl ⟨fun c hc hp => h1 c (lt c hc hp) hp, h2, h3⟩
  · exact Or.inr ⟨fun c hc hp => h1 c (lt c hc hp) hp, by rw [cnt_neg (p := fun c => op c ∧ f c = l) (fun z => ho z.1)]; exact h2, c, by omega, c2⟩
theorem MlI_less {op : Nat → Prop} {f : Nat → Int} {top : Int} {i : Nat} {l : Int} {a : Nat} (h : MlI op f top i l a) (ho : op i) (hl : f i < l) : MlI op f top (i + 1) (f i) 1 := by
  have gt : ∀ c, c < i → op c → f i < f c := by
    intro c hc hp
    rcases h with ⟨h1, h2, h3⟩ | ⟨h1, h2, _⟩
    · exact absurd hp (h1 c hc)
    · have := h1 c hc hp; omega
  refine Or.inr ⟨fun c hc hp => ?_, ?_, i, by omega, ho, rfl⟩
  · by_cases e : c = i
    · rw [e]; exact Int.le_refl _
    · have := gt c (by omega) hp; omega
  · rw [cnt_pos (p := fun c => op c ∧ f c = f i) ⟨ho, rfl⟩, cnt_0 (fun c hc z => by have := gt c hc z.1; omega)]
theorem MlI_same {op : Nat → Prop} {f : Nat → Int} {top : Int} {i : Nat} {l : Int} {a : Nat} (h : MlI op f top i l a) (ho : op i) (hl : f i = l) (ht : f i < top) : MlI op f top (i + 1) l (a + 1) := by
  rcases h with ⟨h1, h2, h3⟩ | ⟨h1, h2, c, c1, c2⟩
  · omega
  · refine Or.inr ⟨fun c hc hp => ?_, by rw [cnt_pos (p := fun c => op c ∧ f c = l) ⟨ho, hl⟩, h2], i, by omega, ho, hl⟩
    by_cases e : c = i
    · rw [e]; omega
    · exact h1 c (by omega) hp
theorem MlI_more {op : Nat → Prop} {f : Nat → Int} {top : Int} {i : Nat} {l : Int} {a : Nat} (h : MlI op f top i l a) (hl : l < f i) (ht : f i < top) : MlI op f top (i + 1) l a := by
  rcases h with ⟨h1, h2, h3⟩ | ⟨h1, h2, c, c1, c2⟩
  · omega
  · refine Or.inr ⟨fun c hc hp => ?_, by rw [cnt_neg (p := fun c => op c ∧ f c = l) (fun z => by have := z.2; omega)]; exact h2, c, by omega, c2⟩
    by_cases e : c = i
    · rw [e]; omega
    · exact h1 c (by omega) hp
def Nr (op : Nat → Prop) (f : Nat → Int) (n c : Nat) : Prop := op c ∧ ∀ c', c' < n → op c' → f c ≤ f c'
noncomputable def shr (op : Nat → Prop) (f : Nat → Int) (n c : Nat) : Int := sif (c < n ∧ Nr op f n c) (WH / (cnt (fun c => Nr op f n c) n : Nat))
theorem MlI_nr {op : Nat → Prop} {f : Nat → Int} {top : Int} {n : Nat} {l : Int} {a : Nat} (h : MlI op f top n l a) : (∀ c, c < n → ((op c ∧ f c = l) ↔ Nr op f n c)) ∧ a = cnt (fun c => Nr op f n c) n := by
  rcases h with ⟨h1, h2, h3⟩ | ⟨h1, h2, c0, c1, c2, c3⟩
  · exact ⟨fun c hc => ⟨fun z => absurd z.1 (h1 c hc), fun z => absurd z.1 (h1 c hc)⟩, by rw [h3, cnt_0 (fun c hc z => h1 c hc z.1)]⟩
  · have key : ∀ c, c < n → ((op c ∧ f c = l) ↔ Nr op f n c) := by
      intro c hc
      constructor
      · intro z; exact ⟨z.1, fun c' hc' hp => by have := h1 c' hc' hp; omega⟩
      · intro z
        have a := h1 c hc z.1
        have b := z.2 c0 c1 c2
        exact ⟨z.1, by omega⟩
    exact ⟨key, by rw [h2]; exact cnt_congr key⟩
theorem shr_bnd {op : Nat → Prop} {f : Nat → Int} {n c : Nat} : 0 ≤ shr op f n c ∧ shr op f n c ≤ WH := by
  unfold shr
  by_cases h : c < n ∧ Nr op f n c
  · rw [sif_pos h]
    exact ⟨Int.ediv_nonneg (by decide) (by omega), Int.ediv_le_self _ (by decide)⟩
  · rw [sif_neg h]; decide
theorem shr_congr {op op' : Nat → Prop} {f f' : Nat → Int} {n c : Nat} (ho : ∀ c, c < n → (op c ↔ op' c)) (hf : ∀ c, c < n → op c → f c = f' c) : shr op f n c = shr op' f' n c := by
  have key : ∀ c, c < n → (Nr op f n c ↔ Nr op' f' n c) := by
    intro c hc
    unfold Nr
    constructor
    · intro z
      refine ⟨(ho c hc).mp z.1, fun c' hc' hp => ?_⟩
      have hp' := (ho c' hc').mpr hp
      have := z.2 c' hc' hp'
      rw [hf c hc z.1, hf c' hc' hp'] at this; exact this
    · intro z
      have hz := (ho c hc).mpr z.1
      refine ⟨hz, fun c' hc' hp => ?_⟩
      have := z.2 c' hc' ((ho c' hc').mp hp)
      rw [hf c hc hz, hf c' hc' hp]; exact this
  unfold shr
  rw [cnt_congr key]
  exact sif_congr (and_congr_right (fun hc => key c hc)) (fun _ => rfl)
noncomputable def PT (op : Nat → Prop) (F : Nat → Nat → Int) (ms : Nat → Prop) (n : Nat) : Nat → Nat → Int
  | 0, _ => 0
  | m + 1, c => PT op F ms n m c + sif (ms m) (shr op (F m) n c)
theorem PT_bnd {op : Nat → Prop} {F : Nat → Nat → Int} {ms : Nat → Prop} {n c : Nat} : ∀ m : Nat, 0 ≤ PT op F ms n m c ∧ PT op F ms n m c ≤ m * WH := by
  intro m
  induction m with
  | zero => simp [PT]
  | succ m ih =>
    simp only [PT]
    have a := shr_bnd (op := op) (f := F m) (n := n) (c := c)
    have b := sif_le (p := ms m) a.1
    have e : ((m + 1 : Nat) : Int) * WH = m * WH + WH := by rw [Int.natCast_add, Int.add_mul]; simp
    omega
theorem PT_congr {op op' : Nat → Prop} {F F' : Nat → Nat → Int} {ms ms' : Nat → Prop} {n c nm : Nat} (ho : ∀ c, c < n → (op c ↔ op' c)) (hf : ∀ m c, m < nm → c < n → F m c = F' m c) (hm : ∀ m, m < nm → (ms m ↔ ms' m)) : ∀ m, m ≤ nm → PT op F ms n m c = PT op' F' ms' n m c := by
  intro m
  induction m with
  | zero => intro _; rfl
  | succ m ih =>
    intro h
    simp only [PT]
    rw [ih (by omega), shr_congr ho (fun c hc _ => hf m c (by omega) hc)]
    rw [sif_congr (hm m (by omega)) (fun _ => rfl)]
theorem Rel_ex {p : Int} (hp : 0 ≤ p) : ∃ u l, Rel p u l := by
  obtain ⟨p', ep⟩ : ∃ p' : Nat, p = p' := ⟨p.toNat, by omega⟩
  subst ep
  have g1 : 1 ≤ Nat.gcd p' 26771144400 := Nat.gcd_pos_of_pos_right _ (by decide)
  have hA := Nat.div_mul_cancel (Nat.gcd_dvd_left p' 26771144400)
  have hB := Nat.div_mul_cancel (Nat.gcd_dvd_right p' 26771144400)
  have hcop := Nat.gcd_div_gcd_div_gcd_of_pos_right (n := p') (m := 26771144400) (by decide)
  generalize Nat.gcd p' 26771144400 = g at *
  refine ⟨((p' / g : Nat) : Int), ((26771144400 / g : Nat) : Int), by omega, Int.natCast_nonneg _, ?_, ?_, ?_⟩
  · have : 26771144400 / g ≠ 0 := fun z => by rw [z] at hB; omega
    exact Int.ofNat_le.mpr (Nat.pos_of_ne_zero this)
  · rw [Int.toNat_natCast, Int.toNat_natCast]; exact hcop
  · have e1 : WH = ((26771144400 / g : Nat) : Int) * (g : Int) := by rw [← Int.natCast_mul, hB]; rfl
    have e2 : (p' : Int) = ((p' / g : Nat) : Int) * (g : Int) := by rw [← Int.natCast_mul, hA]
    generalize ((26771144400 / g : Nat) : Int) = y at *
    generalize ((p' / g : Nat) : Int) = x at *
    rw [e1, e2, Int.mul_assoc, Int.mul_comm (g : Int)]
theorem Rel_uniq {p u l u' l' : Int} (r : Rel p u l) (r' : Rel p u' l') : u = u' ∧ l = l' := by
  obtain ⟨k, k1, e1, e2, e3⟩ := r.nat
  obtain ⟨k', k1', e1', e2', e3'⟩ := r'.nat
  have : k' = k := by rw [← e3', ← e3]
  subst this
  constructor
  · rw [e1] at e1'
    exact Int.eq_of_mul_eq_mul_right (by omega) e1'
  · rw [e2] at e2'
    exact Int.eq_of_mul_eq_mul_right (by omega) e2'
section
variable {L : Nat} {xs : Nat → Int} {P : Nat → List am_V → am_H → am_K → Prop} {d : Nat} {h : am_H} {K : am_K}
def Op (h : am_H) (c : Nat) : Prop := ¬ (bt (h 39 5) c = true ∨ bt (h 39 6) c = true)
theorem kX2_canBeDug {c : Nat} (hc : c < 32) (H0 : ¬ Op h c → K (0, 0) h) (H1 : Op h c → K (0, 1) h) : am_C true L xs P (d + 2) 27 [(2, 39), (0, (c : Int))] h K := by
  refine eX2_canBeDug (bX2_canBeDug_0 (kBit (d := d) hc (fun gb => ?_) (fun gb => ?_)))
  · refine ⟨fun z => absurd rfl z, fun _ => bX2_canBeDug_21 ⟨by decide, H1 ?_⟩⟩
    rw [bt_or] at gb
    intro z
    rcases z with z | z <;> rw [z] at gb <;> simp at gb
  · refine ⟨fun _ => bX2_canBeDug_20 (bX2_canBeDug_21 ⟨by decide, H0 (fun z => z ?_)⟩), fun z => absurd (by decide) z⟩
    rw [bt_or, Bool.or_eq_true] at gb
    exact gb
theorem kX7_divideMan {m n : Nat} (hR : am_okR h) (hm : m < 14) (hn : h 20 13 = n) (hn25 : n ≤ 25) (hp : ∀ c, c < 25 → 0 ≤ h 54 c ∧ h 54 c ≤ 14 * WH) (H : ∀ h', Fr [54] h h' → (∀ c, h' 54 c = h 54 c + shr (Op h) (fun c => Ncl h m (c : Int)) n c) → K (9, 0) h') : am_C true L xs P (d + 4) 74 [(2, 53), (2, 20), (2, 39), (0, (m : Int))] h K := by
  refine eX7_divideMan (bX7_divideMan_0 ?_)
  refine upto (σ := Int × Nat × am_V) (N := n) (I := fun i s => MlI (Op h) (fun c => Ncl h m (c : Int)) 25 i s.1 s.2.1 ∧ s.2.1 ≤ i) (G := fun i s => tX7_divideMan (h 0 0 + (0 : Nat)) L xs (am_C true L xs P (d + 3)) K 10 [(2, 53), (2, 20), (2, 39), (0, (m : Int)), (0, s.1), (0, (s.2.1 : Int)), (0, (i : Int)), s.2.2] [] h) ?_ ?_ n 0 (25, 0, (9, 0)) (by omega) ⟨Or.inl ⟨fun c hc => by omega, rfl, rfl⟩, Nat.le_refl _⟩
  · intro i ⟨l, a, v7⟩ hi ⟨e1, e2⟩ ih
    dsimp only at e1 e2 ⊢
    have nb := nr_bnd (m := m) (c := (i : Int)) hR (by omega)
    refine bX7_divideMan_10 ⟨fun z => by omega, fun _ => kX2_canBeDug (d := d + 1) (by omega) (fun go => ?_) (fun go => ?_)⟩
    · exact ⟨fun _ => bX7_divideMan_68 ⟨by omega, ih (l, a, v7) ⟨MlI_skip e1 go, by dsimp only; omega⟩⟩, fun z => absurd rfl z⟩
    · refine ⟨fun z => absurd z (by decide), fun _ => kX6_nearest (d := d) hR (by omega) (by omega) ?_⟩
      have eN : am_nr h (m : Int) (i : Int) (Int.toNat (h 20 14)) 0 (-1) = Ncl h m (i : Int) := rfl
      rw [eN]
      dsimp only
      refine ⟨fun z => bX7_divideMan_51 ⟨fun z2 => bX7_divideMan_64 (bX7_divideMan_65 ⟨⟨by omega, by omega⟩, ?_⟩), fun z2 => bX7_divideMan_65 ⟨⟨by omega, by omega⟩, ?_⟩⟩, fun z => bX7_divideMan_51 ⟨fun z2 => absurd rfl z2, fun z2 => bX7_divideMan_65 ⟨⟨by omega, by omega⟩, ?_⟩⟩⟩
      · rw [Int.add_zero]
        exact bX7_divideMan_68 ⟨by omega, ih (l, a, _) ⟨MlI_more e1 (by omega) (by omega), by dsimp only; omega⟩⟩
      · have := ih (l, a + 1, (0, Ncl h m (i : Int))) ⟨MlI_same e1 go (Classical.not_not.mp z2) (by omega), by dsimp only; omega⟩
        exact bX7_divideMan_68 ⟨by omega, this⟩
      · have := ih (Ncl h m (i : Int), 1, (0, Ncl h m (i : Int))) ⟨MlI_less e1 go (by omega), by dsimp only; omega⟩
        exact bX7_divideMan_68 ⟨by omega, this⟩
  · intro ⟨l, a, v7⟩ ⟨e1, e2⟩
    dsimp only at e1 e2 ⊢
    obtain ⟨k1, k2⟩ := MlI_nr e1
    refine bX7_divideMan_10 ⟨fun _ => bX7_divideMan_74 ?_, fun z => by omega⟩
    by_cases ha : a = 0
    · subst ha
      refine bX7_divideMan_77 ⟨fun _ => bX7_divideMan_135 (H h Fr.rf (fun c => ?_)), fun z => absurd (by decide) z⟩
      have : shr (Op h) (fun c => Ncl h m (c : Int)) n c = 0 := by
        unfold shr
        apply sif_neg
        rintro ⟨hc, hN⟩
        have := cnt_pos (p := fun c => Nr (Op h) (fun c => Ncl h m (c : Int)) n c) hN
        have l1 : cnt (fun c => Nr (Op h) (fun c => Ncl h m (c : Int)) n c) (c + 1) ≤ cnt (fun c => Nr (Op h) (fun c => Ncl h m (c : Int)) n c) n := by
          have := cnt_off (fun c => Nr (Op h) (fun c => Ncl h m (c : Int)) n c) (c + 1) (n - (c + 1))
          rw [show c + 1 + (n - (c + 1)) = n by omega] at this
          omega
        omega
      rw [this, Int.add_zero]
    · have hd := div_all ⟨a, by omega⟩ (by dsimp only; omega)
      have W0 : (0 : Int) ≤ WH / (a : Int) ∧ WH / (a : Int) ≤ WH := ⟨Int.ediv_nonneg (by decide) (by omega), Int.ediv_le_self _ (by decide)⟩
      refine upto (σ := am_H) (N := n) (I := fun i g => Fr [54] h g ∧ (∀ c, c < i → g 54 c = h 54 c + shr (Op h) (fun c => Ncl h m (c : Int)) n c) ∧ ∀ c, i ≤ c → g 54 c = h 54 c) (G := fun i g => tX7_divideMan (h 0 0 + (0 : Nat)) L xs (am_C true L xs P (d + 3)) K 77 [(2, 53), (2, 20), (2, 39), (0, (m : Int)), (0, l), (0, (a : Int)), (0, (i : Int)), v7] [] g) ?_ ?_ n 0 h (by omega) ⟨Fr.rf, fun c hc => by omega, fun _ _ => rfl⟩
      · intro i g hi ⟨q1, q2, q3⟩ ih
        have sk : shr (Op h) (fun c => Ncl h m (c : Int)) n i = 0 → tX7_divideMan (h 0 0 + (0 : Nat)) L xs (am_C true L xs P (d + 3)) K 129 [(2, 53), (2, 20), (2, 39), (0, (m : Int)), (0, l), (0, (a : Int)), (0, (i : Int)), v7] [] g := by
          intro hz
          refine bX7_divideMan_129 ⟨by omega, ih g ⟨q1, fun c hc => ?_, fun c hc => q3 c (by omega)⟩⟩
          by_cases e : c = i
          · subst e; rw [hz, Int.add_zero]; exact q3 c (Nat.le_refl _)
          · exact q2 c (by omega)
        have g20 : g 20 = h 20 := q1 20 (by decide)
        have oR : am_okR g := by
          unfold am_okR at hR ⊢
          rw [q1 20 (by decide), q1 21 (by decide), q1 22 (by decide), q1 24 (by decide)]; exact hR
        have eO : ∀ c, Op g c ↔ Op h c := fun c => by unfold Op; rw [q1 39 (by decide)]
        have eN : Ncl g m (i : Int) = Ncl h m (i : Int) := by
          unfold Ncl
          rw [g20]
          exact am_nr_congr (q1 23 (by decide)) (q1 24 (by decide)) (q1 25 (by decide)) (q1 26 (by decide)) (q1 27 (by decide)) (q1 29 (by decide)) (q1 21 (by decide)) (q1 22 (by decide)) _ _ _
        refine bX7_divideMan_77 ⟨fun z => by omega, fun _ => ⟨fun z => by rw [g20] at z; omega, fun _ => kX2_canBeDug (d := d + 1) (by omega) (fun go => ?_) (fun go => ?_)⟩⟩
        · refine ⟨fun _ => sk ?_, fun z => absurd rfl z⟩
          unfold shr
          exact sif_neg (fun z => go ((eO i).mpr z.2.1))
        · refine ⟨fun z => absurd z (by decide), fun _ => kX6_nearest (d := d) oR (by omega) (by omega) ?_⟩
          have eN' : am_nr g (m : Int) (i : Int) (Int.toNat (g 20 14)) 0 (-1) = Ncl h m (i : Int) := eN
          rw [eN']
          dsimp only
          refine ⟨fun z => sk ?_, fun z => ?_⟩
          · unfold shr
            exact sif_neg (fun y => z ((k1 i hi).mpr y.2).2)
          · rw [Int.toNat_natCast, q3 i (Nat.le_refl _)]
            have hpi := hp i (by omega)
            have hs : shr (Op h) (fun c => Ncl h m (c : Int)) n i = WH / (a : Int) := by
              unfold shr
              rw [sif_pos ⟨hi, (k1 i hi).mp ⟨(eO i).mp go, Classical.not_not.mp z⟩⟩, ← k2]
            have WHv : WH = 26771144400 := rfl
            refine ⟨by omega, ⟨by decide, by omega⟩, ?_, by omega, ?_⟩
            · show am_inL (h 54 i + WH / (a : Int))
              constructor <;> omega
            · show tX7_divideMan (h 0 0 + (0 : Nat)) L xs (am_C true L xs P (d + 3)) K 129 [(2, 53), (2, 20), (2, 39), (0, (m : Int)), (0, l), (0, (a : Int)), (0, (i : Int)), v7] [] (am_st g 54 i (h 54 i + WH / (a : Int)))
              refine bX7_divideMan_129 ⟨by omega, ih _ ⟨q1.st (by decide), fun c hc => ?_, fun c hc => ?_⟩⟩
              · rw [st_ap]
                by_cases e : c = i
                · rw [if_pos e, e, hs]
                · rw [if_neg e]; exact q2 c (by omega)
              · rw [st_nj (by omega)]; exact q3 c (by omega)
      · intro g ⟨q1, q2, q3⟩
        have Hg : K (9, 0) g := by
          refine H g q1 (fun c => ?_)
          by_cases hc : c < n
          · exact q2 c hc
          · rw [q3 c (by omega)]
            have : shr (Op h) (fun c => Ncl h m (c : Int)) n c = 0 := by unfold shr; exact sif_neg (fun z => hc z.1)
            rw [this, Int.add_zero]
        exact bX7_divideMan_77 ⟨fun z => by omega, fun _ => ⟨fun _ => bX7_divideMan_135 Hg, fun z => by rw [q1 20 (by decide)] at z; omega⟩⟩
theorem kX7_divide {nm n : Nat} {w : Int} (hR : am_okR h) (hm : h 20 15 = nm) (hnm : nm ≤ 14) (hn : h 20 13 = n) (hn25 : n ≤ 25) (H : ∀ h', Fr [54] h h' → (∀ c, c < 25 → h' 54 c = PT (Op h) (fun m c => Ncl h m (c : Int)) (fun m => bt w m = true) n nm c) → K (9, 0) h') : am_C true L xs P (d + 5) 73 [(2, 53), (2, 20), (2, 39), (0, w)] h K := by
  refine eX7_divide (bX7_divide_0 ?_)
  refine upto (σ := am_H) (N := 25) (I := fun i g => Fr [54] h g ∧ ∀ c, c < i → g 54 c = 0) (G := fun i g => tX7_divide (h 0 0 + (0 : Nat)) L xs (am_C true L xs P (d + 4)) K 3 [(2, 53), (2, 20), (2, 39), (0, w), (0, (i : Int))] [] g) ?_ ?_ 25 0 h (by omega) ⟨Fr.rf, fun c hc => by omega⟩
  · intro i g hi ⟨e1, e2⟩ ih
    refine bX7_divide_3 ⟨fun z => by omega, fun _ => ⟨by omega, by omega, ih _ ⟨e1.st (by decide), fun c hc => ?_⟩⟩⟩
    rw [Int.toNat_natCast, st_ap]
    split
    · rfl
    · exact e2 c (by omega)
  · intro g ⟨e1, e2⟩
    refine bX7_divide_3 ⟨fun _ => bX7_divide_24 ?_, fun z => by omega⟩
    refine upto (σ := am_H) (N := nm) (I := fun i g => Fr [54] h g ∧ ∀ c, c < 25 → g 54 c = PT (Op h) (fun m c => Ncl h m (c : Int)) (fun m => bt w m = true) n i c) (G := fun i g => tX7_divide (h 0 0 + (0 : Nat)) L xs (am_C true L xs P (d + 4)) K 27 [(2, 53), (2, 20), (2, 39), (0, w), (0, (i : Int))] [] g) ?_ ?_ nm 0 g (by omega) ⟨e1, fun c hc => e2 c hc⟩
    · intro i g hi ⟨q1, q2⟩ ih
      have g20 : g 20 = h 20 := q1 20 (by decide)
      refine bX7_divide_27 ⟨fun z => by rw [g20] at z; omega, fun _ => kBit (d := d + 3) (by omega) (fun gb => ?_) (fun gb => ?_)⟩
      · refine ⟨fun _ => bX7_divide_53 ⟨by omega, ih g ⟨q1, fun c hc => ?_⟩⟩, fun z => absurd rfl z⟩
        simp only [PT]
        rw [sif_neg (p := bt w i = true) (by rw [gb]; decide), Int.add_zero]; exact q2 c hc
      · have oR : am_okR g := by
          unfold am_okR at hR ⊢
          rw [q1 20 (by decide), q1 21 (by decide), q1 22 (by decide), q1 24 (by decide)]; exact hR
        have eO : Op g = Op h := by funext c; unfold Op; rw [q1 39 (by decide)]
        have eN : ∀ c : Nat, Ncl g i (c : Int) = Ncl h i (c : Int) := by
          intro c
          unfold Ncl
          rw [g20]
          exact am_nr_congr (q1 23 (by decide)) (q1 24 (by decide)) (q1 25 (by decide)) (q1 26 (by decide)) (q1 27 (by decide)) (q1 29 (by decide)) (q1 21 (by decide)) (q1 22 (by decide)) _ _ _
        refine ⟨fun z => absurd z (by decide), fun _ => kX7_divideMan (d := d) (n := n) oR (by omega) (by rw [g20]; exact hn) hn25 (fun c hc => ?_) (fun g' f e => bX7_divide_53 ⟨by omega, ih g' ⟨q1.tr f, fun c hc => ?_⟩⟩)⟩
        · rw [q2 c hc]
          have := PT_bnd (op := Op h) (F := fun m c => Ncl h m (c : Int)) (ms := fun m => bt w m = true) (n := n) (c := c) i
          have WHv : WH = 26771144400 := rfl
          rw [WHv] at this ⊢
          omega
        · simp only [PT]
          rw [e c, q2 c hc, sif_pos (p := bt w i = true) gb, eO]
          have : (fun c : Nat => Ncl g i (c : Int)) = fun c : Nat => Ncl h i (c : Int) := funext eN
          rw [this]
    · intro g ⟨q1, q2⟩
      exact bX7_divide_27 ⟨fun _ => bX7_divide_59 (H g q1 q2), fun z => by rw [q1 20 (by decide)] at z; omega⟩
end
