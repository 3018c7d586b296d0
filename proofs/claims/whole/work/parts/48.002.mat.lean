/-! counting, and matchings with their closed sets -/
noncomputable def cnt (p : Nat → Prop) : Nat → Nat
  | 0 => 0
  | n + 1 => by classical exact (cnt p n + (if p n then 1 else 0))
theorem cnt_pos {p : Nat → Prop} {n : Nat} (h : p n) : cnt p (n + 1) = cnt p n + 1 := by simp [cnt, h]
theorem cnt_neg {p : Nat → Prop} {n : Nat} (h : ¬ p n) : cnt p (n + 1) = cnt p n := by simp [cnt, h]
theorem cnt_bnd (p : Nat → Prop) : ∀ n, cnt p n ≤ n := by
  intro n
  induction n with
  | zero => simp [cnt]
  | succ n ih => simp only [cnt]; split <;> omega
theorem cnt_le {p q : Nat → Prop} : ∀ {n : Nat}, (∀ i, i < n → p i → q i) → cnt p n ≤ cnt q n := by
  intro n
  induction n with
  | zero => intro _; simp [cnt]
  | succ n ih =>
    intro h
    have h1 := ih (fun i hi => h i (by omega))
    have h2 := h n (by omega)
    by_cases hp : p n
    · rw [cnt_pos hp, cnt_pos (h2 hp)]; omega
    · rw [cnt_neg hp]; simp only [cnt]; omega
theorem cnt_congr {p q : Nat → Prop} {n : Nat} (h : ∀ i, i < n → (p i ↔ q i)) : cnt p n = cnt q n :=
  Nat.le_antisymm (cnt_le (fun i hi => (h i hi).mp)) (cnt_le (fun i hi => (h i hi).mpr))
theorem cnt_split (p q : Nat → Prop) : ∀ n, cnt p n = cnt (fun i => p i ∧ q i) n + cnt (fun i => p i ∧ ¬ q i) n := by
  intro n
  induction n with
  | zero => simp [cnt]
  | succ n ih =>
    by_cases hp : p n <;> by_cases hq : q n <;> simp [cnt, hp, hq] <;> omega
theorem cnt_one {a n : Nat} (h : a < n) : cnt (fun i => i = a) n = 1 := by
  induction n with
  | zero => omega
  | succ n ih =>
    by_cases ha : n = a
    · rw [cnt_pos (p := fun i => i = a) ha]
      have : cnt (fun i => i = a) n = cnt (fun _ => False) n := cnt_congr (fun i hi => ⟨fun z => by omega, fun z => z.elim⟩)
      rw [this]
      have h0 : ∀ n, cnt (fun _ => False) n = 0 := by intro n; induction n with
        | zero => rfl
        | succ n ih => rw [cnt_neg (by simp)]; exact ih
      rw [h0]
    · rw [cnt_neg (p := fun i => i = a) ha]; exact ih (by omega)
theorem cnt_erase {p : Nat → Prop} {a n : Nat} (h : a < n) (hp : p a) : cnt p n = cnt (fun i => p i ∧ ¬ i = a) n + 1 := by
  rw [cnt_split p (fun i => i = a) n]
  have : cnt (fun i => p i ∧ i = a) n = cnt (fun i => i = a) n := cnt_congr (fun i _ => ⟨fun z => z.2, fun z => ⟨by rw [z]; exact hp, z⟩⟩)
  rw [this, cnt_one h]; omega
theorem cnt_inj {k : Nat} {f : Nat → Nat} {p : Nat → Prop} : ∀ {n : Nat} {q : Nat → Prop}, (∀ i, i < n → p i → f i < k ∧ q (f i)) → (∀ i j, i < n → j < n → p i → p j → f i = f j → i = j) → cnt p n ≤ cnt q k := by
  intro n
  induction n with
  | zero => intro q _ _; simp [cnt]
  | succ n ih =>
    intro q h1 h2
    by_cases hp : p n
    · obtain ⟨g1, g2⟩ := h1 n (by omega) hp
      rw [cnt_pos hp, cnt_erase g1 g2]
      have := ih (q := fun i => q i ∧ ¬ i = f n) (fun i hi hpi => ⟨(h1 i (by omega) hpi).1, (h1 i (by omega) hpi).2, fun he => by
        have := h2 i n (by omega) (by omega) hpi hp he
        omega⟩) (fun i j hi hj => h2 i j (by omega) (by omega))
      omega
    · rw [cnt_neg hp]
      exact ih (fun i hi => h1 i (by omega)) (fun i j hi hj => h2 i j (by omega) (by omega))
theorem cnt_same {p q : Nat → Prop} {n : Nat} (h : ∀ i, i < n → p i → q i) (he : cnt q n ≤ cnt p n) : ∀ i, i < n → q i → p i := by
  intro i hi hq
  apply Classical.byContradiction
  intro hp
  have h1 := cnt_erase (p := q) hi hq
  have h2 : cnt p n ≤ cnt (fun j => q j ∧ ¬ j = i) n := cnt_le (fun j hj hpj => ⟨h j hj hpj, fun e => hp (e ▸ hpj)⟩)
  omega
/-- a matching: of each man his body, or -1 -/
def Mt (E : Nat → Nat → Prop) (nb nm : Nat) (f : Nat → Int) : Prop :=
  (∀ m, m < nm → f m = -1 ∨ (0 ≤ f m ∧ f m < nb ∧ E (f m).toNat m)) ∧ (∀ m m', m < nm → m' < nm → f m = f m' → ¬ f m = -1 → m = m')
noncomputable def siz (nm : Nat) (f : Nat → Int) : Nat := cnt (fun m => ¬ f m = -1) nm
def Cert (E : Nat → Nat → Prop) (nb nm : Nat) (f : Nat → Int) (C : Nat → Prop) : Prop :=
  (∀ b : Nat, b < nb → (∀ m, m < nm → ¬ f m = b) → C b) ∧ (∀ b m, b < nb → m < nm → C b → E b m → ¬ f m = -1 ∧ C (f m).toNat)
theorem mt_main {E : Nat → Nat → Prop} {nb nm : Nat} {f g : Nat → Int} {C : Nat → Prop} (hf : Mt E nb nm f) (hC : Cert E nb nm f C) (hg : Mt E nb nm g) :
    siz nm g ≤ siz nm f ∧ (siz nm f ≤ siz nm g → (∀ m, m < nm → ¬ f m = -1 → C (f m).toNat → ¬ g m = -1 ∧ C (g m).toNat) ∧ (∀ b : Nat, b < nb → ¬ C b → ∃ m, m < nm ∧ g m = b)) := by
  unfold siz
  have s1 := cnt_split (fun m => ¬ g m = -1) (fun m => C (g m).toNat) nm
  have s2 := cnt_split (fun m => ¬ f m = -1) (fun m => C (f m).toNat) nm
  have a1 : ∀ m, m < nm → (¬ g m = -1 ∧ C (g m).toNat) → (¬ f m = -1 ∧ C (f m).toNat) := by
    intro m hm ⟨h1, h2⟩
    obtain h3 | ⟨h3, h4, h5⟩ := hg.1 m hm
    · exact absurd h3 h1
    · exact hC.2 (g m).toNat m (by omega) hm h2 h5
  have a2 : ∀ q : Nat → Prop, (∀ m, m < nm → (¬ g m = -1 ∧ ¬ C (g m).toNat) → q (g m).toNat) → cnt (fun m => ¬ g m = -1 ∧ ¬ C (g m).toNat) nm ≤ cnt q nb := by
    intro q hq
    refine cnt_inj (f := fun m => (g m).toNat) (fun m hm hp => ⟨?_, hq m hm hp⟩) (fun i j hi hj hp hq he => ?_)
    · obtain h3 | ⟨h3, h4, h5⟩ := hg.1 m hm
      · exact absurd h3 hp.1
      · show (g m).toNat < nb
        omega
    · obtain h3 | ⟨h3, h4, h5⟩ := hg.1 i hi
      · exact absurd h3 hp.1
      · obtain h6 | ⟨h6, h7, h8⟩ := hg.1 j hj
        · exact absurd h6 hq.1
        · refine hg.2 i j hi hj ?_ hp.1
          have he' : (g i).toNat = (g j).toNat := he
          omega
  have a3 : cnt (fun b => ¬ C b) nb ≤ cnt (fun m => ¬ f m = -1 ∧ ¬ C (f m).toNat) nm := by
    have hex : ∀ b : Nat, b < nb → ¬ C b → ∃ m, m < nm ∧ f m = b := by
      intro b hb hc
      apply Classical.byContradiction
      intro hn
      exact hc (hC.1 b hb (fun m hm he => hn ⟨m, hm, he⟩))
    refine cnt_inj (f := fun b => if h : ∃ m, m < nm ∧ f m = (b : Nat) then h.choose else 0) (fun b hb hc => ?_) (fun i j hi hj hp hq he => ?_)
    · have h := hex b hb hc
      show (if h : ∃ m, m < nm ∧ f m = (b : Nat) then h.choose else 0) < nm ∧ _
      rw [dif_pos h]
      have h1 := h.choose_spec
      refine ⟨h1.1, by omega, ?_⟩
      rw [h1.2]; exact hc
    · have h := hex i hi hp
      have h' := hex j hj hq
      have he' : (if h : ∃ m, m < nm ∧ f m = (i : Nat) then h.choose else 0) = (if h : ∃ m, m < nm ∧ f m = (j : Nat) then h.choose else 0) := he
      rw [dif_pos h, dif_pos h'] at he'
      have h1 := h.choose_spec
      have h2 := h'.choose_spec
      rw [← he', h1.2] at h2
      omega
  have b1 := cnt_le a1
  have b2 := a2 (fun b => ¬ C b) (fun m hm hp => hp.2)
  refine ⟨by omega, fun he => ⟨?_, ?_⟩⟩
  · intro m hm h1 h2
    exact cnt_same a1 (by omega) m hm ⟨h1, h2⟩
  · intro b hb hc
    apply Classical.byContradiction
    intro hn
    have b3 := a2 (fun x => ¬ C x ∧ ¬ x = b) (fun m hm hp => ⟨hp.2, fun e => hn ⟨m, hm, by
      obtain h3 | ⟨h3, h4, h5⟩ := hg.1 m hm
      · exact absurd h3 hp.1
      · omega⟩⟩)
    have b4 := cnt_erase (p := fun x => ¬ C x) hb hc
    omega
/-- chains of bodies: what comes free one for the other -/
def Chn (E : Nat → Nat → Prop) (nb nm : Nat) (f : Nat → Int) (ch : Nat → Nat → Prop) : Prop :=
  (∀ x, x < nb → ch x x) ∧ (∀ x y z, x < nb → y < nb → z < nb → ch x y → ch y z → ch x z) ∧ (∀ x m, x < nb → m < nm → E x m → ¬ f m = -1 → ch x (f m).toNat) ∧ (∀ C : Nat → Prop, (∀ x m, x < nb → m < nm → C x → E x m → ¬ f m = -1 → C (f m).toNat) → ∀ x y, x < nb → y < nb → C x → ch x y → C y)
def Loose (nb nm : Nat) (f : Nat → Int) (ch : Nat → Nat → Prop) (x : Nat) : Prop := ∃ u : Nat, u < nb ∧ (∀ m, m < nm → ¬ f m = u) ∧ ch u x
def Giving (E : Nat → Nat → Prop) (nb nm : Nat) (f : Nat → Int) (ch : Nat → Nat → Prop) (x : Nat) : Prop := ∃ y, y < nb ∧ ch x y ∧ ∃ m, m < nm ∧ f m = -1 ∧ E y m
def Takes (E : Nat → Nat → Prop) (nb nm : Nat) (f : Nat → Int) (ch : Nat → Nat → Prop) (b m : Nat) : Prop := Loose nb nm f ch b ∨ f m = -1 ∨ Giving E nb nm f ch (f m).toNat ∨ ch (f m).toNat b
theorem mt_in {E : Nat → Nat → Prop} {nb nm : Nat} {f : Nat → Int} (hf : Mt E nb nm f) {m : Nat} (hm : m < nm) (h : ¬ f m = -1) : 0 ≤ f m ∧ f m < nb ∧ E (f m).toNat m := (hf.1 m hm).resolve_left h
/-- what is loose is a closed set -/
theorem loose_in {E : Nat → Nat → Prop} {nb nm : Nat} {f : Nat → Int} {ch : Nat → Nat → Prop} {C : Nat → Prop} (hch : Chn E nb nm f ch) (hu : ∀ b : Nat, b < nb → (∀ m, m < nm → ¬ f m = b) → C b) (hc : ∀ x m, x < nb → m < nm → C x → E x m → ¬ f m = -1 → C (f m).toNat) {x : Nat} (hx : x < nb) (h : Loose nb nm f ch x) : C x := by
  obtain ⟨u, h1, h2, h3⟩ := h
  exact hch.2.2.2 C hc u x h1 hx (hu u h1 h2) h3
theorem who_not {E : Nat → Nat → Prop} {nb nm : Nat} {f g : Nat → Int} {D : Nat → Prop} {ch : Nat → Nat → Prop} (hf : Mt E nb nm f) (hD : Cert E nb nm f D) (hch : Chn E nb nm f ch) (hg : Mt E nb nm g) {b m : Nat} (hb : b < nb) (hm : m < nm) (hP : ¬ Takes E nb nm f ch b m) (hs : siz nm f ≤ siz nm g) : ¬ g m = b := by
  unfold Takes at hP
  have n1 : ¬ Loose nb nm f ch b := fun z => hP (Or.inl z)
  have n2 : ¬ f m = -1 := fun z => hP (Or.inr (Or.inl z))
  have n3 : ¬ Giving E nb nm f ch (f m).toNat := fun z => hP (Or.inr (Or.inr (Or.inl z)))
  have n4 : ¬ ch (f m).toNat b := fun z => hP (Or.inr (Or.inr (Or.inr z)))
  obtain ⟨i1, i2, i3⟩ := mt_in hf hm n2
  have hC : Cert E nb nm f (fun x => Loose nb nm f ch x ∨ ch (f m).toNat x) := by
    refine ⟨fun x hx hu => Or.inl ⟨x, hx, hu, hch.1 x hx⟩, fun x y hx hy hc he => ?_⟩
    have hne : ¬ f y = -1 := by
      rcases hc with hc | hc
      · have hd : D x := loose_in hch hD.1 (fun x m hx hm hd he _ => (hD.2 x m hx hm hd he).2) hx hc
        exact (hD.2 x y hx hy hd he).1
      · exact fun hz => n3 ⟨x, hx, hc, y, hy, hz, he⟩
    obtain ⟨j1, j2, j3⟩ := mt_in hf hy hne
    refine ⟨hne, ?_⟩
    rcases hc with ⟨u, h1, h2, h3⟩ | hc
    · exact Or.inl ⟨u, h1, h2, hch.2.1 u x _ h1 hx (by omega) h3 (hch.2.2.1 x y hx hy he hne)⟩
    · exact Or.inr (hch.2.1 _ x _ (by omega) hx (by omega) hc (hch.2.2.1 x y hx hy he hne))
  have h1 := ((mt_main hf hC hg).2 hs).1 m hm n2 (Or.inr (hch.1 _ (by omega)))
  intro he
  rw [he] at h1
  rcases h1.2 with h | h
  · exact n1 h
  · exact n4 h
/-- a matching less a man -/
noncomputable def les (f : Nat → Int) (q : Nat → Prop) : Nat → Int := fun m => @ite Int (q m) (Classical.propDecidable _) (-1) (f m)
theorem siz_les1 {nm : Nat} {f : Nat → Int} {q : Nat → Prop} {a : Nat} (hq : ∀ m, m < nm → q m → ¬ f m = -1 → m = a) : siz nm f ≤ siz nm (les f q) + 1 := by
  unfold siz
  by_cases h : a < nm ∧ ¬ f a = -1
  · rw [cnt_erase (p := fun m => ¬ f m = -1) h.1 h.2]
    have : cnt (fun i => ¬ f i = -1 ∧ ¬ i = a) nm ≤ cnt (fun m => ¬ les f q m = -1) nm := by
      refine cnt_le (fun i hi hp => ?_)
      unfold les
      rw [if_neg (fun hz => hp.2 (hq i hi hz hp.1))]
      exact hp.1
    omega
  · have : cnt (fun m => ¬ f m = -1) nm ≤ cnt (fun m => ¬ les f q m = -1) nm := by
      refine cnt_le (fun i hi hp => ?_)
      unfold les
      rw [if_neg (fun hz => h (by have := hq i hi hz hp; subst this; exact ⟨hi, hp⟩))]
      exact hp
    omega
theorem mt_les {E E' : Nat → Nat → Prop} {nb nm : Nat} {f : Nat → Int} {q : Nat → Prop} (hf : Mt E nb nm f) (h : ∀ m, m < nm → ¬ q m → ¬ f m = -1 → E' (f m).toNat m) : Mt E' nb nm (les f q) := by
  refine ⟨fun m hm => ?_, fun m m' hm hm' he hn => ?_⟩
  · unfold les
    by_cases hq : q m
    · rw [if_pos hq]; exact Or.inl rfl
    · rw [if_neg hq]
      obtain h1 | h1 := hf.1 m hm
      · exact Or.inl h1
      · exact Or.inr ⟨h1.1, h1.2.1, h m hm hq (by omega)⟩
  · unfold les at he hn
    by_cases hq : q m
    · rw [if_pos hq] at hn; exact absurd rfl hn
    · rw [if_neg hq] at he hn
      by_cases hq' : q m'
      · rw [if_pos hq'] at he; exact absurd he hn
      · rw [if_neg hq'] at he
        exact hf.2 m m' hm hm' he hn
theorem les_ne {f : Nat → Int} {q : Nat → Prop} {m : Nat} (h : ¬ les f q m = -1) : ¬ q m ∧ les f q m = f m := by
  unfold les at h ⊢
  by_cases hq : q m
  · rw [if_pos hq] at h; exact absurd rfl h
  · exact ⟨hq, by rw [if_neg hq]⟩
/-- who a body can be: by chains, and by what is left without both -/
theorem who_iff {E : Nat → Nat → Prop} {nb nm : Nat} {f f2 : Nat → Int} {D C2 : Nat → Prop} {ch : Nat → Nat → Prop} (hf : Mt E nb nm f) (hD : Cert E nb nm f D) (hch : Chn E nb nm f ch) {b m : Nat} (hb : b < nb) (hm : m < nm) (hE : E b m)
    (h2 : Mt (fun x y => E x y ∧ ¬ x = b ∧ ¬ y = m) nb nm f2) (hC2 : Cert (fun x y => E x y ∧ ¬ x = b ∧ ¬ y = m) nb nm f2 C2) : Takes E nb nm f ch b m ↔ siz nm f2 + 1 = siz nm f := by
  -- f2 with the pair is a matching
  have k1 : f2 m = -1 := by
    apply Classical.byContradiction
    intro hn
    exact (mt_in h2 hm hn).2.2.2.2 rfl
  have k2 : ∀ y, y < nm → ¬ f2 y = b := by
    intro y hy he
    have := mt_in h2 hy (by omega)
    exact this.2.2.2.1 (by omega)
  have hg : Mt E nb nm (fun y => if y = m then (b : Int) else f2 y) := by
    refine ⟨fun y hy => ?_, fun y y' hy hy' he hn => ?_⟩
    · show (if y = m then (b : Int) else f2 y) = -1 ∨ _
      by_cases h : y = m
      · subst h; simp only [if_true]; exact Or.inr ⟨by omega, by omega, by simpa using hE⟩
      · simp only [if_neg h]
        obtain z | z := h2.1 y hy
        · exact Or.inl z
        · exact Or.inr ⟨z.1, z.2.1, z.2.2.1⟩
    · have he' : (if y = m then (b : Int) else f2 y) = (if y' = m then (b : Int) else f2 y') := he
      have hn' : ¬ (if y = m then (b : Int) else f2 y) = -1 := hn
      by_cases h : y = m
      · by_cases h' : y' = m
        · omega
        · rw [if_pos h, if_neg h'] at he'
          exact absurd he'.symm (k2 y' hy')
      · by_cases h' : y' = m
        · rw [if_neg h, if_pos h'] at he'
          exact absurd he' (k2 y hy)
        · rw [if_neg h, if_neg h'] at he'
          rw [if_neg h] at hn'
          exact h2.2 y y' hy hy' he' hn'
  have sg : siz nm (fun y => if y = m then (b : Int) else f2 y) = siz nm f2 + 1 := by
    unfold siz
    rw [cnt_erase (p := fun y => ¬ (if y = m then (b : Int) else f2 y) = -1) hm (by simp only [if_true]; omega)]
    congr 1
    refine cnt_congr (fun y hy => ?_)
    by_cases h : y = m
    · subst h; simp [k1]
    · simp [h]
  have le1 := (mt_main hf hD hg).1
  constructor
  · intro hT
    apply Classical.byContradiction
    intro hne
    have hlt : siz nm f2 + 2 ≤ siz nm f := by omega
    -- f less m and less b's man
    have q1 : ∀ y, y < nm → y = m → ¬ f y = -1 → y = m := fun y _ h _ => h
    have l1 := siz_les1 (f := f) (q := fun y => y = m) (a := m) q1
    have e1 : Mt E nb nm (les f (fun y => y = m)) := mt_les hf (fun y hy _ hn => (mt_in hf hy hn).2.2)
    obtain ⟨a, ha⟩ : ∃ a, ∀ y, y < nm → les f (fun y => y = m) y = b → ¬ les f (fun y => y = m) y = -1 → y = a := by
      by_cases hx : ∃ a, a < nm ∧ les f (fun y => y = m) a = b
      · obtain ⟨a, g1, g2⟩ := hx
        exact ⟨a, fun y hy h1 h2 => e1.2 y a hy g1 (by omega) h2⟩
      · exact ⟨0, fun y hy h1 _ => absurd ⟨y, hy, h1⟩ hx⟩
    have l2 := siz_les1 (f := les f (fun y => y = m)) (q := fun y => les f (fun y => y = m) y = b) (a := a) ha
    have e2 : Mt (fun x y => E x y ∧ ¬ x = b ∧ ¬ y = m) nb nm (les (les f (fun y => y = m)) (fun y => les f (fun y => y = m) y = b)) := by
      refine mt_les e1 (fun y hy h1 h2 => ?_)
      have h3 := mt_in e1 hy h2
      exact ⟨h3.2.2, by omega, (les_ne h2).1⟩
    obtain ⟨r1, r2⟩ := mt_main h2 hC2 e2
    have r3 := r2 (by omega)
    -- sizes are exact
    have x1 : ¬ f m = -1 := by
      intro hz
      have : siz nm f ≤ siz nm (les f (fun y => y = m)) := by
        unfold siz
        refine cnt_le (fun i hi hp => ?_)
        unfold les
        rw [if_neg (fun h => hp (by rw [h]; exact hz))]
        exact hp
      omega
    have x2 : ∃ y, y < nm ∧ les f (fun y => y = m) y = b := by
      apply Classical.byContradiction
      intro hz
      have : siz nm (les f (fun y => y = m)) ≤ siz nm (les (les f (fun y => y = m)) (fun y => les f (fun y => y = m) y = b)) := by
        unfold siz
        refine cnt_le (fun i hi hp => ?_)
        show ¬ les (les f (fun y => y = m)) _ i = -1
        unfold les
        unfold les at hp
        rw [if_neg (fun h => hz ⟨i, hi, by unfold les; exact h⟩)]
        exact hp
      omega
    obtain ⟨y0, hy0, hy1⟩ := x2
    have hy2 := les_ne (f := f) (q := fun y => y = m) (m := y0) (by omega)
    have hfy0 : f y0 = b := by rw [← hy2.2]; exact hy1
    obtain ⟨i1, i2, i3⟩ := mt_in hf hm x1
    have hhb : ¬ (f m).toNat = b := by
      intro hz
      have : m = y0 := hf.2 m y0 hm hy0 (by omega) x1
      exact hy2.1 this.symm
    -- who is outside C2 is matched by what is left
    have hout : ∀ x : Nat, x < nb → (∀ y, y < nm → f y = x → y = m) → C2 x := by
      intro x hx hz
      apply Classical.byContradiction
      intro hc
      obtain ⟨y, hy, hye⟩ := r3.2 x hx hc
      have g1 := les_ne (by rw [hye]; omega : ¬ les (les f (fun y => y = m)) (fun y => les f (fun y => y = m) y = b) y = -1)
      rw [g1.2] at hye
      have g2 := les_ne (f := f) (q := fun y => y = m) (m := y) (by omega)
      rw [g2.2] at hye
      exact g2.1 (hz y hy hye)
    -- C3
    have hclosed : ∀ x y, x < nb → y < nm → (C2 x ∧ ¬ x = b) → E x y → ¬ f y = -1 ∧ (C2 (f y).toNat ∧ ¬ (f y).toNat = b) := by
      intro x y hx hy hc he
      by_cases hym : y = m
      · subst hym
        refine ⟨x1, hout _ (by omega) (fun y' hy' h => ?_), hhb⟩
        exact hf.2 y' y hy' hm (by omega) (by omega)
      · have g1 := hC2.2 x y hx hy hc.1 ⟨he, hc.2, hym⟩
        have g2 := r3.1 y hy g1.1 g1.2
        have g3 := les_ne g2.1
        have g4 := g2.2
        rw [g3.2] at g4
        have g5 := les_ne (f := f) (q := fun y => y = m) (m := y) (by rw [← g3.2]; exact g2.1)
        rw [g5.2] at g4
        have g6 : ¬ les f (fun y => y = m) y = b := g3.1
        rw [g5.2] at g6
        have g7 : ¬ f y = -1 := by rw [← g5.2, ← g3.2]; exact g2.1
        have g8 := mt_in hf hy g7
        exact ⟨g7, g4, by omega⟩
    rcases hT with hT | hT | hT | hT
    · have := loose_in (C := fun x => C2 x ∧ ¬ x = b) hch (fun x hx hu => ⟨hout x hx (fun y hy h => absurd h (hu y hy)), fun e => hu y0 hy0 (by rw [hfy0, e])⟩) (fun x y hx hy hc he _ => (hclosed x y hx hy hc he).2) hb hT
      exact this.2 rfl
    · exact x1 hT
    · obtain ⟨y, hy, h1, m', hm', h3, h4⟩ := hT
      have hh : C2 (f m).toNat ∧ ¬ (f m).toNat = b := ⟨hout _ (by omega) (fun y' hy' h => hf.2 y' m hy' hm (by omega) (by omega)), hhb⟩
      have := hch.2.2.2 (fun x => C2 x ∧ ¬ x = b) (fun x y hx hy hc he _ => (hclosed x y hx hy hc he).2) (f m).toNat y (by omega) hy hh h1
      exact (hclosed y m' hy hm' this h4).1 h3
    · have hh : C2 (f m).toNat ∧ ¬ (f m).toNat = b := ⟨hout _ (by omega) (fun y' hy' h => hf.2 y' m hy' hm (by omega) (by omega)), hhb⟩
      have := hch.2.2.2 (fun x => C2 x ∧ ¬ x = b) (fun x y hx hy hc he _ => (hclosed x y hx hy hc he).2) (f m).toNat b (by omega) hb hh hT
      exact this.2 rfl
  · intro he
    apply Classical.byContradiction
    intro hP
    have := who_not hf hD hch hg hb hm hP (by omega)
    exact this (by simp)
/-- whether a body has a man in all -/
theorem named_iff {E : Nat → Nat → Prop} {nb nm : Nat} {f f3 : Nat → Int} {D C3 : Nat → Prop} {ch : Nat → Nat → Prop} (hf : Mt E nb nm f) (hD : Cert E nb nm f D) (hch : Chn E nb nm f ch) {b : Nat} (hb : b < nb)
    (h3 : Mt (fun x y => E x y ∧ ¬ x = b) nb nm f3) (hC3 : Cert (fun x y => E x y ∧ ¬ x = b) nb nm f3 C3) : Loose nb nm f ch b ↔ siz nm f3 = siz nm f := by
  have hg : Mt E nb nm f3 := ⟨fun y hy => (h3.1 y hy).imp id (fun z => ⟨z.1, z.2.1, z.2.2.1⟩), h3.2⟩
  have le1 := (mt_main hf hD hg).1
  constructor
  · intro hL
    apply Classical.byContradiction
    intro hne
    obtain ⟨a, ha⟩ : ∃ a, ∀ y, y < nm → f y = b → ¬ f y = -1 → y = a := by
      by_cases hx : ∃ a, a < nm ∧ f a = b
      · obtain ⟨a, g1, g2⟩ := hx
        exact ⟨a, fun y hy h1 h2 => hf.2 y a hy g1 (by omega) h2⟩
      · exact ⟨0, fun y hy h1 _ => absurd ⟨y, hy, h1⟩ hx⟩
    have l1 := siz_les1 (f := f) (q := fun y => f y = b) (a := a) ha
    have e1 : Mt (fun x y => E x y ∧ ¬ x = b) nb nm (les f (fun y => f y = b)) := by
      refine mt_les hf (fun y hy h1 h2 => ?_)
      have h3 := mt_in hf hy h2
      exact ⟨h3.2.2, by omega⟩
    obtain ⟨r1, r2⟩ := mt_main h3 hC3 e1
    have r3 := r2 (by omega)
    have hex : ∃ y, y < nm ∧ f y = b := by
      apply Classical.byContradiction
      intro hz
      have : siz nm f ≤ siz nm (les f (fun y => f y = b)) := by
        unfold siz
        refine cnt_le (fun i hi hp => ?_)
        unfold les
        rw [if_neg (fun h => hz ⟨i, hi, h⟩)]
        exact hp
      omega
    obtain ⟨y0, hy0, hy1⟩ := hex
    have := loose_in (C := fun x => C3 x ∧ ¬ x = b) hch (fun x hx hu => ⟨by
      apply Classical.byContradiction
      intro hc
      obtain ⟨y, hy, hye⟩ := r3.2 x hx hc
      have g1 := les_ne (f := f) (q := fun y => f y = b) (m := y) (by omega)
      rw [g1.2] at hye
      exact hu y hy hye, fun e => hu y0 hy0 (by rw [hy1, e])⟩) (fun x y hx hy hc he hn => by
        have g1 := hC3.2 x y hx hy hc.1 ⟨he, hc.2⟩
        have g2 := r3.1 y hy g1.1 g1.2
        have g3 := les_ne g2.1
        have g4 := g2.2
        rw [g3.2] at g4
        have g5 : ¬ f y = b := g3.1
        have g8 := mt_in hf hy hn
        exact ⟨g4, by omega⟩) hb hL
    exact this.2 rfl
  · intro he
    apply Classical.byContradiction
    intro hL
    have hC : Cert E nb nm f (fun x => Loose nb nm f ch x) := by
      refine ⟨fun x hx hu => ⟨x, hx, hu, hch.1 x hx⟩, fun x y hx hy hc he => ?_⟩
      have hd : D x := loose_in hch hD.1 (fun x m hx hm hd he _ => (hD.2 x m hx hm hd he).2) hx hc
      have hne := (hD.2 x y hx hy hd he).1
      obtain ⟨j1, j2, j3⟩ := mt_in hf hy hne
      obtain ⟨u, h1, h2, h3⟩ := hc
      exact ⟨hne, u, h1, h2, hch.2.1 u x _ h1 hx (by omega) h3 (hch.2.2.1 x y hx hy he hne)⟩
    obtain ⟨y, hy, hye⟩ := ((mt_main hf hC hg).2 (by omega)).2 b hb hL
    have := mt_in h3 hy (by omega)
    exact this.2.2.2 (by omega)
