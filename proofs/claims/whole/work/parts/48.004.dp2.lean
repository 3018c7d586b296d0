/-! sets as numbers; the two tables -/
theorem Rn_ex {E : Nat → Nat → Prop} {nm : Nat} : ∀ {n : Nat} {B A : Nat → Prop} {k : Int}, 0 < Rn E (fun _ => True) nm n B A k → ∃ g, Mt (fun b m => B b ∧ A m ∧ E b m) n nm g ∧ (siz nm g : Int) = k := by
  intro n
  induction n with
  | zero =>
    intro B A k h
    simp only [Rn] at h
    have hk : k = 0 := by
      apply Classical.byContradiction
      intro hz
      rw [sif_neg hz] at h
      omega
    refine ⟨fun _ => -1, ⟨fun m _ => Or.inl rfl, fun m m' _ _ _ hn => absurd rfl hn⟩, ?_⟩
    unfold siz
    rw [cnt_congr (q := fun _ => False) (fun i _ => ⟨fun z => absurd rfl z, fun z => z.elim⟩), hk]
    have h0 : ∀ n, cnt (fun _ => False) n = 0 := by intro n; induction n with
      | zero => rfl
      | succ n ih => rw [cnt_neg (by simp)]; exact ih
    rw [h0]; rfl
  | succ n ih =>
    intro B A k h
    rw [Rn_T] at h
    by_cases h1 : 0 < Rn E (fun _ => True) nm n B A k
    · obtain ⟨g, g1, g2⟩ := ih h1
      exact ⟨g, ⟨fun m hm => (g1.1 m hm).imp id (fun z => ⟨z.1, by omega, z.2.2⟩), g1.2⟩, g2⟩
    · have hB : B n := by
        apply Classical.byContradiction
        intro hz
        rw [sif_neg hz] at h
        omega
      rw [sif_pos hB] at h
      have : ∃ m, m < nm ∧ 0 < sif (A m ∧ E n m) (Rn E (fun _ => True) nm n B (fun x => A x ∧ ¬ x = m) (k - 1)) := by
        apply Classical.byContradiction
        intro hz
        have : ∀ j, j ≤ nm → sm (fun m => sif (A m ∧ E n m) (Rn E (fun _ => True) nm n B (fun x => A x ∧ ¬ x = m) (k - 1))) j ≤ 0 := by
          intro j
          induction j with
          | zero => intro _; exact Int.le_refl 0
          | succ j ih2 =>
            intro hj
            simp only [sm]
            have h3 := ih2 (by omega)
            have h4 : ¬ 0 < sif (A j ∧ E n j) (Rn E (fun _ => True) nm n B (fun x => A x ∧ ¬ x = j) (k - 1)) := fun z => hz ⟨j, by omega, z⟩
            omega
        have := this nm (Nat.le_refl _)
        omega
      obtain ⟨m, hm, h2⟩ := this
      have h3 : A m ∧ E n m := by
        apply Classical.byContradiction
        intro hz
        rw [sif_neg hz] at h2
        omega
      rw [sif_pos h3] at h2
      obtain ⟨g, g1, g2⟩ := ih h2
      have hgm : g m = -1 := by
        apply Classical.byContradiction
        intro hz
        exact (mt_in g1 hm hz).2.2.2.1.2 rfl
      refine ⟨fun x => if x = m then (n : Int) else g x, ⟨fun x hx => ?_, fun x x' hx hx' he hn => ?_⟩, ?_⟩
      · show (if x = m then (n : Int) else g x) = -1 ∨ _
        by_cases hxm : x = m
        · subst hxm; simp only [if_true]; exact Or.inr ⟨by omega, by omega, by simpa using ⟨hB, h3.1, h3.2⟩⟩
        · simp only [if_neg hxm]
          exact (g1.1 x hx).imp id (fun z => ⟨z.1, by omega, z.2.2.1, z.2.2.2.1.1, z.2.2.2.2⟩)
      · have he' : (if x = m then (n : Int) else g x) = (if x' = m then (n : Int) else g x') := he
        have hn' : ¬ (if x = m then (n : Int) else g x) = -1 := hn
        by_cases hxm : x = m <;> by_cases hxm' : x' = m
        · omega
        · rw [if_pos hxm, if_neg hxm'] at he'
          have := mt_in g1 hx' (by omega)
          omega
        · rw [if_neg hxm, if_pos hxm'] at he'
          have := mt_in g1 hx (by omega)
          omega
        · rw [if_neg hxm, if_neg hxm'] at he'
          rw [if_neg hxm] at hn'
          exact g1.2 x x' hx hx' he' hn'
      · unfold siz at g2 ⊢
        rw [cnt_erase (p := fun y => ¬ (if y = m then (n : Int) else g y) = -1) hm (by simp only [if_true]; omega)]
        rw [cnt_congr (q := fun y => ¬ g y = -1) (fun y hy => by
          by_cases h : y = m
          · subst h; simp [hgm]
          · simp [h])]
        omega
/-- who must be named is named by every greatest -/
theorem Rn_fr {E : Nat → Nat → Prop} {fr : Nat → Prop} {nm : Nat} : ∀ {n : Nat} {B A : Nat → Prop} {k : Int}, (∀ g, Mt (fun b m => B b ∧ A m ∧ E b m) n nm g → (siz nm g : Int) = k → ∀ b : Nat, b < n → B b → ¬ fr b → ∃ m, m < nm ∧ g m = b) → Rn E fr nm n B A k = Rn E (fun _ => True) nm n B A k := by
  intro n
  induction n with
  | zero => intro B A k _; rfl
  | succ n ih =>
    intro B A k h
    rw [Rn_T]
    simp only [Rn]
    congr 1
    · by_cases hf : B n → fr n
      · rw [sif_pos hf]
        refine ih (fun g g1 g2 b hb => ?_)
        exact h g ⟨fun m hm => (g1.1 m hm).imp id (fun z => ⟨z.1, by omega, z.2.2⟩), g1.2⟩ g2 b (by omega)
      · rw [sif_neg hf]
        have hB : B n := Classical.byContradiction (fun z => hf (fun y => absurd y z))
        have hF : ¬ fr n := fun z => hf (fun _ => z)
        have h0 := Rn_nn (E := E) (fr := fun _ => True) (nm := nm) (n := n) (B := B) (A := A) (k := k)
        apply Classical.byContradiction
        intro hz
        obtain ⟨g, g1, g2⟩ := Rn_ex (E := E) (nm := nm) (n := n) (B := B) (A := A) (k := k) (by omega)
        obtain ⟨m, hm, he⟩ := h g ⟨fun m hm => (g1.1 m hm).imp id (fun z => ⟨z.1, by omega, z.2.2⟩), g1.2⟩ g2 n (by omega) hB hF
        have := mt_in g1 hm (by omega)
        omega
    · refine sif_congr Iff.rfl (fun hB => sm_congr (fun m hm => sif_congr Iff.rfl (fun h3 => ?_)))
      refine ih (fun g g1 g2 b hb hBb hF => ?_)
      have hgm : g m = -1 := by
        apply Classical.byContradiction
        intro hz
        exact (mt_in g1 hm hz).2.2.2.1.2 rfl
      obtain ⟨m', hm', he⟩ := h (fun x => if x = m then (n : Int) else g x) (by
        refine ⟨fun x hx => ?_, fun x x' hx hx' he hn => ?_⟩
        · show (if x = m then (n : Int) else g x) = -1 ∨ _
          by_cases hxm : x = m
          · subst hxm; simp only [if_true]; exact Or.inr ⟨by omega, by omega, by simpa using ⟨hB, h3.1, h3.2⟩⟩
          · simp only [if_neg hxm]
            exact (g1.1 x hx).imp id (fun z => ⟨z.1, by omega, z.2.2.1, z.2.2.2.1.1, z.2.2.2.2⟩)
        · have he' : (if x = m then (n : Int) else g x) = (if x' = m then (n : Int) else g x') := he
          have hn' : ¬ (if x = m then (n : Int) else g x) = -1 := hn
          by_cases hxm : x = m <;> by_cases hxm' : x' = m
          · omega
          · rw [if_pos hxm, if_neg hxm'] at he'
            have := mt_in g1 hx' (by omega)
            omega
          · rw [if_neg hxm, if_pos hxm'] at he'
            have := mt_in g1 hx (by omega)
            omega
          · rw [if_neg hxm, if_neg hxm'] at he'
            rw [if_neg hxm] at hn'
            exact g1.2 x x' hx hx' he' hn') (by
        unfold siz at g2 ⊢
        rw [cnt_erase (p := fun y => ¬ (if y = m then (n : Int) else g y) = -1) hm (by simp only [if_true]; omega)]
        rw [cnt_congr (q := fun y => ¬ g y = -1) (fun y hy => by
          by_cases h : y = m
          · subst h; simp [hgm]
          · simp [h])]
        omega) b (by omega) hBb hF
      have he' : (if m' = m then (n : Int) else g m') = b := he
      by_cases hx : m' = m
      · rw [if_pos hx] at he'; omega
      · rw [if_neg hx] at he'; exact ⟨m', hm', he'⟩
theorem sm_split (F : Nat → Int) (a : Nat) : ∀ b, sm F (a + b) = sm F a + sm (fun i => F (a + i)) b := by
  intro b
  induction b with
  | zero => simp [sm]
  | succ b ih => rw [← Nat.add_assoc]; simp only [sm]; rw [ih]; omega
/-- sets with b, one by one with those without -/
theorem sm_bit {b : Nat} : ∀ {n : Nat} (_ : b < n) (q : Nat → Prop) (W : Nat → Int), sm (fun S => sif (S.testBit b = true ∧ q S) (W (S - 2 ^ b))) (2 ^ n) = sm (fun S => sif (¬ S.testBit b = true ∧ q (S + 2 ^ b)) (W S)) (2 ^ n) := by
  intro n
  induction n with
  | zero => intro h; omega
  | succ n ih =>
    intro hb q W
    have e : 2 ^ (n + 1) = 2 ^ n + 2 ^ n := by rw [Nat.pow_succ]; omega
    rw [e, sm_split, sm_split]
    by_cases hbn : b = n
    · subst hbn
      have a1 : ∀ S, S < 2 ^ b → S.testBit b = false := fun S hS => Nat.testBit_lt_two_pow hS
      have a2 : ∀ S, S < 2 ^ b → (2 ^ b + S).testBit b = true := fun S hS => by rw [Nat.testBit_two_pow_add_eq, a1 S hS]; rfl
      rw [sm_sif0 (fun i hi z => by rw [a1 i hi] at z; exact absurd z.1 (by decide))]
      rw [sm_sif0 (p := fun i => ¬ (2 ^ b + i).testBit b = true ∧ q (2 ^ b + i + 2 ^ b)) (fun i hi z => z.1 (a2 i hi))]
      rw [Int.zero_add, Int.add_zero]
      refine sm_congr (fun i hi => sif_congr ⟨fun z => ⟨by rw [a1 i hi]; decide, by rw [Nat.add_comm]; exact z.2⟩, fun z => ⟨a2 i hi, by rw [Nat.add_comm]; exact z.2⟩⟩ (fun _ => ?_))
      congr 1; omega
    · rw [ih (by omega) q W]
      congr 1
      have h2 := ih (by omega) (fun S => q (2 ^ n + S)) (fun S => W (2 ^ n + S))
      have a1 : ∀ S, (2 ^ n + S).testBit b = S.testBit b := fun S => Nat.testBit_two_pow_add_gt (by omega) S
      have e1 : sm (fun i => sif ((2 ^ n + i).testBit b = true ∧ q (2 ^ n + i)) (W (2 ^ n + i - 2 ^ b))) (2 ^ n) = sm (fun S => sif (S.testBit b = true ∧ q (2 ^ n + S)) (W (2 ^ n + (S - 2 ^ b)))) (2 ^ n) := by
        refine sm_congr (fun i hi => sif_congr (by rw [a1]) (fun z => ?_))
        have : 2 ^ b ≤ i := Nat.ge_two_pow_of_testBit (by rw [← a1]; exact z.1)
        congr 1; omega
      rw [e1, h2]
      refine sm_congr (fun i hi => sif_congr (by rw [a1, Nat.add_assoc]) (fun _ => rfl))
noncomputable def card (n S : Nat) : Nat := cnt (fun i => S.testBit i = true) n
/-- the sets within A, of size k -/
def Wt (n : Nat) (A : Nat → Prop) (k : Int) (S : Nat) : Prop := (∀ x, x < n → S.testBit x = true → A x) ∧ (card n S : Int) = k
theorem tb_add {S b : Nat} (h : ¬ S.testBit b = true) (x : Nat) : (S + 2 ^ b).testBit x = (S.testBit x || decide (x = b)) := by
  have hr : S % 2 ^ (b + 1) < 2 ^ (b + 1) := Nat.mod_lt _ (Nat.two_pow_pos _)
  have h1 : (S % 2 ^ (b + 1)).testBit b = false := by
    rw [Nat.testBit_mod_two_pow]; simp [h]
  have hr2 : S % 2 ^ (b + 1) < 2 ^ b := by
    apply Nat.lt_pow_two_of_testBit
    intro i hi
    by_cases hib : i = b
    · rw [hib]; exact h1
    · exact Nat.testBit_lt_two_pow (Nat.lt_of_lt_of_le hr (Nat.pow_le_pow_right (by decide) (by omega)))
  have hS : S = 2 ^ (b + 1) * (S / 2 ^ (b + 1)) + S % 2 ^ (b + 1) := (Nat.div_add_mod S (2 ^ (b + 1))).symm
  have e2 : 2 ^ (b + 1) = 2 ^ b + 2 ^ b := by rw [Nat.pow_succ]; omega
  have hS2 : S + 2 ^ b = 2 ^ (b + 1) * (S / 2 ^ (b + 1)) + (2 ^ b + S % 2 ^ (b + 1)) := by omega
  have t1 : S.testBit x = if x < b + 1 then (S % 2 ^ (b + 1)).testBit x else (S / 2 ^ (b + 1)).testBit (x - (b + 1)) := by
    conv => lhs; rw [hS]
    exact Nat.testBit_two_pow_mul_add _ hr x
  have t2 : (S + 2 ^ b).testBit x = if x < b + 1 then (2 ^ b + S % 2 ^ (b + 1)).testBit x else (S / 2 ^ (b + 1)).testBit (x - (b + 1)) := by
    rw [hS2]
    exact Nat.testBit_two_pow_mul_add _ (by omega) x
  rw [t1, t2]
  by_cases hx : x < b + 1
  · rw [if_pos hx, if_pos hx]
    by_cases hxb : x = b
    · rw [hxb, Nat.testBit_two_pow_add_eq, h1]; simp
    · rw [Nat.testBit_two_pow_add_gt (by omega)]; simp [hxb]
  · rw [if_neg hx, if_neg hx]
    have : ¬ x = b := by omega
    simp [this]
theorem card_add {n S b : Nat} (hb : b < n) (h : ¬ S.testBit b = true) : card n (S + 2 ^ b) = card n S + 1 := by
  unfold card
  rw [cnt_erase (p := fun i => (S + 2 ^ b).testBit i = true) hb (by rw [tb_add h]; simp)]
  congr 1
  refine cnt_congr (fun i hi => ?_)
  rw [tb_add h]
  by_cases hx : i = b
  · subst hx; simp [h]
  · simp [hx]
theorem Wt_add {n S b : Nat} {A : Nat → Prop} {k : Int} (hb : b < n) : (¬ S.testBit b = true ∧ Wt n A k (S + 2 ^ b)) ↔ (A b ∧ Wt n (fun x => A x ∧ ¬ x = b) (k - 1) S) := by
  constructor
  · intro ⟨h1, h2, h3⟩
    rw [card_add hb h1] at h3
    refine ⟨h2 b hb (by rw [tb_add h1]; simp), fun x hx hs => ⟨h2 x hx (by rw [tb_add h1, hs]; rfl), fun e => h1 (e ▸ hs)⟩, by omega⟩
  · intro ⟨h1, h2, h3⟩
    have h4 : ¬ S.testBit b = true := fun z => (h2 b hb z).2 rfl
    refine ⟨h4, fun x hx hs => ?_, by rw [card_add hb h4]; omega⟩
    rw [tb_add h4] at hs
    by_cases hxb : x = b
    · rw [hxb]; exact h1
    · simp only [hxb, decide_false, Bool.or_false] at hs
      exact (h2 x hx hs).1
/-- a table of sets of men tells the matchings of the bodies below b -/
def TabN (E : Nat → Nat → Prop) (fr : Nat → Prop) (nm b : Nat) (V : Nat → Int) : Prop := ∀ (A : Nat → Prop) (k : Int), sm (fun T => sif (Wt nm A k T) (V T)) (2 ^ nm) = Rn E fr nm b (fun _ => True) A k
theorem TabN_step {E : Nat → Nat → Prop} {fr : Nat → Prop} {nm b : Nat} {V V' : Nat → Int} (h : TabN E fr nm b V) (hs : ∀ p : Nat → Prop, sm (fun T => sif (p T) (V' T)) (2 ^ nm) = sif (fr b) (sm (fun T => sif (p T) (V T)) (2 ^ nm)) + sm (fun s => sm (fun m => sif (¬ s.testBit m = true ∧ E b m ∧ p (s + 2 ^ m)) (V s)) nm) (2 ^ nm)) : TabN E fr nm (b + 1) V' := by
  intro A k
  rw [hs, h A k]
  simp only [Rn]
  congr 1
  · exact sif_congr ⟨fun z _ => z, fun z => z trivial⟩ (fun _ => rfl)
  · rw [sif_pos trivial, sm_swap]
    refine sm_congr (fun m hm => ?_)
    rw [← h]
    rw [sif_sm]
    refine sm_congr (fun s hs => ?_)
    show sif _ _ = sif _ (sif _ _)
    rw [sif_and]
    have := Wt_add (n := nm) (S := s) (b := m) (A := A) (k := k) hm
    exact sif_congr ⟨fun z => by
      have := this.mp ⟨z.1, z.2.2⟩
      exact ⟨⟨this.1, z.2.1⟩, this.2⟩, fun z => by
      have := this.mpr ⟨z.1.1, z.2⟩
      exact ⟨this.1, z.1.2, this.2⟩⟩ (fun _ => rfl)
theorem card_pos {n S : Nat} (hS : S < 2 ^ n) (h : card n S = 0) : S = 0 := by
  apply Nat.eq_of_testBit_eq
  intro i
  rw [Nat.zero_testBit]
  by_cases hi : i < n
  · apply Classical.byContradiction
    intro hz
    have h1 : S.testBit i = true := by simpa using hz
    unfold card at h
    rw [cnt_erase (p := fun i => S.testBit i = true) hi h1] at h
    omega
  · exact Nat.testBit_lt_two_pow (Nat.lt_of_lt_of_le hS (Nat.pow_le_pow_right (by decide) (by omega)))
theorem card_0 (n : Nat) : card n 0 = 0 := by
  unfold card
  induction n with
  | zero => rfl
  | succ n ih => rw [cnt_neg (by simp)]; exact ih
theorem sm_first {nm : Nat} {V : Nat → Int} (h0 : V 0 = 1) (h1 : ∀ T, T < 2 ^ nm → ¬ T = 0 → V T = 0) (A : Nat → Prop) (k : Int) : sm (fun T => sif (Wt nm A k T) (V T)) (2 ^ nm) = sif (k = 0) 1 := by
  rw [sm_one (a := 0) (Nat.two_pow_pos nm)]
  rw [sm_congr (G := fun _ => 0) (fun i hi => by
    show (if i = 0 then 0 else sif _ _) = 0
    by_cases h : i = 0
    · rw [if_pos h]
    · rw [if_neg h, h1 i hi h]; unfold sif; split <;> rfl), sm_0, Int.add_zero, h0]
  exact sif_congr ⟨fun z => by have := z.2; rw [card_0] at this; simpa using this.symm, fun z => ⟨fun x _ hx => by simp at hx, by rw [card_0, z]; rfl⟩⟩ (fun _ => rfl)
theorem TabN_0 {E : Nat → Nat → Prop} {fr : Nat → Prop} {nm : Nat} {V : Nat → Int} (h0 : V 0 = 1) (h1 : ∀ T, T < 2 ^ nm → ¬ T = 0 → V T = 0) : TabN E fr nm 0 V := by
  intro A k
  rw [sm_first h0 h1]
  rfl
/-- a table of sets of bodies tells the matchings of the men below j -/
def TabM (E : Nat → Nat → Prop) (nb j : Nat) (W : Nat → Int) : Prop := ∀ (B : Nat → Prop) (k : Int), sm (fun S => sif (Wt nb B k S) (W S)) (2 ^ nb) = Rm E nb j B k
theorem TabM_0 {E : Nat → Nat → Prop} {nb : Nat} {V : Nat → Int} (h0 : V 0 = 1) (h1 : ∀ T, T < 2 ^ nb → ¬ T = 0 → V T = 0) : TabM E nb 0 V := by
  intro A k
  rw [sm_first h0 h1]
  rfl
theorem TabM_step {E : Nat → Nat → Prop} {nb j : Nat} {W W' : Nat → Int} (h : TabM E nb j W) (hs : ∀ S, S < 2 ^ nb → W' S = W S + sm (fun b => sif (S.testBit b = true ∧ E b j) (W (S - 2 ^ b))) nb) : TabM E nb (j + 1) W' := by
  intro B k
  rw [sm_congr (G := fun S => sif (Wt nb B k S) (W S) + sm (fun b => sif (S.testBit b = true ∧ (E b j ∧ Wt nb B k S)) (W (S - 2 ^ b))) nb) (fun S hS => by
    show sif _ _ = _
    rw [hs S hS, sif_add, sif_sm]
    congr 1
    refine sm_congr (fun b _ => ?_)
    rw [sif_and]
    exact sif_congr ⟨fun z => ⟨z.2.1, z.2.2, z.1⟩, fun z => ⟨z.2.2, z.1, z.2.1⟩⟩ (fun _ => rfl)), sm_add, h B k]
  simp only [Rm]
  congr 1
  rw [sm_swap]
  refine sm_congr (fun b hb => ?_)
  rw [sm_bit hb (fun S => E b j ∧ Wt nb B k S) W]
  rw [← h, sif_sm]
  refine sm_congr (fun S hS => ?_)
  rw [sif_and]
  have := Wt_add (n := nb) (S := S) (b := b) (A := B) (k := k) hb
  exact sif_congr ⟨fun z => by
      have := this.mp ⟨z.1, z.2.2⟩
      exact ⟨⟨this.1, z.2.1⟩, this.2⟩, fun z => by
      have := this.mpr ⟨z.1.1, z.2⟩
      exact ⟨this.1, z.1.2, this.2⟩⟩ (fun _ => rfl)
theorem sm_upd {F G : Nat → Int} {p : Nat → Prop} {x n : Nat} {v : Int} (hx : x < n) (hG : ∀ i, i < n → G i = if i = x then F i + v else F i) : sm (fun i => sif (p i) (G i)) n = sm (fun i => sif (p i) (F i)) n + sif (p x) v := by
  rw [sm_one (a := x) hx, sm_one (F := fun i => sif (p i) (F i)) (a := x) hx]
  have e1 : sif (p x) (G x) = sif (p x) (F x) + sif (p x) v := by rw [hG x hx, if_pos rfl, sif_add]
  have e2 : sm (fun i => if i = x then 0 else sif (p i) (G i)) n = sm (fun i => if i = x then 0 else sif (p i) (F i)) n := by
    refine sm_congr (fun i hi => ?_)
    show (if i = x then 0 else sif (p i) (G i)) = _
    by_cases h : i = x
    · rw [if_pos h, if_pos h]
    · rw [if_neg h, if_neg h, hG i hi, if_neg h]
  rw [e1, e2]; omega
theorem sm_le {F G : Nat → Int} : ∀ {n : Nat}, (∀ i, i < n → F i ≤ G i) → sm F n ≤ sm G n := by
  intro n
  induction n with
  | zero => intro _; exact Int.le_refl _
  | succ n ih => intro h; simp only [sm]; have h1 := ih (fun i hi => h i (by omega)); have h2 := h n (by omega); omega
theorem sm_nn {F : Nat → Int} {n : Nat} (h : ∀ i, i < n → 0 ≤ F i) : 0 ≤ sm F n := by
  have := sm_le (F := fun _ => 0) (G := F) (n := n) h
  rw [sm_0] at this
  exact this
theorem sm_ge {F : Nat → Int} {n a : Nat} (h : ∀ i, i < n → 0 ≤ F i) (ha : a < n) : F a ≤ sm F n := by
  rw [sm_one ha]
  have := sm_nn (F := fun i => if i = a then 0 else F i) (n := n) (fun i hi => by
    show 0 ≤ (if i = a then 0 else F i)
    split
    · exact Int.le_refl _
    · exact h i hi)
  omega
theorem sm_const (c : Int) : ∀ n : Nat, sm (fun _ => c) n = n * c := by
  intro n
  induction n with
  | zero => simp [sm]
  | succ n ih => simp only [sm]; rw [ih]; rw [Int.natCast_succ, Int.add_mul]; omega
