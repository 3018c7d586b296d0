/-! who: the model's whoOf, namedOf, isBody, missingNow -/
def Mx (E : Nat → Nat → Prop) (nm k : Nat) : Prop := ∃ f C, Mt E 10 nm f ∧ Cert E 10 nm f C ∧ siz nm f = k
theorem Mx_uniq {E : Nat → Nat → Prop} {nm k k' : Nat} (h : Mx E nm k) (h' : Mx E nm k') : k = k' := by
  obtain ⟨f, C, h1, h2, h3⟩ := h
  obtain ⟨f', C', h1', h2', h3'⟩ := h'
  have a := (mt_main h1 h2 h1').1
  have b := (mt_main h1' h2' h1).1
  omega
theorem Mx_le {E : Nat → Nat → Prop} {nm k : Nat} (h : Mx E nm k) : k ≤ nm := by
  obtain ⟨f, C, h1, h2, h3⟩ := h
  rw [← h3]; exact cnt_bnd _ _
theorem Mx_congr {E E' : Nat → Nat → Prop} {nm k : Nat} (e : ∀ b m, b < 10 → m < nm → (E b m ↔ E' b m)) (h : Mx E nm k) : Mx E' nm k := by
  obtain ⟨f, C, h1, h2, h3⟩ := h
  exact ⟨f, C, Mt_congr e h1, Cert_congr e h2, h3⟩
def Wm (h : am_H) (nb nm b m : Nat) : Prop := m < nm ∧ Em h b m ∧ ∃ k : Nat, Mx (Ew h nb b (1 * 2 ^ m)) nm k ∧ (k : Int) + 1 = h 59 50
def Nb (h : am_H) (nb nm b m : Nat) : Prop := Wm h nb nm b m ∧ (∀ m', Wm h nb nm b m' → m' = m) ∧ ∀ k : Nat, Mx (Ew h nb b 0) nm k → ¬ (k : Int) = h 59 50
theorem Ew_fr {h g : am_H} {nb : Nat} {w gone : Int} (x : g 81 = h 81) : Ew g nb w gone = Ew h nb w gone := by unfold Ew Eg; rw [x]
theorem Wm_fr {h g : am_H} {nb nm b m : Nat} (x : g 81 = h 81) (y : g 59 50 = h 59 50) : Wm g nb nm b m ↔ Wm h nb nm b m := by unfold Wm Em; rw [x, y, Ew_fr x]
theorem Nb_fr {h g : am_H} {nb nm b m : Nat} (x : g 81 = h 81) (y : g 59 50 = h 59 50) : Nb g nb nm b m ↔ Nb h nb nm b m := by unfold Nb; rw [y, Ew_fr x]; simp only [Wm_fr x y]
theorem kX12_matched' {L : Nat} {xs : Nat → Int} {P : Nat → List am_V → am_H → am_K → Prop} {d : Nat} {h : am_H} {K : am_K} {nb nm : Nat} {w gone : Int} (hnm : nm ≤ 14) (hnb : nb ≤ 10) (h9 : h 59 9 = nm) (h12 : h 59 12 = nb) (H : ∀ (h' : am_H) (k : Nat), Fr [83, 84, 85] h h' → Mx (Ew h nb w gone) nm k → k ≤ 14 → K (0, (k : Nat)) h') : am_C true L xs P (d + 3) 188 [(2, 59), (0, w), (0, gone)] h K :=
  kX12_matched hnm hnb h9 h12 (fun h' a b ⟨C, c⟩ => H h' _ a ⟨_, C, b, c, rfl⟩ (Nat.le_trans (cnt_bnd _ _) hnm))
theorem kX12_whoOf {L : Nat} {xs : Nat → Int} {P : Nat → List am_V → am_H → am_K → Prop} {d : Nat} {h : am_H} {K : am_K} {nb nm b : Nat} (hnm : nm ≤ 14) (hnb : nb ≤ 10) (h9 : h 59 9 = nm) (h12 : h 59 12 = nb) (hb : b < 10) (H : ∀ (h' : am_H) (r : Int), Fr [83, 84, 85] h h' → am_inI r → (∀ m, bt r m = true ↔ Wm h nb nm b m) → K (0, r) h') : am_C true L xs P (d + 4) 192 [(2, 59), (0, (b : Int))] h K := by
  refine eX12_whoOf (bX12_whoOf_0 ?_)
  refine upto (σ := Int × am_H) (N := nm) (I := fun i s => Fr [83, 84, 85] h s.2 ∧ am_inI s.1 ∧ ∀ m, bt s.1 m = true ↔ m < i ∧ Wm h nb nm b m) (G := fun i s => tX12_whoOf (h 0 0 + (0 : Nat)) L xs (am_C true L xs P (d + 3)) K 4 [(2, 59), (0, (b : Int)), (0, s.1), (0, (i : Int))] [] s.2) ?_ ?_ nm 0 (0, h) (by omega) ⟨Fr.rf, (by show am_inI 0; decide), fun m => by dsimp only; rw [bt_0]; exact ⟨fun w => absurd w (by decide), fun w => by omega⟩⟩
  · intro i ⟨r, g⟩ hi ⟨e1, e2, e3⟩ ih
    dsimp only at e1 e2 e3 ⊢
    have g59 : g 59 = h 59 := e1 59 (by decide)
    have g81 : g 81 = h 81 := e1 81 (by decide)
    have skip : ∀ g' : am_H, Fr [83, 84, 85] h g' → ¬ Wm h nb nm b i → tX12_whoOf (h 0 0 + (0 : Nat)) L xs (am_C true L xs P (d + 3)) K 49 [(2, 59), (0, (b : Int)), (0, r), (0, (i : Int))] [] g' := by
      intro g' q hn
      refine bX12_whoOf_49 ⟨by omega, ih (r, g') ⟨q, e2, fun m => ?_⟩⟩
      dsimp only
      rw [e3]
      refine ⟨fun w => ⟨by omega, w.2⟩, fun w => ⟨?_, w.2⟩⟩
      have : ¬ m = i := fun e => hn (e ▸ w.2)
      omega
    refine bX12_whoOf_4 ⟨fun w => by rw [g59, h9] at w; omega, fun _ => ⟨by omega, by omega, ?_⟩⟩
    rw [Int.toNat_natCast, Int.toNat_natCast, bt_t1 (by omega), g81]
    refine ⟨fun w => skip g e1 (fun z => w z.2.1), fun w => ⟨⟨by omega, by omega, by omega, inI_p2 (by omega)⟩, kX12_matched' (d := d) hnm hnb (by rw [g59]; exact h9) (by rw [g59]; exact h12) (fun g' k q1 q2 q3 => ?_)⟩⟩
    rw [Ew_fr g81] at q2
    have f1 := e1.tr q1
    refine ⟨by dsimp only; omega, ?_⟩
    dsimp only
    rw [f1 59 (by decide)]
    refine ⟨fun w2 => skip g' f1 (fun ⟨_, _, k', hk', hs⟩ => ?_), fun w2 => ⟨⟨by omega, by omega, by omega, inI_p2 (by omega)⟩, bX12_whoOf_49 ⟨by omega, ih (am_or r (1 * 2 ^ i), g') ⟨f1, am_inI_or _ _, fun m => ?_⟩⟩⟩⟩
    · rw [Mx_uniq hk' q2] at hs; exact w2 hs
    · dsimp only
      rw [bt_or, Bool.or_eq_true, e3, bt_p2' m (by omega), decide_eq_true_eq]
      constructor
      · rintro (s | s)
        · exact ⟨by omega, s.2⟩
        · subst s; exact ⟨by omega, hi, Classical.not_not.mp w, k, q2, Classical.not_not.mp w2⟩
      · intro s
        by_cases e : m = i
        · exact Or.inr e
        · exact Or.inl ⟨by omega, s.2⟩
  · intro ⟨r, g⟩ ⟨e1, e2, e3⟩
    dsimp only at e1 e2 e3 ⊢
    refine bX12_whoOf_4 ⟨fun _ => bX12_whoOf_55 (H g r e1 e2 (fun m => ?_)), fun w => by rw [e1 59 (by decide), h9] at w; omega⟩
    rw [e3]
    exact ⟨fun w => w.2, fun w => ⟨w.1, w⟩⟩
theorem one_all2 : ∀ a b : Fin 128, ¬ a.val * 128 + b.val = 0 → am_and (a.val * 128 + b.val : Nat) (((a.val * 128 + b.val : Nat) : Int) - 1) = 0 → ∃ m : Fin 14, a.val * 128 + b.val = 2 ^ m.val := by decide +kernel
theorem one_all (w : Fin 16384) (h0 : ¬ w.val = 0) (h1 : am_and (w.val : Nat) ((w.val : Int) - 1) = 0) : ∃ m : Fin 14, w.val = 2 ^ m.val := by
  have hw := w.isLt
  have := one_all2 ⟨w.val / 128, by omega⟩ ⟨w.val % 128, by omega⟩
  dsimp only at this
  rw [show w.val / 128 * 128 + w.val % 128 = w.val by omega] at this
  exact this h0 h1
theorem one_back : ∀ m : Fin 14, am_and (2 ^ m.val) ((2 : Int) ^ m.val - 1) = 0 := by decide +kernel
theorem one_shift : ∀ m j : Fin 14, j.val ≤ m.val → ((2 : Int) ^ m.val / 2 ^ j.val = 1 ↔ j.val = m.val) := by decide +kernel
theorem one_of {r : Int} {m : Nat} (hI : am_inI r) (hm : m < 31) (h : ∀ k, bt r k = true ↔ k = m) : r = 2 ^ m := by
  refine bt_ext hI (by have := inI_p2 hm; rw [Int.one_mul] at this; exact this) (fun k hk => ?_)
  rw [bt_p2 k hm]
  have := h k
  by_cases e : k = m
  · rw [this.mpr e, decide_eq_true e]
  · rw [bt_f.mpr (fun z => e (this.mp z))]; simp [e]
theorem kX12_namedOf {L : Nat} {xs : Nat → Int} {P : Nat → List am_V → am_H → am_K → Prop} {d : Nat} {h : am_H} {K : am_K} {nb nm b : Nat} (hnm : nm ≤ 14) (hnb : nb ≤ 10) (h9 : h 59 9 = nm) (h12 : h 59 12 = nb) (hb : b < 10) (H0 : ∀ h' : am_H, Fr [83, 84, 85] h h' → (∀ m, ¬ Nb h nb nm b m) → K (0, -1) h') (H1 : ∀ (h' : am_H) (m : Nat), Fr [83, 84, 85] h h' → Nb h nb nm b m → m < 14 → K (0, (m : Int)) h') : am_C true L xs P (d + 5) 193 [(2, 59), (0, (b : Int))] h K := by
  refine eX12_namedOf (bX12_namedOf_0 (kX12_whoOf (d := d) hnm hnb h9 h12 hb (fun g r e1 e2 e3 => ?_)))
  dsimp only
  have g59 : g 59 = h 59 := e1 59 (by decide)
  have hr : 0 ≤ r ∧ r < 2 ^ 14 := bt_lt e2 (by decide) (fun k hk _ => bt_f.mpr (fun z => by have := ((e3 k).mp z).1; omega))
  have pw : (2 : Int) ^ 14 = 16384 := by decide
  rw [pw] at hr
  refine ⟨fun w => bX12_namedOf_31 (H0 g e1 (fun m hm => ?_)), fun w => ⟨⟨by omega, by omega⟩, fun w2 => bX12_namedOf_31 (H0 g e1 (fun m hm => ?_)), fun w2 => ?_⟩⟩
  · have := (e3 m).mpr hm.1
    rw [w, bt_0] at this; exact absurd this (by decide)
  · have hm14 := hm.1.1
    have er : r = 2 ^ m := one_of e2 (by omega) (fun k => ⟨fun z => hm.2.1 k ((e3 k).mp z), fun z => (e3 k).mpr (z ▸ hm.1)⟩)
    have := one_back ⟨m, by omega⟩
    dsimp only at this
    rw [er] at w2
    exact w2 this
  · obtain ⟨m, em⟩ := one_all ⟨r.toNat, by omega⟩ (by dsimp only; omega) (by
      dsimp only
      have : ((r.toNat : Nat) : Int) = r := by omega
      rw [this]; exact Classical.not_not.mp w2)
    have hm := m.isLt
    dsimp only at em
    generalize m.val = m at em hm
    have er : r = 2 ^ m := by
      have h1 : ((2 ^ m : Nat) : Int) = 2 ^ m := by simp
      rw [← h1, ← em]; omega
    have b3 : ∀ k, bt r k = true ↔ k = m := by intro k; rw [er, bt_p2 k (by omega), decide_eq_true_eq]
    have hW : Wm h nb nm b m := (e3 m).mp ((b3 m).mpr rfl)
    have hU : ∀ m', Wm h nb nm b m' → m' = m := fun m' z => (b3 m').mp ((e3 m').mpr z)
    refine kX12_matched' (d := d + 1) hnm hnb (by rw [g59]; exact h9) (by rw [g59]; exact h12) (fun g' k q1 q2 q3 => ?_)
    rw [Ew_fr (e1 81 (by decide))] at q2
    have f1 := e1.tr q1
    dsimp only
    rw [f1 59 (by decide)]
    refine ⟨fun w3 => bX12_namedOf_33 ?_, fun w3 => bX12_namedOf_31 (H0 g' f1 (fun m' hm' => hm'.2.2 k q2 (Classical.not_not.mp w3)))⟩
    rw [er]
    refine upto (σ := Unit) (N := m) (I := fun _ _ => True) (G := fun j _ => tX12_namedOf (h 0 0 + (0 : Nat)) L xs (am_C true L xs P (d + 4)) K 35 [(2, 59), (0, (b : Int)), (0, (2 : Int) ^ m), (0, (j : Int))] [] g') ?_ ?_ m 0 () (by omega) trivial
    · intro j _ hj _ ih
      have os := one_shift ⟨m, hm⟩ ⟨j, by omega⟩ (by dsimp only; omega)
      dsimp only at os
      refine bX12_namedOf_35 ⟨by omega, ?_⟩
      rw [Int.toNat_natCast, os]
      exact ⟨fun z => by omega, fun _ => ⟨by omega, ih () trivial⟩⟩
    · intro _ _
      have os := one_shift ⟨m, hm⟩ ⟨m, hm⟩ (Nat.le_refl _)
      dsimp only at os
      refine bX12_namedOf_35 ⟨by omega, ?_⟩
      rw [Int.toNat_natCast, os]
      exact ⟨fun _ => bX12_namedOf_48 (H1 g' m f1 ⟨hW, hU, fun k' hk' => by rw [Mx_uniq hk' q2]; exact w3⟩ hm), fun z => absurd rfl z⟩
theorem kX12_missingNow {L : Nat} {xs : Nat → Int} {P : Nat → List am_V → am_H → am_K → Prop} {d : Nat} {h : am_H} {K : am_K} {nb nm : Nat} (hnm : nm ≤ 14) (hnb : nb ≤ 10) (h9 : h 59 9 = nm) (h12 : h 59 12 = nb) (hno : ∀ b : Nat, b < nb → 0 ≤ h 68 b ∧ h 68 b < 90) (h79 : ∀ b : Nat, b < nb → h 79 (h 68 b).toNat = 0 ∨ h 79 (h 68 b).toNat = 1) (H : ∀ (h' : am_H) (r : Int), Fr [83, 84, 85] h h' → am_inI r → (∀ m, bt r m = true ↔ m < nm ∧ ¬ ∃ b, Km h nb b ∧ Nb h nb nm b m) → K (0, r) h') : am_C true L xs P (d + 6) 198 [(2, 59)] h K := by
  refine eX12_missingNow (bX12_missingNow_0 ?_)
  rw [h9, Int.toNat_natCast]
  have hp := inI_p2 (k := nm) (by omega)
  have hp2 := p2_pos nm
  refine ⟨⟨by omega, by omega, by omega, hp⟩, ⟨by omega, by have := hp.2; omega⟩, ?_⟩
  rw [Int.one_mul]
  refine upto (σ := Int × am_V × am_H) (N := nb) (I := fun i s => Fr [83, 84, 85] h s.2.2 ∧ am_inI s.1 ∧ ∀ m, bt s.1 m = true ↔ m < nm ∧ ¬ ∃ b, b < i ∧ Km h nb b ∧ Nb h nb nm b m) (G := fun i s => tX12_missingNow (h 0 0 + (0 : Nat)) L xs (am_C true L xs P (d + 5)) K 11 [(2, 59), (0, s.1), (0, (i : Int)), s.2.1] [] s.2.2) ?_ ?_ nb 0 ((2 : Int) ^ nm - 1, (9, 0), h) (by omega) ⟨Fr.rf, ?_, fun m => ?_⟩
  · intro i ⟨r, v3, g⟩ hi ⟨e1, e2, e3⟩ ih
    dsimp only at e1 e2 e3 ⊢
    have g59 : g 59 = h 59 := e1 59 (by decide)
    have g81 : g 81 = h 81 := e1 81 (by decide)
    have g68 : g 68 = h 68 := e1 68 (by decide)
    have g79 : g 79 = h 79 := e1 79 (by decide)
    have hn := hno i hi
    have skip : ∀ (v3 : am_V) (g' : am_H), Fr [83, 84, 85] h g' → (¬ (Km h nb i ∧ ∃ m, Nb h nb nm i m)) → tX12_missingNow (h 0 0 + (0 : Nat)) L xs (am_C true L xs P (d + 5)) K 36 [(2, 59), (0, r), (0, (i : Int)), v3] [(0, -1)] g' := by
      intro v3 g' q hs
      refine bX12_missingNow_36 ⟨fun _ => bX12_missingNow_50 ⟨by omega, ih (r, _, g') ⟨q, e2, fun m => ?_⟩⟩, fun w => absurd rfl w⟩
      dsimp only
      rw [e3]
      refine and_congr_right (fun _ => not_congr ⟨fun ⟨b, z1, z2⟩ => ⟨b, by omega, z2⟩, fun ⟨b, z1, z2⟩ => ⟨b, ?_, z2⟩⟩)
      have : ¬ b = i := fun e => hs ⟨e ▸ z2.1, m, e ▸ z2.2⟩
      omega
    refine bX12_missingNow_11 ⟨fun w => by rw [g59, h12] at w; omega, fun _ => kX12_isKnown (d := d + 4) (by omega) (by rw [Int.toNat_natCast, g68]; exact hn) (fun gk => ?_) (fun gk => ?_)⟩
    · rw [Int.toNat_natCast, g68, g79] at gk
      exact ⟨fun _ => bX12_missingNow_35 (skip _ g e1 (fun z => by have := z.1.2; omega)), fun w => absurd rfl w⟩
    · rw [Int.toNat_natCast, g68, g79] at gk
      refine ⟨fun w => absurd w (by decide), fun _ => kX12_namedOf (d := d) hnm hnb (by rw [g59]; exact h9) (by rw [g59]; exact h12) (by omega) (fun g' q1 q2 => ?_) (fun g' m q1 q2 q3 => ?_)⟩
      · exact skip _ g' (e1.tr q1) (fun ⟨_, m, z⟩ => q2 m ((Nb_fr g81 (by rw [g59])).mpr z))
      · have q2' := (Nb_fr g81 (by rw [g59])).mp q2
        refine bX12_missingNow_36 ⟨fun w => by omega, fun _ => ⟨⟨by omega, by omega, by omega, am_p2 (by omega) (by omega)⟩, bX12_missingNow_50 ⟨by omega, ih (am_and r (am_xor (1 * 2 ^ (m : Int).toNat) (-1)), _, g') ⟨e1.tr q1, am_inI_and _ _, fun y => ?_⟩⟩⟩⟩
        dsimp only
        rw [Int.toNat_natCast, bt_and, Bool.and_eq_true, e3, bt_xor, bt_p2' y (by omega)]
        constructor
        · rintro ⟨⟨a1, a2⟩, a3⟩
          refine ⟨a1, fun ⟨b, z1, z2⟩ => ?_⟩
          rw [bt_m1 (by omega)] at a3
          by_cases e : b = i
          · subst e
            have := q2'.2.1 y z2.2.1
            simp [this] at a3
          · exact a2 ⟨b, by omega, z2⟩
        · rintro ⟨a1, a2⟩
          refine ⟨⟨a1, fun ⟨b, z1, z2⟩ => a2 ⟨b, by omega, z2⟩⟩, ?_⟩
          rw [bt_m1 (by omega)]
          have : ¬ y = m := fun e => a2 ⟨i, by omega, ⟨hi, gk⟩, e ▸ q2'⟩
          simp [this]
  · intro ⟨r, v3, g⟩ ⟨e1, e2, e3⟩
    dsimp only at e1 e2 e3 ⊢
    refine bX12_missingNow_11 ⟨fun _ => bX12_missingNow_56 (H g r e1 e2 (fun m => ?_)), fun w => by rw [e1 59 (by decide), h12] at w; omega⟩
    rw [e3]
    exact and_congr_right (fun _ => not_congr ⟨fun ⟨b, z1, z2⟩ => ⟨b, z2⟩, fun ⟨b, z2⟩ => ⟨b, z2.1.1, z2⟩⟩)
  · dsimp only; rw [Int.one_mul] at hp; exact ⟨by omega, by have := hp.2; omega⟩
  · dsimp only
    rw [bt_full (by omega), decide_eq_true_eq]
    exact ⟨fun w => ⟨w, fun ⟨b, z, _⟩ => by omega⟩, fun w => w.1⟩
