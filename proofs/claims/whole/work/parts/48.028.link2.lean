/-! link2: the same men for the same bodies -/
theorem Rm_E {E E' : Nat → Nat → Prop} {nb nm : Nat} (h : ∀ b m, b < nb → m < nm → (E b m ↔ E' b m)) : ∀ {j : Nat} {B : Nat → Prop} {k : Int}, j ≤ nm → Rm E nb j B k = Rm E' nb j B k := by
  intro j
  induction j with
  | zero => intro B k _; rfl
  | succ j ih =>
    intro B k hj
    simp only [Rm]
    rw [ih (by omega)]
    congr 1
    refine sm_congr (fun b hb => ?_)
    rw [ih (by omega)]
    exact sif_congr (and_congr_right (fun _ => h b j hb (by omega))) (fun _ => rfl)
section
variable {k : am_H} {n N nb np nm c : Nat}
theorem lk_E (hn : n ≤ N) (a : LkN k N nb) (r : LkR k nm) (p : LkP k c np) (x : NG n c np nm k) (y : LD n N nb np nm k) {b : Nat} (hb : b < 10) (m : Nat) : Ey k b m ↔ (b < nb ∧ Em k b m) := by
  have kn := lk_known hn a x.kc y.kd
  rw [x.ey b hb m]
  have e : Bnd (fun b m => bt (k 39 4) b = true ∧ FC k c np nm b m = 3) (fun b m => bt (k 39 4) b = true ∧ m < nm ∧ 2 ≤ FC k c np nm b m) nm b m ↔ Bnd (SM k nb np nm) (E0M k nb np nm) nm b m := by
    refine Bnd_congr (fun b m hb hm => ?_) (fun b m hb => ?_) hb
    · unfold SM
      rw [kn b]
      exact and_congr_right (fun hk => by rw [lk_fit hn a r p x.kc y.kd hk hm])
    · unfold E0M
      rw [kn b]
      exact and_congr_right (fun hk => and_congr_right (fun hm => by rw [lk_fit hn a r p x.kc y.kd hk hm]))
  rw [e]
  by_cases hbn : b < nb
  · rw [y.ey b hbn m]
    exact ⟨fun z => ⟨hbn, z⟩, fun z => z.2⟩
  · refine ⟨fun z => absurd ?_ hbn, fun z => absurd z.1 hbn⟩
    rcases z with z | z
    · exact z.2.1.1.1
    · exact z.2.1.1.1
theorem lk_Em (y : LD n N nb np nm k) {b m : Nat} (hb : b < nb) (h : Em k b m) : m < nm := by
  rcases (y.ey b hb m).mp h with z | z
  · exact z.1
  · exact z.2.1.2.1
theorem lk_Ew (hn : n ≤ N) (a : LkN k N nb) (r : LkR k nm) (p : LkP k c np) (x : NG n c np nm k) (y : LD n N nb np nm k) {w g : Int} {b m : Nat} (hb : b < 10) (hm : m < nm) : Ew k nb w g b m ↔ (Ey k b m ∧ ¬ bt g m = true ∧ ¬ (b : Int) = w) := by
  have hm14 := r.m14
  unfold Ew
  rw [Eg_iff (by omega), lk_E hn a r p x y hb m]
  unfold Em
  exact ⟨fun z => ⟨⟨z.2.2, z.1.1⟩, z.1.2, z.2.1⟩, fun z => ⟨⟨z.1.2, z.2.1⟩, z.2.2, z.1.1⟩⟩
theorem lk_mx (x : NG n c np nm k) : Mx (Ey k) nm (siz nm (k 50)) := by
  obtain ⟨C, hC⟩ := x.se.cert
  exact ⟨_, C, CM_mt x.se.cm, hC, rfl⟩
theorem lk_most (hn : n ≤ N) (a : LkN k N nb) (r : LkR k nm) (p : LkP k c np) (x : NG n c np nm k) (y : LD n N nb np nm k) : k 59 50 = (siz nm (k 50) : Nat) ∧ k 44 10 = k 59 50 := by
  obtain ⟨q, hq, h5⟩ := y.mx
  have e : q = siz nm (k 50) := by
    refine Mx_uniq (Mx_congr (fun b m hb hm => ?_) hq) (lk_mx x)
    rw [lk_Ew hn a r p x y hb hm, bt_0]
    exact ⟨fun z => z.1, fun z => ⟨z, by decide, by omega⟩⟩
  rw [h5, e, x.se.placed]
  exact ⟨rfl, rfl⟩
theorem lk_who (hn : n ≤ N) (a : LkN k N nb) (r : LkR k nm) (p : LkP k c np) (x : NG n c np nm k) (y : LD n N nb np nm k) {b : Nat} (hb : b < nb) (m : Nat) : bt (k 47 b) m = true ↔ Wm k nb nm b m := by
  have hb10 : b < 10 := Nat.lt_of_lt_of_le hb a.wn.nb10
  have hm14 := r.m14
  rw [x.se.who b hb10 m]
  unfold Wm
  refine and_congr_right (fun hm => ?_)
  rw [lk_E hn a r p x y hb10 m]
  have eE : (b < nb ∧ Em k b m) ↔ Em k b m := ⟨fun z => z.2, fun z => ⟨hb, z⟩⟩
  rw [eE]
  refine and_congr_right (fun hE => ?_)
  have hEy : Ey k b m := (lk_E hn a r p x y hb10 m).mpr ⟨hb, hE⟩
  obtain ⟨C, hC⟩ := x.se.cert
  have cg : ∀ b' m', b' < 10 → m' < nm → (Ew k nb b (1 * 2 ^ m) b' m' ↔ (Ey k b' m' ∧ ¬ b' = b ∧ ¬ m' = m)) := by
    intro b' m' hb' hm'
    rw [lk_Ew hn a r p x y hb' hm', bt_p2' m' (by omega), decide_eq_true_eq]
    exact and_congr_right (fun _ => ⟨fun z => ⟨by omega, z.1⟩, fun z => ⟨z.2, by omega⟩⟩)
  rw [(lk_most hn a r p x y).1]
  constructor
  · intro hT
    obtain ⟨f2, C2, h2, hC2⟩ := lk_ex (E := fun x y => Ey k x y ∧ ¬ x = b ∧ ¬ y = m) (nm := nm)
    have := (who_iff (CM_mt x.se.cm) hC x.se.chn hb10 hm hEy h2 hC2).mp hT
    exact ⟨siz nm f2, ⟨f2, C2, Mt_congr (fun b' m' h1 h2 => (cg b' m' h1 h2).symm) h2, Cert_congr (fun b' m' h1 h2 => (cg b' m' h1 h2).symm) hC2, rfl⟩, by omega⟩
  · rintro ⟨q, ⟨f2, C2, h2, hC2, hs⟩, he⟩
    exact (who_iff (CM_mt x.se.cm) hC x.se.chn hb10 hm hEy (Mt_congr cg h2) (Cert_congr cg hC2)).mpr (by omega)
theorem lk_named (hn : n ≤ N) (a : LkN k N nb) (r : LkR k nm) (p : LkP k c np) (x : NG n c np nm k) (y : LD n N nb np nm k) {b : Nat} (hb : b < nb) (m : Nat) : k 48 b = (m : Int) ↔ Nb k nb nm b m := by
  have hb10 : b < 10 := Nat.lt_of_lt_of_le hb a.wn.nb10
  have hm14 := r.m14
  have wh := lk_who hn a r p x y hb
  have nd := x.se.named b hb10
  obtain ⟨C, hC⟩ := x.se.cert
  have cg : ∀ b' m', b' < 10 → m' < nm → (Ew k nb b 0 b' m' ↔ (Ey k b' m' ∧ ¬ b' = b)) := by
    intro b' m' hb' hm'
    rw [lk_Ew hn a r p x y hb' hm', bt_0]
    exact and_congr_right (fun _ => ⟨fun z => by omega, fun z => ⟨by decide, by omega⟩⟩)
  have ms := lk_most hn a r p x y
  constructor
  · intro h48
    have hl : ¬ Loose 10 nm (k 50) (Ch k) b := fun z => by have := nd.2 (Or.inl z); omega
    have h47 : k 47 b = 2 ^ (k 49 b).toNat := by
      apply Classical.byContradiction
      intro z
      have := nd.2 (Or.inr z); omega
    have h49 := nd.1 hl h47
    have e : (k 49 b).toNat = m := by omega
    rw [e] at h47
    have bits : ∀ z, bt (k 47 b) z = true ↔ z = m := fun z => by rw [h47, bt_p2 z (by omega), decide_eq_true_eq]
    refine ⟨(wh m).mp ((bits m).mpr rfl), fun m' hm' => (bits m').mp ((wh m').mpr hm'), fun q ⟨f3, C3, h3, hC3, hs⟩ he => hl ?_⟩
    refine (named_iff (CM_mt x.se.cm) hC x.se.chn hb10 (Mt_congr cg h3) (Cert_congr cg hC3)).mpr ?_
    rw [ms.1] at he
    omega
  · rintro ⟨h1, h2, h3⟩
    have hm := h1.1
    have h47 : k 47 b = 2 ^ m := one_of (x.se.whoI b hb10) (by omega) (fun z => ⟨fun hz => h2 z ((wh z).mp hz), fun hz => (wh z).mpr (hz ▸ h1)⟩)
    have hl : ¬ Loose 10 nm (k 50) (Ch k) b := by
      intro hL
      obtain ⟨f3, C3, g3, hC3⟩ := lk_ex (E := fun x y => Ey k x y ∧ ¬ x = b) (nm := nm)
      have := (named_iff (CM_mt x.se.cm) hC x.se.chn hb10 g3 hC3).mp hL
      refine h3 (siz nm f3) ⟨f3, C3, Mt_congr (fun b' m' q1 q2 => (cg b' m' q1 q2).symm) g3, Cert_congr (fun b' m' q1 q2 => (cg b' m' q1 q2).symm) hC3, rfl⟩ ?_
      rw [ms.1]; omega
    have cov : ∃ m0, m0 < nm ∧ k 50 m0 = (b : Int) := by
      apply Classical.byContradiction
      intro hz
      exact hl ⟨b, hb10, fun m' hm' e => hz ⟨m', hm', e⟩, x.se.chn.1 b hb10⟩
    obtain ⟨m0, hm0, h50⟩ := cov
    have h49 : k 49 b = (m0 : Int) := by
      rcases x.se.cm.2 m0 hm0 (by omega) with z | z
      · omega
      · have := z.2.2
        rw [h50, Int.toNat_natCast] at this
        exact this
    have hE : Ey k b m0 := by
      have := (mt_in (CM_mt x.se.cm) hm0 (by omega)).2.2
      rw [h50, Int.toNat_natCast] at this
      exact this
    have hT : Takes (Ey k) 10 nm (k 50) (Ch k) b m0 := by
      refine Or.inr (Or.inr (Or.inr ?_))
      rw [h50, Int.toNat_natCast]
      exact x.se.chn.1 b hb10
    have hw := (x.se.who b hb10 m0).mpr ⟨hm0, hE, hT⟩
    have e0 : m0 = m := h2 m0 ((wh m0).mp hw)
    have := nd.1 hl (by rw [h49, Int.toNat_natCast, e0]; exact h47)
    omega
theorem lk_n1 (hn : n ≤ N) (a : LkN k N nb) (r : LkR k nm) (p : LkP k c np) (x : NG n c np nm k) (y : LD n N nb np nm k) {b : Nat} (hb : b < nb) : k 48 b = -1 ↔ ∀ m, ¬ Nb k nb nm b m := by
  have hb10 : b < 10 := Nat.lt_of_lt_of_le hb a.wn.nb10
  constructor
  · intro h m hm
    have := (lk_named hn a r p x y hb m).mpr hm
    omega
  · intro h
    rcases x.se.n48 r.m14 b hb10 with z | z
    · exact z
    · exact absurd ((lk_named hn a r p x y hb (k 48 b).toNat).mp (by omega)) (h _)
theorem lk_count (hn : n ≤ N) (a : LkN k N nb) (r : LkR k nm) (p : LkP k c np) (x : NG n c np nm k) (y : LD n N nb np nm k) : Rm (Ey k) nb nm (fun _ => True) (k 44 10) = Rn (Em k) (Fq k) nm nb (fun _ => True) (fun _ => True) (k 59 50) := by
  have ms := lk_most hn a r p x y
  have nb10 := a.wn.nb10
  obtain ⟨C, hC⟩ := x.se.cert
  rw [ms.2, Rm_E (E := Ey k) (E' := Em k) (nb := nb) (nm := nm) (fun b m hb hm => by rw [lk_E hn a r p x y (by omega) m]; exact ⟨fun z => z.2, fun z => ⟨hb, z⟩⟩) (Nat.le_refl _)]
  rw [Rn_fr (E := Em k) (fr := Fq k) (fun g hg hs b hb _ hq => ?_)]
  · rw [← Rn_Rm (E := Em k) (nb := nb) (nm := nm) (Nat.le_refl nm)]
    exact Rn_congr (fun _ _ => Iff.rfl) (fun m hm => ⟨fun _ => trivial, fun _ => hm⟩)
  · -- a body that surely is one man has him in every greatest one
    apply Classical.byContradiction
    intro hno
    have hsu : bt (k 59 49) b = true := Classical.not_not.mp (fun z => hq (Or.inr z))
    obtain ⟨_, m, hm, ho⟩ := (y.su b).mp hsu
    have hEb : Em k b m := (y.ey b hb m).mpr (Or.inl ⟨hm, ho⟩)
    have hfree : g m = -1 := by
      rcases hg.1 m hm with z | ⟨z1, z2, z3⟩
      · exact z
      · exfalso
        have hb2 : (g m).toNat < nb := by omega
        rcases (y.ey _ hb2 m).mp z3.2.2 with q | q
        · have : (g m).toNat = b := ho.2 _ (by omega) q.2.1
          exact hno ⟨m, hm, by omega⟩
        · exact q.2.2 b (by omega) ⟨hm, ho⟩
    have hg2 : Mt (Ey k) 10 nm (up g m b) := by
      have ey : ∀ b' m', b' < nb → Em k b' m' → Ey k b' m' := fun b' m' h1 h2 => (lk_E hn a r p x y (by omega) m').mpr ⟨h1, h2⟩
      refine ⟨fun j hj => ?_, fun j j' hj hj' he hne => ?_⟩
      · by_cases e : j = m
        · subst e; rw [up_at]; exact Or.inr ⟨by omega, by omega, by rw [Int.toNat_natCast]; exact ey b j hb hEb⟩
        · rw [up_ne e]
          rcases hg.1 j hj with z | ⟨z1, z2, z3⟩
          · exact Or.inl z
          · exact Or.inr ⟨z1, by omega, ey _ _ (by omega) z3.2.2⟩
      · by_cases e : j = m
        · by_cases e' : j' = m
          · omega
          · rw [e, up_at, up_ne e'] at he
            exact absurd ⟨j', hj', he.symm⟩ hno
        · by_cases e' : j' = m
          · rw [e', up_at, up_ne e] at he
            exact absurd ⟨j, hj, he⟩ hno
          · rw [up_ne e] at he hne
            rw [up_ne e'] at he
            exact hg.2 j j' hj hj' he hne
    have h1 := (mt_main (CM_mt x.se.cm) hC hg2).1
    rw [siz_set hm hfree (by omega)] at h1
    rw [ms.1] at hs
    omega
end
