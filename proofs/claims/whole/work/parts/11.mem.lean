/-! EVERY INSTRUCTION of the small machine is one of the machine's -/
theorem am_ok0 {n : Int} {x : am_V} {s : List am_V} (h : ∀ v ∈ s, am_okv n v) (hx : am_okv n x) : ∀ v ∈ x :: s, am_okv n v := by
  intro v hv
  rcases List.mem_cons.mp hv with rfl | hv
  · exact hx
  · exact h v hv
theorem am_okt {n : Int} {a : am_V} {s : List am_V} (h : ∀ v ∈ a :: s, am_okv n v) : ∀ v ∈ s, am_okv n v := fun v hv => h v (List.mem_cons_of_mem _ hv)
theorem am_okd {n : Int} {a : am_V} {s : List am_V} (h : ∀ v ∈ a :: s, am_okv n v) : am_okv n a := h a List.mem_cons_self
section AMS
variable {p : Program} {l : Launch} {e : Env} {R : Room} {s : State} {m : MethodId} {args : Array Value} {below : List Frame} {meth : Method} {c : Code} {Q : State → Prop}
variable {dC : Nat → ClassId} {dI : Nat → Nat → Nat} {cA : Nat → ClassId} {fx : Nat → Nat → Nat} {A : Nat → Prop} {nL n0 : Nat} {lim : Int} {a0 : Nat → Nat} {cp : am_H → Nat → Nat → Prop} {bm ini : Bool} {bz : Nat} {own : Nat} {b : ByteArray} {EX : (Nat → Prop) → State → Heap → Prop} {L : Nat} {xs : Nat → Int}
theorem am_J.loc {ad : Nat → Nat} {h : am_H} {ls ls' : List am_V} {lsM lsM' : Array Slot} {H : Heap} {locs : List Loc} {cells slots : Nat} (hJ : am_J s dC dI cA fx A nL n0 lim bm a0 cp ad h ls lsM H locs cells slots) (h1 : ∀ v ∈ ls', am_okv (h 0 0) v) (h2 : lv_has lsM' nL (am_lv fx ad ls' 0)) (h3 : ls'.length = nL) : am_J s dC dI cA fx A nL n0 lim bm a0 cp ad h ls' lsM' H locs cells slots := by
  obtain ⟨a1, a2, a3, a4, a5, a6, a7, a8, a9, a10, a11, a13⟩ := hJ
  exact ⟨a1, a2, a3, a4, a5, h1, h2, h3, a9, a10, a11, a13⟩
/-- what a method's walk stands on -/
def am_Cx (p : Program) (R : Room) (s : State) (m : MethodId) (args : Array Value) (meth : Method) (c : Code) (dC : Nat → ClassId) (dI : Nat → Nat → Nat) (cA : Nat → ClassId) (fx : Nat → Nat → Nat) (A : Nat → Prop) (nL n0 : Nat) (lim : Int) (cp : am_H → Nat → Nat → Prop) (ini : Bool) (own : Nat) (b : ByteArray) (EX : (Nat → Prop) → State → Heap → Prop) (L : Nat) (xs : Nat → Int) : Prop :=
  p.tables.exec = Jvm.exec ∧ c.code = b ∧ c.maxLocals = nL ∧ s.vm.findClass (am_R own) = some m.cls ∧ (∀ w ∈ am_TB, w.before args s = true) ∧ am_E dC dI cA EX A s s.heap ∧ am_Ext EX ∧ (∀ q, s.heap.size ≤ q → A q) ∧ (ini = true → meth.name = "<init>") ∧ (1 ≤ R.frames ∧ 20 ≤ R.locals) ∧ am_Cp R lim cp ∧ (∀ (A : Nat → Prop) (U : State) (H : Heap), EX A U H → ∀ i j : Nat, i < 12 → j < 4 → va_OF RX9 (["role", "slot", "low", "high"].getD j "") "I" (.int (Int32.ofInt (am_word i j))) (fx 4 i) A U H) ∧ (∀ (A : Nat → Prop) (U : State) (H : Heap), EX A U H → va_X (fx 7 0) L (fun j => Int32.ofInt (xs j)) U H ∧ ¬ A (fx 7 0)) ∧ L ≤ 3072 ∧ (∀ j, am_inI (xs j))
theorem am_okh_st {h : am_H} {k j : Nat} {v : Int} (hh : am_okh h) (hk : 1 ≤ k) (hc : am_okc (h 0 0) k (am_st h k j v k)) : am_okh (am_st h k j v) := by
  have h0 : am_st h k j v 0 0 = h 0 0 := am_st_nc (by omega)
  refine ⟨by rw [h0]; exact hh.1, by rw [h0]; exact hh.2.1, fun k' h1 h2 => ?_⟩
  rw [h0] at h2 ⊢
  by_cases hkk : k' = k
  · subst hkk; exact hc
  · have : am_st h k j v k' = h k' := by funext q; exact am_st_nc hkk
    rw [this]
    exact hh.2.2 k' h1 h2
theorem am_fin_st {h : am_H} {k j : Nat} {v : Int} (hf : am_fin h) (hn : ∀ f, (am_cell k).1 = 0 → am_nth (am_cell k).2.2 j = some f → ¬ f.1 = 8) : am_fin (am_st h k j v) := by
  intro k' j' f h1 h2 h3 h4
  rw [am_st_ne]
  · exact hf k' j' f h1 h2 h3 h4
  · rintro ⟨rfl, rfl⟩
    exact hn f h2 h3 h4
theorem am_J.mem {ad : Nat → Nat} {h : am_H} {ls : List am_V} {lsM : Array Slot} {H H1 : Heap} {locs locs1 : List Loc} {cells slots k j : Nat} {v : Int} (hcpR : am_Cp R lim cp) (hJ : am_J s dC dI cA fx A nL n0 lim bm a0 cp ad h ls lsM H locs cells slots) (hk : 1 ≤ k) (hP : va_P (dC, dI) am_cl (am_w cA fx ad (am_st h k j v)) H1) (hD : va_D A (am_w cA fx ad (am_st h k j v))) (hS : va_S A s.heap H1 locs1) (hc : am_okc (h 0 0) k (am_st h k j v k)) (hf : bm = true → am_fin (am_st h k j v)) : am_J s dC dI cA fx A nL n0 lim bm a0 cp ad (am_st h k j v) ls lsM H1 locs1 cells slots := by
  obtain ⟨a1, a2, a3, a4, a5, a6, a7, a8, a9, a10, a11, a13⟩ := hJ
  have h0 : am_st h k j v 0 0 = h 0 0 := am_st_nc (by omega)
  refine ⟨hP, hD, hS, am_okh_st a4 hk hc, hf, ?_, a7, a8, ?_, ?_, hcpR.1 _ _ _ _ _ _ hk a11, a13⟩
  · rw [h0]; exact a6
  · rw [h0]; exact a9
  · rw [h0]; exact a10
theorem am_s_get (X : am_Cx p R s m args meth c dC dI cA fx A nL n0 lim cp ini own b EX L xs) {pc idx : Nat} (hd : decode b pc = .ok (.getfield idx, 3)) (hf : ¬ am_fx own idx = 99999) {o : Int} {s' : List am_V} {h : am_H} {ls : List am_V} {K : am_V → Prop} (hg : am_get bm (am_fx own idx / 64) o (am_fx own idx % 64) h K)
    (hk : ∀ w, K w → am_G p l e R s m args below meth c Q dC dI cA fx A nL n0 lim bm a0 cp (pc + 3) ls (w :: s') h) : am_G p l e R s m args below meth c Q dC dI cA fx A nL n0 lim bm a0 cp pc ls ((2, o) :: s') h := by
  intro ad lsM H locs cells slots hJ hst
  obtain ⟨hx, hb, hml, hown, hts, hE, hExt, hA, hini, hrm, hroom, hw, hsx, hL, hxs⟩ := X
  obtain ⟨hP, hD, hS, hok, hfin, hls, hlv, hlen, hn0, hlim, hcp, had⟩ := id hJ
  unfold am_get at hg
  by_cases hc : (am_cell o.toNat).1 = 0 ∧ (am_cell o.toNat).2.1 = am_fx own idx / 64 ∧ 0 < o
  · rw [if_pos hc] at hg
    obtain ⟨hc0, hci, ho⟩ := hc
    obtain ⟨⟨CN, CT, CM⟩, hcl, hlen2, hfd⟩ := am_cell_obj hc0
    cases hn : am_nth (am_cell o.toNat).2.2 (am_fx own idx % 64) with
    | none => rw [hn] at hg; exact hg.elim
    | some f =>
      rw [hn] at hg
      dsimp only at hg
      obtain ⟨hj, hck⟩ := hfd _ _ hn
      have hov := (am_okd hst).2.2.1 rfl
      have hwg := am_w_get cA fx ad h (k := o.toNat) (by omega) (by omega)
      have he : am_e cA fx ad h o.toNat = .inr ((am_cell o.toNat).2.1, am_fs fx ad h o.toNat (am_cell o.toNat).2.2 0) := by unfold am_e; rw [if_pos hc0]
      rw [he] at hwg
      have hvv : (am_fs fx ad h o.toNat (am_cell o.toNat).2.2 0)[am_fx own idx % 64]? = some (am_tr fx ad (if f.1 = 8 then 2 else f.1, h o.toNat (am_fx own idx % 64))) := by rw [am_fs_get, hn]; simp
      have hokv := (hok.2.2 o.toNat (by omega) (by omega)).1 hc0 _ _ hn
      have hW : W p l e R s m args below meth c H locs cells slots Q (F0 m (pc + 3) lsM (am_tr fx ad (if f.1 = 8 then 2 else f.1, h o.toNat (am_fx own idx % 64)) :: s'.map (am_tr fx ad))) := by
        by_cases h8 : f.1 = 8
        · rw [if_pos h8] at hg
          have hh : h o.toNat (am_fx own idx % 64) = f.2 ∧ K (2, f.2) := by
            by_cases hbm : bm = true
            · rw [if_pos hbm] at hg
              exact ⟨hfin hbm o.toNat _ f (by omega) hc0 hn h8, hg⟩
            · rw [if_neg hbm] at hg
              exact hg
          rw [if_pos h8] at hokv ⊢
          rw [hh.1] at hokv ⊢
          exact hk _ hh.2 ad lsM H locs cells slots hJ (am_ok0 (am_okt hst) hokv)
        · rw [if_neg h8] at hg hokv ⊢
          exact hk _ hg ad lsM H locs cells slots hJ (am_ok0 (am_okt hst) hokv)
      show W p l e R s m args below meth c H locs cells slots Q (F0 m pc lsM (am_tr fx ad (2, o) :: s'.map (am_tr fx ad)))
      rw [am_tr_2 fx ad ho]
      rcases am_fx_inv hf with ⟨q, hq, h1, h2, h3, h4, h6⟩ | ⟨q, hq, h1, h2, h3, h4⟩
      · have hcq : am_cl[q.2.2.1]? = some (CN, CT, CM) := by rw [← h3, ← hci]; exact hcl
        rcases am_fl_link hq hcq with hl | hl
        · rw [h1, h2, ← h4] at hl
          exact va_get (D := (dC, dI)) hx hb hts (am_cls hcl).1 hown hE.1 hP (o.toNat - 1) hwg hcl (am_fx own idx % 64) hj (hts _ hl) (fun x hx => hx) hvv hd hW
        · rw [h1, h2, ← h4] at hl
          exact va_getN (D := (dC, dI)) hx hb hts (am_cls hcl).1 hown hE.1 hP (o.toNat - 1) hwg hcl (am_fx own idx % 64) hj (va_Nw.use rfl (hE.2.1 _ hl)) (fun x hx => hx) hvv hd hW
      · rw [← hci] at h3
        rw [h3] at hcl
        cases hcl
  · rw [if_neg hc] at hg
    exact hg.elim
theorem am_s_getw (X : am_Cx p R s m args meth c dC dI cA fx A nL n0 lim cp ini own b EX L xs) {pc idx : Nat} (hd : decode b pc = .ok (.getfield idx, 3)) (hf : ¬ am_fx own idx = 99999) (h15 : am_fx own idx / 64 = 15) {o : Int} {s' : List am_V} {h : am_H} {ls : List am_V}
    (hk : am_G p l e R s m args below meth c Q dC dI cA fx A nL n0 lim bm a0 cp (pc + 3) ls ((0, am_word o.toNat (am_fx own idx % 64)) :: s') h) : am_G p l e R s m args below meth c Q dC dI cA fx A nL n0 lim bm a0 cp pc ls ((4, o) :: s') h := by
  intro ad lsM H locs cells slots hJ hst
  obtain ⟨hx, hb, hml, hown, hts, hE, hExt, hA, hini, hrm, hroom, hw, hsx, hL, hxs⟩ := X
  obtain ⟨hP, hD, hS, hok, hfin, hls, hlv, hlen, hn0, hlim, hcp, had⟩ := id hJ
  have hov := (am_okd hst).2.2.2.1 rfl
  rcases am_fx_inv hf with ⟨q, hq, h1, h2, h3, h4, h6⟩ | ⟨q, hq, h1, h2, h3, h4⟩
  · exfalso
    have h5 := List.all_eq_true.mp am_FL_ok q hq
    unfold am_flok at h5
    simp only [Bool.and_eq_true] at h5
    rw [h15] at h3
    rw [← h3] at h5
    rw [show am_cl[15]? = none from rfl] at h5
    exact absurd h5.1.1.2 (by simp)
  · have h5 := List.all_eq_true.mp am_WL_ok q hq
    unfold am_wlok at h5
    simp only [Bool.and_eq_true, decide_eq_true_eq] at h5
    have hl : Cond.fieldLinkNest (am_R q.1) q.2.1 RX9 (["role", "slot", "low", "high"].getD q.2.2.1 "") "I" "StonesAlike" ∈ am_NW := List.mem_filter.mpr ⟨List.mem_of_getElem? h5.2, rfl⟩
    rw [h1, h2, ← h4] at hl
    obtain ⟨cf, k, fi, f, cell, g1, g2, g3, g4, g5, g6⟩ := (hw A s s.heap hE.2.2 o.toNat (am_fx own idx % 64) (by omega) (by rw [h4]; exact h5.1)).kept hS.2.1
    have hrg : am_inI (am_word o.toNat (am_fx own idx % 64)) := by
      have hh : ∀ i : Fin 12, ∀ j : Fin 4, am_inI (am_word i.val j.val) := by decide
      exact hh ⟨o.toNat, by omega⟩ ⟨am_fx own idx % 64, by rw [h4]; exact h5.1⟩
    show W p l e R s m args below meth c H locs cells slots Q (F0 m pc lsM (.ref (fx 4 o.toNat) :: s'.map (am_tr fx ad)))
    exact va_Wgetf hx hb hown (va_Nw.use rfl (hE.2.1 _ hl)) g1 g2 g3 g4 g5 rfl rfl hd (hk ad lsM H locs cells slots hJ (am_ok0 (am_okt hst) (am_okv_0 hrg)))
theorem am_okc_fd {n : Int} {k j : Nat} {h : am_H} {v : Int} {f : Nat × Nat} (h0 : (am_cell k).1 = 0) (hc : am_okc n k (h k)) (hf : am_nth (am_cell k).2.2 j = some f) (hv : am_okv n (if f.1 = 8 then 2 else f.1, v)) : am_okc n k (am_st h k j v k) := by
  refine ⟨fun _ j' f' hf' => ?_, fun q => ?_, fun q => ?_, fun q => ?_, fun q => ?_⟩
  · by_cases hj : j' = j
    · subst hj
      rw [am_st_eq]
      cases hf.symm.trans hf'
      exact hv
    · rw [am_st_ne (fun q => hj q.2)]
      exact hc.1 h0 j' f' hf'
  · rw [h0] at q; cases q
  · rw [h0] at q; cases q
  · rw [h0] at q; cases q
  · rw [h0] at q; cases q
theorem am_fit_r {t : FieldType} (ht : am_isR t = true) {v : Value} (hv : v = .null ∨ ∃ a, v = .ref a) : narrow t v = v ∧ fits t v = true := by
  rcases hv with rfl | ⟨a, rfl⟩ <;> cases t <;> first | exact ⟨rfl, rfl⟩ | cases ht
theorem am_s_put (X : am_Cx p R s m args meth c dC dI cA fx A nL n0 lim cp ini own b EX L xs) {pc idx : Nat} (hd : decode b pc = .ok (.putfield idx, 3)) (hf : ¬ am_fx own idx = 99999) (hfw : am_fw own idx = true) {o : Int} {v : am_V} {s' : List am_V} {h : am_H} {ls : List am_V} {K : am_H → Prop} (hg : am_put bm ini (am_fx own idx / 64) o (am_fx own idx % 64) v h K)
    (hk : ∀ h', K h' → am_G p l e R s m args below meth c Q dC dI cA fx A nL n0 lim bm a0 cp (pc + 3) ls s' h') : am_G p l e R s m args below meth c Q dC dI cA fx A nL n0 lim bm a0 cp pc ls (v :: (2, o) :: s') h := by
  intro ad lsM H locs cells slots hJ hst
  obtain ⟨hx, hb, hml, hown, hts, hE, hExt, hA, hini, hrm, hroom, hw, hsx, hL, hxs⟩ := X
  obtain ⟨hP, hD, hS, hok, hfin, hls, hlv, hlen, hn0, hlim, hcp, had⟩ := id hJ
  unfold am_put at hg
  by_cases hc : (am_cell o.toNat).1 = 0 ∧ (am_cell o.toNat).2.1 = am_fx own idx / 64 ∧ 0 < o
  · rw [if_pos hc] at hg
    obtain ⟨hc0, hci, ho⟩ := hc
    obtain ⟨⟨CN, CT, CM⟩, hcl, hlen2, hfd⟩ := am_cell_obj hc0
    cases hn : am_nth (am_cell o.toNat).2.2 (am_fx own idx % 64) with
    | none => rw [hn] at hg; exact hg.elim
    | some f =>
      rw [hn] at hg
      dsimp only at hg
      obtain ⟨hj, hck⟩ := hfd _ _ hn
      have hov := (am_okd (am_okt hst)).2.2.1 rfl
      have hvk := am_okd hst
      have hwg := am_w_get cA fx ad h (k := o.toNat) (by omega) (by omega)
      have he : am_e cA fx ad h o.toNat = .inr ((am_cell o.toNat).2.1, am_fs fx ad h o.toNat (am_cell o.toNat).2.2 0) := by unfold am_e; rw [if_pos hc0]
      rw [he] at hwg
      have hK : K (am_st h o.toNat (am_fx own idx % 64) v.2) ∧ v.1 = (if f.1 = 8 then 2 else f.1) ∧ (f.1 = 8 → ¬ bm = true ∧ ini = true) := by
        by_cases h8 : f.1 = 8
        · rw [if_pos h8] at hg ⊢
          by_cases hbm : bm = true ∨ ini = false
          · rw [if_pos hbm] at hg; exact hg.elim
          · rw [if_neg hbm] at hg
            by_cases hv2 : v.1 = 2
            · rw [if_pos hv2] at hg; exact ⟨hg, hv2, fun _ => ⟨fun q => hbm (Or.inl q), by cases hi : ini with | true => rfl | false => exact absurd (Or.inr hi) hbm⟩⟩
            · rw [if_neg hv2] at hg; exact hg.elim
        · rw [if_neg h8] at hg ⊢
          by_cases hv2 : v.1 = f.1
          · rw [if_pos hv2] at hg; exact ⟨hg, hv2, fun q => absurd q h8⟩
          · rw [if_neg hv2] at hg; exact hg.elim
      have hve : v = (if f.1 = 8 then 2 else f.1, v.2) := by rw [← hK.2.1]
      have hokc : am_okc (h 0 0) o.toNat (am_st h o.toNat (am_fx own idx % 64) v.2 o.toNat) := am_okc_fd hc0 (hok.2.2 o.toNat (by omega) (by omega)) hn (by rw [← hve]; exact hvk)
      have hset : (am_w cA fx ad h).set (o.toNat - 1) (ad o.toNat, .inr ((am_cell o.toNat).2.1, (am_fs fx ad h o.toNat (am_cell o.toNat).2.2 0).set (am_fx own idx % 64) (am_tr fx ad v))) = am_w cA fx ad (am_st h o.toNat (am_fx own idx % 64) v.2) := by
        refine am_w_set (by omega) ?_
        unfold am_e
        rw [if_pos hc0, ← am_fs_set fx ad h o.toNat (am_cell o.toNat).2.2 hn v.2, ← hve]
      have hfin2 : bm = true → am_fin (am_st h o.toNat (am_fx own idx % 64) v.2) := fun hbm => am_fin_st (hfin hbm) (fun f' _ hf' h8 => by
        cases hn.symm.trans hf'
        exact (hK.2.2 h8).1 hbm)
      have kk : ∀ (H1 : Heap) (locs1 : List Loc), va_P (dC, dI) am_cl ((am_w cA fx ad h).set (o.toNat - 1) (ad o.toNat, .inr ((am_cell o.toNat).2.1, (am_fs fx ad h o.toNat (am_cell o.toNat).2.2 0).set (am_fx own idx % 64) (am_tr fx ad v)))) H1 → va_D A ((am_w cA fx ad h).set (o.toNat - 1) (ad o.toNat, .inr ((am_cell o.toNat).2.1, (am_fs fx ad h o.toNat (am_cell o.toNat).2.2 0).set (am_fx own idx % 64) (am_tr fx ad v)))) → va_S A s.heap H1 locs1 → W p l e R s m args below meth c H1 locs1 cells slots Q (F0 m (pc + 3) lsM (s'.map (am_tr fx ad))) := by
        intro H1 locs1 q1 q2 q3
        rw [hset] at q1 q2
        have h0 : am_st h o.toNat (am_fx own idx % 64) v.2 0 0 = h 0 0 := am_st_nc (by omega)
        exact hk _ hK.1 ad lsM H1 locs1 cells slots (am_J.mem hroom hJ (by omega) q1 q2 q3 hokc hfin2) (by rw [h0]; exact am_okt (am_okt hst))
      have hty : (narrow (am_tyf CT (am_fx own idx % 64)) (am_tr fx ad v) = am_tr fx ad v ∧ fits (am_tyf CT (am_fx own idx % 64)) (am_tr fx ad v) = true) ∧ (CT (am_fx own idx % 64)).2.2.2 = (f.1 == 8) := by
        unfold am_fdck at hck
        simp only [Bool.or_eq_true, Bool.and_eq_true, beq_iff_eq, decide_eq_true_eq, Bool.not_eq_true'] at hck
        rcases hck with (⟨⟨g1, g2⟩, g3⟩ | ⟨⟨⟨g1, g2⟩, g3⟩, g4⟩) | ⟨⟨g1, g2⟩, g3⟩
        · have hv0 : am_tr fx ad v = .int (Int32.ofInt v.2) := by rw [hve, if_neg (by rw [g1]; decide), g1]; rfl
          rw [g2, hv0, g3, g1]
          exact ⟨⟨rfl, rfl⟩, rfl⟩
        · have hv0 := am_tr_r fx ad (v := v) (by rw [hK.2.1, if_pos g1]; rfl)
          exact ⟨am_fit_r g2 hv0, by rw [g3, g1]; rfl⟩
        · have hv0 := am_tr_r fx ad (v := v) (by rw [hK.2.1, if_neg (by rw [g1]; decide), g1]; rfl)
          exact ⟨am_fit_r g2 hv0, by rw [g3, g1]; rfl⟩
      show W p l e R s m args below meth c H locs cells slots Q (F0 m pc lsM (am_tr fx ad v :: am_tr fx ad (2, o) :: s'.map (am_tr fx ad)))
      rw [am_tr_2 fx ad ho]
      rcases am_fx_inv hf with ⟨q, hq, h1, h2, h3, h4, h6⟩ | ⟨q, hq, h1, h2, h3, h4⟩
      · have hcq : am_cl[q.2.2.1]? = some (CN, CT, CM) := by rw [← h3, ← hci]; exact hcl
        have hll : am_fx own idx % 64 < (am_fs fx ad h o.toNat (am_cell o.toNat).2.2 0).length := by rw [am_fs_len, hlen2]; exact hj
        by_cases h8 : f.1 = 8
        · have hff : (CT (am_fx own idx % 64)).2.2.2 = true := by rw [hty.2]; simp [h8]
          unfold am_fw at hfw
          rw [h6] at hfw
          dsimp only at hfw
          rw [hcq] at hfw
          dsimp only at hfw
          rw [← h4, hff] at hfw
          simp only [Bool.not_true, Bool.false_or, Bool.and_eq_true, beq_iff_eq] at hfw
          have hl := am_fl_plain hq hcq hfw.1
          rw [h1, h2, ← h4] at hl
          have hdecl : (CT (am_fx own idx % 64)).1 = am_R own := by
            rw [(am_cls hcl).2.2.2 _ hj, ← am_R_of hcq, hfw.2]
          exact va_putF (D := (dC, dI)) hx hb hts (am_cls hcl).1 (am_tyf CT) (am_cls hcl).2.1 (am_cls hcl).2.2.1 hown hE.1 hP hD hS (o.toNat - 1) hwg hcl (am_fx own idx % 64) hj (hts _ hl) (fun x hx => hx) hff (hini (hK.2.2 h8).2) hdecl ((am_cls hcl).2.1 _ hj) hty.1.1 hty.1.2 hll hd kk
        · have hnf : (CT (am_fx own idx % 64)).2.2.2 = false := by rw [hty.2]; simp [h8]
          rcases am_fl_link hq hcq with hl | hl
          · rw [h1, h2, ← h4] at hl
            exact va_put (D := (dC, dI)) hx hb hts (am_cls hcl).1 (am_tyf CT) (am_cls hcl).2.1 (am_cls hcl).2.2.1 hown hE.1 hP hD hS (o.toNat - 1) hwg hcl (am_fx own idx % 64) hj (hts _ hl) (fun x hx => hx) hnf ((am_cls hcl).2.1 _ hj) hty.1.1 hty.1.2 hll hd kk
          · rw [h1, h2, ← h4] at hl
            exact va_putN (D := (dC, dI)) hx hb hts (am_cls hcl).1 (am_tyf CT) (am_cls hcl).2.1 (am_cls hcl).2.2.1 hown hE.1 hP hD hS (o.toNat - 1) hwg hcl (am_fx own idx % 64) hj (va_Nw.use rfl (hE.2.1 _ hl)) (fun x hx => hx) hnf ((am_cls hcl).2.1 _ hj) hty.1.1 hty.1.2 hll hd kk
      · rw [← hci] at h3
        rw [h3] at hcl
        cases hcl
  · rw [if_neg hc] at hg
    exact hg.elim
end AMS
