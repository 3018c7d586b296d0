/-! cells that are made -/
section AMS3
variable {p : Program} {l : Launch} {e : Env} {R : Room} {s : State} {m : MethodId} {args : Array Value} {below : List Frame} {meth : Method} {c : Code} {Q : State → Prop}
variable {dC : Nat → ClassId} {dI : Nat → Nat → Nat} {cA : Nat → ClassId} {fx : Nat → Nat → Nat} {A : Nat → Prop} {nL n0 : Nat} {lim : Int} {a0 : Nat → Nat} {cp : am_H → Nat → Nat → Prop} {bm ini : Bool} {bz : Nat} {own : Nat} {b : ByteArray} {EX : (Nat → Prop) → State → Heap → Prop} {L : Nat} {xs : Nat → Int}
def am_ad (ad : Nat → Nat) (k q : Nat) : Nat → Nat := fun j => if j = k then q else ad j
theorem am_ad_old {ad : Nat → Nat} {n q : Nat} : ∀ k : Nat, (k : Int) ≤ (n : Int) → am_ad ad (n + 1) q k = ad k := by
  intro k hk
  unfold am_ad
  rw [if_neg (by omega)]
theorem am_okc_up {n n' : Int} {k : Nat} {g : Nat → Int} (hn : n ≤ n') (h : am_okc n k g) : am_okc n' k g := ⟨fun q j f hf => am_okv_up hn (h.1 q j f hf), h.2⟩
theorem am_tag {c : vw_C} {j : Nat} {f : Nat × Nat} (h : am_fdck c j f = true) : (f.1 = 0 ∧ am_tyf c.2.1 j = .int) ∨ ((f.1 = 8 ∨ f.1 = 2) ∧ am_isR (am_tyf c.2.1 j) = true) := by
  unfold am_fdck at h
  simp only [Bool.or_eq_true, Bool.and_eq_true, beq_iff_eq, decide_eq_true_eq, Bool.not_eq_true'] at h
  rcases h with (⟨⟨g1, g2⟩, g3⟩ | ⟨⟨⟨g1, g2⟩, g3⟩, g4⟩) | ⟨⟨g1, g2⟩, g3⟩
  · exact Or.inl ⟨g1, g2⟩
  · exact Or.inr ⟨Or.inl g1, g2⟩
  · exact Or.inr ⟨Or.inr g1, g2⟩
theorem am_okc_0 {n : Int} {k : Nat} (hn : 0 ≤ n) {g : Nat → Int} (hg : ∀ j, g j = 0) : am_okc n k g := by
  refine ⟨fun q j f hf => ?_, fun _ j => ?_, fun _ j => ?_, fun _ j => ?_, fun _ j => ?_⟩
  · obtain ⟨c, h1, h2, h3⟩ := am_cell_obj q
    rw [hg]
    rcases am_tag (h3 j f hf).2 with ⟨e, -⟩ | ⟨e, -⟩
    · rw [e]; exact am_okv_0 ⟨by decide, by decide⟩
    · have : (if f.1 = 8 then 2 else f.1) = 2 := by rcases e with e | e <;> simp [e]
      rw [this]
      exact am_okv_2 ⟨Int.le_refl _, hn⟩
  · rw [hg]; exact ⟨by decide, by decide⟩
  · rw [hg]; exact ⟨by decide, by decide⟩
  · rw [hg]; exact ⟨by decide, by decide⟩
  · rw [hg]; exact ⟨by decide, by decide⟩
theorem am_w_push {cA : Nat → ClassId} {fx : Nat → Nat → Nat} {ad : Nat → Nat} {h : am_H} {n : Nat} (hn : h 0 0 = n) (hok : am_okh h) (q : Nat) : am_w cA fx (am_ad ad (n + 1) q) (am_st h 0 0 (n + 1)) = am_w cA fx ad h ++ [(q, am_e cA fx (am_ad ad (n + 1) q) (am_st h 0 0 (n + 1)) (n + 1))] := by
  unfold am_w
  rw [am_st_eq, hn, show ((n : Int) + 1).toNat = n + 1 by omega, show (n : Int).toNat = n by omega, List.range_succ, List.map_append]
  congr 1
  · apply List.map_congr_left
    intro i hi
    have hi2 : i < n := by simpa using hi
    have e1 : am_ad ad (n + 1) q (i + 1) = ad (i + 1) := am_ad_old (i + 1) (by omega)
    have e2 : am_e cA fx (am_ad ad (n + 1) q) (am_st h 0 0 (n + 1)) (i + 1) = am_e cA fx (am_ad ad (n + 1) q) h (i + 1) := am_e_eq (fun j => am_st_nc (by omega))
    have e3 : am_e cA fx (am_ad ad (n + 1) q) h (i + 1) = am_e cA fx ad h (i + 1) := am_e_ad (hok.2.2 (i + 1) (by omega) (by omega)) (fun k hk => am_ad_old k (by omega))
    rw [e1, e2, e3]
  · simp [am_ad]
theorem am_J.new (hcpR : am_Cp R lim cp) {ad : Nat → Nat} {h : am_H} {ls : List am_V} {lsM : Array Slot} {H H1 : Heap} {locs locs1 : List Loc} {cells slots n q : Nat} (hJ : am_J s dC dI cA fx A nL n0 lim bm a0 cp ad h ls lsM H locs cells slots) (hn : h 0 0 = n) (h9 : ¬ (am_cell (n + 1)).1 = 9) (hz : ∀ j, h (n + 1) j = 0) (hl : h 0 0 + 1 ≤ lim) (hP : va_P (dC, dI) am_cl (am_w cA fx (am_ad ad (n + 1) q) (am_st h 0 0 (n + 1))) H1) (hD : va_D A (am_w cA fx (am_ad ad (n + 1) q) (am_st h 0 0 (n + 1)))) (hS : va_S A s.heap H1 locs1) : am_J s dC dI cA fx A nL n0 lim bm a0 cp (am_ad ad (n + 1) q) (am_st h 0 0 (n + 1)) ls lsM H1 locs1 (cells + 1) (slots + am_csz (n + 1)) := by
  obtain ⟨a1, a2, a3, a4, a5, a6, a7, a8, a9, a10, a11, a13⟩ := hJ
  have hk93 := (am_cell_k h9).2
  have e0 : am_st h 0 0 (n + 1) 0 0 = n + 1 := am_st_eq h 0 0 (n + 1)
  refine ⟨hP, hD, hS, ⟨?_, ?_, fun k h1 h2 => ?_⟩, fun hbm k j f h1 h2 h3 h4 => ?_, ?_, ?_, a8, ?_, ?_, (hcpR.2.1 _ _ _ _ hn hl a11).2.2, fun k hk => (am_ad_old k (by omega)).trans (a13 k hk)⟩
  · rw [e0]; omega
  · rw [e0]; omega
  · rw [e0] at h2 ⊢
    have e1 : am_st h 0 0 (n + 1) k = h k := by funext j; exact am_st_nc (by omega)
    rw [e1]
    by_cases hk : k = n + 1
    · subst hk; exact am_okc_0 (by omega) hz
    · exact am_okc_up (by omega) (a4.2.2 k h1 (by omega))
  · rw [am_st_nc (by omega)]; exact a5 hbm k j f h1 h2 h3 h4
  · rw [e0]; exact fun v hv => am_okv_up (by omega) (a6 v hv)
  · rw [am_lv_ad (n := h 0 0) (fun k hk => am_ad_old k (by omega)) a6]; exact a7
  · rw [e0]; omega
  · rw [e0]; omega
theorem am_room (X : am_Cx p R s m args meth c dC dI cA fx A nL n0 lim cp ini own b EX L xs) {h : am_H} {cells slots n : Nat} (hn : h 0 0 = n) (hl : h 0 0 + 1 ≤ lim) (hcp : cp h cells slots) : cells + 1 ≤ R.cells ∧ slots + am_csz (n + 1) ≤ R.slots := by
  obtain ⟨-, -, -, -, -, -, -, -, -, -, hroom, -⟩ := X
  exact ⟨(hroom.2.1 _ _ _ _ hn hl hcp).1, (hroom.2.1 _ _ _ _ hn hl hcp).2.1⟩
theorem am_s_new (X : am_Cx p R s m args meth c dC dI cA fx A nL n0 lim cp ini own b EX L xs) {pc idx : Nat} (hd : decode b pc = .ok (.new idx, 3)) {q : Nat × Nat × Nat × Nat × Nat × Nat} (hq : q ∈ am_CL) (hq1 : q.1 = own) (hq2 : q.2.1 = idx) {n : Nat} {st : List am_V} {h : am_H} {ls : List am_V} (hn : h 0 0 = n) (h0 : (am_cell (n + 1)).1 = 0) (hci : (am_cell (n + 1)).2.1 = q.2.2.1) (hz : ∀ j, h (n + 1) j = 0) (hl : h 0 0 + 1 ≤ lim)
    (hk : am_G p l e R s m args below meth c Q dC dI cA fx A nL n0 lim bm a0 cp (pc + 3) ls ((2, n + 1) :: st) (am_st h 0 0 (n + 1))) : am_G p l e R s m args below meth c Q dC dI cA fx A nL n0 lim bm a0 cp pc ls st h := by
  intro ad lsM H locs cells slots hJ hst
  have hX := X
  obtain ⟨hx, hb, hml, hown, hts, hE, hExt, hA, hini, hrm, hroom, hw, hsx, hL, hxs⟩ := X
  obtain ⟨hP, hD, hS, hok, hfin, hls, hlv, hlen, hn0, hlim, hcp, had⟩ := id hJ
  obtain ⟨⟨CN, CT, CM⟩, hcl, hlen2, hfd⟩ := am_cell_obj h0
  have hck := List.all_eq_true.mp am_CL_ok q hq
  unfold am_clok at hck
  rw [← hci, hcl] at hck
  simp only [Bool.and_eq_true, decide_eq_true_eq] at hck
  rw [hq1, hq2] at hck
  have hr := am_room hX hn hl hcp
  have hcsz : am_csz (n + 1) = CM := by unfold am_csz; rw [if_pos h0]; exact hlen2
  rw [hcsz] at hr
  refine va_new (D := (dC, dI)) (fs := am_fs fx ad h (n + 1) (am_cell (n + 1)).2.2 0) hx hb hts (am_cls hcl).1 (am_tyf CT) (am_cls hcl).2.1 hown (hts _ (am_inT hck.1.1 rfl)) (hts _ (am_inT hck.2 rfl)) (hts _ (am_inT hck.1.2 rfl)) hE.1 hP hD hS hA hcl (fun j hj => ?_) hr.1 hr.2 hd (fun a H1 hP1 hD1 hS1 => ?_)
  · show _ = (am_fs fx ad h (n + 1) (am_cell (n + 1)).2.2 0).getD j .null
    rw [List.getD_eq_getElem?_getD, am_fs_get]
    cases hf : am_nth (am_cell (n + 1)).2.2 j with
    | none =>
      exfalso
      rw [am_nth_get] at hf
      have := List.getElem?_eq_none_iff.mp hf
      have hj2 : j < CM := hj
      have hl2 : (am_cell (n + 1)).2.2.length = CM := hlen2
      omega
    | some f =>
      simp only [Option.map_some, Option.getD_some, hz]
      rcases am_tag (hfd j f hf).2 with ⟨e1, e2⟩ | ⟨e1, e2⟩
      · have e3 : am_tyf CT j = .int := e2
        rw [e3, if_neg (by rw [e1]; decide), e1]
        rfl
      · have e3 : am_isR (am_tyf CT j) = true := e2
        have : (if f.1 = 8 then 2 else f.1) = 2 := by rcases e1 with e | e <;> simp [e]
        rw [this, am_tr_20]
        cases ht : am_tyf CT j <;> rw [ht] at e3 <;> first | rfl | cases e3
  · have hent : am_e cA fx (am_ad ad (n + 1) a) (am_st h 0 0 (n + 1)) (n + 1) = .inr ((am_cell (n + 1)).2.1, am_fs fx ad h (n + 1) (am_cell (n + 1)).2.2 0) := by
      have e1 : am_e cA fx (am_ad ad (n + 1) a) (am_st h 0 0 (n + 1)) (n + 1) = am_e cA fx (am_ad ad (n + 1) a) h (n + 1) := am_e_eq (fun j => am_st_nc (by omega))
      have e2 : am_e cA fx (am_ad ad (n + 1) a) h (n + 1) = am_e cA fx ad h (n + 1) := am_e_ad (n := h 0 0) (am_okc_0 hok.1 hz) (fun k hk => am_ad_old k (by omega))
      rw [e1, e2]
      unfold am_e
      rw [if_pos h0]
    have hpush := am_w_push (cA := cA) (fx := fx) (ad := ad) hn hok a
    rw [hent] at hpush
    rw [← hpush] at hP1 hD1
    have hgo := hk (am_ad ad (n + 1) a) lsM H1 locs (cells + 1) (slots + am_csz (n + 1)) (am_J.new hroom hJ hn (by rw [h0]; decide) hz hl hP1 hD1 hS1) (am_ok0 (by rw [am_st_eq]; exact fun v hv => am_okv_up (by omega) (hst v hv)) (am_okv_2 ⟨by omega, by rw [am_st_eq]; exact Int.le_refl _⟩))
    rw [hcsz] at hgo
    have e4 : ((2, (n : Int) + 1) :: st : List am_V).map (am_tr fx (am_ad ad (n + 1) a)) = .ref a :: st.map (am_tr fx ad) := by
      rw [List.map_cons, am_tr_2 fx _ (by omega), am_trs_ad (n := h 0 0) hst (fun k hk => am_ad_old k (by omega)), show ((n : Int) + 1).toNat = n + 1 by omega]
      simp [am_ad]
    rw [e4] at hgo
    exact hgo
set_option maxHeartbeats 4000000 in
theorem am_s_newaI (X : am_Cx p R s m args meth c dC dI cA fx A nL n0 lim cp ini own b EX L xs) {pc : Nat} (hd : decode b pc = .ok (.newarray .int, 2)) {n : Nat} {x : Int} {st : List am_V} {h : am_H} {ls : List am_V} (hn : h 0 0 = n) (h0 : (am_cell (n + 1)).1 = 1) {len : Nat} (hlen3 : (am_cell (n + 1)).2.1 = len) (hxx : x = (len : Nat)) (hz : ∀ j, h (n + 1) j = 0) (hl : h 0 0 + 1 ≤ lim)
    (hk : am_G p l e R s m args below meth c Q dC dI cA fx A nL n0 lim bm a0 cp (pc + 2) ls ((2, n + 1) :: st) (am_st h 0 0 (n + 1))) : am_G p l e R s m args below meth c Q dC dI cA fx A nL n0 lim bm a0 cp pc ls ((0, x) :: st) h := by
  intro ad lsM H locs cells slots hJ hst
  have hX := X
  obtain ⟨hx, hb, hml, hown, hts, hE, hExt, hA, hini, hrm, hroom, hw, hsx, hL, hxs⟩ := X
  obtain ⟨hP, hD, hS, hok, hfin, hls, hlv, hlen, hn0, hlim, hcp, had⟩ := id hJ
  have hr := am_room hX hn hl hcp
  have hne0 : ¬ (am_cell (n + 1)).1 = 0 := fun q => by rw [q] at h0; cases h0
  have hne9 : ¬ (am_cell (n + 1)).1 = 9 := fun q => by rw [q] at h0; cases h0
  have hcsz : am_csz (n + 1) = len := (if_neg hne0).trans hlen3
  rw [hcsz] at hr
  have hle : len ≤ 65536 := hlen3 ▸ (am_cell_arr (k := n + 1) hne0 hne9).1
  have hxi : am_inI x := by rw [hxx]; exact ⟨by omega, by omega⟩
  have hac : (Cond.arrayClass .int).before args s = true := hts _ am_acI
  show W p l e R s m args below meth c H locs cells slots Q (F0 m pc lsM (.int (Int32.ofInt x) :: st.map (am_tr fx ad)))
  have hcellz : ∀ cA0 : ClassId, vp_cell cA0 (len, .inl (fun _ => 0)) = arrV cA0 len (fun _ => defaultValue .int) := fun cA0 => (vp_cell_i cA0 len (fun _ => 0)).trans (congrArg (arrV cA0 len) (funext fun _ => rfl))
  have hq1 : ¬ Int32.ofInt x < 0 := fun q => by
    have q2 := (am_lt32 hxi (⟨by decide, by decide⟩ : am_inI 0)).mp q
    omega
  have hq2 : (Int32.ofInt x).toNatClampNeg = len := by rw [am_clamp hxi, hxx]; exact Int.toNat_natCast len
  have hq3 : len * componentBytes .int ≤ 536870912 := Nat.le_trans (Nat.mul_le_mul_right _ hle) (by decide)
  refine va_newa (atype := .int) (D := (dC, dI)) (ty := .int) (N' := len) (a0 := (len, .inl (fun _ => 0))) hx hb hac rfl hE.1 hP hD hS hA hcellz hq1 hq2 hq3 hr.1 hr.2 hd (fun a cA' H1 hK1 hP1 hD1 hS1 => ?_)
  have hcA : cA' = cA 1 := by
    have q1 : va_RA s cA' .int := (hK1.2 4 (cA', .int) rfl).2
    have q2 : va_RA s (cA 1) .int := (hE.1.2 0 (cA 1, .int) rfl).2
    exact Option.some.inj ((va_nm_int q1).symm.trans (va_nm_int q2))
  subst hcA
  have hent : am_e cA fx (am_ad ad (n + 1) a) (am_st h 0 0 (n + 1)) (n + 1) = .inl (cA 1, (len, .inl (fun _ => 0))) := by
    have e1 : am_e cA fx (am_ad ad (n + 1) a) (am_st h 0 0 (n + 1)) (n + 1) = am_e cA fx (am_ad ad (n + 1) a) h (n + 1) := am_e_eq (fun j => am_st_nc (by omega))
    have e5 : ∀ j, h (n + 1) j = 0 := hz
    rw [e1, am_e_arr h0 (by decide) (by decide)]
    have e6 : (fun j => Int32.ofInt (h (n + 1) j)) = fun _ => 0 := funext fun j => by rw [e5 j]; rfl
    rw [e6, hlen3]
  have hpush := am_w_push (cA := cA) (fx := fx) (ad := ad) hn hok a
  rw [hent] at hpush
  rw [← hpush] at hP1 hD1
  have hgo := hk (am_ad ad (n + 1) a) lsM H1 locs (cells + 1) (slots + am_csz (n + 1)) (am_J.new hroom hJ hn hne9 hz hl hP1 hD1 hS1) (am_ok0 (by rw [am_st_eq]; exact fun v hv => am_okv_up (by omega) (am_okt hst v hv)) (am_okv_2 ⟨by omega, by rw [am_st_eq]; exact Int.le_refl _⟩))
  rw [hcsz] at hgo
  have e4 : ((2, (n : Int) + 1) :: st : List am_V).map (am_tr fx (am_ad ad (n + 1) a)) = .ref a :: st.map (am_tr fx ad) := by
    rw [List.map_cons, am_tr_2 fx _ (by omega), am_trs_ad (n := h 0 0) (am_okt hst) (fun k hk => am_ad_old k (by omega)), show ((n : Int) + 1).toNat = n + 1 by omega]
    simp [am_ad]
  rw [e4] at hgo
  exact hgo
set_option maxHeartbeats 4000000 in
theorem am_s_newaJ (X : am_Cx p R s m args meth c dC dI cA fx A nL n0 lim cp ini own b EX L xs) {pc : Nat} (hd : decode b pc = .ok (.newarray .long, 2)) {n : Nat} {x : Int} {st : List am_V} {h : am_H} {ls : List am_V} (hn : h 0 0 = n) (h0 : (am_cell (n + 1)).1 = 2) {len : Nat} (hlen3 : (am_cell (n + 1)).2.1 = len) (hxx : x = (len : Nat)) (hz : ∀ j, h (n + 1) j = 0) (hl : h 0 0 + 1 ≤ lim)
    (hk : am_G p l e R s m args below meth c Q dC dI cA fx A nL n0 lim bm a0 cp (pc + 2) ls ((2, n + 1) :: st) (am_st h 0 0 (n + 1))) : am_G p l e R s m args below meth c Q dC dI cA fx A nL n0 lim bm a0 cp pc ls ((0, x) :: st) h := by
  intro ad lsM H locs cells slots hJ hst
  have hX := X
  obtain ⟨hx, hb, hml, hown, hts, hE, hExt, hA, hini, hrm, hroom, hw, hsx, hL, hxs⟩ := X
  obtain ⟨hP, hD, hS, hok, hfin, hls, hlv, hlen, hn0, hlim, hcp, had⟩ := id hJ
  have hr := am_room hX hn hl hcp
  have hne0 : ¬ (am_cell (n + 1)).1 = 0 := fun q => by rw [q] at h0; cases h0
  have hne9 : ¬ (am_cell (n + 1)).1 = 9 := fun q => by rw [q] at h0; cases h0
  have hcsz : am_csz (n + 1) = len := (if_neg hne0).trans hlen3
  rw [hcsz] at hr
  have hle : len ≤ 65536 := hlen3 ▸ (am_cell_arr (k := n + 1) hne0 hne9).1
  have hxi : am_inI x := by rw [hxx]; exact ⟨by omega, by omega⟩
  have hac : (Cond.arrayClass .long).before args s = true := hts _ am_acJ
  show W p l e R s m args below meth c H locs cells slots Q (F0 m pc lsM (.int (Int32.ofInt x) :: st.map (am_tr fx ad)))
  have hcellz : ∀ cA0 : ClassId, vp_cell cA0 (len, .inr (.inl (fun _ => 0))) = arrV cA0 len (fun _ => defaultValue .long) := fun cA0 => (vp_cell_l cA0 len (fun _ => 0)).trans (congrArg (arrV cA0 len) (funext fun _ => rfl))
  have hq1 : ¬ Int32.ofInt x < 0 := fun q => by
    have q2 := (am_lt32 hxi (⟨by decide, by decide⟩ : am_inI 0)).mp q
    omega
  have hq2 : (Int32.ofInt x).toNatClampNeg = len := by rw [am_clamp hxi, hxx]; exact Int.toNat_natCast len
  have hq3 : len * componentBytes .long ≤ 536870912 := Nat.le_trans (Nat.mul_le_mul_right _ hle) (by decide)
  refine va_newa (atype := .long) (D := (dC, dI)) (ty := .long) (N' := len) (a0 := (len, .inr (.inl (fun _ => 0)))) hx hb hac rfl hE.1 hP hD hS hA hcellz hq1 hq2 hq3 hr.1 hr.2 hd (fun a cA' H1 hK1 hP1 hD1 hS1 => ?_)
  have hcA : cA' = cA 2 := by
    have q1 : va_RA s cA' .long := (hK1.2 4 (cA', .long) rfl).2
    have q2 : va_RA s (cA 2) .long := (hE.1.2 1 (cA 2, .long) rfl).2
    exact Option.some.inj ((va_nm_long q1).symm.trans (va_nm_long q2))
  subst hcA
  have hent : am_e cA fx (am_ad ad (n + 1) a) (am_st h 0 0 (n + 1)) (n + 1) = .inl (cA 2, (len, .inr (.inl (fun _ => 0)))) := by
    have e1 : am_e cA fx (am_ad ad (n + 1) a) (am_st h 0 0 (n + 1)) (n + 1) = am_e cA fx (am_ad ad (n + 1) a) h (n + 1) := am_e_eq (fun j => am_st_nc (by omega))
    have e5 : ∀ j, h (n + 1) j = 0 := hz
    rw [e1, am_e_lng h0]
    have e6 : (fun j => Int64.ofInt (h (n + 1) j)) = fun _ => 0 := funext fun j => by rw [e5 j]; rfl
    rw [e6, hlen3]
  have hpush := am_w_push (cA := cA) (fx := fx) (ad := ad) hn hok a
  rw [hent] at hpush
  rw [← hpush] at hP1 hD1
  have hgo := hk (am_ad ad (n + 1) a) lsM H1 locs (cells + 1) (slots + am_csz (n + 1)) (am_J.new hroom hJ hn hne9 hz hl hP1 hD1 hS1) (am_ok0 (by rw [am_st_eq]; exact fun v hv => am_okv_up (by omega) (am_okt hst v hv)) (am_okv_2 ⟨by omega, by rw [am_st_eq]; exact Int.le_refl _⟩))
  rw [hcsz] at hgo
  have e4 : ((2, (n : Int) + 1) :: st : List am_V).map (am_tr fx (am_ad ad (n + 1) a)) = .ref a :: st.map (am_tr fx ad) := by
    rw [List.map_cons, am_tr_2 fx _ (by omega), am_trs_ad (n := h 0 0) (am_okt hst) (fun k hk => am_ad_old k (by omega)), show ((n : Int) + 1).toNat = n + 1 by omega]
    simp [am_ad]
  rw [e4] at hgo
  exact hgo
set_option maxHeartbeats 4000000 in
theorem am_s_newaB (X : am_Cx p R s m args meth c dC dI cA fx A nL n0 lim cp ini own b EX L xs) {pc : Nat} (hd : decode b pc = .ok (.newarray .byte, 2)) {n : Nat} {x : Int} {st : List am_V} {h : am_H} {ls : List am_V} (hn : h 0 0 = n) (h0 : (am_cell (n + 1)).1 = 3) {len : Nat} (hlen3 : (am_cell (n + 1)).2.1 = len) (hxx : x = (len : Nat)) (hz : ∀ j, h (n + 1) j = 0) (hl : h 0 0 + 1 ≤ lim)
    (hk : am_G p l e R s m args below meth c Q dC dI cA fx A nL n0 lim bm a0 cp (pc + 2) ls ((2, n + 1) :: st) (am_st h 0 0 (n + 1))) : am_G p l e R s m args below meth c Q dC dI cA fx A nL n0 lim bm a0 cp pc ls ((0, x) :: st) h := by
  intro ad lsM H locs cells slots hJ hst
  have hX := X
  obtain ⟨hx, hb, hml, hown, hts, hE, hExt, hA, hini, hrm, hroom, hw, hsx, hL, hxs⟩ := X
  obtain ⟨hP, hD, hS, hok, hfin, hls, hlv, hlen, hn0, hlim, hcp, had⟩ := id hJ
  have hr := am_room hX hn hl hcp
  have hne0 : ¬ (am_cell (n + 1)).1 = 0 := fun q => by rw [q] at h0; cases h0
  have hne9 : ¬ (am_cell (n + 1)).1 = 9 := fun q => by rw [q] at h0; cases h0
  have hcsz : am_csz (n + 1) = len := (if_neg hne0).trans hlen3
  rw [hcsz] at hr
  have hle : len ≤ 65536 := hlen3 ▸ (am_cell_arr (k := n + 1) hne0 hne9).1
  have hxi : am_inI x := by rw [hxx]; exact ⟨by omega, by omega⟩
  have hac : (Cond.arrayClass .byte).before args s = true := hts _ am_acB
  show W p l e R s m args below meth c H locs cells slots Q (F0 m pc lsM (.int (Int32.ofInt x) :: st.map (am_tr fx ad)))
  have hcellz : ∀ cA0 : ClassId, vp_cell cA0 (len, .inl (fun _ => 0)) = arrV cA0 len (fun _ => defaultValue .byte) := fun cA0 => (vp_cell_i cA0 len (fun _ => 0)).trans (congrArg (arrV cA0 len) (funext fun _ => rfl))
  have hq1 : ¬ Int32.ofInt x < 0 := fun q => by
    have q2 := (am_lt32 hxi (⟨by decide, by decide⟩ : am_inI 0)).mp q
    omega
  have hq2 : (Int32.ofInt x).toNatClampNeg = len := by rw [am_clamp hxi, hxx]; exact Int.toNat_natCast len
  have hq3 : len * componentBytes .byte ≤ 536870912 := Nat.le_trans (Nat.mul_le_mul_right _ hle) (by decide)
  refine va_newa (atype := .byte) (D := (dC, dI)) (ty := .byte) (N' := len) (a0 := (len, .inl (fun _ => 0))) hx hb hac rfl hE.1 hP hD hS hA hcellz hq1 hq2 hq3 hr.1 hr.2 hd (fun a cA' H1 hK1 hP1 hD1 hS1 => ?_)
  have hcA : cA' = cA 3 := by
    have q1 : va_RA s cA' .byte := (hK1.2 4 (cA', .byte) rfl).2
    have q2 : va_RA s (cA 3) .byte := (hE.1.2 2 (cA 3, .byte) rfl).2
    exact Option.some.inj ((va_nm_byte q1).symm.trans (va_nm_byte q2))
  subst hcA
  have hent : am_e cA fx (am_ad ad (n + 1) a) (am_st h 0 0 (n + 1)) (n + 1) = .inl (cA 3, (len, .inl (fun _ => 0))) := by
    have e1 : am_e cA fx (am_ad ad (n + 1) a) (am_st h 0 0 (n + 1)) (n + 1) = am_e cA fx (am_ad ad (n + 1) a) h (n + 1) := am_e_eq (fun j => am_st_nc (by omega))
    have e5 : ∀ j, h (n + 1) j = 0 := hz
    rw [e1, am_e_arr h0 (by decide) (by decide)]
    have e6 : (fun j => Int32.ofInt (h (n + 1) j)) = fun _ => 0 := funext fun j => by rw [e5 j]; rfl
    rw [e6, hlen3]
  have hpush := am_w_push (cA := cA) (fx := fx) (ad := ad) hn hok a
  rw [hent] at hpush
  rw [← hpush] at hP1 hD1
  have hgo := hk (am_ad ad (n + 1) a) lsM H1 locs (cells + 1) (slots + am_csz (n + 1)) (am_J.new hroom hJ hn hne9 hz hl hP1 hD1 hS1) (am_ok0 (by rw [am_st_eq]; exact fun v hv => am_okv_up (by omega) (am_okt hst v hv)) (am_okv_2 ⟨by omega, by rw [am_st_eq]; exact Int.le_refl _⟩))
  rw [hcsz] at hgo
  have e4 : ((2, (n : Int) + 1) :: st : List am_V).map (am_tr fx (am_ad ad (n + 1) a)) = .ref a :: st.map (am_tr fx ad) := by
    rw [List.map_cons, am_tr_2 fx _ (by omega), am_trs_ad (n := h 0 0) (am_okt hst) (fun k hk => am_ad_old k (by omega)), show ((n : Int) + 1).toNat = n + 1 by omega]
    simp [am_ad]
  rw [e4] at hgo
  exact hgo
set_option maxHeartbeats 4000000 in
theorem am_s_newaZ (X : am_Cx p R s m args meth c dC dI cA fx A nL n0 lim cp ini own b EX L xs) {pc : Nat} (hd : decode b pc = .ok (.newarray .boolean, 2)) {n : Nat} {x : Int} {st : List am_V} {h : am_H} {ls : List am_V} (hn : h 0 0 = n) (h0 : (am_cell (n + 1)).1 = 4) {len : Nat} (hlen3 : (am_cell (n + 1)).2.1 = len) (hxx : x = (len : Nat)) (hz : ∀ j, h (n + 1) j = 0) (hl : h 0 0 + 1 ≤ lim)
    (hk : am_G p l e R s m args below meth c Q dC dI cA fx A nL n0 lim bm a0 cp (pc + 2) ls ((2, n + 1) :: st) (am_st h 0 0 (n + 1))) : am_G p l e R s m args below meth c Q dC dI cA fx A nL n0 lim bm a0 cp pc ls ((0, x) :: st) h := by
  intro ad lsM H locs cells slots hJ hst
  have hX := X
  obtain ⟨hx, hb, hml, hown, hts, hE, hExt, hA, hini, hrm, hroom, hw, hsx, hL, hxs⟩ := X
  obtain ⟨hP, hD, hS, hok, hfin, hls, hlv, hlen, hn0, hlim, hcp, had⟩ := id hJ
  have hr := am_room hX hn hl hcp
  have hne0 : ¬ (am_cell (n + 1)).1 = 0 := fun q => by rw [q] at h0; cases h0
  have hne9 : ¬ (am_cell (n + 1)).1 = 9 := fun q => by rw [q] at h0; cases h0
  have hcsz : am_csz (n + 1) = len := (if_neg hne0).trans hlen3
  rw [hcsz] at hr
  have hle : len ≤ 65536 := hlen3 ▸ (am_cell_arr (k := n + 1) hne0 hne9).1
  have hxi : am_inI x := by rw [hxx]; exact ⟨by omega, by omega⟩
  have hac : (Cond.arrayClass .boolean).before args s = true := hts _ am_acZ
  show W p l e R s m args below meth c H locs cells slots Q (F0 m pc lsM (.int (Int32.ofInt x) :: st.map (am_tr fx ad)))
  have hcellz : ∀ cA0 : ClassId, vp_cell cA0 (len, .inl (fun _ => 0)) = arrV cA0 len (fun _ => defaultValue .boolean) := fun cA0 => (vp_cell_i cA0 len (fun _ => 0)).trans (congrArg (arrV cA0 len) (funext fun _ => rfl))
  have hq1 : ¬ Int32.ofInt x < 0 := fun q => by
    have q2 := (am_lt32 hxi (⟨by decide, by decide⟩ : am_inI 0)).mp q
    omega
  have hq2 : (Int32.ofInt x).toNatClampNeg = len := by rw [am_clamp hxi, hxx]; exact Int.toNat_natCast len
  have hq3 : len * componentBytes .boolean ≤ 536870912 := Nat.le_trans (Nat.mul_le_mul_right _ hle) (by decide)
  refine va_newa (atype := .boolean) (D := (dC, dI)) (ty := .boolean) (N' := len) (a0 := (len, .inl (fun _ => 0))) hx hb hac rfl hE.1 hP hD hS hA hcellz hq1 hq2 hq3 hr.1 hr.2 hd (fun a cA' H1 hK1 hP1 hD1 hS1 => ?_)
  have hcA : cA' = cA 4 := by
    have q1 : va_RA s cA' .boolean := (hK1.2 4 (cA', .boolean) rfl).2
    have q2 : va_RA s (cA 4) .boolean := (hE.1.2 3 (cA 4, .boolean) rfl).2
    exact Option.some.inj ((va_nm_boolean q1).symm.trans (va_nm_boolean q2))
  subst hcA
  have hent : am_e cA fx (am_ad ad (n + 1) a) (am_st h 0 0 (n + 1)) (n + 1) = .inl (cA 4, (len, .inl (fun _ => 0))) := by
    have e1 : am_e cA fx (am_ad ad (n + 1) a) (am_st h 0 0 (n + 1)) (n + 1) = am_e cA fx (am_ad ad (n + 1) a) h (n + 1) := am_e_eq (fun j => am_st_nc (by omega))
    have e5 : ∀ j, h (n + 1) j = 0 := hz
    rw [e1, am_e_arr h0 (by decide) (by decide)]
    have e6 : (fun j => Int32.ofInt (h (n + 1) j)) = fun _ => 0 := funext fun j => by rw [e5 j]; rfl
    rw [e6, hlen3]
  have hpush := am_w_push (cA := cA) (fx := fx) (ad := ad) hn hok a
  rw [hent] at hpush
  rw [← hpush] at hP1 hD1
  have hgo := hk (am_ad ad (n + 1) a) lsM H1 locs (cells + 1) (slots + am_csz (n + 1)) (am_J.new hroom hJ hn hne9 hz hl hP1 hD1 hS1) (am_ok0 (by rw [am_st_eq]; exact fun v hv => am_okv_up (by omega) (am_okt hst v hv)) (am_okv_2 ⟨by omega, by rw [am_st_eq]; exact Int.le_refl _⟩))
  rw [hcsz] at hgo
  have e4 : ((2, (n : Int) + 1) :: st : List am_V).map (am_tr fx (am_ad ad (n + 1) a)) = .ref a :: st.map (am_tr fx ad) := by
    rw [List.map_cons, am_tr_2 fx _ (by omega), am_trs_ad (n := h 0 0) (am_okt hst) (fun k hk => am_ad_old k (by omega)), show ((n : Int) + 1).toNat = n + 1 by omega]
    simp [am_ad]
  rw [e4] at hgo
  exact hgo
end AMS3
