/-! arrays, and cells that are made -/
section AMS2
variable {p : Program} {l : Launch} {e : Env} {R : Room} {s : State} {m : MethodId} {args : Array Value} {below : List Frame} {meth : Method} {c : Code} {Q : State → Prop}
variable {dC : Nat → ClassId} {dI : Nat → Nat → Nat} {cA : Nat → ClassId} {fx : Nat → Nat → Nat} {A : Nat → Prop} {nL n0 : Nat} {lim : Int} {a0 : Nat → Nat} {cp : am_H → Nat → Nat → Prop} {bm ini : Bool} {bz : Nat} {own : Nat} {b : ByteArray} {EX : (Nat → Prop) → State → Heap → Prop} {L : Nat} {xs : Nat → Int}
theorem am_e_arr {cA : Nat → ClassId} {fx : Nat → Nat → Nat} {ad : Nat → Nat} {h : am_H} {k t : Nat} (hk : (am_cell k).1 = t) (h0 : ¬ t = 0) (h2 : ¬ t = 2) : am_e cA fx ad h k = .inl (cA t, ((am_cell k).2.1, .inl (fun j => Int32.ofInt (h k j)))) := by
  unfold am_e
  rw [hk, if_neg h0, if_neg h2]
theorem am_e_lng {cA : Nat → ClassId} {fx : Nat → Nat → Nat} {ad : Nat → Nat} {h : am_H} {k : Nat} (hk : (am_cell k).1 = 2) : am_e cA fx ad h k = .inl (cA 2, ((am_cell k).2.1, .inr (.inl (fun j => Int64.ofInt (h k j))))) := by
  unfold am_e
  rw [hk, if_neg (by decide), if_pos rfl]
theorem am_upd32 (h : am_H) (k i : Nat) (x : Int) : (fun j => Int32.ofInt (am_st h k i x k j)) = upd (fun j => Int32.ofInt (h k j)) i (Int32.ofInt x) := by
  funext j
  by_cases hj : j = i
  · subst hj; simp [am_st, upd]
  · simp [am_st, upd, hj]
theorem am_upd64 (h : am_H) (k i : Nat) (x : Int) : (fun j => Int64.ofInt (am_st h k i x k j)) = vp_updL (fun j => Int64.ofInt (h k j)) i (Int64.ofInt x) := by
  funext j
  by_cases hj : j = i
  · subst hj; simp [am_st, vp_updL]
  · simp [am_st, vp_updL, hj]
theorem am_okc_arr {n : Int} {k i : Nat} {h : am_H} {x : Int} (h0 : ¬ (am_cell k).1 = 0) (hc : am_okc n k (h k)) (h1 : (am_cell k).1 = 1 → am_inI x) (h2 : (am_cell k).1 = 2 → am_inL x) (h3 : (am_cell k).1 = 3 → -128 ≤ x ∧ x ≤ 127) (h4 : (am_cell k).1 = 4 → 0 ≤ x ∧ x ≤ 1) : am_okc n k (am_st h k i x k) := by
  refine ⟨fun q => absurd q h0, fun q j => ?_, fun q j => ?_, fun q j => ?_, fun q j => ?_⟩
  · by_cases hj : j = i
    · subst hj; rw [am_st_eq]; exact h1 q
    · rw [am_st_ne (fun z => hj z.2)]; exact hc.2.1 q j
  · by_cases hj : j = i
    · subst hj; rw [am_st_eq]; exact h2 q
    · rw [am_st_ne (fun z => hj z.2)]; exact hc.2.2.1 q j
  · by_cases hj : j = i
    · subst hj; rw [am_st_eq]; exact h3 q
    · rw [am_st_ne (fun z => hj z.2)]; exact hc.2.2.2.1 q j
  · by_cases hj : j = i
    · subst hj; rw [am_st_eq]; exact h4 q
    · rw [am_st_ne (fun z => hj z.2)]; exact hc.2.2.2.2 q j
theorem am_nb {x : Int} (h : -128 ≤ x ∧ x ≤ 127) : vp_nar .byte (Int32.ofInt x) = Int32.ofInt x := by
  have hh : ∀ n : Fin 256, vp_nar .byte (Int32.ofInt ((n.val : Int) - 128)) = Int32.ofInt ((n.val : Int) - 128) := by decide +kernel
  have := hh ⟨(x + 128).toNat, by omega⟩
  rw [show (((x + 128).toNat : Nat) : Int) - 128 = x by omega] at this
  exact this
theorem am_nz {x : Int} (h : 0 ≤ x ∧ x ≤ 1) : vp_nar .boolean (Int32.ofInt x) = Int32.ofInt x := by
  rcases (show x = 0 ∨ x = 1 by omega) with rfl | rfl <;> rfl
theorem am_s_iald (X : am_Cx p R s m args meth c dC dI cA fx A nL n0 lim cp ini own b EX L xs) {pc : Nat} (hd : decode b pc = .ok (.iaload, 1)) {i a : Int} {s' : List am_V} {h : am_H} {ls : List am_V} (hkd : (am_cell a.toNat).1 = 1) (ha0 : 0 < a) (hi : 0 ≤ i ∧ i < ((am_cell a.toNat).2.1 : Nat))
    (hk : am_G p l e R s m args below meth c Q dC dI cA fx A nL n0 lim bm a0 cp (pc + 1) ls ((0, h a.toNat i.toNat) :: s') h) : am_G p l e R s m args below meth c Q dC dI cA fx A nL n0 lim bm a0 cp pc ls ((0, i) :: (2, a) :: s') h := by
  intro ad lsM H locs cells slots hJ hst
  obtain ⟨hx, hb, hml, hown, hts, hE, hExt, hA, hini, hrm, hroom, hw, hsx, hL, hxs⟩ := X
  obtain ⟨hP, hD, hS, hok, hfin, hls, hlv, hlen, hn0, hlim, hcp, had⟩ := id hJ
  have hov := (am_okd (am_okt hst)).2.2.1 rfl
  have hiv := (am_okd hst).1 rfl
  have hwg := am_w_get cA fx ad h (k := a.toNat) (by omega) (by omega)
  rw [am_e_arr hkd (by decide) (by decide)] at hwg
  show W p l e R s m args below meth c H locs cells slots Q (F0 m pc lsM (.int (Int32.ofInt i) :: am_tr fx ad (2, a) :: s'.map (am_tr fx ad)))
  rw [am_tr_2 fx ad ha0]
  refine va_iald hx hb hE.1 hP (a.toNat - 1) 0 hwg rfl (am_vin hiv hi.1 hi.2) hd ?_
  rw [am_clamp hiv]
  exact hk ad lsM H locs cells slots hJ (am_ok0 (am_okt (am_okt hst)) (am_okv_0 ((hok.2.2 a.toNat (by omega) (by omega)).2.1 hkd i.toNat)))
theorem am_s_lald (X : am_Cx p R s m args meth c dC dI cA fx A nL n0 lim cp ini own b EX L xs) {pc : Nat} (hd : decode b pc = .ok (.laload, 1)) {i a : Int} {s' : List am_V} {h : am_H} {ls : List am_V} (hkd : (am_cell a.toNat).1 = 2) (ha0 : 0 < a) (hi : 0 ≤ i ∧ i < ((am_cell a.toNat).2.1 : Nat))
    (hk : am_G p l e R s m args below meth c Q dC dI cA fx A nL n0 lim bm a0 cp (pc + 1) ls ((1, h a.toNat i.toNat) :: s') h) : am_G p l e R s m args below meth c Q dC dI cA fx A nL n0 lim bm a0 cp pc ls ((0, i) :: (2, a) :: s') h := by
  intro ad lsM H locs cells slots hJ hst
  obtain ⟨hx, hb, hml, hown, hts, hE, hExt, hA, hini, hrm, hroom, hw, hsx, hL, hxs⟩ := X
  obtain ⟨hP, hD, hS, hok, hfin, hls, hlv, hlen, hn0, hlim, hcp, had⟩ := id hJ
  have hov := (am_okd (am_okt hst)).2.2.1 rfl
  have hiv := (am_okd hst).1 rfl
  have hwg := am_w_get cA fx ad h (k := a.toNat) (by omega) (by omega)
  rw [am_e_lng hkd] at hwg
  show W p l e R s m args below meth c H locs cells slots Q (F0 m pc lsM (.int (Int32.ofInt i) :: am_tr fx ad (2, a) :: s'.map (am_tr fx ad)))
  rw [am_tr_2 fx ad ha0]
  refine va_lald hx hb hE.1 hP (a.toNat - 1) 1 hwg rfl (am_vin hiv hi.1 hi.2) hd ?_
  rw [am_clamp hiv]
  exact hk ad lsM H locs cells slots hJ (am_ok0 (am_okt (am_okt hst)) (am_okv_1 ((hok.2.2 a.toNat (by omega) (by omega)).2.2.1 hkd i.toNat)))
theorem am_s_bald (X : am_Cx p R s m args meth c dC dI cA fx A nL n0 lim cp ini own b EX L xs) {pc : Nat} (hd : decode b pc = .ok (.baload, 1)) {i a : Int} {s' : List am_V} {h : am_H} {ls : List am_V} (hkd : (am_cell a.toNat).1 = 3) (ha0 : 0 < a) (hi : 0 ≤ i ∧ i < ((am_cell a.toNat).2.1 : Nat))
    (hk : (-128 ≤ h a.toNat i.toNat ∧ h a.toNat i.toNat ≤ 127) → am_G p l e R s m args below meth c Q dC dI cA fx A nL n0 lim bm a0 cp (pc + 1) ls ((0, h a.toNat i.toNat) :: s') h) : am_G p l e R s m args below meth c Q dC dI cA fx A nL n0 lim bm a0 cp pc ls ((0, i) :: (2, a) :: s') h := by
  intro ad lsM H locs cells slots hJ hst
  obtain ⟨hx, hb, hml, hown, hts, hE, hExt, hA, hini, hrm, hroom, hw, hsx, hL, hxs⟩ := X
  obtain ⟨hP, hD, hS, hok, hfin, hls, hlv, hlen, hn0, hlim, hcp, had⟩ := id hJ
  have hov := (am_okd (am_okt hst)).2.2.1 rfl
  have hiv := (am_okd hst).1 rfl
  have hwg := am_w_get cA fx ad h (k := a.toNat) (by omega) (by omega)
  rw [am_e_arr hkd (by decide) (by decide)] at hwg
  show W p l e R s m args below meth c H locs cells slots Q (F0 m pc lsM (.int (Int32.ofInt i) :: am_tr fx ad (2, a) :: s'.map (am_tr fx ad)))
  rw [am_tr_2 fx ad ha0]
  refine va_bald hx hb hE.1 hP (a.toNat - 1) 2 hwg rfl (am_vin hiv hi.1 hi.2) hd ?_
  rw [am_clamp hiv]
  exact (hk ((hok.2.2 a.toNat (by omega) (by omega)).2.2.2.1 hkd i.toNat)) ad lsM H locs cells slots hJ (am_ok0 (am_okt (am_okt hst)) (am_okv_0 (by have := (hok.2.2 a.toNat (by omega) (by omega)).2.2.2.1 hkd i.toNat; exact ⟨by omega, by omega⟩)))
theorem am_s_zald (X : am_Cx p R s m args meth c dC dI cA fx A nL n0 lim cp ini own b EX L xs) {pc : Nat} (hd : decode b pc = .ok (.baload, 1)) {i a : Int} {s' : List am_V} {h : am_H} {ls : List am_V} (hkd : (am_cell a.toNat).1 = 4) (ha0 : 0 < a) (hi : 0 ≤ i ∧ i < ((am_cell a.toNat).2.1 : Nat))
    (hk : (0 ≤ h a.toNat i.toNat ∧ h a.toNat i.toNat ≤ 1) → am_G p l e R s m args below meth c Q dC dI cA fx A nL n0 lim bm a0 cp (pc + 1) ls ((0, h a.toNat i.toNat) :: s') h) : am_G p l e R s m args below meth c Q dC dI cA fx A nL n0 lim bm a0 cp pc ls ((0, i) :: (2, a) :: s') h := by
  intro ad lsM H locs cells slots hJ hst
  obtain ⟨hx, hb, hml, hown, hts, hE, hExt, hA, hini, hrm, hroom, hw, hsx, hL, hxs⟩ := X
  obtain ⟨hP, hD, hS, hok, hfin, hls, hlv, hlen, hn0, hlim, hcp, had⟩ := id hJ
  have hov := (am_okd (am_okt hst)).2.2.1 rfl
  have hiv := (am_okd hst).1 rfl
  have hwg := am_w_get cA fx ad h (k := a.toNat) (by omega) (by omega)
  rw [am_e_arr hkd (by decide) (by decide)] at hwg
  show W p l e R s m args below meth c H locs cells slots Q (F0 m pc lsM (.int (Int32.ofInt i) :: am_tr fx ad (2, a) :: s'.map (am_tr fx ad)))
  rw [am_tr_2 fx ad ha0]
  refine va_zald hx hb hE.1 hP (a.toNat - 1) 3 hwg rfl (am_vin hiv hi.1 hi.2) hd ?_
  rw [am_clamp hiv]
  exact (hk ((hok.2.2 a.toNat (by omega) (by omega)).2.2.2.2 hkd i.toNat)) ad lsM H locs cells slots hJ (am_ok0 (am_okt (am_okt hst)) (am_okv_0 (by have := (hok.2.2 a.toNat (by omega) (by omega)).2.2.2.2 hkd i.toNat; exact ⟨by omega, by omega⟩)))
theorem am_s_sld (X : am_Cx p R s m args meth c dC dI cA fx A nL n0 lim cp ini own b EX L xs) {pc : Nat} (hd : decode b pc = .ok (.iaload, 1)) {i a : Int} {s' : List am_V} {h : am_H} {ls : List am_V} (hi : 0 ≤ i ∧ i < (L : Nat))
    (hk : am_G p l e R s m args below meth c Q dC dI cA fx A nL n0 lim bm a0 cp (pc + 1) ls ((0, xs i.toNat) :: s') h) : am_G p l e R s m args below meth c Q dC dI cA fx A nL n0 lim bm a0 cp pc ls ((0, i) :: (7, a) :: s') h := by
  intro ad lsM H locs cells slots hJ hst
  obtain ⟨hx, hb, hml, hown, hts, hE, hExt, hA, hini, hrm, hroom, hw, hsx, hL, hxs⟩ := X
  obtain ⟨hP, hD, hS, hok, hfin, hls, hlv, hlen, hn0, hlim, hcp, had⟩ := id hJ
  have hov := (am_okd (am_okt hst)).2.2.2.2 rfl
  have hov : a = 0 := hov
  subst hov
  have hiv := (am_okd hst).1 rfl
  obtain ⟨q1, q2⟩ := hsx A s s.heap hE.2.2
  obtain ⟨scr, hcb, _⟩ := id q1
  have hbl : fx 7 0 < s.heap.size := (Array.getElem?_eq_some_iff.mp hcb).1
  show W p l e R s m args below meth c H locs cells slots Q (F0 m pc lsM (.int (Int32.ofInt i) :: .ref (fx 7 0) :: s'.map (am_tr fx ad)))
  refine va_sld hx hb q1 hbl q2 hS (am_vin hiv hi.1 hi.2) hd ?_
  rw [am_clamp hiv]
  exact hk ad lsM H locs cells slots hJ (am_ok0 (am_okt (am_okt hst)) (am_okv_0 (hxs _)))
theorem am_s_iast (X : am_Cx p R s m args meth c dC dI cA fx A nL n0 lim cp ini own b EX L xs) {pc : Nat} (hd : decode b pc = .ok (.iastore, 1)) {x i a : Int} {s' : List am_V} {h : am_H} {ls : List am_V} (hkd : (am_cell a.toNat).1 = 1) (ha0 : 0 < a) (hi : 0 ≤ i ∧ i < ((am_cell a.toNat).2.1 : Nat))
    (hk : am_G p l e R s m args below meth c Q dC dI cA fx A nL n0 lim bm a0 cp (pc + 1) ls s' (am_st h a.toNat i.toNat x)) : am_G p l e R s m args below meth c Q dC dI cA fx A nL n0 lim bm a0 cp pc ls ((0, x) :: (0, i) :: (2, a) :: s') h := by
  intro ad lsM H locs cells slots hJ hst
  obtain ⟨hx, hb, hml, hown, hts, hE, hExt, hA, hini, hrm, hroom, hw, hsx, hL, hxs⟩ := X
  obtain ⟨hP, hD, hS, hok, hfin, hls, hlv, hlen, hn0, hlim, hcp, had⟩ := id hJ
  have hov := (am_okd (am_okt (am_okt hst))).2.2.1 rfl
  have hiv := (am_okd (am_okt hst)).1 rfl
  have hxv := (am_okd hst).1 rfl
  have hwg := am_w_get cA fx ad h (k := a.toNat) (by omega) (by omega)
  rw [am_e_arr hkd (by decide) (by decide)] at hwg
  have hset : (am_w cA fx ad h).set (a.toNat - 1) (ad a.toNat, .inl (cA 1, ((am_cell a.toNat).2.1, .inl (upd (fun j => Int32.ofInt (h a.toNat j)) i.toNat (Int32.ofInt x))))) = am_w cA fx ad (am_st h a.toNat i.toNat x) := by
    refine am_w_set (by omega) ?_
    rw [am_e_arr hkd (by decide) (by decide), am_upd32]
  show W p l e R s m args below meth c H locs cells slots Q (F0 m pc lsM (.int (Int32.ofInt x) :: .int (Int32.ofInt i) :: am_tr fx ad (2, a) :: s'.map (am_tr fx ad)))
  rw [am_tr_2 fx ad ha0]
  refine va_iast hx hb hE.1 hP hD hS (a.toNat - 1) 0 hwg rfl (am_vin hiv hi.1 hi.2) hd (fun H1 locs1 q1 q2 q3 => ?_)
  rw [am_clamp hiv] at q1 q2
  rw [hset] at q1 q2
  have h0 : am_st h a.toNat i.toNat x 0 0 = h 0 0 := am_st_nc (by omega)
  exact hk ad lsM H1 locs1 cells slots (am_J.mem hroom hJ (by omega) q1 q2 q3 (am_okc_arr (by rw [hkd]; decide) (hok.2.2 a.toNat (by omega) (by omega)) (fun _ => hxv) (fun q => by rw [hkd] at q; cases q) (fun q => by rw [hkd] at q; cases q) (fun q => by rw [hkd] at q; cases q)) (fun hbm => am_fin_st (hfin hbm) (fun f q => by rw [hkd] at q; cases q))) (by rw [h0]; exact am_okt (am_okt (am_okt hst)))
theorem am_s_last (X : am_Cx p R s m args meth c dC dI cA fx A nL n0 lim cp ini own b EX L xs) {pc : Nat} (hd : decode b pc = .ok (.lastore, 1)) {x i a : Int} {s' : List am_V} {h : am_H} {ls : List am_V} (hkd : (am_cell a.toNat).1 = 2) (ha0 : 0 < a) (hi : 0 ≤ i ∧ i < ((am_cell a.toNat).2.1 : Nat))
    (hk : am_G p l e R s m args below meth c Q dC dI cA fx A nL n0 lim bm a0 cp (pc + 1) ls s' (am_st h a.toNat i.toNat x)) : am_G p l e R s m args below meth c Q dC dI cA fx A nL n0 lim bm a0 cp pc ls ((1, x) :: (0, i) :: (2, a) :: s') h := by
  intro ad lsM H locs cells slots hJ hst
  obtain ⟨hx, hb, hml, hown, hts, hE, hExt, hA, hini, hrm, hroom, hw, hsx, hL, hxs⟩ := X
  obtain ⟨hP, hD, hS, hok, hfin, hls, hlv, hlen, hn0, hlim, hcp, had⟩ := id hJ
  have hov := (am_okd (am_okt (am_okt hst))).2.2.1 rfl
  have hiv := (am_okd (am_okt hst)).1 rfl
  have hxv := (am_okd hst).2.1 rfl
  have hwg := am_w_get cA fx ad h (k := a.toNat) (by omega) (by omega)
  rw [am_e_lng hkd] at hwg
  have hset : (am_w cA fx ad h).set (a.toNat - 1) (ad a.toNat, .inl (cA 2, ((am_cell a.toNat).2.1, .inr (.inl (vp_updL (fun j => Int64.ofInt (h a.toNat j)) i.toNat (Int64.ofInt x)))))) = am_w cA fx ad (am_st h a.toNat i.toNat x) := by
    refine am_w_set (by omega) ?_
    rw [am_e_lng hkd, am_upd64]
  show W p l e R s m args below meth c H locs cells slots Q (F0 m pc lsM (.long (Int64.ofInt x) :: .int (Int32.ofInt i) :: am_tr fx ad (2, a) :: s'.map (am_tr fx ad)))
  rw [am_tr_2 fx ad ha0]
  refine va_last hx hb hE.1 hP hD hS (a.toNat - 1) 1 hwg rfl (am_vin hiv hi.1 hi.2) hd (fun H1 locs1 q1 q2 q3 => ?_)
  rw [am_clamp hiv] at q1 q2
  rw [hset] at q1 q2
  have h0 : am_st h a.toNat i.toNat x 0 0 = h 0 0 := am_st_nc (by omega)
  exact hk ad lsM H1 locs1 cells slots (am_J.mem hroom hJ (by omega) q1 q2 q3 (am_okc_arr (by rw [hkd]; decide) (hok.2.2 a.toNat (by omega) (by omega)) (fun q => by rw [hkd] at q; cases q) (fun _ => hxv) (fun q => by rw [hkd] at q; cases q) (fun q => by rw [hkd] at q; cases q)) (fun hbm => am_fin_st (hfin hbm) (fun f q => by rw [hkd] at q; cases q))) (by rw [h0]; exact am_okt (am_okt (am_okt hst)))
theorem am_s_bast (X : am_Cx p R s m args meth c dC dI cA fx A nL n0 lim cp ini own b EX L xs) {pc : Nat} (hd : decode b pc = .ok (.bastore, 1)) {x i a : Int} {s' : List am_V} {h : am_H} {ls : List am_V} (hkd : (am_cell a.toNat).1 = 3) (ha0 : 0 < a) (hi : 0 ≤ i ∧ i < ((am_cell a.toNat).2.1 : Nat)) (hxr : -128 ≤ x ∧ x ≤ 127)
    (hk : am_G p l e R s m args below meth c Q dC dI cA fx A nL n0 lim bm a0 cp (pc + 1) ls s' (am_st h a.toNat i.toNat x)) : am_G p l e R s m args below meth c Q dC dI cA fx A nL n0 lim bm a0 cp pc ls ((0, x) :: (0, i) :: (2, a) :: s') h := by
  intro ad lsM H locs cells slots hJ hst
  obtain ⟨hx, hb, hml, hown, hts, hE, hExt, hA, hini, hrm, hroom, hw, hsx, hL, hxs⟩ := X
  obtain ⟨hP, hD, hS, hok, hfin, hls, hlv, hlen, hn0, hlim, hcp, had⟩ := id hJ
  have hov := (am_okd (am_okt (am_okt hst))).2.2.1 rfl
  have hiv := (am_okd (am_okt hst)).1 rfl
  have hxv := (am_okd hst).1 rfl
  have hwg := am_w_get cA fx ad h (k := a.toNat) (by omega) (by omega)
  rw [am_e_arr hkd (by decide) (by decide)] at hwg
  have hset : (am_w cA fx ad h).set (a.toNat - 1) (ad a.toNat, .inl (cA 3, ((am_cell a.toNat).2.1, .inl (upd (fun j => Int32.ofInt (h a.toNat j)) i.toNat (Int32.ofInt x))))) = am_w cA fx ad (am_st h a.toNat i.toNat x) := by
    refine am_w_set (by omega) ?_
    rw [am_e_arr hkd (by decide) (by decide), am_upd32]
  show W p l e R s m args below meth c H locs cells slots Q (F0 m pc lsM (.int (Int32.ofInt x) :: .int (Int32.ofInt i) :: am_tr fx ad (2, a) :: s'.map (am_tr fx ad)))
  rw [am_tr_2 fx ad ha0]
  refine va_bast hx hb hE.1 hP hD hS (a.toNat - 1) 2 hwg rfl (am_vin hiv hi.1 hi.2) hd (fun H1 locs1 q1 q2 q3 => ?_)
  rw [am_clamp hiv] at q1 q2
  rw [am_nb hxr] at q1 q2
  rw [hset] at q1 q2
  have h0 : am_st h a.toNat i.toNat x 0 0 = h 0 0 := am_st_nc (by omega)
  exact hk ad lsM H1 locs1 cells slots (am_J.mem hroom hJ (by omega) q1 q2 q3 (am_okc_arr (by rw [hkd]; decide) (hok.2.2 a.toNat (by omega) (by omega)) (fun q => by rw [hkd] at q; cases q) (fun q => by rw [hkd] at q; cases q) (fun _ => hxr) (fun q => by rw [hkd] at q; cases q)) (fun hbm => am_fin_st (hfin hbm) (fun f q => by rw [hkd] at q; cases q))) (by rw [h0]; exact am_okt (am_okt (am_okt hst)))
theorem am_s_zast (X : am_Cx p R s m args meth c dC dI cA fx A nL n0 lim cp ini own b EX L xs) {pc : Nat} (hd : decode b pc = .ok (.bastore, 1)) {x i a : Int} {s' : List am_V} {h : am_H} {ls : List am_V} (hkd : (am_cell a.toNat).1 = 4) (ha0 : 0 < a) (hi : 0 ≤ i ∧ i < ((am_cell a.toNat).2.1 : Nat)) (hxr : 0 ≤ x ∧ x ≤ 1)
    (hk : am_G p l e R s m args below meth c Q dC dI cA fx A nL n0 lim bm a0 cp (pc + 1) ls s' (am_st h a.toNat i.toNat x)) : am_G p l e R s m args below meth c Q dC dI cA fx A nL n0 lim bm a0 cp pc ls ((0, x) :: (0, i) :: (2, a) :: s') h := by
  intro ad lsM H locs cells slots hJ hst
  obtain ⟨hx, hb, hml, hown, hts, hE, hExt, hA, hini, hrm, hroom, hw, hsx, hL, hxs⟩ := X
  obtain ⟨hP, hD, hS, hok, hfin, hls, hlv, hlen, hn0, hlim, hcp, had⟩ := id hJ
  have hov := (am_okd (am_okt (am_okt hst))).2.2.1 rfl
  have hiv := (am_okd (am_okt hst)).1 rfl
  have hxv := (am_okd hst).1 rfl
  have hwg := am_w_get cA fx ad h (k := a.toNat) (by omega) (by omega)
  rw [am_e_arr hkd (by decide) (by decide)] at hwg
  have hset : (am_w cA fx ad h).set (a.toNat - 1) (ad a.toNat, .inl (cA 4, ((am_cell a.toNat).2.1, .inl (upd (fun j => Int32.ofInt (h a.toNat j)) i.toNat (Int32.ofInt x))))) = am_w cA fx ad (am_st h a.toNat i.toNat x) := by
    refine am_w_set (by omega) ?_
    rw [am_e_arr hkd (by decide) (by decide), am_upd32]
  show W p l e R s m args below meth c H locs cells slots Q (F0 m pc lsM (.int (Int32.ofInt x) :: .int (Int32.ofInt i) :: am_tr fx ad (2, a) :: s'.map (am_tr fx ad)))
  rw [am_tr_2 fx ad ha0]
  refine va_zast hx hb hE.1 hP hD hS (a.toNat - 1) 3 hwg rfl (am_vin hiv hi.1 hi.2) hd (fun H1 locs1 q1 q2 q3 => ?_)
  rw [am_clamp hiv] at q1 q2
  rw [am_nz hxr] at q1 q2
  rw [hset] at q1 q2
  have h0 : am_st h a.toNat i.toNat x 0 0 = h 0 0 := am_st_nc (by omega)
  exact hk ad lsM H1 locs1 cells slots (am_J.mem hroom hJ (by omega) q1 q2 q3 (am_okc_arr (by rw [hkd]; decide) (hok.2.2 a.toNat (by omega) (by omega)) (fun q => by rw [hkd] at q; cases q) (fun q => by rw [hkd] at q; cases q) (fun q => by rw [hkd] at q; cases q) (fun _ => hxr)) (fun hbm => am_fin_st (hfin hbm) (fun f q => by rw [hkd] at q; cases q))) (by rw [h0]; exact am_okt (am_okt (am_okt hst)))
theorem am_s_alen (X : am_Cx p R s m args meth c dC dI cA fx A nL n0 lim cp ini own b EX L xs) {pc : Nat} (hd : decode b pc = .ok (.arraylength, 1)) {a : Int} {s' : List am_V} {h : am_H} {ls : List am_V} (hkd : ¬ (am_cell a.toNat).1 = 0) (hk9 : ¬ (am_cell a.toNat).1 = 9) (ha0 : 0 < a)
    (hk : am_G p l e R s m args below meth c Q dC dI cA fx A nL n0 lim bm a0 cp (pc + 1) ls ((0, ((am_cell a.toNat).2.1 : Nat)) :: s') h) : am_G p l e R s m args below meth c Q dC dI cA fx A nL n0 lim bm a0 cp pc ls ((2, a) :: s') h := by
  intro ad lsM H locs cells slots hJ hst
  obtain ⟨hx, hb, hml, hown, hts, hE, hExt, hA, hini, hrm, hroom, hw, hsx, hL, hxs⟩ := X
  obtain ⟨hP, hD, hS, hok, hfin, hls, hlv, hlen, hn0, hlim, hcp, had⟩ := id hJ
  have hov := (am_okd hst).2.2.1 rfl
  have hwg := am_w_get cA fx ad h (k := a.toNat) (by omega) (by omega)
  obtain ⟨hle, hkk⟩ := am_cell_arr hkd hk9
  have hgo := hk ad lsM H locs cells slots hJ (am_ok0 (am_okt hst) (am_okv_0 ⟨by omega, by omega⟩))
  show W p l e R s m args below meth c H locs cells slots Q (F0 m pc lsM (am_tr fx ad (2, a) :: s'.map (am_tr fx ad)))
  rw [am_tr_2 fx ad ha0]
  rcases hkk with q | q | q | q
  · rw [am_e_arr q (by decide) (by decide)] at hwg
    exact va_alen hx hb hE.1 hP (a.toNat - 1) 0 hwg rfl rfl hd hgo
  · rw [am_e_lng q] at hwg
    exact va_alen hx hb hE.1 hP (a.toNat - 1) 1 hwg rfl rfl hd hgo
  · rw [am_e_arr q (by decide) (by decide)] at hwg
    exact va_alen hx hb hE.1 hP (a.toNat - 1) 2 hwg rfl rfl hd hgo
  · rw [am_e_arr q (by decide) (by decide)] at hwg
    exact va_alen hx hb hE.1 hP (a.toNat - 1) 3 hwg rfl rfl hd hgo
theorem am_s_slen (X : am_Cx p R s m args meth c dC dI cA fx A nL n0 lim cp ini own b EX L xs) {pc : Nat} (hd : decode b pc = .ok (.arraylength, 1)) {a : Int} {s' : List am_V} {h : am_H} {ls : List am_V}
    (hk : am_G p l e R s m args below meth c Q dC dI cA fx A nL n0 lim bm a0 cp (pc + 1) ls ((0, (L : Nat)) :: s') h) : am_G p l e R s m args below meth c Q dC dI cA fx A nL n0 lim bm a0 cp pc ls ((7, a) :: s') h := by
  intro ad lsM H locs cells slots hJ hst
  obtain ⟨hx, hb, hml, hown, hts, hE, hExt, hA, hini, hrm, hroom, hw, hsx, hL, hxs⟩ := X
  obtain ⟨hP, hD, hS, hok, hfin, hls, hlv, hlen, hn0, hlim, hcp, had⟩ := id hJ
  have hov : a = 0 := (am_okd hst).2.2.2.2 rfl
  subst hov
  obtain ⟨q1, q2⟩ := hsx A s s.heap hE.2.2
  obtain ⟨scr, hcb, _⟩ := id q1
  have hbl : fx 7 0 < s.heap.size := (Array.getElem?_eq_some_iff.mp hcb).1
  show W p l e R s m args below meth c H locs cells slots Q (F0 m pc lsM (.ref (fx 7 0) :: s'.map (am_tr fx ad)))
  exact va_slen hx hb q1 hbl q2 hS hd (hk ad lsM H locs cells slots hJ (am_ok0 (am_okt hst) (am_okv_0 ⟨by omega, by omega⟩)))
end AMS2
