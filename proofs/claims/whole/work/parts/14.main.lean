/-! EVERY BLOCK of the small machine is the machine's -/
section AMS4
variable {p : Program} {l : Launch} {e : Env} {R : Room} {s : State} {m : MethodId} {args : Array Value} {below : List Frame} {meth : Method} {c : Code} {Q : State → Prop}
variable {dC : Nat → ClassId} {dI : Nat → Nat → Nat} {cA : Nat → ClassId} {fx : Nat → Nat → Nat} {A : Nat → Prop} {nL n0 : Nat} {lim : Int} {a0 : Nat → Nat} {cp : am_H → Nat → Nat → Prop} {bm ini : Bool} {bz : Nat} {own : Nat} {b : ByteArray} {EX : (Nat → Prop) → State → Heap → Prop} {L : Nat} {xs : Nat → Int}
def am_CallOK (p : Program) (l : Launch) (e : Env) (R : Room) (s : State) (m : MethodId) (args : Array Value) (below : List Frame) (meth : Method) (c : Code) (Q : State → Prop) (dC : Nat → ClassId) (dI : Nat → Nat → Nat) (cA : Nat → ClassId) (fx : Nat → Nat → Nat) (A : Nat → Prop) (nL n0 : Nat) (lim : Int) (bm : Bool) (a0 : Nat → Nat) (cp : am_H → Nat → Nat → Prop) (own : Nat) (b : ByteArray) (C : Nat → List am_V → am_H → am_K → Prop) : Prop :=
  ∀ (pc idx id : Nat) (q : am_M) (raw : Instr) (as s' : List am_V) (h : am_H) (ls : List am_V) (K : am_K), am_mx own idx = some (id, q) → decode b pc = .ok (raw, 3) → ((raw = .invokestatic idx ∧ q.2.2.2.2.2.1 = 0) ∨ (raw = .invokevirtual idx ∧ q.2.2.2.2.2.1 = 1) ∨ (raw = .invokespecial idx ∧ q.2.2.2.2.2.1 = 2)) → as.length = q.2.2.2.2.2.2.2.1 + (if q.2.2.2.2.2.1 = 0 then 0 else 1) → am_cat s' ≤ 8 → (q.2.2.2.2.2.1 = 2 → h 0 0 + (q.2.2.2.2.2.2.1 : Nat) ≤ lim) → C id as h K → (∀ (v : am_V) (h' : am_H), am_rtok (am_rt q.2.2.2.1) v → K v h' → am_G p l e R s m args below meth c Q dC dI cA fx A nL n0 lim bm a0 cp (pc + 3) ls (if v.1 = 9 then s' else v :: s') h') → am_G p l e R s m args below meth c Q dC dI cA fx A nL n0 lim bm a0 cp pc ls (as.reverse ++ s') h
def am_rmt (raw : Instr) (bz : Nat) (v : am_V) : Prop := (raw = .ireturn ∧ v.1 = 0 ∧ (bz = 0 ∨ (bz = 4 ∧ 0 ≤ v.2 ∧ v.2 ≤ 1))) ∨ (raw = .lreturn ∧ v.1 = 1 ∧ bz = 1) ∨ (raw = .areturn ∧ am_isr v.1 = true ∧ bz = 2) ∨ (raw = .return_ ∧ v = (9, 0) ∧ bz = 3)
def am_RetOK (p : Program) (l : Launch) (e : Env) (R : Room) (s : State) (m : MethodId) (args : Array Value) (below : List Frame) (meth : Method) (c : Code) (Q : State → Prop) (dC : Nat → ClassId) (dI : Nat → Nat → Nat) (cA : Nat → ClassId) (fx : Nat → Nat → Nat) (A : Nat → Prop) (nL n0 : Nat) (lim : Int) (bm : Bool) (a0 : Nat → Nat) (cp : am_H → Nat → Nat → Prop) (ini : Bool) (bz : Nat) (b : ByteArray) (K : am_K) : Prop :=
  ∀ (pc : Nat) (raw : Instr) (v : am_V) (ls : List am_V) (h : am_H), decode b pc = .ok (raw, 1) → am_rmt raw bz v → (ini = true → raw = .return_ → h 0 0 = lim) → K v h → ∀ (ad : Nat → Nat) (lsM : Array Slot) (H : Heap) (locs : List Loc) (cells slots : Nat), am_J s dC dI cA fx A nL n0 lim bm a0 cp ad h ls lsM H locs cells slots → am_okv (h 0 0) v → W p l e R s m args below meth c H locs cells slots Q (F0 m pc lsM (am_ro fx ad v).toList)
theorem am_lcmp_in (a b : Int) : am_inI (am_lcmp a b) := by
  unfold am_lcmp
  by_cases h1 : a < b
  · rw [if_pos h1]; exact ⟨by decide, by decide⟩
  · rw [if_neg h1]
    by_cases h2 : a = b
    · rw [if_pos h2]; exact ⟨by decide, by decide⟩
    · rw [if_neg h2]; exact ⟨by decide, by decide⟩
theorem am_sw_inv : ∀ (l : List Int) (lo a : Int) (K : Int → Prop), am_sw l lo a K → ∀ (k : Nat) (t : Int), l[k]? = some t → a = lo + k → K t := by
  intro l
  induction l with
  | nil => intro lo a K h k t hk; simp at hk
  | cons x r ih =>
    intro lo a K h k t hk ha
    cases k with
    | zero =>
      have : x = t := by simpa using hk
      subst this
      exact h.1 (by simpa using ha)
    | succ k => exact ih (lo + 1) a K h.2 k t (by simpa using hk) (by omega)
theorem am_mx_kc {id : Nat} {q : am_M} (hn : q.2.2.2.2.2.2.2.1 < 15) : am_kc id q / 64 = id ∧ am_kc id q % 16 = q.2.2.2.2.2.2.2.1 + (if q.2.2.2.2.2.1 = 0 then 0 else 1) ∧ am_kc id q / 16 % 4 = am_rt q.2.2.2.1 := by
  have h1 : am_rt q.2.2.2.1 < 4 := by
    unfold am_rt
    split <;> decide
  have h2 : (if q.2.2.2.2.2.1 = 0 then 0 else 1) ≤ 1 := by split <;> decide
  unfold am_kc
  refine ⟨by omega, by omega, by omega⟩
theorem am_mx_in {own idx id : Nat} {q : am_M} (h : am_mx own idx = some (id, q)) : q ∈ am_me ∧ am_me[id]? = some q := by
  unfold am_mx at h
  split at h
  · next r hr =>
    cases hm : am_me[r.2.2.1]? with
    | none => rw [hm] at h; cases h
    | some z =>
      rw [hm] at h
      cases h
      exact ⟨List.mem_of_getElem? hm, hm⟩
  · cases h
theorem am_par : am_me.all (fun q => decide (q.2.2.2.2.2.2.2.1 < 15)) = true := by decide +kernel
theorem am_par_of {q : am_M} (h : q ∈ am_me) : q.2.2.2.2.2.2.2.1 < 15 := by simpa using List.all_eq_true.mp am_par q h
theorem am_s_inv (X : am_Cx p R s m args meth c dC dI cA fx A nL n0 lim cp ini own b EX L xs) {C : Nat → List am_V → am_H → am_K → Prop} {K : am_K} {T : Nat → List am_V → List am_V → am_H → Prop} {e' : Nat} {r : List Instr} (hC : am_CallOK p l e R s m args below meth c Q dC dI cA fx A nL n0 lim bm a0 cp own b C) {pc idx id : Nat} {q : am_M} {raw : Instr} (hm : am_mx own idx = some (id, q)) (hd : decode b pc = .ok (raw, 3)) (hraw : (raw = .invokestatic idx ∧ q.2.2.2.2.2.1 = 0) ∨ (raw = .invokevirtual idx ∧ q.2.2.2.2.2.1 = 1) ∨ (raw = .invokespecial idx ∧ q.2.2.2.2.2.1 = 2)) (hn2 : ¬ q.2.2.2.2.2.1 = 2) {ls st : List am_V} {h : am_H} (hblk : am_blk bm ini bz lim L xs C K T e' (.invokestatic (am_kc id q) :: r) ls st h) (hk : ∀ (ls st : List am_V) (h : am_H), am_blk bm ini bz lim L xs C K T e' r ls st h → am_G p l e R s m args below meth c Q dC dI cA fx A nL n0 lim bm a0 cp (pc + 3) ls st h) : am_G p l e R s m args below meth c Q dC dI cA fx A nL n0 lim bm a0 cp pc ls st h := by
  obtain ⟨hkc1, hkc2, hkc3⟩ := am_mx_kc (id := id) (am_par_of (am_mx_in hm).1)
  obtain ⟨as, s', rfl, hlen, h1⟩ := am_take_inv (show am_take (am_kc id q % 16) st _ from hblk)
  by_cases hcat : am_cat s' ≤ 8
  · rw [if_pos hcat, hkc1, hkc3] at h1
    refine hC pc idx id q raw as s' h ls _ hm hd hraw (by rw [hlen, hkc2]) hcat (fun q2 => absurd q2 hn2) h1 (fun v h' hv hK => ?_)
    unfold am_rtok at hv
    by_cases hr0 : am_rt q.2.2.2.1 = 0
    · rw [if_pos hr0] at hv hK
      rw [if_neg (by rw [hv]; decide)]
      have e1 : v = (0, v.2) := by rw [← hv]
      rw [e1]
      exact hk _ _ _ hK
    · rw [if_neg hr0] at hv hK
      by_cases hr1 : am_rt q.2.2.2.1 = 1
      · rw [if_pos hr1] at hv hK
        rw [if_neg (by rw [hv]; decide)]
        have e1 : v = (1, v.2) := by rw [← hv]
        rw [e1]
        exact hk _ _ _ hK
      · rw [if_neg hr1] at hv hK
        by_cases hr2 : am_rt q.2.2.2.1 = 2
        · rw [if_pos hr2] at hv hK
          rw [if_neg (by intro q9; rw [q9] at hv; cases hv)]
          exact hk _ _ _ hK
        · rw [if_neg hr2] at hv hK
          rw [if_pos hv]
          exact hk _ _ _ hK
  · rw [if_neg hcat] at h1
    exact h1.elim
theorem am_me_at {id : Nat} {q : am_M} (h : am_me[id]? = some q) (d : am_M) : am_me.getD id d = q := by
  rw [List.getD_eq_getElem?_getD, h]
  rfl
theorem am_me_of {q : am_M} (h : q ∈ am_me) : q.2.2.2.2.1 = 99 ∨ am_meok q = true ∧ ¬ q.2.2.2.2.1 = 99 := by
  by_cases h9 : q.2.2.2.2.1 = 99
  · exact Or.inl h9
  · exact Or.inr ⟨List.all_eq_true.mp am_me_ok q h, h9⟩
theorem am_s_spc (X : am_Cx p R s m args meth c dC dI cA fx A nL n0 lim cp ini own b EX L xs) {C : Nat → List am_V → am_H → am_K → Prop} {K : am_K} {T : Nat → List am_V → List am_V → am_H → Prop} {e' : Nat} {r : List Instr} (hC : am_CallOK p l e R s m args below meth c Q dC dI cA fx A nL n0 lim bm a0 cp own b C) {pc idx id : Nat} {q : am_M} (hm : am_mx own idx = some (id, q)) (hd : decode b pc = .ok (.invokespecial idx, 3)) (hn2 : q.2.2.2.2.2.1 = 2) {ls st : List am_V} {h : am_H} (hblk : am_blk bm ini bz lim L xs C K T e' (.invokespecial (am_kc id q) :: r) ls st h) (hk : ∀ (ls st : List am_V) (h : am_H), am_blk bm ini bz lim L xs C K T e' r ls st h → am_G p l e R s m args below meth c Q dC dI cA fx A nL n0 lim bm a0 cp (pc + 3) ls st h) : am_G p l e R s m args below meth c Q dC dI cA fx A nL n0 lim bm a0 cp pc ls st h := by
  obtain ⟨hkc1, hkc2, hkc3⟩ := am_mx_kc (id := id) (am_par_of (am_mx_in hm).1)
  obtain ⟨as, s', rfl, hlen, h1⟩ := am_take_inv (show am_take (am_kc id q % 16) st _ from hblk)
  by_cases hcat : am_cat s' ≤ 8
  · rw [if_pos hcat, hkc1, am_me_at (am_mx_in hm).2] at h1
    have hrt : am_rt q.2.2.2.1 = 3 := by
      rcases am_me_of (am_mx_in hm).1 with h9 | ⟨hok, h9⟩
      · exfalso
        have hall : am_me.all (fun q => decide (¬ (q.2.2.2.2.1 = 99 ∧ q.2.2.2.2.2.1 = 2))) = true := by decide +kernel
        have := List.all_eq_true.mp hall q (am_mx_in hm).1
        simp only [decide_eq_true_eq] at this
        exact this ⟨h9, hn2⟩
      · unfold am_meok at hok
        simp only [Bool.or_eq_true, beq_iff_eq, h9, false_or, Bool.and_eq_true, hn2, if_true, decide_eq_true_eq] at hok
        rw [hok.1.2.2]
        rfl
    refine hC pc idx id q (.invokespecial idx) as s' h ls _ hm hd (Or.inr (Or.inr ⟨rfl, hn2⟩)) (by rw [hlen, hkc2]) hcat (fun _ => h1.1) h1.2 (fun v h' hv hK => ?_)
    unfold am_rtok at hv
    rw [hrt, if_neg (by decide), if_neg (by decide), if_neg (by decide)] at hv
    rw [if_pos hv]
    exact hk _ _ _ hK
  · rw [if_neg hcat] at h1
    exact h1.elim
set_option maxHeartbeats 8000000 in
set_option maxRecDepth 100000 in
theorem am_blk_ok (X : am_Cx p R s m args meth c dC dI cA fx A nL n0 lim cp ini own b EX L xs) {C : Nat → List am_V → am_H → am_K → Prop} {K : am_K} {T : Nat → List am_V → List am_V → am_H → Prop} (hC : am_CallOK p l e R s m args below meth c Q dC dI cA fx A nL n0 lim bm a0 cp own b C) (hR : am_RetOK p l e R s m args below meth c Q dC dI cA fx A nL n0 lim bm a0 cp ini bz b K) (hT : ∀ (pc : Nat) (ls st : List am_V) (h : am_H), T pc ls st h → am_G p l e R s m args below meth c Q dC dI cA fx A nL n0 lim bm a0 cp pc ls st h) (e' : Nat) : ∀ (B : List Instr) (pc : Nat) (ls st : List am_V) (h : am_H), am_dec own b e' B pc = true → am_blk bm ini bz lim L xs C K T e' B ls st h → am_G p l e R s m args below meth c Q dC dI cA fx A nL n0 lim bm a0 cp pc ls st h := by
  intro B
  induction B with
  | nil =>
    intro pc ls st h hd hblk
    have : pc = e' := by simpa [am_dec] using hd
    subst this
    exact hT pc ls st h hblk
  | cons i r ih =>
    intro pc ls st h hd hblk
    unfold am_dec at hd
    cases hdec : decode b pc with
    | error er => rw [hdec] at hd; cases hd
    | ok rl =>
      obtain ⟨raw, len⟩ := rl
      rw [hdec] at hd
      simp only [Bool.and_eq_true, decide_eq_true_eq] at hd
      obtain ⟨hres, hlen, hr⟩ := hd
      have hX := X
      obtain ⟨hx, hb, hml, hown, hts, hE, hExt, hA, hini, hrm, hroom, hw, hsx, hL, hxs⟩ := X
      cases raw
      case iadd =>
        cases (show some (Instr.iadd) = some i from hres)
        have hl : len = 1 := by simpa [am_lnk] using hlen
        subst hl
        obtain ⟨x, y, s', rfl, hi, hk⟩ := am_2_inv (show am_2 0 0 st _ from hblk)
        intro ad lsM H locs cells slots hJ hst
        have hy := (am_okd hst).1 rfl
        have hxv := (am_okd (am_okt hst)).1 rfl
        have hgo := ih _ _ _ _ hr hk ad lsM H locs cells slots hJ (am_ok0 (am_okt (am_okt hst)) (am_okv_0 hi))
        refine lv_iadd hx hb hdec  ?_
        rw [am_add32]
        exact hgo
      case isub =>
        cases (show some (Instr.isub) = some i from hres)
        have hl : len = 1 := by simpa [am_lnk] using hlen
        subst hl
        obtain ⟨x, y, s', rfl, hi, hk⟩ := am_2_inv (show am_2 0 0 st _ from hblk)
        intro ad lsM H locs cells slots hJ hst
        have hy := (am_okd hst).1 rfl
        have hxv := (am_okd (am_okt hst)).1 rfl
        have hgo := ih _ _ _ _ hr hk ad lsM H locs cells slots hJ (am_ok0 (am_okt (am_okt hst)) (am_okv_0 hi))
        refine lv_isub hx hb hdec  ?_
        rw [am_sub32]
        exact hgo
      case imul =>
        cases (show some (Instr.imul) = some i from hres)
        have hl : len = 1 := by simpa [am_lnk] using hlen
        subst hl
        obtain ⟨x, y, s', rfl, hi, hk⟩ := am_2_inv (show am_2 0 0 st _ from hblk)
        intro ad lsM H locs cells slots hJ hst
        have hy := (am_okd hst).1 rfl
        have hxv := (am_okd (am_okt hst)).1 rfl
        have hgo := ih _ _ _ _ hr hk ad lsM H locs cells slots hJ (am_ok0 (am_okt (am_okt hst)) (am_okv_0 hi))
        refine lv_imul hx hb hdec  ?_
        rw [am_mul32]
        exact hgo
      case idiv =>
        cases (show some (Instr.idiv) = some i from hres)
        have hl : len = 1 := by simpa [am_lnk] using hlen
        subst hl
        obtain ⟨x, y, s', rfl, hi, hk⟩ := am_2_inv (show am_2 0 0 st _ from hblk)
        intro ad lsM H locs cells slots hJ hst
        have hy := (am_okd hst).1 rfl
        have hxv := (am_okd (am_okt hst)).1 rfl
        have hq0 : 0 ≤ x / y := Int.ediv_nonneg hi.1 (by omega)
        have hq1 : x / y ≤ x := Int.ediv_le_self y hi.1
        have hgo := ih _ _ _ _ hr hk ad lsM H locs cells slots hJ (am_ok0 (am_okt (am_okt hst)) (am_okv_0 ⟨by omega, by omega⟩))
        refine lv_idiv hx hb hdec (fun q => by rw [show (0 : Int32) = Int32.ofInt 0 from rfl, am_eq32 hy ⟨by decide, by decide⟩] at q; omega) ?_
        rw [am_div32 hxv hy hi.1 hi.2]
        exact hgo
      case irem =>
        cases (show some (Instr.irem) = some i from hres)
        have hl : len = 1 := by simpa [am_lnk] using hlen
        subst hl
        obtain ⟨x, y, s', rfl, hi, hk⟩ := am_2_inv (show am_2 0 0 st _ from hblk)
        intro ad lsM H locs cells slots hJ hst
        have hy := (am_okd hst).1 rfl
        have hxv := (am_okd (am_okt hst)).1 rfl
        have hq0 : 0 ≤ x % y := Int.emod_nonneg x (by omega)
        have hq1 : x % y < y := Int.emod_lt_of_pos x hi.2
        have hgo := ih _ _ _ _ hr hk ad lsM H locs cells slots hJ (am_ok0 (am_okt (am_okt hst)) (am_okv_0 ⟨by omega, by omega⟩))
        refine lv_irem hx hb hdec (fun q => by rw [show (0 : Int32) = Int32.ofInt 0 from rfl, am_eq32 hy ⟨by decide, by decide⟩] at q; omega) ?_
        rw [am_rem32 hxv hy hi.1 hi.2]
        exact hgo
      case ladd =>
        cases (show some (Instr.ladd) = some i from hres)
        have hl : len = 1 := by simpa [am_lnk] using hlen
        subst hl
        obtain ⟨x, y, s', rfl, hi, hk⟩ := am_2_inv (show am_2 1 1 st _ from hblk)
        intro ad lsM H locs cells slots hJ hst
        have hy := (am_okd hst).2.1 rfl
        have hxv := (am_okd (am_okt hst)).2.1 rfl
        have hgo := ih _ _ _ _ hr hk ad lsM H locs cells slots hJ (am_ok0 (am_okt (am_okt hst)) (am_okv_1 hi))
        refine lv_ladd hx hb hdec  ?_
        rw [am_add64]
        exact hgo
      case lsub =>
        cases (show some (Instr.lsub) = some i from hres)
        have hl : len = 1 := by simpa [am_lnk] using hlen
        subst hl
        obtain ⟨x, y, s', rfl, hi, hk⟩ := am_2_inv (show am_2 1 1 st _ from hblk)
        intro ad lsM H locs cells slots hJ hst
        have hy := (am_okd hst).2.1 rfl
        have hxv := (am_okd (am_okt hst)).2.1 rfl
        have hgo := ih _ _ _ _ hr hk ad lsM H locs cells slots hJ (am_ok0 (am_okt (am_okt hst)) (am_okv_1 hi))
        refine lv_lsub hx hb hdec  ?_
        rw [am_sub64]
        exact hgo
      case lmul =>
        cases (show some (Instr.lmul) = some i from hres)
        have hl : len = 1 := by simpa [am_lnk] using hlen
        subst hl
        obtain ⟨x, y, s', rfl, hi, hk⟩ := am_2_inv (show am_2 1 1 st _ from hblk)
        intro ad lsM H locs cells slots hJ hst
        have hy := (am_okd hst).2.1 rfl
        have hxv := (am_okd (am_okt hst)).2.1 rfl
        have hgo := ih _ _ _ _ hr hk ad lsM H locs cells slots hJ (am_ok0 (am_okt (am_okt hst)) (am_okv_1 hi))
        refine lv_lmul hx hb hdec  ?_
        rw [am_mul64]
        exact hgo
      case ldiv =>
        cases (show some (Instr.ldiv) = some i from hres)
        have hl : len = 1 := by simpa [am_lnk] using hlen
        subst hl
        obtain ⟨x, y, s', rfl, hi, hk⟩ := am_2_inv (show am_2 1 1 st _ from hblk)
        intro ad lsM H locs cells slots hJ hst
        have hy := (am_okd hst).2.1 rfl
        have hxv := (am_okd (am_okt hst)).2.1 rfl
        have hq0 : 0 ≤ x / y := Int.ediv_nonneg hi.1 (by omega)
        have hq1 : x / y ≤ x := Int.ediv_le_self y hi.1
        have hgo := ih _ _ _ _ hr hk ad lsM H locs cells slots hJ (am_ok0 (am_okt (am_okt hst)) (am_okv_1 ⟨by omega, by omega⟩))
        refine lv_ldiv hx hb hdec (fun q => by have q2 := congrArg Int64.toInt q; rw [am_i64 hy] at q2; have q3 : y = 0 := q2; omega) ?_
        rw [am_div64 hxv hy hi.1 hi.2]
        exact hgo
      case lrem =>
        cases (show some (Instr.lrem) = some i from hres)
        have hl : len = 1 := by simpa [am_lnk] using hlen
        subst hl
        obtain ⟨x, y, s', rfl, hi, hk⟩ := am_2_inv (show am_2 1 1 st _ from hblk)
        intro ad lsM H locs cells slots hJ hst
        have hy := (am_okd hst).2.1 rfl
        have hxv := (am_okd (am_okt hst)).2.1 rfl
        have hq0 : 0 ≤ x % y := Int.emod_nonneg x (by omega)
        have hq1 : x % y < y := Int.emod_lt_of_pos x hi.2
        have hgo := ih _ _ _ _ hr hk ad lsM H locs cells slots hJ (am_ok0 (am_okt (am_okt hst)) (am_okv_1 ⟨by omega, by omega⟩))
        refine lv_lrem hx hb hdec (fun q => by have q2 := congrArg Int64.toInt q; rw [am_i64 hy] at q2; have q3 : y = 0 := q2; omega) ?_
        rw [am_rem64 hxv hy hi.1 hi.2]
        exact hgo
      case iand =>
        cases (show some (Instr.iand) = some i from hres)
        have hl : len = 1 := by simpa [am_lnk] using hlen
        subst hl
        obtain ⟨x, y, s', rfl, hk⟩ := am_2_inv (show am_2 0 0 st _ from hblk)
        intro ad lsM H locs cells slots hJ hst
        have hy := (am_okd hst).1 rfl
        have hxv := (am_okd (am_okt hst)).1 rfl
        have hgo := ih _ _ _ _ hr hk ad lsM H locs cells slots hJ (am_ok0 (am_okt (am_okt hst)) (am_okv_0 (am_rg32 _)))
        refine lv_iand hx hb hdec  ?_
        rw [show Int32.ofInt x &&& Int32.ofInt y = Int32.ofInt (am_and x y) from (Int32.ofInt_toInt _).symm]
        exact hgo
      case ior =>
        cases (show some (Instr.ior) = some i from hres)
        have hl : len = 1 := by simpa [am_lnk] using hlen
        subst hl
        obtain ⟨x, y, s', rfl, hk⟩ := am_2_inv (show am_2 0 0 st _ from hblk)
        intro ad lsM H locs cells slots hJ hst
        have hy := (am_okd hst).1 rfl
        have hxv := (am_okd (am_okt hst)).1 rfl
        have hgo := ih _ _ _ _ hr hk ad lsM H locs cells slots hJ (am_ok0 (am_okt (am_okt hst)) (am_okv_0 (am_rg32 _)))
        refine lv_ior hx hb hdec  ?_
        rw [show Int32.ofInt x ||| Int32.ofInt y = Int32.ofInt (am_or x y) from (Int32.ofInt_toInt _).symm]
        exact hgo
      case ixor =>
        cases (show some (Instr.ixor) = some i from hres)
        have hl : len = 1 := by simpa [am_lnk] using hlen
        subst hl
        obtain ⟨x, y, s', rfl, hk⟩ := am_2_inv (show am_2 0 0 st _ from hblk)
        intro ad lsM H locs cells slots hJ hst
        have hy := (am_okd hst).1 rfl
        have hxv := (am_okd (am_okt hst)).1 rfl
        have hgo := ih _ _ _ _ hr hk ad lsM H locs cells slots hJ (am_ok0 (am_okt (am_okt hst)) (am_okv_0 (am_rg32 _)))
        refine lv_ixor hx hb hdec  ?_
        rw [show Int32.ofInt x ^^^ Int32.ofInt y = Int32.ofInt (am_xor x y) from (Int32.ofInt_toInt _).symm]
        exact hgo
      case ishl =>
        cases (show some (Instr.ishl) = some i from hres)
        have hl : len = 1 := by simpa [am_lnk] using hlen
        subst hl
        obtain ⟨x, y, s', rfl, hi, hk⟩ := am_2_inv (show am_2 0 0 st _ from hblk)
        intro ad lsM H locs cells slots hJ hst
        have hy := (am_okd hst).1 rfl
        have hxv := (am_okd (am_okt hst)).1 rfl
        have hgo := ih _ _ _ _ hr hk ad lsM H locs cells slots hJ (am_ok0 (am_okt (am_okt hst)) (am_okv_0 hi.2.2.2))
        refine lv_ishl hx hb hdec  ?_
        rw [am_shl32 hi.2.2.2 hi.1 hi.2.1 hi.2.2.1]
        exact hgo
      case ishr =>
        cases (show some (Instr.ishr) = some i from hres)
        have hl : len = 1 := by simpa [am_lnk] using hlen
        subst hl
        obtain ⟨x, y, s', rfl, hi, hk⟩ := am_2_inv (show am_2 0 0 st _ from hblk)
        intro ad lsM H locs cells slots hJ hst
        have hy := (am_okd hst).1 rfl
        have hxv := (am_okd (am_okt hst)).1 rfl
        have hgo := ih _ _ _ _ hr hk ad lsM H locs cells slots hJ (am_ok0 (am_okt (am_okt hst)) (am_okv_0 (am_shr_in hxv _)))
        refine lv_ishr hx hb hdec  ?_
        rw [am_shr32 hxv hi.1 hi.2]
        exact hgo
      case iushr =>
        cases (show some (Instr.iushr) = some i from hres)
        have hl : len = 1 := by simpa [am_lnk] using hlen
        subst hl
        obtain ⟨x, y, s', rfl, hk⟩ := am_2_inv (show am_2 0 0 st _ from hblk)
        intro ad lsM H locs cells slots hJ hst
        exact lv_iushr hx hb hdec (Int32.ofInt_toInt _).symm (ih _ _ _ _ hr hk ad lsM H locs cells slots hJ (am_ok0 (am_okt (am_okt hst)) (am_okv_0 (am_rg32 _))))
      case lshl =>
        cases (show some (Instr.lshl) = some i from hres)
        have hl : len = 1 := by simpa [am_lnk] using hlen
        subst hl
        obtain ⟨x, y, s', rfl, hi, hk⟩ := am_2_inv (show am_2 1 0 st _ from hblk)
        intro ad lsM H locs cells slots hJ hst
        exact lv_lshl hx hb hdec (am_shl64 hi.2.2.2 hi.1 hi.2.1 hi.2.2.1) (ih _ _ _ _ hr hk ad lsM H locs cells slots hJ (am_ok0 (am_okt (am_okt hst)) (am_okv_1 hi.2.2.2)))
      case lcmp =>
        cases (show some (Instr.lcmp) = some i from hres)
        have hl : len = 1 := by simpa [am_lnk] using hlen
        subst hl
        obtain ⟨x, y, s', rfl, hk⟩ := am_2_inv (show am_2 1 1 st _ from hblk)
        intro ad lsM H locs cells slots hJ hst
        have hy := (am_okd hst).2.1 rfl
        have hxv := (am_okd (am_okt hst)).2.1 rfl
        refine W.lcmp hx hb hdec ?_
        rw [am_lcmp_eq hxv hy]
        exact ih _ _ _ _ hr hk ad lsM H locs cells slots hJ (am_ok0 (am_okt (am_okt hst)) (am_okv_0 (am_lcmp_in x y)))
      case ineg =>
        cases (show some (Instr.ineg) = some i from hres)
        have hl : len = 1 := by simpa [am_lnk] using hlen
        subst hl
        simp only [am_blk] at hblk
        obtain ⟨x, s', rfl, hi, hk⟩ := am_1_inv hblk
        intro ad lsM H locs cells slots hJ hst
        refine lv_ineg hx hb hdec ?_
        rw [am_neg32]
        exact ih _ _ _ _ hr hk ad lsM H locs cells slots hJ (am_ok0 (am_okt hst) (am_okv_0 hi))
      case i2l =>
        cases (show some (Instr.i2l) = some i from hres)
        have hl : len = 1 := by simpa [am_lnk] using hlen
        subst hl
        simp only [am_blk] at hblk
        obtain ⟨x, s', rfl, hk⟩ := am_1_inv hblk
        intro ad lsM H locs cells slots hJ hst
        have hxv := (am_okd hst).1 rfl
        exact lv_i2l hx hb hdec (am_lng hxv) (ih _ _ _ _ hr hk ad lsM H locs cells slots hJ (am_ok0 (am_okt hst) (am_okv_1 ⟨by have := hxv.1; omega, by have := hxv.2; omega⟩)))
      case i2b =>
        cases (show some (Instr.i2b) = some i from hres)
        have hl : len = 1 := by simpa [am_lnk] using hlen
        subst hl
        simp only [am_blk] at hblk
        obtain ⟨x, s', rfl, hk⟩ := am_1_inv hblk
        intro ad lsM H locs cells slots hJ hst
        exact lv_i2b hx hb hdec (Int32.ofInt_toInt _).symm (ih _ _ _ _ hr hk ad lsM H locs cells slots hJ (am_ok0 (am_okt hst) (am_okv_0 (am_rg32 _))))
      case aconst_null =>
        cases (show some (Instr.aconst_null) = some i from hres)
        have hl : len = 1 := by simpa [am_lnk] using hlen
        subst hl
        intro ad lsM H locs cells slots hJ hst
        exact lv_null hx hb hdec (ih _ _ _ _ hr hblk ad lsM H locs cells slots hJ (am_ok0 hst (am_okv_2 ⟨Int.le_refl _, hJ.2.2.2.1.1⟩)))
      case dup =>
        cases (show some (Instr.dup) = some i from hres)
        have hl : len = 1 := by simpa [am_lnk] using hlen
        subst hl
        simp only [am_blk] at hblk
        obtain ⟨v, s', rfl, hv, hk⟩ := am_c1_inv hblk
        intro ad lsM H locs cells slots hJ hst
        exact lv_dup hx hb hdec (by rw [am_tr_cat, if_neg hv]) (ih _ _ _ _ hr hk ad lsM H locs cells slots hJ (am_ok0 hst (am_okd hst)))
      case dup2 =>
        cases (show some (Instr.dup2) = some i from hres)
        have hl : len = 1 := by simpa [am_lnk] using hlen
        subst hl
        simp only [am_blk] at hblk
        obtain ⟨v, s1, rfl, hv, hk⟩ := am_c1_inv hblk
        obtain ⟨w, s', rfl, hv2, hk⟩ := am_c1_inv hk
        intro ad lsM H locs cells slots hJ hst
        exact lv_dup2_11 hx hb hdec (by rw [am_tr_cat, if_neg hv]) (by rw [am_tr_cat, if_neg hv2]) (ih _ _ _ _ hr hk ad lsM H locs cells slots hJ (am_ok0 (am_ok0 hst (am_okd (am_okt hst))) (am_okd hst)))
      case pop =>
        cases (show some (Instr.pop) = some i from hres)
        have hl : len = 1 := by simpa [am_lnk] using hlen
        subst hl
        simp only [am_blk] at hblk
        obtain ⟨v, s', rfl, hv, hk⟩ := am_c1_inv hblk
        intro ad lsM H locs cells slots hJ hst
        exact lv_pop hx hb hdec (by rw [am_tr_cat, if_neg hv]) (ih _ _ _ _ hr hk ad lsM H locs cells slots hJ (am_okt hst))
      case iconst n =>
        by_cases hn : -1 ≤ n ∧ n ≤ 5
        · cases (show some (Instr.iconst n) = some i by rw [← hres]; exact (if_pos hn).symm)
          have hl : len = 1 := by simpa [am_lnk] using hlen
          subst hl
          intro ad lsM H locs cells slots hJ hst
          exact lv_iconst hx hb hdec rfl (ih _ _ _ _ hr hblk ad lsM H locs cells slots hJ (am_ok0 hst (am_okv_0 ⟨by omega, by omega⟩)))
        · exact absurd (show (none : Option Instr) = some i by rw [← hres]; exact (if_neg hn).symm) (by simp)
      case bipush n =>
        by_cases hn : (Int8.ofInt n).toInt32.toInt = n
        · cases (show some (Instr.iconst n) = some i by rw [← hres]; exact (if_pos hn).symm)
          have hl : len = 2 := by simpa [am_lnk] using hlen
          subst hl
          intro ad lsM H locs cells slots hJ hst
          exact lv_bipush hx hb hdec (Int32.toInt_inj.mp (by rw [am_i32 (by rw [← hn]; exact am_rg32 _)]; exact hn)) (ih _ _ _ _ hr hblk ad lsM H locs cells slots hJ (am_ok0 hst (am_okv_0 (by rw [← hn]; exact am_rg32 _))))
        · exact absurd (show (none : Option Instr) = some i by rw [← hres]; exact (if_neg hn).symm) (by simp)
      case sipush n =>
        by_cases hn : (Int16.ofInt n).toInt32.toInt = n
        · cases (show some (Instr.iconst n) = some i by rw [← hres]; exact (if_pos hn).symm)
          have hl : len = 3 := by simpa [am_lnk] using hlen
          subst hl
          intro ad lsM H locs cells slots hJ hst
          exact lv_sipush hx hb hdec (Int32.toInt_inj.mp (by rw [am_i32 (by rw [← hn]; exact am_rg32 _)]; exact hn)) (ih _ _ _ _ hr hblk ad lsM H locs cells slots hJ (am_ok0 hst (am_okv_0 (by rw [← hn]; exact am_rg32 _))))
        · exact absurd (show (none : Option Instr) = some i by rw [← hres]; exact (if_neg hn).symm) (by simp)
      case lconst n =>
        cases (show some (Instr.sipush (n : Nat)) = some i from hres)
        have hl : len = 1 := by simpa [am_lnk] using hlen
        subst hl
        intro ad lsM H locs cells slots hJ hst
        have hn2 : (n : Nat) < 2 := n.isLt
        exact lv_lconst hx hb hdec rfl (ih _ _ _ _ hr hblk ad lsM H locs cells slots hJ (am_ok0 hst (am_okv_1 ⟨by omega, by omega⟩)))
      case ldc_w k =>
        have hres2 : (am_kx own k 0).map (fun n => Instr.iconst n) = some i := hres
        unfold am_kx at hres2
        cases hf : am_KL.find? (fun q => q.1 == own && (q.2.1 == k && q.2.2.1 == 0)) with
        | none => rw [hf] at hres2; cases hres2
        | some q =>
          rw [hf] at hres2
          cases hres2
          obtain ⟨h1, h2⟩ := am_find hf
          simp only [Bool.and_eq_true, beq_iff_eq] at h2
          have h3 := List.all_eq_true.mp am_KL_ok q h1
          unfold am_klok at h3
          simp only [Bool.and_eq_true, decide_eq_true_eq, h2.2.2, if_true] at h3
          rw [h2.1, h2.2.1] at h3
          have hl : len = 3 := by simpa [am_lnk] using hlen
          subst hl
          intro ad lsM H locs cells slots hJ hst
          exact lv_ldcw hx hb hown (hts _ (am_inT h3.1 rfl)) hdec (ih _ _ _ _ hr hblk ad lsM H locs cells slots hJ (am_ok0 hst (am_okv_0 h3.2)))
      case ldc2_w k =>
        have hres2 : (am_kx own k 1).map (fun n => Instr.sipush n) = some i := hres
        unfold am_kx at hres2
        cases hf : am_KL.find? (fun q => q.1 == own && (q.2.1 == k && q.2.2.1 == 1)) with
        | none => rw [hf] at hres2; cases hres2
        | some q =>
          rw [hf] at hres2
          cases hres2
          obtain ⟨h1, h2⟩ := am_find hf
          simp only [Bool.and_eq_true, beq_iff_eq] at h2
          have h3 := List.all_eq_true.mp am_KL_ok q h1
          unfold am_klok at h3
          rw [h2.2.2, if_neg (by decide), if_neg (by decide)] at h3
          simp only [Bool.and_eq_true, decide_eq_true_eq] at h3
          rw [h2.1, h2.2.1] at h3
          have hl : len = 3 := by simpa [am_lnk] using hlen
          subst hl
          intro ad lsM H locs cells slots hJ hst
          exact lv_ldc2 hx hb hown (hts _ (am_inT h3.1 rfl)) hdec (ih _ _ _ _ hr hblk ad lsM H locs cells slots hJ (am_ok0 hst (am_okv_1 h3.2)))
      case iload k =>
        cases (show some (Instr.iload k) = some i from hres)
        have hl : len = 2 := by simpa [am_lnk] using hlen
        subst hl
        simp only [am_blk] at hblk
        obtain ⟨x, h1, hk⟩ := am_ldt_inv hblk
        intro ad lsM H locs cells slots hJ hst
        exact lv_iload hx hb hdec (am_lv_at hJ.2.2.2.2.2.2.1 h1 (fun q => by cases q)) (ih _ _ _ _ hr hk ad lsM H locs cells slots hJ (am_ok0 hst (hJ.2.2.2.2.2.1 _ (List.mem_of_getElem? h1))))
      case iload_n k =>
        cases (show some (Instr.iload (k : Nat)) = some i from hres)
        have hl : len = 1 := by simpa [am_lnk] using hlen
        subst hl
        simp only [am_blk] at hblk
        obtain ⟨x, h1, hk⟩ := am_ldt_inv hblk
        intro ad lsM H locs cells slots hJ hst
        exact lv_iload_n hx hb hdec rfl (am_lv_at hJ.2.2.2.2.2.2.1 h1 (fun q => by cases q)) (ih _ _ _ _ hr hk ad lsM H locs cells slots hJ (am_ok0 hst (hJ.2.2.2.2.2.1 _ (List.mem_of_getElem? h1))))
      case lload k =>
        cases (show some (Instr.lload k) = some i from hres)
        have hl : len = 2 := by simpa [am_lnk] using hlen
        subst hl
        simp only [am_blk] at hblk
        obtain ⟨x, h1, hk⟩ := am_ldt_inv hblk
        intro ad lsM H locs cells slots hJ hst
        exact lv_lload hx hb hdec (am_lv_at hJ.2.2.2.2.2.2.1 h1 (fun q => by cases q)) (ih _ _ _ _ hr hk ad lsM H locs cells slots hJ (am_ok0 hst (hJ.2.2.2.2.2.1 _ (List.mem_of_getElem? h1))))
      case lload_n k =>
        cases (show some (Instr.lload (k : Nat)) = some i from hres)
        have hl : len = 1 := by simpa [am_lnk] using hlen
        subst hl
        simp only [am_blk] at hblk
        obtain ⟨x, h1, hk⟩ := am_ldt_inv hblk
        intro ad lsM H locs cells slots hJ hst
        exact lv_lload_n hx hb hdec rfl (am_lv_at hJ.2.2.2.2.2.2.1 h1 (fun q => by cases q)) (ih _ _ _ _ hr hk ad lsM H locs cells slots hJ (am_ok0 hst (hJ.2.2.2.2.2.1 _ (List.mem_of_getElem? h1))))
      case aload k =>
        cases (show some (Instr.aload k) = some i from hres)
        have hl : len = 2 := by simpa [am_lnk] using hlen
        subst hl
        simp only [am_blk] at hblk
        obtain ⟨v, h1, hv, hk⟩ := am_ldr_inv hblk
        intro ad lsM H locs cells slots hJ hst
        have h2 := am_lv_at hJ.2.2.2.2.2.2.1 h1 (by intro q; rw [q] at hv; cases hv)
        have hgo := ih _ _ _ _ hr hk ad lsM H locs cells slots hJ (am_ok0 hst (hJ.2.2.2.2.2.1 _ (List.mem_of_getElem? h1)))
        rw [List.map_cons] at hgo
        rcases am_tr_r fx ad hv with hq | ⟨a, hq⟩
        · rw [hq] at h2 hgo
          exact lv_aloadN hx hb hdec h2 hgo
        · rw [hq] at h2 hgo
          exact lv_aload hx hb hdec h2 hgo
      case aload_n k =>
        cases (show some (Instr.aload (k : Nat)) = some i from hres)
        have hl : len = 1 := by simpa [am_lnk] using hlen
        subst hl
        simp only [am_blk] at hblk
        obtain ⟨v, h1, hv, hk⟩ := am_ldr_inv hblk
        intro ad lsM H locs cells slots hJ hst
        have h2 := am_lv_at hJ.2.2.2.2.2.2.1 h1 (by intro q; rw [q] at hv; cases hv)
        have hgo := ih _ _ _ _ hr hk ad lsM H locs cells slots hJ (am_ok0 hst (hJ.2.2.2.2.2.1 _ (List.mem_of_getElem? h1)))
        rw [List.map_cons] at hgo
        rcases am_tr_r fx ad hv with hq | ⟨a, hq⟩
        · rw [hq] at h2 hgo
          exact lv_aload_nN hx hb hdec rfl h2 hgo
        · rw [hq] at h2 hgo
          exact lv_aload_n hx hb hdec rfl h2 hgo
      case istore k =>
        cases (show some (Instr.istore k) = some i from hres)
        have hl : len = 2 := by simpa [am_lnk] using hlen
        subst hl
        simp only [am_blk] at hblk
        obtain ⟨x, s', rfl, hk⟩ := am_1_inv hblk
        by_cases hkl : k < ls.length
        · rw [if_pos hkl] at hk
          intro ad lsM H locs cells slots hJ hst
          refine lv_istore hx hb hdec hJ.2.2.2.2.2.2.1 (by rw [← hJ.2.2.2.2.2.2.2.1]; exact hkl) rfl (fun ls2 hl2 => ?_)
          exact ih _ _ _ _ hr hk ad ls2 H locs cells slots (hJ.loc (am_sto_ok hkl hJ.2.2.2.2.2.1 (am_okd hst)) (am_lv_st1 hkl hl2) (by rw [am_sto_len]; exact hJ.2.2.2.2.2.2.2.1)) (am_okt hst)
        · rw [if_neg hkl] at hk
          exact hk.elim
      case istore_n k =>
        cases (show some (Instr.istore (k : Nat)) = some i from hres)
        have hl : len = 1 := by simpa [am_lnk] using hlen
        subst hl
        simp only [am_blk] at hblk
        obtain ⟨x, s', rfl, hk⟩ := am_1_inv hblk
        by_cases hkl : (k : Nat) < ls.length
        · rw [if_pos hkl] at hk
          intro ad lsM H locs cells slots hJ hst
          refine lv_istore_n hx hb hdec rfl hJ.2.2.2.2.2.2.1 (by rw [← hJ.2.2.2.2.2.2.2.1]; exact hkl) rfl (fun ls2 hl2 => ?_)
          exact ih _ _ _ _ hr hk ad ls2 H locs cells slots (hJ.loc (am_sto_ok hkl hJ.2.2.2.2.2.1 (am_okd hst)) (am_lv_st1 hkl hl2) (by rw [am_sto_len]; exact hJ.2.2.2.2.2.2.2.1)) (am_okt hst)
        · rw [if_neg hkl] at hk
          exact hk.elim
      case lstore k =>
        cases (show some (Instr.lstore k) = some i from hres)
        have hl : len = 2 := by simpa [am_lnk] using hlen
        subst hl
        simp only [am_blk] at hblk
        obtain ⟨x, s', rfl, hk⟩ := am_1_inv hblk
        by_cases hkl : k + 1 < ls.length
        · rw [if_pos hkl] at hk
          intro ad lsM H locs cells slots hJ hst
          refine lv_lstore hx hb hdec hJ.2.2.2.2.2.2.1 (by rw [← hJ.2.2.2.2.2.2.2.1]; exact hkl) rfl (fun ls2 hl2 => ?_)
          exact ih _ _ _ _ hr hk ad ls2 H locs cells slots (hJ.loc (am_sto_ok (by rw [am_kil_len]; omega) (am_kil_ok hJ.2.2.2.2.2.1) (am_okd hst)) (am_lv_st2 hkl hl2) (by rw [am_sto_len, am_kil_len]; exact hJ.2.2.2.2.2.2.2.1)) (am_okt hst)
        · rw [if_neg hkl] at hk
          exact hk.elim
      case lstore_n k =>
        cases (show some (Instr.lstore (k : Nat)) = some i from hres)
        have hl : len = 1 := by simpa [am_lnk] using hlen
        subst hl
        simp only [am_blk] at hblk
        obtain ⟨x, s', rfl, hk⟩ := am_1_inv hblk
        by_cases hkl : (k : Nat) + 1 < ls.length
        · rw [if_pos hkl] at hk
          intro ad lsM H locs cells slots hJ hst
          refine lv_lstore_n hx hb hdec rfl hJ.2.2.2.2.2.2.1 (by rw [← hJ.2.2.2.2.2.2.2.1]; exact hkl) rfl (fun ls2 hl2 => ?_)
          exact ih _ _ _ _ hr hk ad ls2 H locs cells slots (hJ.loc (am_sto_ok (by rw [am_kil_len]; omega) (am_kil_ok hJ.2.2.2.2.2.1) (am_okd hst)) (am_lv_st2 hkl hl2) (by rw [am_sto_len, am_kil_len]; exact hJ.2.2.2.2.2.2.2.1)) (am_okt hst)
        · rw [if_neg hkl] at hk
          exact hk.elim
      case astore k =>
        cases (show some (Instr.astore k) = some i from hres)
        have hl : len = 2 := by simpa [am_lnk] using hlen
        subst hl
        simp only [am_blk] at hblk
        obtain ⟨v, s', rfl, hv, hk⟩ := am_r_inv hblk
        by_cases hkl : k < ls.length
        · rw [if_pos hkl] at hk
          intro ad lsM H locs cells slots hJ hst
          have hgo : ∀ ls2 : Array Slot, lv_has ls2 nL ((k, am_tr fx ad v) :: (am_lv fx ad ls 0).filter (fun q => !(q.1 == k) && !(q.1 + 1 == k && q.2.category == 2))) → W p l e R s m args below meth c H locs cells slots Q (F0 m (pc + 2) ls2 (s'.map (am_tr fx ad))) := fun ls2 hl2 => ih _ _ _ _ hr hk ad ls2 H locs cells slots (hJ.loc (am_sto_ok hkl hJ.2.2.2.2.2.1 (am_okd hst)) (am_lv_st1 hkl hl2) (by rw [am_sto_len]; exact hJ.2.2.2.2.2.2.2.1)) (am_okt hst)
          show W p l e R s m args below meth c H locs cells slots Q (F0 m pc lsM (am_tr fx ad v :: s'.map (am_tr fx ad)))
          rcases am_tr_r fx ad hv with hq | ⟨a, hq⟩
          · rw [hq] at hgo ⊢
            exact lv_astoreN hx hb hdec hJ.2.2.2.2.2.2.1 (by rw [← hJ.2.2.2.2.2.2.2.1]; exact hkl) rfl hgo
          · rw [hq] at hgo ⊢
            exact lv_astore hx hb hdec hJ.2.2.2.2.2.2.1 (by rw [← hJ.2.2.2.2.2.2.2.1]; exact hkl) rfl hgo
        · rw [if_neg hkl] at hk
          exact hk.elim
      case astore_n k =>
        cases (show some (Instr.astore (k : Nat)) = some i from hres)
        have hl : len = 1 := by simpa [am_lnk] using hlen
        subst hl
        simp only [am_blk] at hblk
        obtain ⟨v, s', rfl, hv, hk⟩ := am_r_inv hblk
        by_cases hkl : (k : Nat) < ls.length
        · rw [if_pos hkl] at hk
          intro ad lsM H locs cells slots hJ hst
          have hgo : ∀ ls2 : Array Slot, lv_has ls2 nL (((k : Nat), am_tr fx ad v) :: (am_lv fx ad ls 0).filter (fun q => !(q.1 == (k : Nat)) && !(q.1 + 1 == (k : Nat) && q.2.category == 2))) → W p l e R s m args below meth c H locs cells slots Q (F0 m (pc + 1) ls2 (s'.map (am_tr fx ad))) := fun ls2 hl2 => ih _ _ _ _ hr hk ad ls2 H locs cells slots (hJ.loc (am_sto_ok hkl hJ.2.2.2.2.2.1 (am_okd hst)) (am_lv_st1 hkl hl2) (by rw [am_sto_len]; exact hJ.2.2.2.2.2.2.2.1)) (am_okt hst)
          show W p l e R s m args below meth c H locs cells slots Q (F0 m pc lsM (am_tr fx ad v :: s'.map (am_tr fx ad)))
          rcases am_tr_r fx ad hv with hq | ⟨a, hq⟩
          · rw [hq] at hgo ⊢
            exact lv_astore_nN hx hb hdec rfl hJ.2.2.2.2.2.2.1 (by rw [← hJ.2.2.2.2.2.2.2.1]; exact hkl) rfl hgo
          · rw [hq] at hgo ⊢
            exact lv_astore_n hx hb hdec rfl hJ.2.2.2.2.2.2.1 (by rw [← hJ.2.2.2.2.2.2.2.1]; exact hkl) rfl hgo
        · rw [if_neg hkl] at hk
          exact hk.elim
      case iinc k n =>
        by_cases hn : (Int32.ofInt n).toInt = n
        · cases (show some (Instr.iinc k n) = some i by rw [← hres]; exact (if_pos hn).symm)
          have hl : len = 3 := by simpa [am_lnk] using hlen
          subst hl
          simp only [am_blk] at hblk
          obtain ⟨x, h1, hi, hk⟩ := am_ldt_inv hblk
          have hkl := am_get_lt h1
          intro ad lsM H locs cells slots hJ hst
          obtain ⟨z, hz⟩ := List.mem_iff_getElem?.mp (am_lv_mem.mpr ⟨k, (0, x), h1, (fun q => by cases q), rfl⟩ : (0 + k, am_tr fx ad (0, x)) ∈ am_lv fx ad ls 0)
          rw [Nat.zero_add] at hz
          refine lv_iinc hx hb hdec hJ.2.2.2.2.2.2.1 hz (am_add32 x n) (by rw [← hJ.2.2.2.2.2.2.2.1]; exact hkl) rfl (fun ls2 hl2 => ?_)
          exact ih _ _ _ _ hr hk ad ls2 H locs cells slots (hJ.loc (am_sto_ok hkl hJ.2.2.2.2.2.1 (am_okv_0 hi)) (am_lv_st1 (v := (0, x + n)) hkl hl2) (by rw [am_sto_len]; exact hJ.2.2.2.2.2.2.2.1)) hst
        · exact absurd (show (none : Option Instr) = some i by rw [← hres]; exact (if_neg hn).symm) (by simp)
      case if_icmp cnd off =>
        by_cases hn : 0 ≤ (pc : Int) + off
        · cases (show some (Instr.if_icmp cnd (pc + off)) = some i by rw [← hres]; exact (if_pos hn).symm)
          have hl : len = 3 := by simpa [am_lnk] using hlen
          subst hl
          have htg : (pc : Int) + off = (((pc : Int) + off).toNat : Int) := by omega
          obtain ⟨x, y, s', rfl, hk⟩ := am_2_inv (show am_2 0 0 st _ from hblk)
          intro ad lsM H locs cells slots hJ hst
          have hy := (am_okd hst).1 rfl
          have hxv := (am_okd (am_okt hst)).1 rfl
          have hs2 := am_okt (am_okt hst)
          have kt := fun z => hT _ _ _ _ (hk.1 z) ad lsM H locs cells slots hJ hs2
          have kf := fun z => ih _ _ _ _ hr (hk.2 z) ad lsM H locs cells slots hJ hs2
          cases cnd
          case eq => exact lv_icmp_eq hx hb hdec htg (fun z => kt ((am_eq32 hxv hy).mp z)) (fun z => kf (fun q => z ((am_eq32 hxv hy).mpr q)))
          case ne => exact lv_icmp_ne hx hb hdec htg (fun z => kt (fun q => z ((am_eq32 hxv hy).mpr q))) (fun z => kf (fun q => q ((am_eq32 hxv hy).mp z)))
          case lt => exact lv_icmp_lt hx hb hdec htg (fun z => kt ((am_lt32 hxv hy).mp z)) (fun z => kf (fun q => z ((am_lt32 hxv hy).mpr q)))
          case ge => exact lv_icmp_ge hx hb hdec htg (fun z => kt ((am_le32 hy hxv).mp z)) (fun z => kf (fun q => z ((am_le32 hy hxv).mpr q)))
          case gt => exact lv_icmp_gt hx hb hdec htg (fun z => kt ((am_lt32 hy hxv).mp z)) (fun z => kf (fun q => z ((am_lt32 hy hxv).mpr q)))
          case le => exact lv_icmp_le hx hb hdec htg (fun z => kt ((am_le32 hxv hy).mp z)) (fun z => kf (fun q => z ((am_le32 hxv hy).mpr q)))
        · exact absurd (show (none : Option Instr) = some i by rw [← hres]; exact (if_neg hn).symm) (by simp)
      case ifCond cnd off =>
        by_cases hn : 0 ≤ (pc : Int) + off
        · cases (show some (Instr.ifCond cnd (pc + off)) = some i by rw [← hres]; exact (if_pos hn).symm)
          have hl : len = 3 := by simpa [am_lnk] using hlen
          subst hl
          have htg : (pc : Int) + off = (((pc : Int) + off).toNat : Int) := by omega
          simp only [am_blk] at hblk
          obtain ⟨x, s', rfl, hk⟩ := am_1_inv hblk
          intro ad lsM H locs cells slots hJ hst
          have hxv := (am_okd hst).1 rfl
          have hy : am_inI 0 := ⟨by decide, by decide⟩
          have hs2 := am_okt hst
          have kt := fun z => hT _ _ _ _ (hk.1 z) ad lsM H locs cells slots hJ hs2
          have kf := fun z => ih _ _ _ _ hr (hk.2 z) ad lsM H locs cells slots hJ hs2
          cases cnd
          case eq => exact lv_if_eq hx hb hdec htg (fun z => kt ((am_eq32 hxv hy).mp z)) (fun z => kf (fun q => z ((am_eq32 hxv hy).mpr q)))
          case ne => exact lv_if_ne hx hb hdec htg (fun z => kt (fun q => z ((am_eq32 hxv hy).mpr q))) (fun z => kf (fun q => q ((am_eq32 hxv hy).mp z)))
          case lt => exact lv_if_lt hx hb hdec htg (fun z => kt ((am_lt32 hxv hy).mp z)) (fun z => kf (fun q => z ((am_lt32 hxv hy).mpr q)))
          case ge => exact lv_if_ge hx hb hdec htg (fun z => kt ((am_le32 hy hxv).mp z)) (fun z => kf (fun q => z ((am_le32 hy hxv).mpr q)))
          case gt => exact lv_if_gt hx hb hdec htg (fun z => kt ((am_lt32 hy hxv).mp z)) (fun z => kf (fun q => z ((am_lt32 hy hxv).mpr q)))
          case le => exact lv_if_le hx hb hdec htg (fun z => kt ((am_le32 hxv hy).mp z)) (fun z => kf (fun q => z ((am_le32 hxv hy).mpr q)))
        · exact absurd (show (none : Option Instr) = some i by rw [← hres]; exact (if_neg hn).symm) (by simp)
      case goto off =>
        by_cases hn : 0 ≤ (pc : Int) + off
        · cases (show some (Instr.goto (pc + off)) = some i by rw [← hres]; exact (if_pos hn).symm)
          have hl : len = 3 := by simpa [am_lnk] using hlen
          subst hl
          intro ad lsM H locs cells slots hJ hst
          exact lv_goto (tgt := ((pc : Int) + off).toNat) hx hb hdec (by omega) (hT _ _ _ _ hblk ad lsM H locs cells slots hJ hst)
        · exact absurd (show (none : Option Instr) = some i by rw [← hres]; exact (if_neg hn).symm) (by simp)
      case ifnull off =>
        by_cases hn : 0 ≤ (pc : Int) + off
        · cases (show some (Instr.ifnull (pc + off)) = some i by rw [← hres]; exact (if_pos hn).symm)
          have hl : len = 3 := by simpa [am_lnk] using hlen
          subst hl
          simp only [am_blk] at hblk
          obtain ⟨v, s', rfl, hv, hk⟩ := am_r_inv hblk
          intro ad lsM H locs cells slots hJ hst
          show W p l e R s m args below meth c H locs cells slots Q (F0 m pc lsM (am_tr fx ad v :: s'.map (am_tr fx ad)))
          by_cases hv0 : v = (2, 0)
          · subst hv0
            rw [am_tr_20]
            exact lv_ifnullN (tgt := ((pc : Int) + off).toNat) hx hb hdec (by omega) (hT _ _ _ _ (hk.1 rfl) ad lsM H locs cells slots hJ (am_okt hst))
          · rcases am_tr_r fx ad hv with hq | ⟨a, hq⟩
            · exfalso
              obtain ⟨t, x⟩ := v
              have ht : t = 2 ∨ t = 4 ∨ t = 7 := by simpa [am_isr] using hv
              rcases ht with rfl | rfl | rfl
              · by_cases hx0 : x = 0
                · exact hv0 (by rw [hx0])
                · simp [am_tr, hx0] at hq
              · simp [am_tr] at hq
              · simp [am_tr] at hq
            · rw [hq]
              exact lv_ifnull hx hb hdec (ih _ _ _ _ hr (hk.2 hv0) ad lsM H locs cells slots hJ (am_okt hst))
        · exact absurd (show (none : Option Instr) = some i by rw [← hres]; exact (if_neg hn).symm) (by simp)
      case tableswitch d lo hi offs =>
        by_cases hn : 0 ≤ (pc : Int) + d ∧ (offs.toList.all (fun t => decide (0 ≤ (pc : Int) + t)) = true) ∧ hi - lo + 1 = (offs.size : Int) ∧ lo ≤ hi
        · cases (show some (Instr.tableswitch (pc + d) lo hi (offs.toList.map (fun t => (pc : Int) + t)).toArray) = some i by rw [← hres]; exact (if_pos hn).symm)
          simp only [am_blk] at hblk
          obtain ⟨x, s', rfl, hk⟩ := am_1_inv hblk
          intro ad lsM H locs cells slots hJ hst
          have hxv := (am_okd hst).1 rfl
          by_cases ho : x < lo ∨ hi < x
          · exact lv_tableOut (tgt := ((pc : Int) + d).toNat) hx hb hdec (by rw [am_i32 hxv]; exact ho) (by omega) (hT _ _ _ _ (hk.1 ho) ad lsM H locs cells slots hJ (am_okt hst))
          · have hlt : (x - lo).toNat < offs.size := by omega
            have hoff : offs[(x - lo).toNat]? = some offs[(x - lo).toNat] := Array.getElem?_eq_getElem hlt
            have hsw := am_sw_inv _ _ _ _ hk.2 (x - lo).toNat ((pc : Int) + offs[(x - lo).toNat]) (by simp [hlt]) (by omega)
            have hge := List.all_eq_true.mp hn.2.1 offs[(x - lo).toNat] (by simp)
            simp only [decide_eq_true_eq] at hge
            exact lv_tableIn (tgt := ((pc : Int) + offs[(x - lo).toNat]).toNat) hx hb hdec (by rw [am_i32 hxv]; omega) (by rw [am_i32 hxv]; omega) (by rw [am_i32 hxv]; exact hoff) (by omega) (hT _ _ _ _ hsw ad lsM H locs cells slots hJ (am_okt hst))
        · exact absurd (show (none : Option Instr) = some i by rw [← hres]; exact (if_neg hn).symm) (by simp)
      case ireturn =>
        cases (show some Instr.ireturn = some i from hres)
        have hl : len = 1 := by simpa [am_lnk] using hlen
        subst hl
        simp only [am_blk] at hblk
        obtain ⟨x, s', rfl, hk⟩ := am_1_inv hblk
        obtain ⟨rfl, hk⟩ := am_nil_inv hk
        intro ad lsM H locs cells slots hJ hst
        by_cases hz : bz = 0
        · rw [if_pos hz] at hk
          exact hR pc .ireturn (0, x) ls h hdec (Or.inl ⟨rfl, rfl, Or.inl hz⟩) (fun _ q => by cases q) hk ad lsM H locs cells slots hJ (am_okd hst)
        · rw [if_neg hz] at hk
          by_cases hz4 : bz = 4
          · rw [if_pos hz4] at hk
            exact hR pc .ireturn (0, x) ls h hdec (Or.inl ⟨rfl, rfl, Or.inr ⟨hz4, hk.1⟩⟩) (fun _ q => by cases q) hk.2 ad lsM H locs cells slots hJ (am_okd hst)
          · rw [if_neg hz4] at hk; exact hk.elim
      case lreturn =>
        cases (show some Instr.lreturn = some i from hres)
        have hl : len = 1 := by simpa [am_lnk] using hlen
        subst hl
        simp only [am_blk] at hblk
        obtain ⟨x, s', rfl, hk⟩ := am_1_inv hblk
        obtain ⟨rfl, hk⟩ := am_nil_inv hk
        intro ad lsM H locs cells slots hJ hst
        by_cases hz : bz = 1
        · rw [if_pos hz] at hk
          exact hR pc .lreturn (1, x) ls h hdec (Or.inr (Or.inl ⟨rfl, rfl, hz⟩)) (fun _ q => by cases q) hk ad lsM H locs cells slots hJ (am_okd hst)
        · rw [if_neg hz] at hk; exact hk.elim
      case areturn =>
        cases (show some Instr.areturn = some i from hres)
        have hl : len = 1 := by simpa [am_lnk] using hlen
        subst hl
        simp only [am_blk] at hblk
        obtain ⟨v, s', rfl, hv, hk⟩ := am_r_inv hblk
        obtain ⟨rfl, hk⟩ := am_nil_inv hk
        intro ad lsM H locs cells slots hJ hst
        have h9 : ¬ v.1 = 9 := by intro q; rw [q] at hv; cases hv
        by_cases hz : bz = 2
        · rw [if_pos hz] at hk
          have := hR pc .areturn v ls h hdec (Or.inr (Or.inr (Or.inl ⟨rfl, hv, hz⟩))) (fun _ q => by cases q) hk ad lsM H locs cells slots hJ (am_okd hst)
          unfold am_ro at this
          rw [if_neg h9] at this
          exact this
        · rw [if_neg hz] at hk; exact hk.elim
      case return_ =>
        cases (show some Instr.return_ = some i from hres)
        have hl : len = 1 := by simpa [am_lnk] using hlen
        subst hl
        simp only [am_blk] at hblk
        obtain ⟨rfl, hk⟩ := am_nil_inv hblk
        intro ad lsM H locs cells slots hJ hst
        by_cases hz3 : bz = 3
        · rw [if_pos hz3] at hk
          by_cases hz : ini = true
          · rw [if_pos hz] at hk
            exact hR pc .return_ (9, 0) ls h hdec (Or.inr (Or.inr (Or.inr ⟨rfl, rfl, hz3⟩))) (fun _ _ => hk.1) hk.2 ad lsM H locs cells slots hJ (am_okv_9 _ _)
          · rw [if_neg hz] at hk
            exact hR pc .return_ (9, 0) ls h hdec (Or.inr (Or.inr (Or.inr ⟨rfl, rfl, hz3⟩))) (fun q => absurd q hz) hk ad lsM H locs cells slots hJ (am_okv_9 _ _)
        · rw [if_neg hz3] at hk; exact hk.elim
      case getfield k =>
        by_cases hn : am_fx own k = 99999
        · exact absurd (show (none : Option Instr) = some i by rw [← hres]; exact (if_pos hn).symm) (by simp)
        · cases (show some (Instr.getfield (am_fx own k)) = some i by rw [← hres]; exact (if_neg hn).symm)
          have hl : len = 3 := by simpa [am_lnk] using hlen
          subst hl
          simp only [am_blk] at hblk
          obtain ⟨v, s', rfl, hv, hk⟩ := am_r_inv hblk
          by_cases hv2 : v.1 = 2
          · rw [if_pos hv2] at hk
            obtain ⟨t, o⟩ := v
            cases hv2
            exact am_s_get hX hdec hn hk (fun w hw => ih _ _ _ _ hr hw)
          · rw [if_neg hv2] at hk
            by_cases hv4 : v.1 = 4 ∧ am_fx own k / 64 = 15
            · rw [if_pos hv4] at hk
              obtain ⟨t, o⟩ := v
              obtain ⟨hv4, h15⟩ := hv4
              cases hv4
              exact am_s_getw hX hdec hn h15 (ih _ _ _ _ hr hk)
            · rw [if_neg hv4] at hk
              exact hk.elim
      case putfield k =>
        by_cases hn : am_fx own k = 99999 ∨ am_fw own k = false
        · exact absurd (show (none : Option Instr) = some i by rw [← hres]; exact (if_pos hn).symm) (by simp)
        · cases (show some (Instr.putfield (am_fx own k)) = some i by rw [← hres]; exact (if_neg hn).symm)
          have hl : len = 3 := by simpa [am_lnk] using hlen
          subst hl
          cases st with
          | nil => exact hblk.elim
          | cons v st =>
            simp only [am_blk] at hblk
            obtain ⟨o, s', rfl, hk⟩ := am_1_inv hblk
            exact am_s_put hX hdec (fun q => hn (Or.inl q)) (by cases hfw : am_fw own k with | true => rfl | false => exact absurd (Or.inr hfw) hn) hk (fun h' hw => ih _ _ _ _ hr hw)
      case iaload =>
        cases (show some Instr.iaload = some i from hres)
        have hl : len = 1 := by simpa [am_lnk] using hlen
        subst hl
        simp only [am_blk] at hblk
        obtain ⟨x, s1, rfl, hk⟩ := am_1_inv hblk
        obtain ⟨v, s', rfl, hv, hk2⟩ := am_r_inv hk
        obtain ⟨t, a⟩ := v
        by_cases hv2 : t = 2
        · rw [if_pos hv2] at hk2
          subst hv2
          unfold am_arr at hk2
          by_cases hc : (am_cell a.toNat).1 = 1 ∧ 0 < a
          · rw [if_pos hc] at hk2
            exact am_s_iald hX hdec hc.1 hc.2 hk2.1 (ih _ _ _ _ hr hk2.2)
          · rw [if_neg hc] at hk2; exact hk2.elim
        · rw [if_neg hv2] at hk2
          by_cases hv7 : t = 7
          · rw [if_pos hv7] at hk2
            subst hv7
            exact am_s_sld hX hdec hk2.1 (ih _ _ _ _ hr hk2.2)
          · rw [if_neg hv7] at hk2; exact hk2.elim
      case laload =>
        cases (show some Instr.laload = some i from hres)
        have hl : len = 1 := by simpa [am_lnk] using hlen
        subst hl
        simp only [am_blk] at hblk
        obtain ⟨x, s1, rfl, hk⟩ := am_1_inv hblk
        obtain ⟨a, s', rfl, hk2⟩ := am_1_inv (t := 2) hk
        unfold am_arr at hk2
        by_cases hc : (am_cell a.toNat).1 = 2 ∧ 0 < a
        · rw [if_pos hc] at hk2
          exact am_s_lald hX hdec hc.1 hc.2 hk2.1 (ih _ _ _ _ hr hk2.2)
        · rw [if_neg hc] at hk2; exact hk2.elim
      case baload =>
        cases (show some Instr.baload = some i from hres)
        have hl : len = 1 := by simpa [am_lnk] using hlen
        subst hl
        simp only [am_blk] at hblk
        obtain ⟨x, s1, rfl, hk⟩ := am_1_inv hblk
        obtain ⟨a, s', rfl, hk2⟩ := am_1_inv (t := 2) hk
        unfold am_arr at hk2
        by_cases h3 : (am_cell a.toNat).1 = 3
        · rw [if_pos h3] at hk2
          by_cases hc : (am_cell a.toNat).1 = 3 ∧ 0 < a
          · rw [if_pos hc] at hk2
            exact am_s_bald hX hdec hc.1 hc.2 hk2.1 (fun z => ih _ _ _ _ hr (hk2.2 z))
          · rw [if_neg hc] at hk2; exact hk2.elim
        · rw [if_neg h3] at hk2
          by_cases hc : (am_cell a.toNat).1 = 4 ∧ 0 < a
          · rw [if_pos hc] at hk2
            exact am_s_zald hX hdec hc.1 hc.2 hk2.1 (fun z => ih _ _ _ _ hr (hk2.2 z))
          · rw [if_neg hc] at hk2; exact hk2.elim
      case iastore =>
        cases (show some Instr.iastore = some i from hres)
        have hl : len = 1 := by simpa [am_lnk] using hlen
        subst hl
        simp only [am_blk] at hblk
        obtain ⟨x, s1, rfl, hk⟩ := am_1_inv hblk
        obtain ⟨y, s2, rfl, hk2⟩ := am_1_inv (t := 0) hk
        obtain ⟨a, s', rfl, hk3⟩ := am_1_inv (t := 2) hk2
        unfold am_arr at hk3
        by_cases hc : (am_cell a.toNat).1 = 1 ∧ 0 < a
        · rw [if_pos hc] at hk3
          exact am_s_iast hX hdec hc.1 hc.2 hk3.1 (ih _ _ _ _ hr hk3.2)
        · rw [if_neg hc] at hk3; exact hk3.elim
      case lastore =>
        cases (show some Instr.lastore = some i from hres)
        have hl : len = 1 := by simpa [am_lnk] using hlen
        subst hl
        simp only [am_blk] at hblk
        obtain ⟨x, s1, rfl, hk⟩ := am_1_inv hblk
        obtain ⟨y, s2, rfl, hk2⟩ := am_1_inv (t := 0) hk
        obtain ⟨a, s', rfl, hk3⟩ := am_1_inv (t := 2) hk2
        unfold am_arr at hk3
        by_cases hc : (am_cell a.toNat).1 = 2 ∧ 0 < a
        · rw [if_pos hc] at hk3
          exact am_s_last hX hdec hc.1 hc.2 hk3.1 (ih _ _ _ _ hr hk3.2)
        · rw [if_neg hc] at hk3; exact hk3.elim
      case bastore =>
        cases (show some Instr.bastore = some i from hres)
        have hl : len = 1 := by simpa [am_lnk] using hlen
        subst hl
        simp only [am_blk] at hblk
        obtain ⟨x, s1, rfl, hk⟩ := am_1_inv hblk
        obtain ⟨y, s2, rfl, hk2⟩ := am_1_inv (t := 0) hk
        obtain ⟨a, s', rfl, hk3⟩ := am_1_inv (t := 2) hk2
        unfold am_arr at hk3
        by_cases h3 : (am_cell a.toNat).1 = 3
        · rw [if_pos h3] at hk3
          by_cases hc : (am_cell a.toNat).1 = 3 ∧ 0 < a
          · rw [if_pos hc] at hk3
            exact am_s_bast hX hdec hc.1 hc.2 ⟨hk3.1.1, hk3.1.2.1⟩ hk3.1.2.2 (ih _ _ _ _ hr hk3.2)
          · rw [if_neg hc] at hk3; exact hk3.elim
        · rw [if_neg h3] at hk3
          by_cases hc : (am_cell a.toNat).1 = 4 ∧ 0 < a
          · rw [if_pos hc] at hk3
            exact am_s_zast hX hdec hc.1 hc.2 ⟨hk3.1.1, hk3.1.2.1⟩ hk3.1.2.2 (ih _ _ _ _ hr hk3.2)
          · rw [if_neg hc] at hk3; exact hk3.elim
      case arraylength =>
        cases (show some Instr.arraylength = some i from hres)
        have hl : len = 1 := by simpa [am_lnk] using hlen
        subst hl
        simp only [am_blk] at hblk
        obtain ⟨v, s', rfl, hv, hk⟩ := am_r_inv hblk
        obtain ⟨t, a⟩ := v
        by_cases hv2 : t = 2
        · rw [if_pos hv2] at hk
          subst hv2
          unfold am_arr at hk
          by_cases h0 : (am_cell a.toNat).1 = 0
          · rw [if_pos h0] at hk
            by_cases hc : (am_cell a.toNat).1 = 9 ∧ 0 < a
            · rw [h0] at hc; exact absurd hc.1 (by decide)
            · rw [if_neg hc] at hk; exact hk.elim
          · rw [if_neg h0] at hk
            by_cases hc : (am_cell a.toNat).1 = (am_cell a.toNat).1 ∧ 0 < a
            · rw [if_pos hc] at hk
              by_cases h9 : (am_cell a.toNat).1 = 9
              · intro ad lsM H locs cells slots hJ hst
                have hov := (am_okd hst).2.2.1 rfl
                exfalso
                have h93 := hJ.2.2.2.1.2.1
                have hall : ∀ z : Fin 93, ¬ (am_cell (z.val + 1)).1 = 9 := by decide +kernel
                exact hall ⟨a.toNat - 1, by omega⟩ (by rw [show a.toNat - 1 + 1 = a.toNat by omega]; exact h9)
              · exact am_s_alen hX hdec h0 h9 hc.2 (ih _ _ _ _ hr hk)
            · rw [if_neg hc] at hk; exact hk.elim
        · rw [if_neg hv2] at hk
          by_cases hv7 : t = 7
          · rw [if_pos hv7] at hk
            subst hv7
            exact am_s_slen hX hdec (ih _ _ _ _ hr hk)
          · rw [if_neg hv7] at hk; exact hk.elim
      case new k =>
        have hres2 : (am_CL.find? (fun q => q.1 == own && q.2.1 == k)).map (fun q => Instr.new q.2.2.1) = some i := hres
        cases hf : am_CL.find? (fun q => q.1 == own && q.2.1 == k) with
        | none => rw [hf] at hres2; cases hres2
        | some q =>
          rw [hf] at hres2
          cases hres2
          obtain ⟨h1, h2⟩ := am_find hf
          simp only [Bool.and_eq_true, beq_iff_eq] at h2
          have hl : len = 3 := by simpa [am_lnk] using hlen
          subst hl
          obtain ⟨n, g1, g2, g3, g4, g5, g6⟩ := (show ∃ n : Nat, h 0 0 = n ∧ (am_cell (n + 1)).1 = 0 ∧ (am_cell (n + 1)).2.1 = q.2.2.1 ∧ (∀ j, h (n + 1) j = 0) ∧ h 0 0 + 1 ≤ lim ∧ am_blk bm ini bz lim L xs C K T e' r ls ((2, n + 1) :: st) (am_st h 0 0 (n + 1)) from hblk)
          exact am_s_new hX hdec h1 h2.1 h2.2 g1 g2 g3 g4 g5 (ih _ _ _ _ hr g6)
      case newarray ty =>
        cases (show some (Instr.newarray ty) = some i from hres)
        have hl : len = 2 := by simpa [am_lnk] using hlen
        subst hl
        simp only [am_blk] at hblk
        obtain ⟨x, s', rfl, n, g1, g2, g3, g4, g5, g6⟩ := am_1_inv hblk
        have h99 : ¬ (am_cell (n + 1)).1 = 99 := by
          intro q
          have h0 : ¬ (am_cell (n + 1)).1 = 0 := by rw [q]; decide
          have h9 : ¬ (am_cell (n + 1)).1 = 9 := by rw [q]; decide
          rcases (am_cell_arr h0 h9).2 with z | z | z | z <;> (rw [q] at z; cases z)
        cases ty
        case int => exact am_s_newaI hX hdec g1 g2 rfl g3 g4 g5 (ih _ _ _ _ hr g6)
        case long => exact am_s_newaJ hX hdec g1 g2 rfl g3 g4 g5 (ih _ _ _ _ hr g6)
        case byte => exact am_s_newaB hX hdec g1 g2 rfl g3 g4 g5 (ih _ _ _ _ hr g6)
        case boolean => exact am_s_newaZ hX hdec g1 g2 rfl g3 g4 g5 (ih _ _ _ _ hr g6)
        all_goals exact absurd g2 h99
      case invokestatic k =>
        have hres2 : (am_mx own k).bind (fun q => if q.2.2.2.2.2.2.1 = 0 then some (Instr.invokestatic (am_kc q.1 q.2)) else none) = some i := hres
        cases hm : am_mx own k with
        | none => rw [hm] at hres2; cases hres2
        | some iq =>
          rw [hm] at hres2
          obtain ⟨id, q⟩ := iq
          have hres3 : (if q.2.2.2.2.2.1 = 0 then some (Instr.invokestatic (am_kc id q)) else none) = some i := hres2
          by_cases hk0 : q.2.2.2.2.2.1 = 0
          · rw [if_pos hk0] at hres3
            cases hres3
            have hl : len = 3 := by simpa [am_lnk] using hlen
            subst hl
            exact am_s_inv hX hC hm hdec (Or.inl ⟨rfl, hk0⟩) (fun q2 => by rw [hk0] at q2; cases q2) hblk (fun ls st h hw => ih _ ls st h hr hw)
          · rw [if_neg hk0] at hres3; cases hres3
      case invokevirtual k =>
        have hres2 : (am_mx own k).bind (fun q => if q.2.2.2.2.2.2.1 = 1 then some (Instr.invokestatic (am_kc q.1 q.2)) else none) = some i := hres
        cases hm : am_mx own k with
        | none => rw [hm] at hres2; cases hres2
        | some iq =>
          rw [hm] at hres2
          obtain ⟨id, q⟩ := iq
          have hres3 : (if q.2.2.2.2.2.1 = 1 then some (Instr.invokestatic (am_kc id q)) else none) = some i := hres2
          by_cases hk0 : q.2.2.2.2.2.1 = 1
          · rw [if_pos hk0] at hres3
            cases hres3
            have hl : len = 3 := by simpa [am_lnk] using hlen
            subst hl
            exact am_s_inv hX hC hm hdec (Or.inr (Or.inl ⟨rfl, hk0⟩)) (fun q2 => by rw [hk0] at q2; cases q2) hblk (fun ls st h hw => ih _ ls st h hr hw)
          · rw [if_neg hk0] at hres3; cases hres3
      case invokespecial k =>
        by_cases hob : (am_OL.find? (fun q => q.1 == own && q.2.1 == k)).isSome = true
        · cases (show some Instr.nop = some i by rw [← hres]; exact (if_pos hob).symm)
          have hl : len = 3 := by simpa [am_lnk] using hlen
          subst hl
          simp only [am_blk] at hblk
          obtain ⟨v, s', rfl, hv, hk⟩ := am_r_inv hblk
          by_cases hc : v.1 = 2 ∧ 0 < v.2 ∧ am_cat s' ≤ 8
          · rw [if_pos hc] at hk
            obtain ⟨t, o⟩ := v
            obtain ⟨hv2, ho, hcat⟩ := hc
            cases hv2
            cases hf : am_OL.find? (fun q => q.1 == own && q.2.1 == k) with
            | none => rw [hf] at hob; cases hob
            | some q =>
              obtain ⟨h1, h2⟩ := am_find hf
              simp only [Bool.and_eq_true, beq_iff_eq] at h2
              have h3 := List.all_eq_true.mp am_OL_ok q h1
              unfold am_olok at h3
              simp only [decide_eq_true_eq] at h3
              rw [h2.1, h2.2] at h3
              intro ad lsM H locs cells slots hJ hst
              have hgo := ih _ _ _ _ hr hk ad lsM H locs cells slots hJ (am_okt hst)
              show W p l e R s m args below meth c H locs cells slots Q (F0 m pc lsM (am_tr fx ad (2, o) :: s'.map (am_tr fx ad)))
              rw [am_tr_2 fx ad ho]
              have hcats : ((s'.map (am_tr fx ad)).map fun v => v.category).sum ≤ 8 := by rw [am_tr_cats]; exact hcat
              refine W.objInit (rest := s'.map (am_tr fx ad)) hx hb hown (hts _ (am_inT h3 rfl)) (hts _ (List.mem_filter.mpr ⟨am_obj_im, rfl⟩)) (hts _ (List.mem_filter.mpr ⟨am_obj_cd, rfl⟩)) rfl (by rw [hml]; exact hJ.2.2.2.2.2.2.1.1) rfl hdec hrm.1 ?_ ?_
              · have := lv_room (m := m) (pc := pc) (ls := lsM) (rest := .ref (ad o.toNat) :: s'.map (am_tr fx ad)) hcats
                exact Nat.le_trans (Nat.add_le_add_right this 12) hrm.2
              · exact hgo
          · rw [if_neg hc] at hk; exact hk.elim
        · have hres1 : (am_mx own k).bind (fun q => if q.2.2.2.2.2.2.1 = 2 then some (Instr.invokespecial (am_kc q.1 q.2)) else none) = some i := by rw [← hres]; exact (if_neg hob).symm
          cases hm : am_mx own k with
          | none => rw [hm] at hres1; cases hres1
          | some iq =>
            rw [hm] at hres1
            obtain ⟨id, q⟩ := iq
            have hres3 : (if q.2.2.2.2.2.1 = 2 then some (Instr.invokespecial (am_kc id q)) else none) = some i := hres1
            by_cases hk0 : q.2.2.2.2.2.1 = 2
            · rw [if_pos hk0] at hres3
              cases hres3
              have hl : len = 3 := by simpa [am_lnk] using hlen
              subst hl
              exact am_s_spc hX hC hm hdec hk0 hblk (fun ls st h hw => ih _ ls st h hr hw)
            · rw [if_neg hk0] at hres3; cases hres3
      all_goals exact absurd (show (none : Option Instr) = some i from hres) (by simp)
end AMS4
