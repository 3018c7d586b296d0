/-! lk4: a look by way of the law: 0, 1 or 2 -/
def lk_hh : List (Nat × Nat × Nat × Nat) := [(0, 10, 13, 13), (0, 10, 17, 15)]
def lk_KL (h : am_H) (mm w : Int) : am_K := fun v g => ((0 ≤ mm ∧ mm < h 20 15) ∧ (0 ≤ w ∧ w ≤ 4) ∧ v = (0, 0) ∧ g = am_st h 93 0 (h (27 + w.toNat) mm.toNat)) ∨ ((0 ≤ mm ∧ mm < h 20 15) ∧ ¬ (0 ≤ w ∧ w ≤ 4) ∧ v = (0, 2) ∧ g = h) ∨ (¬ (0 ≤ mm ∧ mm < h 20 15) ∧ v = (0, 1) ∧ g = h)
def lk_rmL : Room := { frames := 14, cells := 1, slots := 6, locals := 700 }
def lk_PL (dC : Nat → ClassId) (dI : Nat → Nat → Nat) (cA : Nat → ClassId) (fx : Nat → Nat → Nat) (EX : (Nat → Prop) → State → Heap → Prop) (h : am_H) (ad : Nat → Nat) (sz sa1 sa2 : Nat) (U : State) : Prop := lk_P dC dI cA fx EX h ad sz sa1 sa2 U ∧ va_Nc lk_E2 lk_E1 U
def lk_wsL : List Cond := .codeWith yL_look cL_look 5 (some .int) lk_hh :: am_TB
theorem lk_tw : ([.codeWith yL_look cL_look 5 (some .int) lk_hh, .methodLink RL 7 yX11_look, .instanceMethod yX11_look, .selects RX11 yX11_look yX11_look, .code yX11_look cX11_look 3 (some .int), .initialized RX11, .initialized RL, .classLink RL 13 lk_E1, .classLink RL 15 lk_E2, .methodLink RL 143 yL_look, .static yL_look] : List Cond).all (fun w => decide (w ∈ lw_tbl) && goodWord w) = true := by decide +kernel
theorem lk_tb {w : Cond} (hw : w ∈ ([.codeWith yL_look cL_look 5 (some .int) lk_hh, .methodLink RL 7 yX11_look, .instanceMethod yX11_look, .selects RX11 yX11_look yX11_look, .code yX11_look cX11_look 3 (some .int), .initialized RX11, .initialized RL, .classLink RL 13 lk_E1, .classLink RL 15 lk_E2, .methodLink RL 143 yL_look, .static yL_look] : List Cond)) : w ∈ am_TB := by
  have h := List.all_eq_true.mp lk_tw w hw
  simp only [Bool.and_eq_true, decide_eq_true_eq] at h
  exact List.mem_filter.mpr ⟨h.1, h.2⟩
theorem lk_cast : ([Cond.castable lk_E1 lk_E1, Cond.castable lk_E2 lk_E2] : List Cond).all (fun w => decide (w ∈ lk_N)) = true := by decide +kernel
section
variable {l : Launch} {dC : Nat → ClassId} {dI : Nat → Nat → Nat} {cA : Nat → ClassId} {fx : Nat → Nat → Nat} {L : Nat} {xs : Nat → Int} {adV : Nat → Nat}
theorem lk_blind {EX : (Nat → Prop) → State → Heap → Prop} (hExt : am_Ext EX) {h : am_H} {ad : Nat → Nat} {sz sa1 sa2 : Nat} {as : List Value} : FrameBlind (va_Pc as (lk_P dC dI cA fx EX h ad sz sa1 sa2)) := by
  intro a U g mk hz
  obtain ⟨z0, ⟨z1, z2, z3, z4⟩, z5, z6, z7⟩ := hz
  exact ⟨z0, ⟨z1, z2, z3, va_K.moved (u := U) (U := U.calling g mk a) (Vm.Alike.refl U.vm) z4.1, fun w hw => by
      rcases am_NW_is hw with ⟨a1, i1, b1, n1, d1, q1, rfl⟩ | ⟨a1, i1, x1, q1, rfl⟩
      · exact va_Nw.same rfl rfl (z4.2.1 _ hw)
      · exact va_Nw.same rfl rfl (z4.2.1 _ hw), hExt.1 _ U (U.calling g mk a) _ (Vm.Alike.refl U.vm) z4.2.2⟩, lk_Nsame (s := U) (U := U.calling g mk a) rfl z5, vk_R.same rfl z6, vk_R.same rfl z7⟩
theorem lk_blindL {EX : (Nat → Prop) → State → Heap → Prop} (hExt : am_Ext EX) {h : am_H} {ad : Nat → Nat} {sz sa1 sa2 : Nat} {as : List Value} : FrameBlind (va_Pc as (lk_PL dC dI cA fx EX h ad sz sa1 sa2)) := by
  intro a U g mk hz
  have h1 := lk_blind hExt a U g mk ⟨hz.1, hz.2.1⟩
  exact ⟨h1.1, h1.2, va_Nc.moved (u := U) (U := U.calling g mk a) (Vm.Alike.refl U.vm) hz.2.2⟩
theorem lk_ok12 {n x : Int} (hx : x = 1 ∨ x = 2) : am_okv n (0, x) := by
  refine ⟨fun _ => ?_, (fun q => by cases q), (fun q => by cases q), (fun q => by cases q), (fun q => by cases q)⟩
  show am_inI x
  unfold am_inI
  omega
set_option maxHeartbeats 4000000 in
theorem lk_lawlook (hl : l.stackTraces = false) (hL : L ≤ 3072) (hxs : ∀ j, am_inI (xs j)) {h : am_H} {mm w : Int} {ad : Nat → Nat} {sz sa1 sa2 : Nat} (h15 : 0 ≤ h 20 15 ∧ h 20 15 ≤ 14) (hok : am_okh h) (hfin : am_fin h) (hin : ∀ v ∈ [((2, 1) : am_V), (0, mm), (0, w), (2, 93)], am_okv (h 0 0) v) :
    Met l yL_look lk_wsL lk_rmL (va_Pc ([((2, 1) : am_V), (0, mm), (0, w), (2, 93)].map (am_tr fx ad)) (lk_PL dC dI cA fx (ex_E fx adV L xs lk_Y) h ad sz sa1 sa2)) (am_Qc fx 0 (lk_KL h mm w) (am_Bw dC dI cA fx true (va_A (am_w cA fx ad h) sz) ad ((h 0 0).toNat : Nat) (h 0 0) (h 0 1)) (va_A (am_w cA fx ad h) sz)) 1 6 (va_A (am_w cA fx ad h) sz) := by
  refine va_MetW (cc := cL_look) (maxL := 5) (ret := some .int) (hh := lk_hh) (by decide) rfl ?_
  intro p e s m args below meth c s₁ B hml hv
  obtain ⟨rfl, ⟨⟨hsz, hP, hD0, hE⟩, hNG, hR1, hR2⟩, hNc⟩ := hv
  subst hsz
  have hx := B.exec
  have hb := B.bytes
  have hr := B.returns
  have hlocks := B.notSynchronized
  have hts0 := atoms_spec (ws := lk_wsL) B.pre
  have hts : ∀ w' ∈ am_TB, w'.before ([((2, 1) : am_V), (0, mm), (0, w), (2, 93)].map (am_tr fx ad)).toArray s = true := fun w' hw => hts0 w' (List.mem_cons_of_mem _ hw)
  have htab := vx_table (x := yL_look) B (hts _ (lk_tb (w := .codeWith yL_look cL_look 5 (some .int) lk_hh) (by simp)))
  have hown : s.vm.findClass RL = some m.cls := findClass_of_methodNamed B.named
  have hD := hD0.self (sz := s.heap.size)
  have h00 := hok.1
  have hnn : (((h 0 0).toNat : Nat) : Int) = h 0 0 := by omega
  have h93 : h 0 0 = 93 := by
    have h1 := ((hin (2, 93) (by simp)).2.2.1 rfl).2
    have h2 := hok.2.1
    have h3 : (93 : Int) ≤ h 0 0 := h1
    omega
  generalize hAA : va_A (am_w cA fx ad h) s.heap.size = AA at hD hE ⊢
  have hAA2 : ∀ z, s.heap.size ≤ z → AA z := fun z hz => by rw [← hAA]; exact Or.inr hz
  generalize hrr : (headSpec lk_wsL lk_rmL).room = R
  have hR : R = lk_rmL := hrr.symm
  generalize haa : ([((2, 1) : am_V), (0, mm), (0, w), (2, 93)].map (am_tr fx ad)).toArray = args at hts ⊢
  have X : ∀ k n : Nat, k ≤ 1 → n ≤ 6 → am_Cx p R s m args meth c dC dI cA fx AA 5 (h 0 0).toNat (h 0 0) (fun (g : am_H) (c2 s2 : Nat) => c2 = k ∧ s2 = n ∧ g 0 0 = h 0 0 ∧ g 0 1 = h 0 1) false 12 cL_look (ex_E fx adV L xs lk_Y) L xs := by
    intro k n hk1 hn1
    subst hR
    refine ⟨hx, hb, hml, hown, hts, hE, ex_Ext lk_YE, hAA2, (fun hi => by cases hi), ⟨by decide, by decide⟩, ⟨?_, ?_, ?_⟩, ex_w, ex_x, hL, hxs⟩
    · intro g k j v c2 s2 hk hg
      rw [st_ne (show ¬ 0 = k by omega)]; exact hg
    · intro g n c2 s2 hn hlm hg
      obtain ⟨_, _, g3, _⟩ := hg
      omega
    · intro g g' mc c2 s2 h0 hlm e1 e2 hg
      obtain ⟨g1, g2, g3, g4⟩ := hg
      have : mc = 0 := by omega
      subst this
      have k1 : lk_rmL.cells = 1 := rfl
      have k2 : lk_rmL.slots = 6 := rfl
      refine ⟨by omega, by simp only [Nat.add_zero, Nat.sub_self]; omega, by simpa using g1, by simpa using g2, by rw [e1]; simpa using g3, by rw [e2]; exact g4⟩
  have hRet : ∀ k n : Nat, k ≤ 1 → n ≤ 6 → am_RetOK p l e R s m args below meth c (MQ below (am_Qc fx 0 (lk_KL h mm w) (am_Bw dC dI cA fx true AA ad ((h 0 0).toNat : Nat) (h 0 0) (h 0 1)) AA) args s 1 6 AA) dC dI cA fx AA 5 (h 0 0).toNat (h 0 0) true ad (fun (g : am_H) (c2 s2 : Nat) => c2 = k ∧ s2 = n ∧ g 0 0 = h 0 0 ∧ g 0 1 = h 0 1) false 0 cL_look (lk_KL h mm w) := by
    intro k n hk1 hn1
    exact am_ret_ok (rr := some .int) hx hb hr hlocks (fun hi => by cases hi) (fun h' c2 s2 g1 g2 g3 g4 => ⟨g4.2.2.1, g4.2.2.2⟩) (fun h' c2 s2 g1 g2 g4 => ⟨by omega, by omega⟩)
  generalize hQQ : (MQ below (am_Qc fx 0 (lk_KL h mm w) (am_Bw dC dI cA fx true AA ad ((h 0 0).toNat : Nat) (h 0 0) (h 0 1)) AA) args s 1 6 AA) = QQ at hRet ⊢
  have hCall : ∀ cp, am_CallOK p l e R s m args below meth c QQ dC dI cA fx AA 5 (h 0 0).toNat (h 0 0) true ad cp 12 cL_look (fun _ _ _ _ => False) := by
    intro cp pc idx id2 q2 raw as2 s2 h2 ls2 K2 hm2 hd2 hraw2 hlen2 hcat2 hlm2 hC2 hk2
    exact hC2.elim
  have blk : ∀ (k n : Nat), k ≤ 1 → n ≤ 6 → ∀ (Bs : List Instr) (pc e' : Nat) (ls st : List am_V) (h2 : am_H), am_dec 12 cL_look e' Bs pc = true → am_blk true false 0 (h 0 0) L xs (fun _ _ _ _ => False) (lk_KL h mm w) (am_G p l e R s m args below meth c QQ dC dI cA fx AA 5 (h 0 0).toNat (h 0 0) true ad (fun (g : am_H) (c2 s2 : Nat) => c2 = k ∧ s2 = n ∧ g 0 0 = h 0 0 ∧ g 0 1 = h 0 1)) e' Bs ls st h2 → am_G p l e R s m args below meth c QQ dC dI cA fx AA 5 (h 0 0).toNat (h 0 0) true ad (fun (g : am_H) (c2 s2 : Nat) => c2 = k ∧ s2 = n ∧ g 0 0 = h 0 0 ∧ g 0 1 = h 0 1) pc ls st h2 := fun k n hk hn Bs pc e' ls st h2 hd hb => am_blk_ok (X k n hk hn) (hCall _) (hRet k n hk hn) (fun _ _ _ _ h => h) e' Bs pc ls st h2 hd hb
  -- it has answered
  have h8 : (0 ≤ mm ∧ mm < h 20 15) → (0 ≤ w ∧ w ≤ 4) → am_G p l e R s m args below meth c QQ dC dI cA fx AA 5 (h 0 0).toNat (h 0 0) true ad (fun (g : am_H) (c2 s2 : Nat) => c2 = 1 ∧ s2 = 6 ∧ g 0 0 = h 0 0 ∧ g 0 1 = h 0 1) 8 [(2, 1), (0, mm), (0, w), (2, 93), (9, 0)] [(0, h (27 + w.toNat) mm.toNat), (0, 0), (2, 93)] h := by
    intro km kw
    refine blk 1 6 (by decide) (by decide) [.i2l, .lastore, .goto 21] 8 13 _ _ _ (by decide +kernel) ⟨by decide, ?_⟩
    exact blk 1 6 (by decide) (by decide) [.iconst 0, .ireturn] 21 23 _ _ _ (by decide +kernel) (Or.inl ⟨km, kw, rfl, rfl⟩)
  -- the call
  have h5 : am_G p l e R s m args below meth c QQ dC dI cA fx AA 5 (h 0 0).toNat (h 0 0) true ad (fun (g : am_H) (c2 s2 : Nat) => c2 = 0 ∧ s2 = 0 ∧ g 0 0 = h 0 0 ∧ g 0 1 = h 0 1) 5 [(2, 1), (0, mm), (0, w), (2, 93), (9, 0)] [(0, w), (0, mm), (2, 1), (0, 0), (2, 93)] h := by
    intro ad2 lsM H locs cells slots hJ hst
    obtain ⟨jP1, jD, jS, jok, jfin, jls, jlv, jln, jn0, jlim, ⟨c0, s0, _, _⟩, jad⟩ := hJ
    subst c0; subst s0
    have hsub : ∀ z, va_A (am_w cA fx ad2 h) H.size z → AA z := fun z hz => hz.elim (fun ⟨k, e, hk⟩ => jD.2 k _ hk) (fun hz => hAA2 z (Nat.le_trans jS.1 hz))
    have hpre : ∀ U : State, U.heap = H → s.WarmedH U.vm → lk_P dC dI cA fx (ex_E fx adV L xs lk_Y) h ad2 H.size sa1 sa2 U := fun U hU hW => ⟨⟨by rw [hU], by rw [hU]; exact jP1, jD.weaken (fun _ _ _ _ => trivial), by rw [hU]; exact hE.warm (ex_Ext lk_YE) hW jS hsub⟩, lk_Nwarm hW hNG, vk_R.warm hW hR1, vk_R.warm hW hR2⟩
    have hG : GoodIn am_TB (.code yX11_look cX11_look 3 (some .int) :: am_TB) := fun w' hw => by
      rcases List.mem_cons.mp hw with rfl | hw
      · exact am_TB_good _ (lk_tb (by simp))
      · exact am_TB_good _ hw
    have hpay := pay_in hts hG
    have hwg := am_w_get cA fx ad2 h (k := 1) (by decide) (by omega)
    have he : am_e cA fx ad2 h 1 = .inr (10, am_fs fx ad2 h 1 (am_cell 1).2.2 0) := by unfold am_e; rw [if_pos (by decide)]; rfl
    rw [he] at hwg
    obtain ⟨q10, hcl, hq10⟩ : ∃ q : vw_C, am_cl[10]? = some q ∧ q.1 = RX11 := ⟨_, rfl, rfl⟩
    have hrecv := va_recv hE.1 jP1 hcl hwg
    rw [hq10] at hrecv
    have hrun := vx_runV (C := RX11) (b := ad2 1) (As := [((0, mm) : am_V), (0, w)].map (am_tr fx ad2)) (rest := [((0, 0) : am_V), (2, 93)].map (am_tr fx ad2)) (g := F0 m 5 lsM ([(0, w), (0, mm), (2, 1), (0, 0), (2, 93)].map (am_tr fx ad2))) (p := p) (e := e) (R := R) (s := s) (m := m) (args := args) (below := below) (meth := meth) (c := c) (H := H) (locs := locs) (cells := 0) (slots := 0) (index := 7) (n := 2) (cc := cL_look) (nL := 5) (Ts := am_TB) (own := RL)
      ⟨hx, hb, hml, hown, hts⟩ (lk_look hl hL hxs (mm := mm) (w := w) (ad := ad2) (sz := H.size) (sa1 := sa1) (sa2 := sa2) (dC := dC) (dI := dI) (cA := cA) (fx := fx) (adV := adV) h15 hok hfin (fun v hv => hin v (by
        simp only [List.mem_cons, List.not_mem_nil, or_false] at hv ⊢
        rcases hv with h | h | h
        · exact Or.inl h
        · exact Or.inr (Or.inl h)
        · exact Or.inr (Or.inr (Or.inl h)))))
      ⟨⟨rfl, rfl, by rw [hR]; decide, by rw [hR]; decide, hpay, List.mem_cons_self, hts _ (lk_tb (by simp)), hts _ (lk_tb (by simp [yX11_look])), ⟨by decide, by decide⟩, fun sig hsg => by
        have k : (parseMethodDescriptor yX11_look.desc).map (fun d => d.parameters.length) = some 2 := by decide +kernel
        rw [hsg] at k
        exact (Option.some.inj k).symm, hts _ (lk_tb (by simp))⟩, hts _ (lk_tb (by simp)), hts _ (lk_tb (by simp))⟩
      ⟨lk_blind (ex_Ext lk_YE), hrecv, fun U hU hW => ⟨rfl, hpre U hU hW⟩⟩ rfl rfl jlv.1 rfl (lv_room (by rw [am_tr_cats]; decide)) (show decode cL_look 5 = .ok (.invokevirtual 7, 3) by decide +kernel) ⟨by rw [hR]; decide, by rw [hR]; decide⟩
    intro T hT XT
    rcases hrun T hT XT with ⟨v, st₀, t, T', L2, h0, X', hL2, e1, e2, ⟨⟨v2, g, ad3, hv2, hrt, hokv, ⟨hgh, km, kw, hvv⟩, b1, b2, b3, b4, b5, b6, b7⟩, hF⟩, st⟩ | ⟨q, st₀, t, T', L2, E, ce, h0, X', hL2, e1, e2, ⟨hEc, hP3, hF⟩, hce, hcv, hcls, st⟩
    · cases hv2
      obtain ⟨k1, k2, k3⟩ := vx_keep h0 e1 jS (fun z _ => hsub z) hsub hL2 hF
      rw [hgh] at b1 b2 hokv
      rw [← e1] at b1
      have hoks : ∀ z ∈ ([(0, 0), (2, 93)] : List am_V), am_okv (h 0 0) z := fun z hz => hst z (by
        simp only [List.mem_cons, List.not_mem_nil, or_false] at hz ⊢
        rcases hz with h | h
        · exact Or.inr (Or.inr (Or.inr (Or.inl h)))
        · exact Or.inr (Or.inr (Or.inr (Or.inr h))))
      have b5' : ∀ k : Nat, (k : Int) ≤ h 0 0 → ad3 k = ad2 k := fun k hk => b5 k (by omega)
      obtain ⟨t2, a1, c1⟩ := h8 km kw ad3 lsM T'.heap (locs ++ L2) (0 + 1) (0 + 6) ⟨b1, b2.weaken (fun k z _ hz => hsub _ hz), k3, jok, jfin, jls, by rw [am_lv_ad b5' jls]; exact jlv, jln, jn0, jlim, ⟨rfl, rfl, rfl, rfl⟩, fun k hk => by rw [b5 k (by omega)]; exact jad k hk⟩ (by rw [← hvv]; exact am_ok0 hoks hokv) T' rfl X'
      refine ⟨t2, st t2 ?_, c1⟩
      rw [hvv]
      show Steps p.tables e below (T'.setTop (F0 m 8 lsM (am_tr fx ad3 (0, h (27 + w.toNat) mm.toNat) :: ([(0, 0), (2, 93)] : List am_V).map (am_tr fx ad2)))) t2
      rw [← am_trs_ad hoks b5']
      exact a1
    · obtain ⟨k1, k2, k3⟩ := vx_keep h0 e1 jS (fun z _ => hsub z) hsub hL2 hF
      rw [← e1] at hP3 hce
      have fin : ∀ (x : Int) (pc : Nat), (x = 1 ∨ x = 2) → lk_KL h mm w (0, x) h → decode cL_look pc = .ok (.astore 4, 2) → decode cL_look (pc + 2) = .ok (.iconst x, 1) → decode cL_look (pc + 2 + 1) = .ok (.ireturn, 1) → W p l e R s m args below meth c T'.heap (locs ++ L2) (0 + 1) (0 + 6) QQ (F0 m pc lsM [.ref q]) := by
        intro x pc hx12 hK d1 d2 d3
        refine lv_astore hx hb (i := 4) (nL := 5) d1 jlv (by decide) rfl (fun ls' hl' => lv_iconst hx hb (n := x) (v := Int32.ofInt x) d2 rfl ?_)
        exact hRet 1 6 (by decide) (by decide) (pc + 2 + 1) .ireturn (0, x) [(9, 0), (9, 0), (9, 0), (9, 0), (9, 0)] h d3 (Or.inl ⟨rfl, rfl, Or.inl rfl⟩) (fun hi => by cases hi) hK ad2 ls' T'.heap (locs ++ L2) (0 + 1) (0 + 6) ⟨hP3, jD, k3, jok, jfin, fun v hv => (by
          have : v = (9, 0) := by
            simp only [List.mem_cons, List.not_mem_nil, or_false] at hv
            rcases hv with h | h | h | h | h <;> exact h
          rw [this]; exact am_okv_9 _ _), ⟨hl'.1, hl'.2.1, fun q hq => by cases hq⟩, rfl, jn0, jlim, ⟨rfl, rfl, rfl, rfl⟩, jad⟩ (lk_ok12 hx12)
      rcases hEc with ⟨rfl, hno⟩ | ⟨rfl, hyes, hno⟩
      · obtain ⟨t2, a1, c1⟩ := vx_catch (pc := 5) (ls := lsM) (rest := [((0, 0) : am_V), (2, 93)].map (am_tr fx ad2)) (own := RL) (name := lk_E1) (E := lk_E1) hown [] ⟨0, 10, 13, 13⟩ [⟨0, 10, 17, 15⟩] htab (fun z hz => by cases hz) (by decide) (by decide) (hts _ (lk_tb (by simp))) (va_Nw.use rfl (hNG _ (of_decide_eq_true (List.all_eq_true.mp lk_cast _ (by simp))))) hce hcv hcls (fin 1 13 (Or.inl rfl) (Or.inr (Or.inr ⟨hno, rfl, rfl⟩)) (by decide +kernel) (by decide +kernel) (by decide +kernel)) T' rfl X'
        exact ⟨t2, st.trans a1, c1⟩
      · obtain ⟨t2, a1, c1⟩ := vx_catch (pc := 5) (ls := lsM) (rest := [((0, 0) : am_V), (2, 93)].map (am_tr fx ad2)) (own := RL) (name := lk_E2) (E := lk_E2) hown [⟨0, 10, 13, 13⟩] ⟨0, 10, 17, 15⟩ [] htab (fun z hz => by
            simp only [List.mem_cons, List.not_mem_nil, or_false] at hz
            subst hz
            exact Or.inr ⟨by decide, lk_E1, hts _ (lk_tb (by simp)), hNc⟩) (by decide) (by decide) (hts _ (lk_tb (by simp))) (va_Nw.use rfl (hNG _ (of_decide_eq_true (List.all_eq_true.mp lk_cast _ (by simp))))) hce hcv hcls (fin 2 17 (Or.inr rfl) (Or.inr (Or.inl ⟨hyes, hno, rfl, rfl⟩)) (by decide +kernel) (by decide +kernel) (by decide +kernel)) T' rfl X'
        exact ⟨t2, st.trans a1, c1⟩
  have go : am_G p l e R s m args below meth c QQ dC dI cA fx AA 5 (h 0 0).toNat (h 0 0) true ad (fun (g : am_H) (c2 s2 : Nat) => c2 = 0 ∧ s2 = 0 ∧ g 0 0 = h 0 0 ∧ g 0 1 = h 0 1) 0 [(2, 1), (0, mm), (0, w), (2, 93), (9, 0)] [] h := by
    exact blk 0 0 (by decide) (by decide) [.aload 3, .iconst 0, .aload 0, .iload 1, .iload 2] 0 5 _ _ _ (by decide +kernel) h5
  have hJ : am_J s dC dI cA fx AA 5 (h 0 0).toNat (h 0 0) true ad (fun (g : am_H) (c2 s2 : Nat) => c2 = 0 ∧ s2 = 0 ∧ g 0 0 = h 0 0 ∧ g 0 1 = h 0 1) ad h [(2, 1), (0, mm), (0, w), (2, 93), (9, 0)] ((lg_sl ([((2, 1) : am_V), (0, mm), (0, w), (2, 93)].map (am_tr fx ad)) ++ List.replicate (5 - (lg_sl ([((2, 1) : am_V), (0, mm), (0, w), (2, 93)].map (am_tr fx ad))).length) Slot.unset).toArray) s.heap [] 0 0 := by
    refine ⟨hP, hD, va_S.rf, hok, fun _ => hfin, fun v hv => ?_, am_lv_ent (as := [((2, 1) : am_V), (0, mm), (0, w), (2, 93)]) (n := 5) (by show (4 : Nat) ≤ 5; decide), rfl, by omega, Int.le_refl _, ⟨rfl, rfl, rfl, rfl⟩, fun _ _ => rfl⟩
    by_cases h9 : v = (9, 0)
    · rw [h9]; exact am_okv_9 _ _
    · refine hin v ?_
      simp only [List.mem_cons, List.not_mem_nil, or_false] at hv ⊢
      rcases hv with h | h | h | h | h
      · exact Or.inl h
      · exact Or.inr (Or.inl h)
      · exact Or.inr (Or.inr (Or.inl h))
      · exact Or.inr (Or.inr (Or.inr h))
      · exact absurd h h9
  have hgo := go ad _ s.heap [] 0 0 hJ (fun v hv => by cases hv)
  rw [← haa, lg_entry_eq]
  rw [← haa] at hgo
  exact hgo
end
