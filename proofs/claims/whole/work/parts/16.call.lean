/-! CALLS -/
theorem am_roomx {a b r : Nat} (h1 : a ≤ 40) (h2 : 59 + b ≤ r) : 8 + (a + 11) + b ≤ r := by omega
section AMK
variable {p : Program} {l : Launch} {e : Env} {R : Room} {s : State} {m : MethodId} {args : Array Value} {below : List Frame} {meth : Method} {c : Code} {Q : State → Prop}
variable {dC : Nat → ClassId} {dI : Nat → Nat → Nat} {cA : Nat → ClassId} {fx : Nat → Nat → Nat} {A : Nat → Prop} {nL n0 : Nat} {lim : Int} {a0 : Nat → Nat} {cp : am_H → Nat → Nat → Prop} {bm ini : Bool} {bz : Nat} {own : Nat} {b : ByteArray} {EX : (Nat → Prop) → State → Heap → Prop} {L : Nat} {xs : Nat → Int}
set_option maxHeartbeats 4000000 in
theorem am_call_one (X : am_Cx p R s m args meth c dC dI cA fx A nL n0 lim cp ini own b EX L xs) {S d : Nat} (hfr : d + S + 1 ≤ R.frames) (hlo : 59 + (60 * d + 60 * S) ≤ R.locals) {pc idx id : Nat} {q : am_M} {raw : Instr} {as s' : List am_V} {h : am_H} {ls : List am_V} {K : am_K} (hm : am_mx own idx = some (id, q)) (hd : decode b pc = .ok (raw, 3)) (hraw : (raw = .invokestatic idx ∧ q.2.2.2.2.2.1 = 0) ∨ (raw = .invokevirtual idx ∧ q.2.2.2.2.2.1 = 1) ∨ (raw = .invokespecial idx ∧ q.2.2.2.2.2.1 = 2)) (hlen : as.length = q.2.2.2.2.2.2.2.1 + (if q.2.2.2.2.2.1 = 0 then 0 else 1)) (hcat : am_cat s' ≤ 8) (hlm : q.2.2.2.2.2.1 = 2 → h 0 0 + (q.2.2.2.2.2.2.1 : Nat) ≤ lim) (h9 : ¬ q.2.2.2.2.1 = 99)
    (hM : ∀ (ad : Nat → Nat) (sz : Nat), am_okh h → (bm = true → am_fin h) → (∀ v ∈ as, am_okv (h 0 0) v) → (q.2.2.2.2.2.1 = 0 ∨ am_rcv q.2.2.2.2.1 as = true) ∧ am_Mt l dC dI cA fx bm EX S d q as h ad sz K)
    (hk : ∀ (v : am_V) (h' : am_H), am_rtok (am_rt q.2.2.2.1) v → K v h' → am_G p l e R s m args below meth c Q dC dI cA fx A nL n0 lim bm a0 cp (pc + 3) ls (if v.1 = 9 then s' else v :: s') h') : am_G p l e R s m args below meth c Q dC dI cA fx A nL n0 lim bm a0 cp pc ls (as.reverse ++ s') h := by
  intro ad lsM H locs cells slots hJ hst
  obtain ⟨hx, hb, hml, hown, hts, hE, hExt, hA, hini, hrm, hroom, hw, hsx, hL, hxs⟩ := X
  obtain ⟨hP, hD, hS, hok, hfin, hls, hlv, hln, hn0, hlim, hcp, had⟩ := _root_.id hJ
  have hoka : ∀ v ∈ as, am_okv (h 0 0) v := fun v hv => hst v (List.mem_append.mpr (Or.inl (List.mem_reverse.mpr hv)))
  have hoks : ∀ v ∈ s', am_okv (h 0 0) v := fun v hv => hst v (List.mem_append.mpr (Or.inr hv))
  obtain ⟨hrc, hMt⟩ := hM ad H.size hok hfin hoka
  unfold am_Mt at hMt
  obtain ⟨w1, w2, w3, w4, w5, w6, w7, w8, w9, w10, w11, w12, w13⟩ := am_words (am_mx_in hm).1 h9
  have hsub : ∀ z, va_A (am_w cA fx ad h) H.size z → A z := fun z hz => hz.elim (fun ⟨k, e, hk⟩ => hD.2 k _ hk) (fun hz => hA z (Nat.le_trans hS.1 hz))
  have hmc : h 0 0 + (q.2.2.2.2.2.2.1 : Nat) ≤ lim := by
    by_cases h2 : q.2.2.2.2.2.1 = 2
    · exact hlm h2
    · rw [w12 h2]; simpa using hlim
  have h00 := hok.1
  have hf : cells + q.2.2.2.2.2.2.1 ≤ R.cells ∧ slots + (am_sz ((h 0 0).toNat + q.2.2.2.2.2.2.1) - am_sz (h 0 0).toNat) ≤ R.slots := by
    have h5 := hroom.2.2 h (am_st h 0 0 (h 0 0 + (q.2.2.2.2.2.2.1 : Nat))) q.2.2.2.2.2.2.1 cells slots h00 hmc (am_st_eq _ _ _ _) (am_st_ne (by decide)) hcp
    exact ⟨h5.1, h5.2.1⟩
  have hcpk : ∀ h' : am_H, h' 0 0 = h 0 0 + (q.2.2.2.2.2.2.1 : Nat) → h' 0 1 = h 0 1 → cp h' (cells + q.2.2.2.2.2.2.1) (slots + (am_sz ((h 0 0).toNat + q.2.2.2.2.2.2.1) - am_sz (h 0 0).toNat)) := fun h' e1 e2 => (hroom.2.2 h h' q.2.2.2.2.2.2.1 cells slots h00 hmc e1 e2 hcp).2.2
  generalize hms : am_sz ((h 0 0).toNat + q.2.2.2.2.2.2.1) - am_sz (h 0 0).toNat = ms at hMt hf hcpk
  have kk : ∀ (v : am_V) (h' : am_H) (ad' : Nat → Nat) (t : State) (H1 : Heap) (locs1 : List Loc), t.heap = H1 → s.vm.Alike t.vm → am_rtok (am_rt q.2.2.2.1) v → am_okv (h' 0 0) v → K v h' → am_Bw dC dI cA fx bm (va_A (am_w cA fx ad h) H.size) ad (h 0 0) (h 0 0 + (q.2.2.2.2.2.2.1 : Nat)) (h 0 1) h' ad' t → va_S A s.heap H1 locs1 → W p l e R s m args below meth c H1 locs1 (cells + q.2.2.2.2.2.2.1) (slots + ms) Q (F0 m (pc + 3) lsM ((am_ro fx ad' v).toList ++ s'.map (am_tr fx ad))) := by
    intro v h' ad' t H1 locs1 ht hvm hrt hokv hK hB hS1
    obtain ⟨b1, b2, b3, b4, b5, b6, b7⟩ := hB
    rw [ht] at b1
    have hup : h 0 0 ≤ h' 0 0 := by rw [b6]; omega
    have hJ' : am_J s dC dI cA fx A nL n0 lim bm a0 cp ad' h' ls lsM H1 locs1 (cells + q.2.2.2.2.2.2.1) (slots + ms) := by
      refine ⟨b1, b2.weaken (fun k z _ hz => hsub _ hz), hS1, b3, b4, fun z hz => am_okv_up hup (hls z hz), ?_, hln, ?_, ?_, hcpk h' b6 b7, ?_⟩
      · rw [am_lv_ad b5 hls]; exact hlv
      · omega
      · rw [b6]; exact hmc
      · intro k hk2; rw [b5 k (by omega)]; exact had k hk2
    have hgo := hk v h' hrt hK ad' lsM H1 locs1 _ _ hJ' (by
      by_cases hv9 : v.1 = 9
      · rw [if_pos hv9]; exact fun z hz => am_okv_up hup (hoks z hz)
      · rw [if_neg hv9]; exact am_ok0 (fun z hz => am_okv_up hup (hoks z hz)) hokv)
    have hst2 : (am_ro fx ad' v).toList ++ s'.map (am_tr fx ad) = (if v.1 = 9 then s' else v :: s').map (am_tr fx ad') := by
      unfold am_ro
      by_cases hv9 : v.1 = 9
      · rw [if_pos hv9, if_pos hv9, am_trs_ad hoks b5]; rfl
      · rw [if_neg hv9, if_neg hv9, List.map_cons, am_trs_ad hoks b5]; rfl
    rw [hst2]
    exact hgo
  have hpre : ∀ U : State, U.heap = H → s.WarmedH U.vm → am_Pw dC dI cA fx EX h ad H.size U := fun U hU hW => ⟨by rw [hU], by rw [hU]; exact hP, hD.weaken (fun _ _ _ _ => trivial), by rw [hU]; exact hE.warm hExt hW hS hsub⟩
  have hblind : FrameBlind (va_Pc (as.map (am_tr fx ad)) (am_Pw dC dI cA fx EX h ad H.size)) := by
    intro a U g mk hz
    obtain ⟨z0, z1, z2, z3, z4⟩ := hz
    exact ⟨z0, z1, z2, z3, va_K.moved (u := U) (U := U.calling g mk a) (Vm.Alike.refl U.vm) z4.1, fun w hw => by
      rcases am_NW_is hw with ⟨a1, i1, b1, n1, d1, q1, rfl⟩ | ⟨a1, i1, x1, q1, rfl⟩
      · exact va_Nw.same rfl rfl (z4.2.1 _ hw)
      · exact va_Nw.same rfl rfl (z4.2.1 _ hw), hExt.1 _ U (U.calling g mk a) _ (Vm.Alike.refl U.vm) z4.2.2⟩
  have hG : GoodIn am_TB (.code q.1 q.2.1 q.2.2.1 q.2.2.2.1 :: am_TB) := fun w hw => by
    rcases List.mem_cons.mp hw with rfl | hw
    · exact am_TB_good _ w2
    · exact am_TB_good _ hw
  have hpay := pay_in hts hG
  have hpar : ∀ sig, parseMethodDescriptor q.1.desc = some sig → q.2.2.2.2.2.2.2.1 = sig.parameters.length := fun sig hsg => by
    rw [hsg] at w10
    exact (Option.some.inj w10).symm
  have hcats : ((s'.map (am_tr fx ad)).map fun v => v.category).sum ≤ 8 := by rw [am_tr_cats]; exact hcat
  have hr1 : (am_rm S d q.2.2.2.2.2.2.1 ms).frames + 1 ≤ R.frames := hfr
  have hr2 : 8 + (q.2.2.1 + 11) + (am_rm S d q.2.2.2.2.2.2.1 ms).locals ≤ R.locals := by
    exact am_roomx w1 hlo
  rcases hraw with ⟨rfl, hk0⟩ | ⟨rfl, hk1⟩ | ⟨rfl, hk2⟩
  · rw [if_pos hk0] at hlen
    have hst3 : (as.reverse ++ s').map (am_tr fx ad) = (as.map (am_tr fx ad)).reverse ++ s'.map (am_tr fx ad) := by rw [List.map_append, List.map_reverse]
    rw [hst3]
    rcases am_ml_link hm with hl | hl
    · exact am_callx (va_runS (As := as.map (am_tr fx ad)) (rest := s'.map (am_tr fx ad)) ⟨hx, hb, hml, hown, hts⟩ hMt ⟨⟨rfl, rfl, hr1, hr2, hpay, List.mem_cons_self, hts _ w2, hts _ w6, w9, hpar, hts _ hl⟩, hts _ (w3 hk0)⟩ ⟨hblind, fun U hU hW => ⟨rfl, hpre U hU hW⟩⟩ rfl (by simpa using hlen) hlv.1 rfl (lv_room hcats) hd hf) hS (fun z _ => hsub z) hsub kk
    · exact am_callx (va_runSN (As := as.map (am_tr fx ad)) (rest := s'.map (am_tr fx ad)) ⟨hx, hb, hml, hown, hts⟩ hMt ⟨⟨⟨rfl, rfl, hr1, hr2, hpay, List.mem_cons_self⟩, hts _ w2, hts _ w6, w9, hpar, va_Nw.use rfl (hE.2.1 _ hl)⟩, hts _ (w3 hk0), trivial⟩ ⟨hblind, fun U hU hW => ⟨rfl, hpre U hU hW⟩⟩ rfl (by simpa using hlen) hlv.1 rfl (lv_room hcats) hd hf) hS (fun z _ => hsub z) hsub kk
  · have hrv := hrc.resolve_left (by rw [hk1]; decide)
    cases as with
    | nil => cases hrv
    | cons v as =>
      unfold am_rcv at hrv
      simp only [decide_eq_true_eq] at hrv
      obtain ⟨v1, v2, v3, v4⟩ := hrv
      obtain ⟨t, o⟩ := v
      cases v1
      rw [if_neg (by rw [hk1]; decide)] at hlen
      have hov := (hoka (2, o) List.mem_cons_self).2.2.1 rfl
      have hst3 : (((2, o) :: as).reverse ++ s').map (am_tr fx ad) = (as.map (am_tr fx ad)).reverse ++ Value.ref (ad o.toNat) :: s'.map (am_tr fx ad) := by
        rw [List.map_append, List.map_reverse, List.map_cons, am_tr_2 fx ad v4]; simp
      have hst4 : ((2, o) :: as : List am_V).map (am_tr fx ad) = Value.ref (ad o.toNat) :: as.map (am_tr fx ad) := by rw [List.map_cons, am_tr_2 fx ad v4]
      rw [hst3]
      obtain ⟨⟨CN, CT, CM⟩, hcl, hlen2, hfd⟩ := am_cell_obj v2
      have hwg := am_w_get cA fx ad h (k := o.toNat) (by omega) (by omega)
      have he : am_e cA fx ad h o.toNat = .inr ((am_cell o.toNat).2.1, am_fs fx ad h o.toNat (am_cell o.toNat).2.2 0) := by unfold am_e; rw [if_pos v2]
      rw [he] at hwg
      have hrecv := va_recv hE.1 hP hcl hwg
      have hcn : (CN, CT, CM).1 = q.1.cls := by
        have v3' : (am_cell o.toNat).2.1 = q.2.2.2.2.1 := v3
        rw [v3'] at hcl
        rw [← am_R_of hcl, w7]
      rw [hcn] at hrecv
      rcases am_ml_link hm with hl | hl
      · exact am_callx (va_runV (C := q.1.cls) (As := as.map (am_tr fx ad)) (rest := s'.map (am_tr fx ad)) ⟨hx, hb, hml, hown, hts⟩ hMt ⟨⟨rfl, rfl, hr1, hr2, hpay, List.mem_cons_self, hts _ w2, hts _ w6, w9, hpar, hts _ hl⟩, hts _ (w4 (by rw [hk1]; decide)), hts _ (w5 hk1)⟩ ⟨hblind, hrecv, fun U hU hW => ⟨by rw [hst4], hpre U hU hW⟩⟩ rfl (by simp at hlen ⊢; omega) hlv.1 rfl (lv_room hcats) hd hf) hS (fun z _ => hsub z) hsub kk
      · exact am_callx (va_runVN (C := q.1.cls) (As := as.map (am_tr fx ad)) (rest := s'.map (am_tr fx ad)) ⟨hx, hb, hml, hown, hts⟩ hMt ⟨⟨⟨rfl, rfl, hr1, hr2, hpay, List.mem_cons_self⟩, hts _ w2, hts _ w6, w9, hpar, va_Nw.use rfl (hE.2.1 _ hl)⟩, hts _ (w4 (by rw [hk1]; decide)), hts _ (w5 hk1)⟩ ⟨hblind, hrecv, fun U hU hW => ⟨by rw [hst4], hpre U hU hW⟩⟩ rfl (by simp at hlen ⊢; omega) hlv.1 rfl (lv_room hcats) hd hf) hS (fun z _ => hsub z) hsub kk
  · have hrv := hrc.resolve_left (by rw [hk2]; decide)
    obtain ⟨hnm, hret⟩ := w11 hk2
    cases as with
    | nil => cases hrv
    | cons v as =>
      unfold am_rcv at hrv
      simp only [decide_eq_true_eq] at hrv
      obtain ⟨v1, v2, v3, v4⟩ := hrv
      obtain ⟨t, o⟩ := v
      cases v1
      rw [if_neg (by rw [hk2]; decide)] at hlen
      have hst3 : (((2, o) :: as).reverse ++ s').map (am_tr fx ad) = (as.map (am_tr fx ad)).reverse ++ Value.ref (ad o.toNat) :: s'.map (am_tr fx ad) := by
        rw [List.map_append, List.map_reverse, List.map_cons, am_tr_2 fx ad v4]; simp
      have hst4 : ((2, o) :: as : List am_V).map (am_tr fx ad) = Value.ref (ad o.toNat) :: as.map (am_tr fx ad) := by rw [List.map_cons, am_tr_2 fx ad v4]
      rw [hst3]
      rcases am_ml_link hm with hl | hl
      · exact am_callx (va_runI (As := as.map (am_tr fx ad)) (rest := s'.map (am_tr fx ad)) ⟨hx, hb, hml, hown, hts⟩ hMt ⟨⟨rfl, rfl, hr1, hr2, hpay, by rw [← hret]; exact List.mem_cons_self, by rw [← hret]; exact hts _ w2, hts _ w6, w9, hpar, hts _ hl⟩, hnm, hts _ (w4 (by rw [hk2]; decide))⟩ ⟨hblind, fun U hU hW => ⟨by rw [hst4], hpre U hU hW⟩⟩ rfl (by simp at hlen ⊢; omega) hlv.1 rfl (lv_room hcats) hd hf) hS (fun z _ => hsub z) hsub kk
      · exact am_callx (va_runIN (As := as.map (am_tr fx ad)) (rest := s'.map (am_tr fx ad)) ⟨hx, hb, hml, hown, hts⟩ hMt ⟨⟨⟨rfl, rfl, hr1, hr2, hpay, by rw [← hret]; exact List.mem_cons_self⟩, by rw [← hret]; exact hts _ w2, hts _ w6, w9, hpar, va_Nw.use rfl (hE.2.1 _ hl)⟩, hnm, hts _ (w4 (by rw [hk2]; decide))⟩ ⟨hblind, fun U hU hW => ⟨by rw [hst4], hpre U hU hW⟩⟩ rfl (by simp at hlen ⊢; omega) hlv.1 rfl (lv_room hcats) hd hf) hS (fun z _ => hsub z) hsub kk
/-- what must be known of the words' reader -/
def am_Prim (l : Launch) (dC : Nat → ClassId) (dI : Nat → Nat → Nat) (cA : Nat → ClassId) (fx : Nat → Nat → Nat) (bm : Bool) (EX : (Nat → Prop) → State → Heap → Prop) (S : Nat) (P : Nat → List am_V → am_H → am_K → Prop) : Prop :=
  ∀ (d : Nat) (q : am_M) (as : List am_V) (h : am_H) (ad : Nat → Nat) (sz : Nat) (K : am_K), am_me[am_lwid]? = some q → am_rcv q.2.2.2.2.1 as = true → P am_lwid as h K → am_okh h → (bm = true → am_fin h) → (∀ v ∈ as, am_okv (h 0 0) v) → am_Mt l dC dI cA fx bm EX S (d + 1) q as h ad sz K
theorem am_lw_kind : (match am_me[am_lwid]? with | some q => decide (q.2.2.2.2.2.1 = 1) | none => false) = true := by decide +kernel
end AMK
