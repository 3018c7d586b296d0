/-! ws3: a look, called by the law; the law from its entry -/
theorem lk_stk {g : am_H} {v : Int} {k : Nat} (hk : 1 ≤ k) : am_st g 0 1 v k = g k := funext fun j => am_st_nc (by omega)
theorem lk_fs {fx : Nat → Nat → Nat} {ad : Nat → Nat} {h h' : am_H} {k : Nat} (e : h k = h' k) : ∀ (fs : List (Nat × Nat)) (j : Nat), am_fs fx ad h k fs j = am_fs fx ad h' k fs j := by
  intro fs
  induction fs with
  | nil => intro j; rfl
  | cons f r ih =>
    intro j
    show _ :: am_fs fx ad h k r (j + 1) = _ :: am_fs fx ad h' k r (j + 1)
    rw [ih, e]
theorem lk_w01 {cA : Nat → ClassId} {fx : Nat → Nat → Nat} {ad : Nat → Nat} {g : am_H} {v : Int} : am_w cA fx ad (am_st g 0 1 v) = am_w cA fx ad g := by
  unfold am_w
  rw [show am_st g 0 1 v 0 0 = g 0 0 from st_nj (by decide)]
  refine List.map_congr_left fun i _ => ?_
  have e : am_st g 0 1 v (i + 1) = g (i + 1) := lk_stk (by omega)
  unfold am_e
  rw [lk_fs e, e]
theorem lk_okh01 {g : am_H} {v : Int} (h : am_okh g) : am_okh (am_st g 0 1 v) := by
  have e0 : am_st g 0 1 v 0 0 = g 0 0 := st_nj (by decide)
  refine ⟨by rw [e0]; exact h.1, by rw [e0]; exact h.2.1, fun k h1 h2 => ?_⟩
  rw [e0] at h2 ⊢
  rw [lk_stk h1]
  exact h.2.2 k h1 h2
theorem lk_fin01 {g : am_H} {v : Int} (h : am_fin g) : am_fin (am_st g 0 1 v) := by
  intro k j f h1 h2 h3 h4
  rw [lk_stk h1]
  exact h k j f h1 h2 h3 h4
theorem lk_ws1 : ws_in (Cond.exactly (Term.string RX11 264) "java/lang/String") = true ∧ ws_in (Cond.exactly (Term.string RX11 286) "java/lang/String") = true ∧ ws_in (Cond.not (Cond.castable lk_E2 lk_E1)) = true ∧ ws_in (Cond.isRef (.static Bundle.tN "UNASSIGNED_STACK" Bundle.steD)) = true ∧ ws_in (Cond.isRef (.static Bundle.tN "SUPPRESSED_SENTINEL" Bundle.listD)) = true := by decide +kernel
theorem lk_ws2 : ([.stringRef RX11 264 "no such man", .stringRef RX11 286 "no such thing of a man", .laysStatic Bundle.tN "UNASSIGNED_STACK" Bundle.steD, .laysStatic Bundle.tN "SUPPRESSED_SENTINEL" Bundle.listD, .initialized Bundle.tN] : List Cond).all (fun w => decide (w ∈ lw_tbl)) = true := by decide +kernel
theorem lk_tbl {w : Cond} (h : w ∈ ([.stringRef RX11 264 "no such man", .stringRef RX11 286 "no such thing of a man", .laysStatic Bundle.tN "UNASSIGNED_STACK" Bundle.steD, .laysStatic Bundle.tN "SUPPRESSED_SENTINEL" Bundle.listD, .initialized Bundle.tN] : List Cond)) : w ∈ lw_tbl := of_decide_eq_true (List.all_eq_true.mp lk_ws2 w h)
set_option maxHeartbeats 4000000 in
theorem ws_look {p : Program} {e : Env} {s : State} {m : MethodId} {below : List Frame} {meth : Method} {c : Code} (l : Launch) (hl : l.stackTraces = false) {b L : Nat} {xs : Nat → Int32} (hL : L ≤ 3072) (C0 : lw_At p s m meth c b L xs) {Q : State → Prop} (dC : Nat → ClassId) (dI : Nat → Nat → Nat) (cA : Nat → ClassId) (fx : Nat → Nat → Nat) (adV : Nat → Nat) (a0 : Nat → Nat) (X : am_Cx p room_1 s m #[Value.ref b] meth c dC dI cA fx (fun q => s.heap.size ≤ q) 7 0 93 lw_cp false 12 code (ex_E fx adV L (fun j => (xs j).toInt) lk_Y) L (fun j => (xs j).toInt)) : lk_OK p l e s m #[Value.ref b] below meth c Q dC dI cA fx (fun q => s.heap.size ≤ q) a0 := by
  obtain ⟨_, _, _, _, _, htl, _, _, _, hgv⟩ := id C0
  have hs : ∀ w ∈ ws_F, w.before #[Value.ref b] s = true := flat_of_before _ hgv
  obtain ⟨f1, f2, f3, f4, f5⟩ := lk_ws1
  have hin : ∀ {w : Cond}, ws_in w = true → w.before #[Value.ref b] s = true := fun h => hs _ (of_decide_eq_true h)
  obtain ⟨sa1, _, _, _, q1, -⟩ := Cond.exactly_spec (args := #[Value.ref b]) (first := s) (o := none) (s := s) (idx := []) (t := Term.string RX11 264) (cls := "java/lang/String") (hin f1)
  obtain ⟨sa2, _, _, _, q2, -⟩ := Cond.exactly_spec (args := #[Value.ref b]) (first := s) (o := none) (s := s) (idx := []) (t := Term.string RX11 286) (cls := "java/lang/String") (hin f2)
  have hR1 : vk_R RX11 264 "no such man" sa1 s := vk_R.of (A := #[Value.ref b]) (htl _ (lk_tbl (by simp))) q1
  have hR2 : vk_R RX11 286 "no such thing of a man" sa2 s := vk_R.of (A := #[Value.ref b]) (htl _ (lk_tbl (by simp))) q2
  have hNG : ∀ w ∈ lk_N, va_Nw w s := fun w hw => by
    have hb := htl w (of_decide_eq_true (List.all_eq_true.mp lk_Nin w hw))
    have hn := (List.mem_filter.mp hw).2
    unfold lk_isN at hn
    split at hn
    · exact va_Nw.of rfl hb
    · exact va_Nw.of rfl hb
    · cases hn
  have hNc : va_Nc lk_E2 lk_E1 s := va_Nc.of (hin f3)
  intro pc s' h ls K mm w hd hcat h15 h01 hk0 hk2 hk1 hk ad lsM H locs cells slots hJ hst
  obtain ⟨hx, hb, hml, hown, hts, hE, hExt, hA, hini, hrm, hroom, hw, hsx, hL', hxs⟩ := X
  obtain ⟨jP1, jD, jS, jok, jfin, jls, jlv, jln, jn0, jlim, jcp, jad⟩ := hJ
  obtain ⟨a1, a2, a3, a4, a5⟩ := jcp
  have hsub : ∀ z, va_A (am_w cA fx ad h) H.size z → s.heap.size ≤ z := fun z hz => hz.elim (fun ⟨k, e, hk⟩ => jD.2 k _ hk) (fun hz => Nat.le_trans jS.1 hz)
  have hpre : ∀ U : State, U.heap = H → s.WarmedH U.vm → lk_PL dC dI cA fx (ex_E fx adV L (fun j => (xs j).toInt) lk_Y) h ad H.size sa1 sa2 U := fun U hU hW => ⟨⟨⟨by rw [hU], by rw [hU]; exact jP1, jD.weaken (fun _ _ _ _ => trivial), by rw [hU]; exact hE.warm hExt hW jS hsub⟩, lk_Nwarm hW hNG, vk_R.warm hW hR1, vk_R.warm hW hR2⟩, va_Nc.moved hW.alike hNc⟩
  have hG : GoodIn am_TB lk_wsL := fun w' hw => by
    rcases List.mem_cons.mp hw with rfl | hw
    · exact am_TB_good _ (lk_tb (by simp))
    · exact am_TB_good _ hw
  have hin4 : ∀ v ∈ [((2, 1) : am_V), (0, mm), (0, w), (2, 93)], am_okv (h 0 0) v := fun v hv => hst v (by
    simp only [List.mem_cons, List.not_mem_nil, or_false] at hv ⊢
    rcases hv with h | h | h | h
    · exact Or.inr (Or.inr (Or.inr (Or.inl h)))
    · exact Or.inr (Or.inr (Or.inl h))
    · exact Or.inr (Or.inl h)
    · exact Or.inl h)
  have hoks : ∀ v ∈ s', am_okv (h 0 0) v := fun v hv => hst v (List.mem_cons_of_mem _ (List.mem_cons_of_mem _ (List.mem_cons_of_mem _ (List.mem_cons_of_mem _ hv))))
  have z1 := Nat.le_trans (am_sz_le (show (h 0 0).toNat ≤ 93 by omega)) lw_sz
  have r1 : room_1.cells = 601024 := rfl
  have r2 : room_1.slots = 7293034 := rfl
  have hcats : ((s'.map (am_tr fx ad)).map fun v => v.category).sum ≤ 8 := by rw [am_tr_cats]; exact hcat
  have hrun := vx_runSW (As := [((2, 1) : am_V), (0, mm), (0, w), (2, 93)].map (am_tr fx ad)) (rest := s'.map (am_tr fx ad)) (g := F0 m pc lsM (((2, 93) :: (0, w) :: (0, mm) :: (2, 1) :: s').map (am_tr fx ad))) (p := p) (l := l) (e := e) (R := room_1) (s := s) (m := m) (args := #[Value.ref b]) (below := below) (meth := meth) (c := c) (H := H) (locs := locs) (cells := cells) (slots := slots) (index := 143) (n := 4) (cc := code) (nL := 7) (Ts := am_TB) (own := RL) (hh := lk_hh)
    ⟨hx, hb, hml, hown, hts⟩ (lk_lawlook hl hL hxs (mm := mm) (w := w) (ad := ad) (sz := H.size) (sa1 := sa1) (sa2 := sa2) (dC := dC) (dI := dI) (cA := cA) (fx := fx) (adV := adV) h15 jok (jfin rfl) hin4)
    ⟨⟨rfl, rfl, by decide, by decide, pay_in hts hG, List.mem_cons_self⟩, hts _ (lk_tb (by simp)), hts _ (lk_tb (by simp [yL_look])), ⟨by decide, by decide⟩, fun sig hsg => by
        have k : (parseMethodDescriptor yL_look.desc).map (fun d => d.parameters.length) = some 4 := by decide +kernel
        rw [hsg] at k
        exact (Option.some.inj k).symm, hts _ (lk_tb (by simp)), hts _ (lk_tb (by simp))⟩
    ⟨lk_blindL hExt, fun U hU hW => ⟨rfl, hpre U hU hW⟩⟩ rfl rfl jlv.1 rfl (lv_room hcats) hd ⟨by omega, by omega⟩
  refine am_callx hrun jS (fun z _ => hsub z) hsub ?_
  intro v g ad' t H1 locs1 ht hvm hrt hokv hK hB hS1
  obtain ⟨b1, b2, b3, b4, b5, b6, b7⟩ := hB
  rw [ht] at b1
  have key : ∃ x : Int, v = (0, x) ∧ K (0, x) (am_st g 0 1 (h 0 1 + 1)) := by
    rcases hK with ⟨k1, k2, rfl, rfl⟩ | ⟨k1, k2, rfl, rfl⟩ | ⟨k1, rfl, rfl⟩
    · exact ⟨0, rfl, hk0 k1 k2⟩
    · exact ⟨2, rfl, hk2 k1 k2⟩
    · exact ⟨1, rfl, hk1 k1⟩
  obtain ⟨x, rfl, hKx⟩ := key
  have b5' : ∀ k : Nat, (k : Int) ≤ h 0 0 → ad' k = ad k := fun k hk => b5 k (by omega)
  have e0 : am_st g 0 1 (h 0 1 + 1) 0 0 = h 0 0 := by rw [st_nj (by decide)]; exact b6
  have hgo := hk x _ hKx ad' lsM H1 locs1 (cells + 1) (slots + 6) ⟨by rw [lk_w01]; exact b1, by rw [lk_w01]; exact b2.weaken (fun k z _ hz => hsub _ hz), hS1, lk_okh01 b3, fun _ => lk_fin01 (b4 rfl), fun v hv => by rw [e0]; exact jls v hv, by rw [am_lv_ad b5' jls]; exact jlv, jln, by rw [e0]; exact jn0, by rw [e0]; exact jlim, by
      unfold lw_cp
      rw [e0, st_at]
      refine ⟨?_, ?_, a3, ?_, ?_⟩ <;> omega, fun k hk => by rw [b5' k (by omega)]; exact jad k hk⟩ (by rw [e0]; exact am_ok0 hoks (by rw [← b6]; exact hokv))
  have hst2 : (am_ro fx ad' (0, x)).toList ++ s'.map (am_tr fx ad) = ((0, x) :: s').map (am_tr fx ad') := by
    rw [List.map_cons, am_trs_ad hoks b5']; rfl
  rw [hst2]
  exact hgo
theorem whole_start {p : Program} {e : Env} {s : State} {m : MethodId} {below : List Frame} {meth : Method} {c : Code} (l : Launch) (hfl : l.stackTraces = false) {b L : Nat} {xs : Nat → Int32} (hL : L ≤ 3072) (C0 : lw_At p s m meth c b L xs) : W p l e room_1 s m #[Value.ref b] below meth c s.heap [] 0 0 (lw_Z below #[Value.ref b] s) (entryFrame m ([Value.ref b] : List Value).toArray 7) := by
  obtain ⟨_, _, _, _, _, htl, _, _, _, hgv⟩ := id C0
  have hs : ∀ w ∈ ws_F, w.before #[Value.ref b] s = true := flat_of_before _ hgv
  obtain ⟨f1, f2, f3, f4, f5⟩ := lk_ws1
  have hin : ∀ {w : Cond}, ws_in w = true → w.before #[Value.ref b] s = true := fun h => hs _ (of_decide_eq_true h)
  exact ws_law l hL C0 lk_YE ⟨vx_Zqof (htl _ (lk_tbl (by simp))) (htl _ (lk_tbl (by simp))) (hin f4) (fun a ha => Nat.not_le.mpr ha), vx_Zqof (htl _ (lk_tbl (by simp))) (htl _ (lk_tbl (by simp))) (hin f5) (fun a ha => Nat.not_le.mpr ha)⟩ (fun dC dI cA fx adV a0 X => ws_look l hfl hL C0 dC dI cA fx adV a0 X)
