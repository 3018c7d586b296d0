/-! lk3: StonesAlike.look: it answers or throws -/
abbrev lk_E1 : String := "java/lang/IndexOutOfBoundsException"
abbrev lk_E2 : String := "java/util/NoSuchElementException"
abbrev lk_RE : String := "java/lang/RuntimeException"
abbrev lk_ns : List String := ["java/lang/Exception"]
def lk_b7 : ByteArray := ⟨#[0x2a, 0x2b, 0xb7, 0x00, 0x07, 0xb1]⟩
def lk_b13 : ByteArray := ⟨#[0x2a, 0x2b, 0xb7, 0x00, 0x0d, 0xb1]⟩
def lk_W1 : List Cond := .classLink RX11 262 lk_E1 :: .initialized lk_E1 :: (lk_own RX11 266 lk_E1 lk_RE 7 lk_b7 lk_ns).filter vx_no
def lk_W2 : List Cond := .classLink RX11 284 lk_E2 :: .initialized lk_E2 :: (lk_own RX11 288 lk_E2 lk_RE 13 lk_b13 lk_ns).filter vx_no
def lk_isN (w : Cond) : Bool := match w with | .declares _ => true | .castable _ _ => true | _ => false
def lk_N : List Cond := (lk_W1 ++ lk_W2 ++ ([Cond.castable lk_E1 lk_E1, Cond.castable lk_E2 lk_E2] : List Cond)).filter lk_isN
theorem lk_in : (lk_W1 ++ lk_W2).all (fun w => decide (w ∈ lw_tbl) && (goodWord w || lk_isN w) && vx_ot w) = true := by decide +kernel
theorem lk_Nin : lk_N.all (fun w => decide (w ∈ lw_tbl)) = true := by decide +kernel
/-- the words of the throws, at a state where the tables' good words and these hold -/
theorem lk_at {args : Array Value} {s : State} (hts : ∀ w ∈ am_TB, w.before args s = true) (hN : ∀ w ∈ lk_N, va_Nw w s) : ∀ w ∈ lk_W1 ++ lk_W2, w.before args s = true := by
  intro w hw
  have h := List.all_eq_true.mp lk_in w hw
  simp only [Bool.and_eq_true, Bool.or_eq_true, decide_eq_true_eq] at h
  rcases h.1.2 with hg | hn
  · exact hts w (List.mem_filter.mpr ⟨h.1.1, hg⟩)
  · refine va_Nw.use ?_ (hN w (List.mem_filter.mpr ⟨List.mem_append_left _ hw, hn⟩))
    unfold lk_isN at hn
    split at hn
    · rfl
    · rfl
    · cases hn
theorem lk_ot : ∀ w ∈ lk_W1 ++ lk_W2, vx_ot w = true := fun w hw => by
  have h := List.all_eq_true.mp lk_in w hw
  simp only [Bool.and_eq_true] at h
  exact h.2
theorem lk_Nwarm {s U : State} (hW : s.WarmedH U.vm) (hN : ∀ w ∈ lk_N, va_Nw w s) : ∀ w ∈ lk_N, va_Nw w U := by
  intro w hw
  have hn := (List.mem_filter.mp hw).2
  have h := hN w hw
  unfold lk_isN at hn
  split at hn
  · exact va_Nw.warmD hW h
  · exact va_Nw.warmC hW h
  · cases hn
theorem lk_Nsame {s U : State} (hv : s.vm = U.vm) (hN : ∀ w ∈ lk_N, va_Nw w s) : ∀ w ∈ lk_N, va_Nw w U := by
  intro w hw
  have hn := (List.mem_filter.mp hw).2
  have h := hN w hw
  unfold lk_isN at hn
  split at hn
  · exact va_Nw.same rfl hv h
  · exact va_Nw.same rfl hv h
  · cases hn
def lk_Y : (Nat → Prop) → State → Heap → Prop := fun A U H => vx_Zq Bundle.tN "UNASSIGNED_STACK" Bundle.steD A U H ∧ vx_Zq Bundle.tN "SUPPRESSED_SENTINEL" Bundle.listD A U H
theorem lk_YE : am_Ext lk_Y := ⟨fun _ _ _ _ hvm h => ⟨h.1.moved hvm, h.2.moved hvm⟩, fun _ _ _ _ hq h => ⟨h.1.kept hq, h.2.kept hq⟩, fun _ _ _ _ hAB h => ⟨h.1.narrow hAB, h.2.narrow hAB⟩⟩
/-- what is known when look is called -/
def lk_P (dC : Nat → ClassId) (dI : Nat → Nat → Nat) (cA : Nat → ClassId) (fx : Nat → Nat → Nat) (EX : (Nat → Prop) → State → Heap → Prop) (h : am_H) (ad : Nat → Nat) (sz sa1 sa2 : Nat) (U : State) : Prop := am_Pw dC dI cA fx EX h ad sz U ∧ (∀ w ∈ lk_N, va_Nw w U) ∧ vk_R RX11 264 "no such man" sa1 U ∧ vk_R RX11 286 "no such thing of a man" sa2 U
/-- how it throws -/
def lk_X (dC : Nat → ClassId) (dI : Nat → Nat → Nat) (cA : Nat → ClassId) (fx : Nat → Nat → Nat) (h : am_H) (ad : Nat → Nat) (A : Nat → Prop) (mm w : Int) : String → State → State → Prop := fun E st t => ((E = lk_E1 ∧ ¬ (0 ≤ mm ∧ mm < h 20 15)) ∨ (E = lk_E2 ∧ (0 ≤ mm ∧ mm < h 20 15) ∧ ¬ (0 ≤ w ∧ w ≤ 4))) ∧ va_P (dC, dI) am_cl (am_w cA fx ad h) t.heap ∧ va_F A st t
def lk_K (h : am_H) (mm w : Int) : am_K := fun v g => g = h ∧ (0 ≤ mm ∧ mm < h 20 15) ∧ (0 ≤ w ∧ w ≤ 4) ∧ v = (0, h (27 + w.toNat) mm.toNat)
def lk_rm : Room := { frames := 12, cells := 1, slots := 6, locals := 600 }
section
variable {l : Launch} {dC : Nat → ClassId} {dI : Nat → Nat → Nat} {cA : Nat → ClassId} {fx : Nat → Nat → Nat} {L : Nat} {xs : Nat → Int} {adV : Nat → Nat}
set_option maxHeartbeats 4000000 in
theorem lk_look (hl : l.stackTraces = false) (hL : L ≤ 3072) (hxs : ∀ j, am_inI (xs j)) {h : am_H} {mm w : Int} {ad : Nat → Nat} {sz sa1 sa2 : Nat} (h15 : 0 ≤ h 20 15 ∧ h 20 15 ≤ 14) (hok : am_okh h) (hfin : am_fin h) (hin : ∀ v ∈ [((2, 1) : am_V), (0, mm), (0, w)], am_okv (h 0 0) v) :
    vx_Met l yX11_look (.code yX11_look cX11_look 3 (some .int) :: am_TB) lk_rm (va_Pc ([((2, 1) : am_V), (0, mm), (0, w)].map (am_tr fx ad)) (lk_P dC dI cA fx (ex_E fx adV L xs lk_Y) h ad sz sa1 sa2)) (am_Qc fx 0 (lk_K h mm w) (am_Bw dC dI cA fx true (va_A (am_w cA fx ad h) sz) ad ((h 0 0).toNat : Nat) (h 0 0) (h 0 1)) (va_A (am_w cA fx ad h) sz)) (lk_X dC dI cA fx h ad (va_A (am_w cA fx ad h) sz) mm w) 1 6 (va_A (am_w cA fx ad h) sz) := by
  refine vx_ofW (cc := cX11_look) (maxL := 3) (ret := some .int) (by decide) rfl ?_
  intro p e s m args below meth c s₁ B hml hnt hv
  obtain ⟨rfl, ⟨hsz, hP, hD0, hE⟩, hNG, hR1, hR2⟩ := hv
  subst hsz
  have hx := B.exec
  have hb := B.bytes
  have hr := B.returns
  have hlocks := B.notSynchronized
  have hts0 := atoms_spec (ws := .code yX11_look cX11_look 3 (some .int) :: am_TB) B.pre
  have hts : ∀ w' ∈ am_TB, w'.before ([((2, 1) : am_V), (0, mm), (0, w)].map (am_tr fx ad)).toArray s = true := fun w' hw => hts0 w' (List.mem_cons_of_mem _ hw)
  have hown : s.vm.findClass RX11 = some m.cls := findClass_of_methodNamed B.named
  have hD := hD0.self (sz := s.heap.size)
  have h00 := hok.1
  have hnn : (((h 0 0).toNat : Nat) : Int) = h 0 0 := by omega
  have X : am_Cx p (headSpec (.code yX11_look cX11_look 3 (some .int) :: am_TB) lk_rm).room s m ([((2, 1) : am_V), (0, mm), (0, w)].map (am_tr fx ad)).toArray meth c dC dI cA fx (va_A (am_w cA fx ad h) s.heap.size) 3 (h 0 0).toNat (h 0 0) (fun (g : am_H) (c2 s2 : Nat) => c2 = 0 ∧ s2 = 0 ∧ g 0 0 = h 0 0 ∧ g 0 1 = h 0 1) false 10 cX11_look (ex_E fx adV L xs lk_Y) L xs := by
    refine ⟨hx, hb, hml, hown, hts, hE, ex_Ext lk_YE, fun z hz => Or.inr hz, (fun hi => by cases hi), ⟨by decide, by decide⟩, ⟨?_, ?_, ?_⟩, ex_w, ex_x, hL, hxs⟩
    · intro g k j v c2 s2 hk hg
      rw [st_ne (show ¬ 0 = k by omega)]; exact hg
    · intro g n c2 s2 hn hlm hg
      obtain ⟨_, _, g3, _⟩ := hg
      omega
    · intro g g' mc c2 s2 h0 hlm e1 e2 hg
      obtain ⟨g1, g2, g3, g4⟩ := hg
      have : mc = 0 := by omega
      subst this
      refine ⟨by rw [g1]; exact Nat.zero_le _, by rw [g2]; simp, by simpa using g1, by rw [g2]; simp, by rw [e1]; simpa using g3, by rw [e2]; exact g4⟩
  have hRet : am_RetOK p l e (headSpec (.code yX11_look cX11_look 3 (some .int) :: am_TB) lk_rm).room s m ([((2, 1) : am_V), (0, mm), (0, w)].map (am_tr fx ad)).toArray below meth c (vx_MQ below (am_Qc fx 0 (lk_K h mm w) (am_Bw dC dI cA fx true (va_A (am_w cA fx ad h) s.heap.size) ad ((h 0 0).toNat : Nat) (h 0 0) (h 0 1)) (va_A (am_w cA fx ad h) s.heap.size)) (lk_X dC dI cA fx h ad (va_A (am_w cA fx ad h) s.heap.size) mm w) ([((2, 1) : am_V), (0, mm), (0, w)].map (am_tr fx ad)).toArray s 1 6 (va_A (am_w cA fx ad h) s.heap.size)) dC dI cA fx (va_A (am_w cA fx ad h) s.heap.size) 3 (h 0 0).toNat (h 0 0) true ad (fun (g : am_H) (c2 s2 : Nat) => c2 = 0 ∧ s2 = 0 ∧ g 0 0 = h 0 0 ∧ g 0 1 = h 0 1) false 0 cX11_look (lk_K h mm w) := by
    intro pc raw v ls2 g hd hmt hini hK ad2 lsM H locs cells slots hJ hokv
    refine vx_ret ?_
    exact am_ret_ok (rr := some .int) hx hb hr hlocks (fun hi => by cases hi) (fun h' c2 s2 g1 g2 g3 g4 => ⟨g4.2.2.1, g4.2.2.2⟩) (fun h' c2 s2 g1 g2 g4 => ⟨by omega, by omega⟩) pc raw v ls2 g hd hmt hini hK ad2 lsM H locs cells slots hJ hokv
  have hCall : am_CallOK p l e (headSpec (.code yX11_look cX11_look 3 (some .int) :: am_TB) lk_rm).room s m ([((2, 1) : am_V), (0, mm), (0, w)].map (am_tr fx ad)).toArray below meth c (vx_MQ below (am_Qc fx 0 (lk_K h mm w) (am_Bw dC dI cA fx true (va_A (am_w cA fx ad h) s.heap.size) ad ((h 0 0).toNat : Nat) (h 0 0) (h 0 1)) (va_A (am_w cA fx ad h) s.heap.size)) (lk_X dC dI cA fx h ad (va_A (am_w cA fx ad h) s.heap.size) mm w) ([((2, 1) : am_V), (0, mm), (0, w)].map (am_tr fx ad)).toArray s 1 6 (va_A (am_w cA fx ad h) s.heap.size)) dC dI cA fx (va_A (am_w cA fx ad h) s.heap.size) 3 (h 0 0).toNat (h 0 0) true ad (fun (g : am_H) (c2 s2 : Nat) => c2 = 0 ∧ s2 = 0 ∧ g 0 0 = h 0 0 ∧ g 0 1 = h 0 1) 10 cX11_look (am_C true L xs js_P0 2) := by
    intro pc idx id2 q2 raw as2 s2 h2 ls2 K2 hm2 hd2 hraw2 hlen2 hcat2 hlm2 hC2 hk2
    have hn99 := am_not99 hm2 (by decide)
    exact am_call_one X (S := 0) (d := 2) (by decide) (by decide) hm2 hd2 hraw2 hlen2 hcat2 hlm2 hn99 (fun ad2 sz2 ho2 hf2 hv2 => am_met (ex_Ext lk_YE) ex_w ex_x hL hxs js_P0_ok 2 id2 q2 as2 h2 K2 (am_mx_in hm2).2 hn99 hC2 ad2 sz2 ho2 hf2 hv2) hk2
  generalize hQQ : (vx_MQ below (am_Qc fx 0 (lk_K h mm w) (am_Bw dC dI cA fx true (va_A (am_w cA fx ad h) s.heap.size) ad ((h 0 0).toNat : Nat) (h 0 0) (h 0 1)) (va_A (am_w cA fx ad h) s.heap.size)) (lk_X dC dI cA fx h ad (va_A (am_w cA fx ad h) s.heap.size) mm w) ([((2, 1) : am_V), (0, mm), (0, w)].map (am_tr fx ad)).toArray s 1 6 (va_A (am_w cA fx ad h) s.heap.size)) = QQ at hRet hCall ⊢
  generalize hcp : (fun (g : am_H) (c2 s2 : Nat) => c2 = 0 ∧ s2 = 0 ∧ g 0 0 = h 0 0 ∧ g 0 1 = h 0 1) = cp at X hRet hCall
  have blk : ∀ (Bs : List Instr) (pc e' : Nat) (ls st : List am_V) (h2 : am_H), am_dec 10 cX11_look e' Bs pc = true → am_blk true false 0 (h 0 0) L xs (am_C true L xs js_P0 2) (lk_K h mm w) (am_G p l e (headSpec (.code yX11_look cX11_look 3 (some .int) :: am_TB) lk_rm).room s m ([((2, 1) : am_V), (0, mm), (0, w)].map (am_tr fx ad)).toArray below meth c QQ dC dI cA fx (va_A (am_w cA fx ad h) s.heap.size) 3 (h 0 0).toNat (h 0 0) true ad cp) e' Bs ls st h2 → am_G p l e (headSpec (.code yX11_look cX11_look 3 (some .int) :: am_TB) lk_rm).room s m ([((2, 1) : am_V), (0, mm), (0, w)].map (am_tr fx ad)).toArray below meth c QQ dC dI cA fx (va_A (am_w cA fx ad h) s.heap.size) 3 (h 0 0).toNat (h 0 0) true ad cp pc ls st h2 := fun Bs pc e' ls st h2 hd hb => am_blk_ok X hCall hRet (fun _ _ _ _ h => h) e' Bs pc ls st h2 hd hb
  have hW := lk_at hts hNG
  have hKN : va_D (va_A (am_w cA fx ad h) s.heap.size) (am_w cA fx ad h) := hD
  obtain ⟨hU, hSn⟩ : lk_Y (va_A (am_w cA fx ad h) s.heap.size) s s.heap := hE.2.2.2.2.2.2.2.2
  -- the world stays while one is thrown
  have thr : ∀ (E : String), ((E = lk_E1 ∧ ¬ (0 ≤ mm ∧ mm < h 20 15)) ∨ (E = lk_E2 ∧ (0 ≤ mm ∧ mm < h 20 15) ∧ ¬ (0 ≤ w ∧ w ≤ 4))) → ∀ (ad2 : Nat → Nat) (H : Heap) (locs : List Loc), (∀ k : Nat, (k : Int) ≤ ((h 0 0).toNat : Nat) → ad2 k = ad k) → va_P (dC, dI) am_cl (am_w cA fx ad2 h) H → va_S (va_A (am_w cA fx ad h) s.heap.size) s.heap H locs → ∀ t : State, s.vm.Alike t.vm → H.size ≤ t.heap.size → (∀ q : Nat, q < H.size → t.heap[q]? = H[q]?) → lk_X dC dI cA fx h ad (va_A (am_w cA fx ad h) s.heap.size) mm w E s t := by
    intro E hE' ad2 H locs had hP2 hS t hal hsz hkp
    have ew : am_w cA fx ad2 h = am_w cA fx ad h := am_w_ad hok (fun k hk => had k (by omega))
    rw [ew] at hP2
    refine ⟨hE', hP2.kept (fun k x hk => hkp x.1 ((hP2 k x hk).lt)), Nat.le_trans hS.1 hsz, fun q h1 h2 => ?_⟩
    rw [hkp q (Nat.lt_of_lt_of_le h1 hS.1)]
    exact hS.2.1 q h1 h2
  have t1 : ¬ (0 ≤ mm ∧ mm < h 20 15) → am_G p l e (headSpec (.code yX11_look cX11_look 3 (some .int) :: am_TB) lk_rm).room s m ([((2, 1) : am_V), (0, mm), (0, w)].map (am_tr fx ad)).toArray below meth c QQ dC dI cA fx (va_A (am_w cA fx ad h) s.heap.size) 3 (h 0 0).toNat (h 0 0) true ad cp 11 [(2, 1), (0, mm), (0, w)] [] h := by
    intro hno ad2 lsM H locs cells slots hJ hst
    obtain ⟨jP1, jD, jS, jok, jfin, jls, jlv, jln, jn0, jlim, jcp, jad⟩ := hJ
    rw [← hcp] at jcp
    obtain ⟨c0, s0, _, _⟩ := jcp
    subst c0; subst s0
    rw [← hQQ]
    exact lk_throwSW (own := RX11) (cls := lk_E1) (Y0 := lk_RE) (names := lk_ns) (ik := 262) (is := 264) (ic := 266) (k0 := 7) (by0 := lk_b7) (text := "no such man") (sa := sa1) (A := va_A (am_w cA fx ad h) s.heap.size) hx hb hl hown (by decide) (by decide) (by decide) (by decide +kernel) (by decide +kernel) (by decide +kernel) (by decide +kernel) (hW _ (List.mem_append_left _ List.mem_cons_self)) (hW _ (List.mem_append_left _ (List.mem_cons_of_mem _ List.mem_cons_self))) hR1 (fun w' hw => hW _ (List.mem_append_left _ (List.mem_cons_of_mem _ (List.mem_cons_of_mem _ hw)))) (fun w' hw => lk_ot _ (List.mem_append_left _ hw)) hU hSn jS (jlv.1.trans hml.symm) (by decide +kernel) (by decide +kernel) (by decide +kernel) (by decide +kernel) (by decide +kernel) (fun x hx => (hnt x hx).elim) (by decide) (Nat.le_of_ble_eq_true rfl) (by decide) (by decide) hlocks (thr lk_E1 (Or.inl ⟨rfl, hno⟩) ad2 H locs jad jP1 jS) jS.2.2 (by decide) (by decide)
  have t2 : (0 ≤ mm ∧ mm < h 20 15) → ¬ (0 ≤ w ∧ w ≤ 4) → am_G p l e (headSpec (.code yX11_look cX11_look 3 (some .int) :: am_TB) lk_rm).room s m ([((2, 1) : am_V), (0, mm), (0, w)].map (am_tr fx ad)).toArray below meth c QQ dC dI cA fx (va_A (am_w cA fx ad h) s.heap.size) 3 (h 0 0).toNat (h 0 0) true ad cp 106 [(2, 1), (0, mm), (0, w)] [] h := by
    intro hyes hno ad2 lsM H locs cells slots hJ hst
    obtain ⟨jP1, jD, jS, jok, jfin, jls, jlv, jln, jn0, jlim, jcp, jad⟩ := hJ
    rw [← hcp] at jcp
    obtain ⟨c0, s0, _, _⟩ := jcp
    subst c0; subst s0
    rw [← hQQ]
    exact lk_throwSW (own := RX11) (cls := lk_E2) (Y0 := lk_RE) (names := lk_ns) (ik := 284) (is := 286) (ic := 288) (k0 := 13) (by0 := lk_b13) (text := "no such thing of a man") (sa := sa2) (A := va_A (am_w cA fx ad h) s.heap.size) hx hb hl hown (by decide) (by decide) (by decide) (by decide +kernel) (by decide +kernel) (by decide +kernel) (by decide +kernel) (hW _ (List.mem_append_right _ List.mem_cons_self)) (hW _ (List.mem_append_right _ (List.mem_cons_of_mem _ List.mem_cons_self))) hR2 (fun w' hw => hW _ (List.mem_append_right _ (List.mem_cons_of_mem _ (List.mem_cons_of_mem _ hw)))) (fun w' hw => lk_ot _ (List.mem_append_right _ hw)) hU hSn jS (jlv.1.trans hml.symm) (by decide +kernel) (by decide +kernel) (by decide +kernel) (by decide +kernel) (by decide +kernel) (fun x hx => (hnt x hx).elim) (by decide) (Nat.le_of_ble_eq_true rfl) (by decide) (by decide) hlocks (thr lk_E2 (Or.inr ⟨rfl, hyes, hno⟩) ad2 H locs jad jP1 jS) jS.2.2 (by decide) (by decide)
  have go : am_G p l e (headSpec (.code yX11_look cX11_look 3 (some .int) :: am_TB) lk_rm).room s m ([((2, 1) : am_V), (0, mm), (0, w)].map (am_tr fx ad)).toArray below meth c QQ dC dI cA fx (va_A (am_w cA fx ad h) s.heap.size) 3 (h 0 0).toNat (h 0 0) true ad cp 0 [(2, 1), (0, mm), (0, w)] [] h := by
    refine blk [.aload 0, .getfield 643, .iload 1, .invokestatic 4098, .ifCond .ne 22] 0 11 _ _ _ (by decide +kernel) ?_
    show am_C true L xs js_P0 2 64 [(2, 20), (0, mm)] h _
    refine kX6_hasMan (d := 1) (fun hno => ⟨fun y => absurd rfl y, fun _ => t1 hno⟩) (fun hyes => ⟨fun _ => ?_, fun y => absurd (show ¬ (1 : Int) = 0 by decide) y⟩)
    obtain ⟨a, ha⟩ : ∃ a : Nat, mm = a := ⟨mm.toNat, by omega⟩
    have ret : ∀ k : Nat, k ≤ 4 → w = k → lk_K h mm w (0, h (27 + k) mm.toNat) h := fun k hk e => ⟨rfl, hyes, by omega, by rw [e, Int.toNat_natCast]⟩
    refine blk [.iload 2, .tableswitch 106 0 4 #[56, 66, 76, 86, 96]] 22 56 _ _ _ (by decide +kernel) ⟨fun y => t2 hyes (fun q => ?_), fun y => ?_, fun y => ?_, fun y => ?_, fun y => ?_, fun y => ?_, trivial⟩
    · have y2 : w < 0 ∨ 4 < w := y
      omega
    · exact blk [.aload 0, .getfield 643, .getfield 390, .iload 1, .iaload, .ireturn] 56 66 _ _ _ (by decide +kernel) ⟨⟨by omega, by show mm < 14; omega⟩, ret 0 (by decide) y⟩
    · exact blk [.aload 0, .getfield 643, .getfield 391, .iload 1, .iaload, .ireturn] 66 76 _ _ _ (by decide +kernel) ⟨⟨by omega, by show mm < 14; omega⟩, ret 1 (by decide) y⟩
    · exact blk [.aload 0, .getfield 643, .getfield 392, .iload 1, .iaload, .ireturn] 76 86 _ _ _ (by decide +kernel) ⟨⟨by omega, by show mm < 14; omega⟩, ret 2 (by decide) y⟩
    · exact blk [.aload 0, .getfield 643, .getfield 393, .iload 1, .iaload, .ireturn] 86 96 _ _ _ (by decide +kernel) ⟨⟨by omega, by show mm < 14; omega⟩, ret 3 (by decide) y⟩
    · exact blk [.aload 0, .getfield 643, .getfield 394, .iload 1, .iaload, .ireturn] 96 106 _ _ _ (by decide +kernel) ⟨⟨by omega, by show mm < 14; omega⟩, ret 4 (by decide) y⟩
  have hJ : am_J s dC dI cA fx (va_A (am_w cA fx ad h) s.heap.size) 3 (h 0 0).toNat (h 0 0) true ad cp ad h [(2, 1), (0, mm), (0, w)] ((lg_sl ([((2, 1) : am_V), (0, mm), (0, w)].map (am_tr fx ad)) ++ List.replicate (3 - (lg_sl ([((2, 1) : am_V), (0, mm), (0, w)].map (am_tr fx ad))).length) Slot.unset).toArray) s.heap [] 0 0 := by
    refine ⟨hP, hD, va_S.rf, hok, fun _ => hfin, hin, am_lv_ent (as := [((2, 1) : am_V), (0, mm), (0, w)]) (n := 3) (by show (3 : Nat) ≤ 3; decide), rfl, by omega, Int.le_refl _, by rw [← hcp]; exact ⟨rfl, rfl, rfl, rfl⟩, fun _ _ => rfl⟩
  have hgo := go ad _ s.heap [] 0 0 hJ (fun v hv => by cases hv)
  rw [lg_entry_eq]
  exact hgo
end
