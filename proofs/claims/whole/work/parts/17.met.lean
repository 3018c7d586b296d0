/-! EVERY METHOD'S CONTRACT out of the small machine -/
section AMN
variable {dC : Nat → ClassId} {dI : Nat → Nat → Nat} {cA : Nat → ClassId} {fx : Nat → Nat → Nat} {bm : Bool} {EX : (Nat → Prop) → State → Heap → Prop} {L : Nat} {xs : Nat → Int}
theorem am_rk_rt {r : Option FieldType} {bz : Nat} (h : am_rk r = bz) : (bz = 0 → r = some .int) ∧ (bz = 4 → r = some .boolean) ∧ (bz = 1 → r = some .long) ∧ (bz = 2 → (∃ n, r = some (.object n)) ∨ ∃ t, r = some (.array t)) ∧ (bz = 3 → r = none) := by
  subst h
  match r with
  | none => exact ⟨(fun h => by cases h), (fun h => by cases h), (fun h => by cases h), (fun h => by cases h), (fun _ => rfl)⟩
  | some .int => exact ⟨(fun _ => rfl), (fun h => by cases h), (fun h => by cases h), (fun h => by cases h), (fun h => by cases h)⟩
  | some .boolean => exact ⟨(fun h => by cases h), (fun _ => rfl), (fun h => by cases h), (fun h => by cases h), (fun h => by cases h)⟩
  | some .long => exact ⟨(fun h => by cases h), (fun h => by cases h), (fun _ => rfl), (fun h => by cases h), (fun h => by cases h)⟩
  | some (.object n) => exact ⟨(fun h => by cases h), (fun h => by cases h), (fun h => by cases h), fun _ => Or.inl ⟨n, rfl⟩, (fun h => by cases h)⟩
  | some (.array t) => exact ⟨(fun h => by cases h), (fun h => by cases h), (fun h => by cases h), fun _ => Or.inr ⟨t, rfl⟩, (fun h => by cases h)⟩
  | some .byte => exact ⟨(fun h => by cases h), (fun h => by cases h), (fun h => by cases h), (fun h => by cases h), (fun h => by cases h)⟩
  | some .char => exact ⟨(fun h => by cases h), (fun h => by cases h), (fun h => by cases h), (fun h => by cases h), (fun h => by cases h)⟩
  | some .short => exact ⟨(fun h => by cases h), (fun h => by cases h), (fun h => by cases h), (fun h => by cases h), (fun h => by cases h)⟩
  | some .float => exact ⟨(fun h => by cases h), (fun h => by cases h), (fun h => by cases h), (fun h => by cases h), (fun h => by cases h)⟩
  | some .double => exact ⟨(fun h => by cases h), (fun h => by cases h), (fun h => by cases h), (fun h => by cases h), (fun h => by cases h)⟩
set_option maxHeartbeats 4000000 in
theorem am_ret_ok {p : Program} {l : Launch} {e : Env} {R : Room} {s : State} {m : MethodId} {args : Array Value} {below : List Frame} {meth : Method} {c : Code} {A : Nat → Prop} {nL n0 mc ms : Nat} {lim n1 x1 : Int} {cp : am_H → Nat → Nat → Prop} {a0 : Nat → Nat} {ini : Bool} {b : ByteArray} {K : am_K} {rr : Option FieldType} (hx : p.tables.exec = Jvm.exec) (hb : c.code = b) (hr : meth.sig.returnType = rr) (hlocks : meth.locks = false) (hin : ini = true → rr = none) (hend : ∀ (h : am_H) (c2 s2 : Nat), (n0 : Int) ≤ h 0 0 → h 0 0 ≤ lim → (ini = true → h 0 0 = lim) → cp h c2 s2 → h 0 0 = n1 ∧ h 0 1 = x1) (hmm : ∀ (h : am_H) (c2 s2 : Nat), (n0 : Int) ≤ h 0 0 → h 0 0 ≤ lim → cp h c2 s2 → c2 ≤ mc ∧ s2 ≤ ms) :
    am_RetOK p l e R s m args below meth c (MQ below (am_Qc fx (am_rt rr) K (am_Bw dC dI cA fx bm A a0 n0 n1 x1) A) args s mc ms A) dC dI cA fx A nL n0 lim bm a0 cp ini (am_rk rr) b K := by
  intro pc raw v ls h hd hmt hini hK ad lsM H locs cells slots hJ hokv
  obtain ⟨hP, hD, hS, hok, hfin, hls, hlv, hln, hn0, hlim, hcp, had⟩ := id hJ
  obtain ⟨hm1, hm2⟩ := hmm h cells slots hn0 hlim hcp
  refine W.widen (k := mc) (n := ms) hm1 hm2 ?_
  have hrk := am_rk_rt (r := rr) rfl
  have hB : (ini = true → h 0 0 = lim) → ∀ t : State, t.heap = H → am_Bw dC dI cA fx bm A a0 n0 n1 x1 h ad t := fun hi t ht => ⟨by rw [ht]; exact hP, hD, hok, hfin, had, (hend h cells slots hn0 hlim hi hcp).1, (hend h cells slots hn0 hlim hi hcp).2⟩
  rcases hmt with ⟨rfl, hv, hz⟩ | ⟨rfl, hv, hz⟩ | ⟨rfl, hv, hz⟩ | ⟨rfl, hv, hz⟩
  · obtain ⟨t, x⟩ := v
    cases hv
    have hi : ini = true → h 0 0 = lim := fun hi => by
      rw [hin hi] at hz
      rcases hz with hz | ⟨hz, -⟩ <;> cases hz
    show W p l e R s m args below meth c H locs mc ms _ (F0 m pc lsM [.int (Int32.ofInt x)])
    rcases hz with hz | ⟨hz, hz2⟩
    · have hrr := hrk.1 hz
      exact W.iret hx hb (hr.trans hrr) (fun t ht hW => ⟨⟨(0, x), h, ad, rfl, by rw [hrr]; rfl, hokv, hK, hB hi t ht⟩, hS.F ht⟩) hS.2.2 hd (hlocks := hlocks)
    · have hrr := hrk.2.1 hz
      exact W.zret (ty := .boolean) hx hb (hr.trans hrr) (by rcases (show x = 0 ∨ x = 1 by omega) with rfl | rfl <;> rfl) (fun t ht hW => ⟨⟨(0, x), h, ad, rfl, by rw [hrr]; rfl, hokv, hK, hB hi t ht⟩, hS.F ht⟩) hS.2.2 hd (hlocks := hlocks)
  · obtain ⟨t, x⟩ := v
    cases hv
    have hi : ini = true → h 0 0 = lim := fun hi => by rw [hin hi] at hz; cases hz
    have hrr := hrk.2.2.1 hz
    show W p l e R s m args below meth c H locs mc ms _ (F0 m pc lsM [.long (Int64.ofInt x)])
    exact W.lret hx hb (hr.trans hrr) (fun t ht hW => ⟨⟨(1, x), h, ad, rfl, by rw [hrr]; rfl, hokv, hK, hB hi t ht⟩, hS.F ht⟩) hS.2.2 hd (hlocks := hlocks)
  · have hi : ini = true → h 0 0 = lim := fun hi => by rw [hin hi] at hz; cases hz
    have h9 : ¬ v.1 = 9 := by intro q; rw [q] at hv; cases hv
    have hro : am_ro fx ad v = some (am_tr fx ad v) := by unfold am_ro; rw [if_neg h9]
    rw [hro]
    show W p l e R s m args below meth c H locs mc ms _ (F0 m pc lsM [am_tr fx ad v])
    have hrt2 : am_rt rr = 2 ∧ ∃ rt, rr = some rt ∧ ((∃ n, rt = .object n) ∨ ∃ t, rt = .array t) := by
      rcases hrk.2.2.2.1 hz with ⟨n, hn⟩ | ⟨n, hn⟩
      · exact ⟨by rw [hn]; rfl, _, hn, Or.inl ⟨n, rfl⟩⟩
      · exact ⟨by rw [hn]; rfl, _, hn, Or.inr ⟨n, rfl⟩⟩
    obtain ⟨e2, rt, hrr, hrt⟩ := hrt2
    exact W.aret hx hb (hr.trans hrr) hrt (am_tr_r fx ad hv) (fun t ht hW => ⟨⟨v, h, ad, by rw [hro], by rw [e2]; exact hv, hokv, hK, hB hi t ht⟩, hS.F ht⟩) hS.2.2 hd (hlocks := hlocks)
  · subst hv
    have hrr := hrk.2.2.2.2 hz
    show W p l e R s m args below meth c H locs mc ms _ (F0 m pc lsM [])
    exact W.vret hx hb (hr.trans hrr) (fun t ht hW => ⟨⟨(9, 0), h, ad, rfl, by rw [hrr]; rfl, hokv, hK, hB (fun hi => hini hi rfl) t ht⟩, hS.F ht⟩) hS.2.2 hd (hlocks := hlocks)
set_option maxHeartbeats 4000000 in
/-- THE CONTRACTS: what am_C says of a call, the machine does -/
theorem am_met {l : Launch} (hExt : am_Ext EX) (hw : ∀ (A : Nat → Prop) (U : State) (H : Heap), EX A U H → ∀ i j : Nat, i < 12 → j < 4 → va_OF RX9 (["role", "slot", "low", "high"].getD j "") "I" (.int (Int32.ofInt (am_word i j))) (fx 4 i) A U H) (hsx : ∀ (A : Nat → Prop) (U : State) (H : Heap), EX A U H → va_X (fx 7 0) L (fun j => Int32.ofInt (xs j)) U H ∧ ¬ A (fx 7 0)) (hL : L ≤ 3072) (hxs : ∀ j, am_inI (xs j)) {P : Nat → List am_V → am_H → am_K → Prop} {S : Nat} (hPr : am_Prim l dC dI cA fx bm EX S P) : ∀ (d id : Nat) (q : am_M) (as : List am_V) (h : am_H) (K : am_K), am_me[id]? = some q → ¬ q.2.2.2.2.1 = 99 → am_C bm L xs P d id as h K → ∀ (ad : Nat → Nat) (sz : Nat), am_okh h → (bm = true → am_fin h) → (∀ v ∈ as, am_okv (h 0 0) v) → (q.2.2.2.2.2.1 = 0 ∨ am_rcv q.2.2.2.2.1 as = true) ∧ am_Mt l dC dI cA fx bm EX S d q as h ad sz K := by
  intro d
  induction d with
  | zero => intro id q as h K _ _ hC; exact hC.elim
  | succ d ih =>
    intro id q as h K hq h9 hC ad sz hok hfin hoka
    unfold am_C at hC
    rw [am_nth_get, hq] at hC
    dsimp only at hC
    rw [if_neg h9] at hC
    by_cases hrc : (q.2.2.2.2.2.1 == 0 || am_rcv q.2.2.2.2.1 as) = true
    · rw [if_pos hrc] at hC
      have hrc2 : q.2.2.2.2.2.1 = 0 ∨ am_rcv q.2.2.2.2.1 as = true := by simpa using hrc
      refine ⟨hrc2, ?_⟩
      by_cases hid : id = am_lwid
      · rw [if_pos hid] at hC
        subst hid
        have hk1 : q.2.2.2.2.2.1 = 1 := by
          have := am_lw_kind
          rw [hq] at this
          simpa using this
        exact hPr d q as h ad sz K hq (hrc2.resolve_left (by rw [hk1]; decide)) hC hok hfin hoka
      · rw [if_neg hid] at hC
        by_cases hsp : q.2.2.1 < (am_spl as).length
        · rw [if_pos hsp] at hC; exact hC.elim
        · rw [if_neg hsp] at hC
          have hqm := List.mem_of_getElem? hq
          obtain ⟨w1, w2, w3, w4, w5, w6, w7, w8, w9, w10, w11, w12, w13⟩ := am_words hqm h9
          have ho12 : ¬ q.2.2.2.2.1 = 12 := by simpa using List.all_eq_true.mp am_no12 q hqm
          have h00 := hok.1
          unfold am_Mt
          refine va_MetF (cc := q.2.1) (maxL := q.2.2.1) (ret := q.2.2.2.1) w8 rfl ?_
          intro p e s m args below meth c s₁ B hml hv
          obtain ⟨rfl, hsz, hP, hD0, hE⟩ := hv
          subst hsz
          have hx := B.exec
          have hb := B.bytes
          have hr := B.returns
          have hts0 := atoms_spec (ws := .code q.1 q.2.1 q.2.2.1 q.2.2.2.1 :: am_TB) B.pre
          have hts : ∀ w ∈ am_TB, w.before (as.map (am_tr fx ad)).toArray s = true := fun w hw => hts0 w (List.mem_cons_of_mem _ hw)
          have hown : s.vm.findClass (am_R q.2.2.2.2.1) = some m.cls := by rw [w7]; exact findClass_of_methodNamed B.named
          have hlocks := B.notSynchronized
          have hnam : meth.name = q.1.name := (name_of_methodNamed B.named B.method).1
          have hD := hD0.self (sz := s.heap.size)
          have hlimn : (h 0 0 + (q.2.2.2.2.2.2.1 : Nat)).toNat - (h 0 0).toNat ≤ q.2.2.2.2.2.2.1 := by omega
          have hlimz : (h 0 0 + (q.2.2.2.2.2.2.1 : Nat)).toNat = (h 0 0).toNat + q.2.2.2.2.2.2.1 := by omega
          have hnn : (((h 0 0).toNat : Nat) : Int) = h 0 0 := by omega
          have X : am_Cx p (headSpec (.code q.1 q.2.1 q.2.2.1 q.2.2.2.1 :: am_TB) (am_rm S (d + 1) q.2.2.2.2.2.2.1 (am_sz ((h 0 0).toNat + q.2.2.2.2.2.2.1) - am_sz (h 0 0).toNat))).room s m (as.map (am_tr fx ad)).toArray meth c dC dI cA fx (va_A (am_w cA fx ad h) s.heap.size) q.2.2.1 (h 0 0).toNat (h 0 0 + (q.2.2.2.2.2.2.1 : Nat)) (fun (g : am_H) (c2 s2 : Nat) => c2 = (g 0 0).toNat - (h 0 0).toNat ∧ s2 = am_sz (g 0 0).toNat - am_sz (h 0 0).toNat ∧ (h 0 0).toNat ≤ (g 0 0).toNat ∧ g 0 1 = h 0 1) (q.2.2.2.2.2.1 == 2) q.2.2.2.2.1 q.2.1 EX L xs := by
            refine ⟨hx, hb, hml, hown, hts, hE, hExt, fun z hz => Or.inr hz, fun hi => ?_, ⟨?_, ?_⟩, ⟨?_, ?_, ?_⟩, hw, hsx, hL, hxs⟩
            · rw [hnam]; exact (w11 (by simpa using hi)).1
            · show 1 ≤ d + 1 + S; omega
            · show 20 ≤ 60 * (d + 1) + 60 * S; omega
            · intro g k j v c2 s2 hk hg
              have e0 : am_st g k j v 0 0 = g 0 0 := am_st_nc (by omega)
              have e1 : am_st g k j v 0 1 = g 0 1 := am_st_nc (by omega)
              rw [e0, e1]; exact hg
            · intro g n c2 s2 hn hl hg
              have h1 : am_sz (n + 1) ≤ am_sz ((h 0 0).toNat + q.2.2.2.2.2.2.1) := am_sz_le (by omega)
              have h3 : am_sz (n + 1) = am_sz n + am_csz (n + 1) := rfl
              rw [hn] at hg
              rw [show (n : Int).toNat = n by omega] at hg
              have h2 : am_sz (h 0 0).toNat ≤ am_sz n := am_sz_le (by omega)
              refine ⟨?_, ?_, ?_⟩
              · show c2 + 1 ≤ q.2.2.2.2.2.2.1; omega
              · show s2 + am_csz (n + 1) ≤ am_sz ((h 0 0).toNat + q.2.2.2.2.2.2.1) - am_sz (h 0 0).toNat; omega
              · dsimp only
                rw [am_st_eq, show am_st g 0 0 ((n : Int) + 1) 0 1 = g 0 1 from am_st_ne (by decide), show ((n : Int) + 1).toNat = n + 1 by omega]
                refine ⟨by omega, by omega, by omega, hg.2.2.2⟩
            · intro g g' mc c2 s2 h0 hl e1 e2 hg
              have h1 : am_sz ((g 0 0).toNat + mc) ≤ am_sz ((h 0 0).toNat + q.2.2.2.2.2.2.1) := am_sz_le (by omega)
              have h2 : am_sz (h 0 0).toNat ≤ am_sz (g 0 0).toNat := am_sz_le (by omega)
              have h3 : am_sz (g 0 0).toNat ≤ am_sz ((g 0 0).toNat + mc) := am_sz_le (by omega)
              refine ⟨?_, ?_, ?_⟩
              · show c2 + mc ≤ q.2.2.2.2.2.2.1; omega
              · show s2 + (am_sz ((g 0 0).toNat + mc) - am_sz (g 0 0).toNat) ≤ am_sz ((h 0 0).toNat + q.2.2.2.2.2.2.1) - am_sz (h 0 0).toNat; omega
              · dsimp only
                rw [e1, e2, show (g 0 0 + (mc : Nat)).toNat = (g 0 0).toNat + mc by omega]
                refine ⟨by omega, by omega, by omega, hg.2.2.2⟩
          have hCall : am_CallOK p l e (headSpec (.code q.1 q.2.1 q.2.2.1 q.2.2.2.1 :: am_TB) (am_rm S (d + 1) q.2.2.2.2.2.2.1 (am_sz ((h 0 0).toNat + q.2.2.2.2.2.2.1) - am_sz (h 0 0).toNat))).room s m (as.map (am_tr fx ad)).toArray below meth c (MQ below (am_Qc fx (am_rt q.2.2.2.1) K (am_Bw dC dI cA fx bm (va_A (am_w cA fx ad h) s.heap.size) ad ((h 0 0).toNat : Nat) (h 0 0 + (q.2.2.2.2.2.2.1 : Nat)) (h 0 1)) (va_A (am_w cA fx ad h) s.heap.size)) (as.map (am_tr fx ad)).toArray s q.2.2.2.2.2.2.1 (am_sz ((h 0 0).toNat + q.2.2.2.2.2.2.1) - am_sz (h 0 0).toNat) (va_A (am_w cA fx ad h) s.heap.size)) dC dI cA fx (va_A (am_w cA fx ad h) s.heap.size) q.2.2.1 (h 0 0).toNat (h 0 0 + (q.2.2.2.2.2.2.1 : Nat)) bm ad (fun (g : am_H) (c2 s2 : Nat) => c2 = (g 0 0).toNat - (h 0 0).toNat ∧ s2 = am_sz (g 0 0).toNat - am_sz (h 0 0).toNat ∧ (h 0 0).toNat ≤ (g 0 0).toNat ∧ g 0 1 = h 0 1) q.2.2.2.2.1 q.2.1 (am_C bm L xs P d) := by
            intro pc idx id2 q2 raw as2 s2 h2 ls2 K2 hm2 hd2 hraw2 hlen2 hcat2 hlm2 hC2 hk2
            have hn99 := am_not99 hm2 ho12
            exact am_call_one X (S := S) (d := d) (by show d + S + 1 ≤ d + 1 + S; omega) (by show 59 + (60 * d + 60 * S) ≤ 60 * (d + 1) + 60 * S; omega) hm2 hd2 hraw2 hlen2 hcat2 hlm2 hn99 (fun ad2 sz2 ho2 hf2 hv2 => ih id2 q2 as2 h2 K2 (am_mx_in hm2).2 hn99 hC2 ad2 sz2 ho2 hf2 hv2) hk2
          have hRet : am_RetOK p l e (headSpec (.code q.1 q.2.1 q.2.2.1 q.2.2.2.1 :: am_TB) (am_rm S (d + 1) q.2.2.2.2.2.2.1 (am_sz ((h 0 0).toNat + q.2.2.2.2.2.2.1) - am_sz (h 0 0).toNat))).room s m (as.map (am_tr fx ad)).toArray below meth c (MQ below (am_Qc fx (am_rt q.2.2.2.1) K (am_Bw dC dI cA fx bm (va_A (am_w cA fx ad h) s.heap.size) ad ((h 0 0).toNat : Nat) (h 0 0 + (q.2.2.2.2.2.2.1 : Nat)) (h 0 1)) (va_A (am_w cA fx ad h) s.heap.size)) (as.map (am_tr fx ad)).toArray s q.2.2.2.2.2.2.1 (am_sz ((h 0 0).toNat + q.2.2.2.2.2.2.1) - am_sz (h 0 0).toNat) (va_A (am_w cA fx ad h) s.heap.size)) dC dI cA fx (va_A (am_w cA fx ad h) s.heap.size) q.2.2.1 (h 0 0).toNat (h 0 0 + (q.2.2.2.2.2.2.1 : Nat)) bm ad (fun (g : am_H) (c2 s2 : Nat) => c2 = (g 0 0).toNat - (h 0 0).toNat ∧ s2 = am_sz (g 0 0).toNat - am_sz (h 0 0).toNat ∧ (h 0 0).toNat ≤ (g 0 0).toNat ∧ g 0 1 = h 0 1) (q.2.2.2.2.2.1 == 2) (am_rk q.2.2.2.1) q.2.1 K := by
            refine am_ret_ok hx hb hr hlocks (fun hi => (w11 (by simpa using hi)).2) (fun h' c2 s2 g1 g2 g3 g4 => ⟨?_, g4.2.2.2⟩) (fun h' c2 s2 g1 g2 g4 => ?_)
            · by_cases hk2 : q.2.2.2.2.2.1 = 2
              · exact g3 (by rw [hk2]; rfl)
              · rw [w12 hk2] at g2 ⊢
                omega
            · have h1 : am_sz (h' 0 0).toNat ≤ am_sz ((h 0 0).toNat + q.2.2.2.2.2.2.1) := am_sz_le (by omega)
              obtain ⟨g5, g6, g7, g8⟩ := g4
              exact ⟨by omega, by omega⟩
          have hG := hC (am_G p l e (headSpec (.code q.1 q.2.1 q.2.2.1 q.2.2.2.1 :: am_TB) (am_rm S (d + 1) q.2.2.2.2.2.2.1 (am_sz ((h 0 0).toNat + q.2.2.2.2.2.2.1) - am_sz (h 0 0).toNat))).room s m (as.map (am_tr fx ad)).toArray below meth c (MQ below (am_Qc fx (am_rt q.2.2.2.1) K (am_Bw dC dI cA fx bm (va_A (am_w cA fx ad h) s.heap.size) ad ((h 0 0).toNat : Nat) (h 0 0 + (q.2.2.2.2.2.2.1 : Nat)) (h 0 1)) (va_A (am_w cA fx ad h) s.heap.size)) (as.map (am_tr fx ad)).toArray s q.2.2.2.2.2.2.1 (am_sz ((h 0 0).toNat + q.2.2.2.2.2.2.1) - am_sz (h 0 0).toNat) (va_A (am_w cA fx ad h) s.heap.size)) dC dI cA fx (va_A (am_w cA fx ad h) s.heap.size) q.2.2.1 (h 0 0).toNat (h 0 0 + (q.2.2.2.2.2.2.1 : Nat)) bm ad (fun (g : am_H) (c2 s2 : Nat) => c2 = (g 0 0).toNat - (h 0 0).toNat ∧ s2 = am_sz (g 0 0).toNat - am_sz (h 0 0).toNat ∧ (h 0 0).toNat ≤ (g 0 0).toNat ∧ g 0 1 = h 0 1)) (fun T pc e' B2 ls st h2 hT hd hb2 => am_blk_ok X hCall hRet hT e' B2 pc ls st h2 hd hb2)
          have hJ : am_J s dC dI cA fx (va_A (am_w cA fx ad h) s.heap.size) q.2.2.1 (h 0 0).toNat (h 0 0 + (q.2.2.2.2.2.2.1 : Nat)) bm ad (fun (g : am_H) (c2 s2 : Nat) => c2 = (g 0 0).toNat - (h 0 0).toNat ∧ s2 = am_sz (g 0 0).toNat - am_sz (h 0 0).toNat ∧ (h 0 0).toNat ≤ (g 0 0).toNat ∧ g 0 1 = h 0 1) ad h (am_ent as q.2.2.1) ((lg_sl (as.map (am_tr fx ad)) ++ List.replicate (q.2.2.1 - (lg_sl (as.map (am_tr fx ad))).length) Slot.unset).toArray) s.heap [] 0 0 := by
            refine ⟨hP, hD, va_S.rf, hok, hfin, am_ent_ok hoka, am_lv_ent (by omega), am_ent_len (by omega), by omega, by omega, ⟨by omega, by omega, Nat.le_refl _, rfl⟩, fun _ _ => rfl⟩
          have hgo := hG ad _ s.heap [] 0 0 hJ (fun v hv => by cases hv)
          rw [lg_entry_eq]
          rw [hnn] at hgo
          exact hgo
    · rw [if_neg hrc] at hC; exact hC.elim
end AMN
