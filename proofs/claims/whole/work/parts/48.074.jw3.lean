/-! jw3: a method's contract out of a walk of its own -/
section AMX
variable {dC : Nat → ClassId} {dI : Nat → Nat → Nat} {cA : Nat → ClassId} {fx : Nat → Nat → Nat} {bm : Bool} {EX : (Nat → Prop) → State → Heap → Prop} {L : Nat} {xs : Nat → Int}
set_option maxHeartbeats 4000000 in
theorem am_metG {l : Launch} (hExt : am_Ext EX) (hw : ∀ (A : Nat → Prop) (U : State) (H : Heap), EX A U H → ∀ i j : Nat, i < 12 → j < 4 → va_OF RX9 (["role", "slot", "low", "high"].getD j "") "I" (.int (Int32.ofInt (am_word i j))) (fx 4 i) A U H) (hsx : ∀ (A : Nat → Prop) (U : State) (H : Heap), EX A U H → va_X (fx 7 0) L (fun j => Int32.ofInt (xs j)) U H ∧ ¬ A (fx 7 0)) (hL : L ≤ 3072) (hxs : ∀ j, am_inI (xs j)) {S d id : Nat} {q : am_M} {as : List am_V} {h : am_H} {K : am_K} (hdS : 1 ≤ d + S) (hq : am_me[id]? = some q) (h9 : ¬ q.2.2.2.2.1 = 99) (hsp : ¬ q.2.2.1 < (am_spl as).length)
    (walk : ∀ (p : Program) (e : Env) (R : Room) (s : State) (m : MethodId) (args : Array Value) (below : List Frame) (meth : Method) (c : Code) (Q : State → Prop) (A : Nat → Prop) (cp : am_H → Nat → Nat → Prop) (ad : Nat → Nat), am_okh h → am_Cx p R s m args meth c dC dI cA fx A q.2.2.1 (h 0 0).toNat (h 0 0 + (q.2.2.2.2.2.2.1 : Nat)) cp (q.2.2.2.2.2.1 == 2) q.2.2.2.2.1 q.2.1 EX L xs → am_RetOK p l e R s m args below meth c Q dC dI cA fx A q.2.2.1 (h 0 0).toNat (h 0 0 + (q.2.2.2.2.2.2.1 : Nat)) bm ad cp (q.2.2.2.2.2.1 == 2) (am_rk q.2.2.2.1) q.2.1 K → (d + S ≤ R.frames ∧ 60 * d + 60 * S ≤ R.locals) → am_G p l e R s m args below meth c Q dC dI cA fx A q.2.2.1 (h 0 0).toNat (h 0 0 + (q.2.2.2.2.2.2.1 : Nat)) bm ad cp 0 (am_ent as q.2.2.1) [] h) : ∀ (ad : Nat → Nat) (sz : Nat), am_okh h → (bm = true → am_fin h) → (∀ v ∈ as, am_okv (h 0 0) v) → am_Mt l dC dI cA fx bm EX S d q as h ad sz K := by
  intro ad sz hok hfin hoka
  have hqm := List.mem_of_getElem? hq
  obtain ⟨w1, w2, w3, w4, w5, w6, w7, w8, w9, w10, w11, w12, w13⟩ := am_words hqm h9
  have ho12 : ¬ q.2.2.2.2.1 = 12 := by simpa using List.all_eq_true.mp am_no12 q hqm
  have h00 := hok.1
  unfold am_Mt
  refine va_MetF (cc := q.2.1) (maxL := q.2.2.1) (ret := q.2.2.2.1) w8 rfl ?_
  intro p e s m args below meth c s₁ B hml hv
  obtain ⟨rfl, hsz, hP, hD0, hE⟩ := hv
  subst hsz
  have hx := B.exec
  have hb := B.bytes
  have hr := B.returns
  have hts0 := atoms_spec (ws := .code q.1 q.2.1 q.2.2.1 q.2.2.2.1 :: am_TB) B.pre
  have hts : ∀ w ∈ am_TB, w.before (as.map (am_tr fx ad)).toArray s = true := fun w hw => hts0 w (List.mem_cons_of_mem _ hw)
  have hown : s.vm.findClass (am_R q.2.2.2.2.1) = some m.cls := by rw [w7]; exact findClass_of_methodNamed B.named
  have hlocks := B.notSynchronized
  have hnam : meth.name = q.1.name := (name_of_methodNamed B.named B.method).1
  have hD := hD0.self (sz := s.heap.size)
  have hlimn : (h 0 0 + (q.2.2.2.2.2.2.1 : Nat)).toNat - (h 0 0).toNat ≤ q.2.2.2.2.2.2.1 := by omega
  have hlimz : (h 0 0 + (q.2.2.2.2.2.2.1 : Nat)).toNat = (h 0 0).toNat + q.2.2.2.2.2.2.1 := by omega
  have hnn : (((h 0 0).toNat : Nat) : Int) = h 0 0 := by omega
  have X : am_Cx p (headSpec (.code q.1 q.2.1 q.2.2.1 q.2.2.2.1 :: am_TB) (am_rm S d q.2.2.2.2.2.2.1 (am_sz ((h 0 0).toNat + q.2.2.2.2.2.2.1) - am_sz (h 0 0).toNat))).room s m (as.map (am_tr fx ad)).toArray meth c dC dI cA fx (va_A (am_w cA fx ad h) s.heap.size) q.2.2.1 (h 0 0).toNat (h 0 0 + (q.2.2.2.2.2.2.1 : Nat)) (fun (g : am_H) (c2 s2 : Nat) => c2 = (g 0 0).toNat - (h 0 0).toNat ∧ s2 = am_sz (g 0 0).toNat - am_sz (h 0 0).toNat ∧ (h 0 0).toNat ≤ (g 0 0).toNat ∧ g 0 1 = h 0 1) (q.2.2.2.2.2.1 == 2) q.2.2.2.2.1 q.2.1 EX L xs := by
    refine ⟨hx, hb, hml, hown, hts, hE, hExt, fun z hz => Or.inr hz, fun hi => ?_, ⟨?_, ?_⟩, ⟨?_, ?_, ?_⟩, hw, hsx, hL, hxs⟩
    · rw [hnam]; exact (w11 (by simpa using hi)).1
    · show 1 ≤ d + S; omega
    · show 20 ≤ 60 * d + 60 * S; omega
    · intro g k j v c2 s2 hk hg
      have e0 : am_st g k j v 0 0 = g 0 0 := am_st_nc (by omega)
      have e1 : am_st g k j v 0 1 = g 0 1 := am_st_nc (by omega)
      rw [e0, e1]; exact hg
    · intro g n c2 s2 hn hl hg
      have h1 : am_sz (n + 1) ≤ am_sz ((h 0 0).toNat + q.2.2.2.2.2.2.1) := am_sz_le (by omega)
      have h3 : am_sz (n + 1) = am_sz n + am_csz (n + 1) := rfl
      rw [hn] at hg
      rw [show (n : Int).toNat = n by omega] at hg
      have h2 : am_sz (h 0 0).toNat ≤ am_sz n := am_sz_le (by omega)
      refine ⟨?_, ?_, ?_⟩
      · show c2 + 1 ≤ q.2.2.2.2.2.2.1; omega
      · show s2 + am_csz (n + 1) ≤ am_sz ((h 0 0).toNat + q.2.2.2.2.2.2.1) - am_sz (h 0 0).toNat; omega
      · dsimp only
        rw [am_st_eq, show am_st g 0 0 ((n : Int) + 1) 0 1 = g 0 1 from am_st_ne (by decide), show ((n : Int) + 1).toNat = n + 1 by omega]
        refine ⟨by omega, by omega, by omega, hg.2.2.2⟩
    · intro g g' mc c2 s2 h0 hl e1 e2 hg
      have h1 : am_sz ((g 0 0).toNat + mc) ≤ am_sz ((h 0 0).toNat + q.2.2.2.2.2.2.1) := am_sz_le (by omega)
      have h2 : am_sz (h 0 0).toNat ≤ am_sz (g 0 0).toNat := am_sz_le (by omega)
      have h3 : am_sz (g 0 0).toNat ≤ am_sz ((g 0 0).toNat + mc) := am_sz_le (by omega)
      refine ⟨?_, ?_, ?_⟩
      · show c2 + mc ≤ q.2.2.2.2.2.2.1; omega
      · show s2 + (am_sz ((g 0 0).toNat + mc) - am_sz (g 0 0).toNat) ≤ am_sz ((h 0 0).toNat + q.2.2.2.2.2.2.1) - am_sz (h 0 0).toNat; omega
      · dsimp only
        rw [e1, e2, show (g 0 0 + (mc : Nat)).toNat = (g 0 0).toNat + mc by omega]
        refine ⟨by omega, by omega, by omega, hg.2.2.2⟩
  have hRet : am_RetOK p l e (headSpec (.code q.1 q.2.1 q.2.2.1 q.2.2.2.1 :: am_TB) (am_rm S d q.2.2.2.2.2.2.1 (am_sz ((h 0 0).toNat + q.2.2.2.2.2.2.1) - am_sz (h 0 0).toNat))).room s m (as.map (am_tr fx ad)).toArray below meth c (MQ below (am_Qc fx (am_rt q.2.2.2.1) K (am_Bw dC dI cA fx bm (va_A (am_w cA fx ad h) s.heap.size) ad ((h 0 0).toNat : Nat) (h 0 0 + (q.2.2.2.2.2.2.1 : Nat)) (h 0 1)) (va_A (am_w cA fx ad h) s.heap.size)) (as.map (am_tr fx ad)).toArray s q.2.2.2.2.2.2.1 (am_sz ((h 0 0).toNat + q.2.2.2.2.2.2.1) - am_sz (h 0 0).toNat) (va_A (am_w cA fx ad h) s.heap.size)) dC dI cA fx (va_A (am_w cA fx ad h) s.heap.size) q.2.2.1 (h 0 0).toNat (h 0 0 + (q.2.2.2.2.2.2.1 : Nat)) bm ad (fun (g : am_H) (c2 s2 : Nat) => c2 = (g 0 0).toNat - (h 0 0).toNat ∧ s2 = am_sz (g 0 0).toNat - am_sz (h 0 0).toNat ∧ (h 0 0).toNat ≤ (g 0 0).toNat ∧ g 0 1 = h 0 1) (q.2.2.2.2.2.1 == 2) (am_rk q.2.2.2.1) q.2.1 K := by
    refine am_ret_ok hx hb hr hlocks (fun hi => (w11 (by simpa using hi)).2) (fun h' c2 s2 g1 g2 g3 g4 => ⟨?_, g4.2.2.2⟩) (fun h' c2 s2 g1 g2 g4 => ?_)
    · by_cases hk2 : q.2.2.2.2.2.1 = 2
      · exact g3 (by rw [hk2]; rfl)
      · rw [w12 hk2] at g2 ⊢
        omega
    · have h1 : am_sz (h' 0 0).toNat ≤ am_sz ((h 0 0).toNat + q.2.2.2.2.2.2.1) := am_sz_le (by omega)
      obtain ⟨g5, g6, g7, g8⟩ := g4
      exact ⟨by omega, by omega⟩
  have hG := walk _ _ _ _ _ _ below _ _ _ _ _ ad hok X hRet ⟨Nat.le_refl _, Nat.le_refl _⟩
  have hJ : am_J s dC dI cA fx (va_A (am_w cA fx ad h) s.heap.size) q.2.2.1 (h 0 0).toNat (h 0 0 + (q.2.2.2.2.2.2.1 : Nat)) bm ad (fun (g : am_H) (c2 s2 : Nat) => c2 = (g 0 0).toNat - (h 0 0).toNat ∧ s2 = am_sz (g 0 0).toNat - am_sz (h 0 0).toNat ∧ (h 0 0).toNat ≤ (g 0 0).toNat ∧ g 0 1 = h 0 1) ad h (am_ent as q.2.2.1) ((lg_sl (as.map (am_tr fx ad)) ++ List.replicate (q.2.2.1 - (lg_sl (as.map (am_tr fx ad))).length) Slot.unset).toArray) s.heap [] 0 0 := by
    refine ⟨hP, hD, va_S.rf, hok, hfin, am_ent_ok hoka, am_lv_ent (by omega), am_ent_len (by omega), by omega, by omega, ⟨by omega, by omega, Nat.le_refl _, rfl⟩, fun _ _ => rfl⟩
  have hgo := hG ad _ s.heap [] 0 0 hJ (fun v hv => by cases hv)
  rw [lg_entry_eq]
  rw [hnn] at hgo
  exact hgo
end AMX
