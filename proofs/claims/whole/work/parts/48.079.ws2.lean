/-! ws2: the law from its entry, but for a look -/
theorem ws_flags {l : Launch} (h : l.flags = flags0) : l.stackTraces = false := by
  unfold Launch.stackTraces
  rw [h]
  decide +kernel
/-- what the contracts beside the small machine say -/
def jP : Nat → List am_V → am_H → am_K → Prop := fun id as h K => (id = 17 ∧ as = [(2, 4)] ∧ (0 ≤ h 4 5 ∧ h 4 5 ≤ h 4 6 ∧ h 4 6 ≤ 400) ∧ K (lwv h) h) ∨ (id = 223 ∧ ∃ m w : Int, as = [(2, 1), (0, m), (0, w), (2, 93)] ∧ am_inI m ∧ am_inI w ∧ (0 ≤ h 20 15 ∧ h 20 15 ≤ 14) ∧ (0 ≤ h 0 1 ∧ h 0 1 ≤ 511) ∧ ((0 ≤ m ∧ m < h 20 15) → (0 ≤ w ∧ w ≤ 4) → K (0, 0) (am_st (am_st h 93 0 (h (27 + w.toNat) m.toNat)) 0 1 (h 0 1 + 1))) ∧ ((0 ≤ m ∧ m < h 20 15) → ¬ (0 ≤ w ∧ w ≤ 4) → K (0, 2) (am_st h 0 1 (h 0 1 + 1))) ∧ (¬ (0 ≤ m ∧ m < h 20 15) → K (0, 1) (am_st h 0 1 (h 0 1 + 1))))
theorem jP_lw : LWP jP := fun h K h1 h2 h3 hK => Or.inl ⟨rfl, rfl, ⟨h1, h2, h3⟩, hK⟩
theorem jP_lk : LKP jP := fun h K m w a b c d e f g => Or.inr ⟨rfl, m, w, rfl, a, b, c, d, e, f, g⟩
/-- the law's cells are counted: those of the two objects, and one of six places a look -/
def lw_cp (h : am_H) (c s : Nat) : Prop := (c : Int) = h 0 0 + h 0 1 ∧ (s : Int) = am_sz (h 0 0).toNat + 6 * h 0 1 ∧ 0 ≤ h 0 0 ∧ 0 ≤ h 0 1 ∧ h 0 1 ≤ 512
theorem lw_sz : am_sz 93 ≤ 100000 := by decide +kernel
theorem lw_cp_ok : am_Cp room_1 93 lw_cp := by
  have z : ∀ n : Nat, n ≤ 93 → am_sz n ≤ 100000 := fun n hn => Nat.le_trans (am_sz_le hn) lw_sz
  have r1 : room_1.cells = 601024 := rfl
  have r2 : room_1.slots = 7293034 := rfl
  refine ⟨fun h k j v c s hk hc => ?_, fun h n c s hn hl hc => ?_, fun h h' mc c s h0 hl e1 e2 hc => ?_⟩
  · unfold lw_cp
    rw [st_ne (by omega)]; exact hc
  · obtain ⟨a1, a2, a3, a4, a5⟩ := hc
    rw [hn] at a1 a2 a3
    rw [Int.toNat_natCast] at a2
    have z1 := z (n + 1) (by omega)
    have z2 : am_sz (n + 1) = am_sz n + am_csz (n + 1) := rfl
    refine ⟨by omega, by omega, ?_⟩
    unfold lw_cp
    rw [st_at, st_nj (by decide), show ((n : Int) + 1).toNat = n + 1 by omega]
    omega
  · obtain ⟨a1, a2, a3, a4, a5⟩ := hc
    have z1 := z ((h 0 0).toNat + mc) (by omega)
    have z2 : am_sz (h 0 0).toNat ≤ am_sz ((h 0 0).toNat + mc) := am_sz_le (by omega)
    refine ⟨by omega, by omega, ?_⟩
    unfold lw_cp
    rw [e1, e2, show (h 0 0 + (mc : Nat)).toNat = (h 0 0).toNat + mc by omega]
    omega
/-- a look, called by the law -/
def lk_OK (p : Program) (l : Launch) (e : Env) (s : State) (m : MethodId) (args : Array Value) (below : List Frame) (meth : Method) (c : Code) (Q : State → Prop) (dC : Nat → ClassId) (dI : Nat → Nat → Nat) (cA : Nat → ClassId) (fx : Nat → Nat → Nat) (A : Nat → Prop) (a0 : Nat → Nat) : Prop :=
  ∀ (pc : Nat) (s' : List am_V) (h : am_H) (ls : List am_V) (K : am_K) (mm w : Int), decode code pc = .ok (.invokestatic 143, 3) → am_cat s' ≤ 8 → (0 ≤ h 20 15 ∧ h 20 15 ≤ 14) → (0 ≤ h 0 1 ∧ h 0 1 ≤ 511) → ((0 ≤ mm ∧ mm < h 20 15) → (0 ≤ w ∧ w ≤ 4) → K (0, 0) (am_st (am_st h 93 0 (h (27 + w.toNat) mm.toNat)) 0 1 (h 0 1 + 1))) → ((0 ≤ mm ∧ mm < h 20 15) → ¬ (0 ≤ w ∧ w ≤ 4) → K (0, 2) (am_st h 0 1 (h 0 1 + 1))) → (¬ (0 ≤ mm ∧ mm < h 20 15) → K (0, 1) (am_st h 0 1 (h 0 1 + 1))) → (∀ (x : Int) (h' : am_H), K (0, x) h' → am_G p l e room_1 s m args below meth c Q dC dI cA fx A 7 0 93 true a0 lw_cp (pc + 3) ls ((0, x) :: s') h') → am_G p l e room_1 s m args below meth c Q dC dI cA fx A 7 0 93 true a0 lw_cp pc ls ((2, 93) :: (0, w) :: (0, mm) :: (2, 1) :: s') h
theorem ws_223 : am_me.all (fun q => decide (q.2.2.2.2.1 = 99 → q.2.2.2.2.2.1 = 0)) = true := by decide +kernel
theorem ws_ml223 : am_ML.all (fun r => decide (r.2.2.1 = 223 → r.2.1 = 143)) = true := by decide +kernel
theorem ws_id {own idx id : Nat} {q : am_M} (h : am_mx own idx = some (id, q)) (h9 : q.2.2.2.2.1 = 99) : id = 223 := by
  have k : am_ML.all (fun r => match am_me[r.2.2.1]? with | some q => decide (q.2.2.2.2.1 = 99 → r.2.2.1 = 223) | none => true) = true := by decide +kernel
  unfold am_mx at h
  split at h
  · next r hr =>
    cases hm : am_me[r.2.2.1]? with
    | none => rw [hm] at h; cases h
    | some z =>
      rw [hm] at h
      have e := Option.some.inj h
      have e1 : r.2.2.1 = id := congrArg Prod.fst e
      have e2 : z = q := congrArg Prod.snd e
      have h3 := List.all_eq_true.mp k r (am_find hr).1
      rw [hm] at h3
      rw [← e1]
      exact of_decide_eq_true h3 (by rw [e2]; exact h9)
  · cases h
theorem ws_ca1 {args : Array Value} {s : State} {ty : FieldType} (h : (Cond.arrayClass ty).before args s = true) : ∃ cA : ClassId, s.vm.findClass ("[" ++ ty.toString) = some cA ∧ ArrOfT s cA ty := by
  obtain ⟨cA, kA, comp, h1, h2, h3⟩ := Cond.arrayClass_spec (args := args) (first := s) (o := none) (s := s) (idx := []) h
  exact ⟨cA, h1, fun n z => ⟨fun k h => (by cases h), kA, h2, comp, h3⟩⟩
theorem ws_cA {args : Array Value} {s : State} (hts : ∀ w ∈ am_TB, w.before args s = true) : ∃ cA : Nat → ClassId, ∀ (k : Nat) (q : ClassId × FieldType), (am_tys cA)[k]? = some q → ArrOfT s q.1 q.2 ∧ va_RA s q.1 q.2 := by
  obtain ⟨c1, a1, b1⟩ := ws_ca1 (hts _ am_acI)
  obtain ⟨c2, a2, b2⟩ := ws_ca1 (hts _ am_acJ)
  obtain ⟨c3, a3, b3⟩ := ws_ca1 (hts _ am_acB)
  obtain ⟨c4, a4, b4⟩ := ws_ca1 (hts _ am_acZ)
  refine ⟨fun k => if k = 1 then c1 else if k = 2 then c2 else if k = 3 then c3 else c4, fun k q hq => ?_⟩
  match k, hq with
  | 0, hq => cases hq; exact ⟨b1, a1⟩
  | 1, hq => cases hq; exact ⟨b2, a2⟩
  | 2, hq => cases hq; exact ⟨b3, a3⟩
  | 3, hq => cases hq; exact ⟨b4, a4⟩
  | k + 4, hq => simp [am_tys] at hq
theorem ws_nw {args : Array Value} {s : State} (hts : ∀ w ∈ lw_tbl, w.before args s = true) {w : Cond} (hw : w ∈ am_NW) : va_Nw w s := by
  have hb := hts w (List.mem_filter.mp hw).1
  rcases am_NW_is hw with ⟨a, i, b, n, d, q, rfl⟩ | ⟨a, i, x, q, rfl⟩
  · exact va_Nw.of rfl hb
  · exact va_Nw.of rfl hb
theorem ws_idx {own idx : Nat} {q : am_M} (h : am_mx own idx = some (223, q)) : idx = 143 := by
  unfold am_mx at h
  split at h
  · next r hr =>
    cases hm : am_me[r.2.2.1]? with
    | none => rw [hm] at h; cases h
    | some z =>
      rw [hm] at h
      have e := Option.some.inj h
      have e1 : r.2.2.1 = 223 := congrArg Prod.fst e
      obtain ⟨h1, h2⟩ := am_find hr
      simp only [Bool.and_eq_true, beq_iff_eq] at h2
      have h3 := of_decide_eq_true (List.all_eq_true.mp ws_ml223 r h1) e1
      rw [← h2.2]; exact h3
  · cases h
theorem ws_rt {own idx : Nat} {q : am_M} {x : Int} (h : am_mx own idx = some (223, q)) : am_rtok (am_rt q.2.2.2.1) (0, x) := by
  have h1 := (am_mx_in h).2
  have k : (match am_me[223]? with | some q => decide (am_rt q.2.2.2.1 = 0) | none => false) = true := by decide +kernel
  rw [h1] at k
  rw [of_decide_eq_true k]
  rfl
set_option maxHeartbeats 8000000 in
set_option maxRecDepth 100000 in
theorem ws_law {p : Program} {e : Env} {s : State} {m : MethodId} {below : List Frame} {meth : Method} {c : Code} (l : Launch) {b L : Nat} {xs : Nat → Int32} {Y : (Nat → Prop) → State → Heap → Prop} (hL : L ≤ 3072) (C0 : lw_At p s m meth c b L xs) (hY : am_Ext Y) (hY0 : Y (fun q => s.heap.size ≤ q) s s.heap)
    (hlk : ∀ (dC : Nat → ClassId) (dI : Nat → Nat → Nat) (cA : Nat → ClassId) (fx : Nat → Nat → Nat) (adV : Nat → Nat) (a0 : Nat → Nat), am_Cx p room_1 s m #[Value.ref b] meth c dC dI cA fx (fun q => s.heap.size ≤ q) 7 0 93 lw_cp false 12 code (ex_E fx adV L (fun j => (xs j).toInt) Y) L (fun j => (xs j).toInt) → lk_OK p l e s m #[Value.ref b] below meth c (lw_Z below #[Value.ref b] s) dC dI cA fx (fun q => s.heap.size ≤ q) a0) : W p l e room_1 s m #[Value.ref b] below meth c s.heap [] 0 0 (lw_Z below #[Value.ref b] s) (entryFrame m ([Value.ref b] : List Value).toArray 7) := by
  obtain ⟨hx, hb, hr, hml, hown, hts, hX, hbl, hlocks, hgv⟩ := id C0
  have hts' : ∀ w ∈ am_TB, w.before #[Value.ref b] s = true := fun w hw => hts w (List.mem_filter.mp hw).1
  obtain ⟨fx, adV, hb7, hEX⟩ := ws_EX (A := fun q => s.heap.size ≤ q) (flat_of_before _ hgv) hts hX hbl (fun a ha => Nat.not_le.mpr ha) hY0
  have hxs : ∀ j, am_inI (xs j).toInt := fun j => am_rg32 _
  -- the classes
  have hkn : ∀ k : Nat, ∃ z : ClassId × (Nat → Nat), ∀ q : vw_C, am_cl[k]? = some q → u_Kn s q.1 q.2.1 q.2.2 z.1 z.2 := by
    intro k
    cases hq : am_cl[k]? with
    | none => exact ⟨(0, fun _ => 0), fun q h => by cases h⟩
    | some q =>
      have hi : (Cond.instantiable q.1 q.2.2).before #[Value.ref b] s = true := by
        have k0 : am_cl.all (fun q => decide (Cond.instantiable q.1 q.2.2 ∈ lw_tbl)) = true := by decide +kernel
        exact hts _ (of_decide_eq_true (List.all_eq_true.mp k0 q (List.mem_of_getElem? hq)))
      obtain ⟨cC, iS, hK⟩ := u_known (C := q.1) (T := q.2.1) (N := q.2.2) (n := q.2.2) hts' (am_cls hq).1 hi
      exact ⟨(cC, iS), fun q' h => by cases h; exact hK⟩
  obtain ⟨z, hz⟩ := Classical.axiomOfChoice hkn
  obtain ⟨cA, hcA⟩ : ∃ cA : Nat → ClassId, ∀ (k : Nat) (q : ClassId × FieldType), (am_tys cA)[k]? = some q → ArrOfT s q.1 q.2 ∧ va_RA s q.1 q.2 := ws_cA hts'
  have hE : am_E (fun k => (z k).1) (fun k => (z k).2) cA (ex_E fx adV L (fun j => (xs j).toInt) Y) (fun q => s.heap.size ≤ q) s s.heap := ⟨⟨fun k q h => hz k q h, hcA⟩, fun w hw => ws_nw hts hw, hEX⟩
  generalize (fun k => (z k).1) = dC at hE
  generalize (fun k => (z k).2) = dI at hE
  have X : am_Cx p room_1 s m #[Value.ref b] meth c dC dI cA fx (fun q => s.heap.size ≤ q) 7 0 93 lw_cp false 12 code (ex_E fx adV L (fun j => (xs j).toInt) Y) L (fun j => (xs j).toInt) := ⟨hx, hb, hml, hown, hts', hE, ex_Ext hY, fun _ h => h, (fun h => by cases h), ⟨by decide, by decide⟩, lw_cp_ok, ex_w, ex_x, hL, hxs⟩
  generalize hxv : (fun j => (xs j).toInt) = xv at X hxs hlk
  have hxs : ∀ j, am_inI (xv j) := by rw [← hxv]; exact fun j => am_rg32 _
  -- its end
  have hRet : ∀ bm : Bool, am_RetOK p l e room_1 s m #[Value.ref b] below meth c (lw_Z below #[Value.ref b] s) dC dI cA fx (fun q => s.heap.size ≤ q) 7 0 93 bm (fun _ => 0) lw_cp false 4 code (fun v h => v = (0, 1)) := by
    intro bm pc raw v ls h hd hmt hini hK ad lsM H locs cells slots hJ hokv
    subst hK
    have hraw : raw = .ireturn := by
      rcases hmt with ⟨h, _⟩ | ⟨_, h, _⟩ | ⟨_, h, _⟩ | ⟨_, h, _⟩
      · exact h
      · exact absurd (show (0 : Nat) = 1 from h) (by decide)
      · exact absurd (show false = true from h) (by decide)
      · exact absurd (congrArg Prod.fst h) (by decide)
    subst hraw
    obtain ⟨hP, hD, hS, hok, hfin, hls, hlv, hln, hn0, hlim, hcp, had⟩ := hJ
    obtain ⟨a1, a2, a3, a4, a5⟩ := hcp
    have z1 := Nat.le_trans (am_sz_le (show (h 0 0).toNat ≤ 93 by omega)) lw_sz
    refine va_forget (fun q hq => hS.2.2 q hq) (W.widen (k := 601024) (n := 7293034) (by omega) (by omega) ?_)
    exact lw_ret hx hb hr hlocks hd
  have hPr : am_Prim l dC dI cA fx true (ex_E fx adV L xv Y) 8 jP := by
    intro d q as h ad sz K hq hrc hp hok hfin hoka
    have hq2 : q = jl_q := by
      have h1 : am_me[17]? = some q := hq
      rw [jl_me] at h1
      exact (Option.some.inj h1).symm
    subst hq2
    rcases hp with ⟨_, rfl, ⟨b1, b2, b3⟩, hK⟩ | ⟨h0, _⟩
    · exact jm_languageWord hY hL hxs b1 b2 b3 hK ad sz hok hfin hoka
    · exact absurd h0 (by decide)
  have hCallT : am_CallOK p l e room_1 s m #[Value.ref b] below meth c (lw_Z below #[Value.ref b] s) dC dI cA fx (fun q => s.heap.size ≤ q) 7 0 93 true (fun _ => 0) lw_cp 12 code (am_C true L xv jP 24) := by
    intro pc idx id2 q2 raw as2 s2 h2 ls2 K2 hm2 hd2 hraw2 hlen2 hcat2 hlm2 hC2 hk2
    by_cases h9 : q2.2.2.2.2.1 = 99
    · have hid := ws_id hm2 h9
      subst hid
      have hC3 : jP 223 as2 h2 K2 := hC2
      rcases hC3 with ⟨h0, _⟩ | ⟨_, mm, w, rfl, c1, c2, c3, c4, c5, c6, c7⟩
      · exact absurd h0 (by decide)
      · have hq9 := of_decide_eq_true (List.all_eq_true.mp ws_223 q2 (am_mx_in hm2).1) h9
        have hidx : idx = 143 := ws_idx hm2
        subst hidx
        have hraw3 : raw = .invokestatic 143 := by
          rcases hraw2 with ⟨h, _⟩ | ⟨_, h⟩ | ⟨_, h⟩
          · exact h
          · rw [hq9] at h; exact absurd h (by decide)
          · rw [hq9] at h; exact absurd h (by decide)
        subst hraw3
        exact hlk dC dI cA fx adV (fun _ => 0) X pc s2 h2 ls2 K2 mm w hd2 hcat2 c3 c4 c5 c6 c7 (fun x h' hk => hk2 (0, x) h' (ws_rt hm2) hk)
    · exact am_call_one X (S := 8) (d := 24) (by decide) (by decide) hm2 hd2 hraw2 hlen2 hcat2 hlm2 h9 (fun ad2 sz2 ho2 hf2 hv2 => am_met (ex_Ext hY) ex_w ex_x hL hxs hPr 24 id2 q2 as2 h2 K2 (am_mx_in hm2).2 h9 hC2 ad2 sz2 ho2 hf2 hv2) hk2
  have hCallF : am_CallOK p l e room_1 s m #[Value.ref b] below meth c (lw_Z below #[Value.ref b] s) dC dI cA fx (fun q => s.heap.size ≤ q) 7 0 93 false (fun _ => 0) lw_cp 12 code (fun id as h K => ¬ id = 223 ∧ am_C false L xv js_P0 5 id as h K) := by
    intro pc idx id2 q2 raw as2 s2 h2 ls2 K2 hm2 hd2 hraw2 hlen2 hcat2 hlm2 hC2 hk2
    have h9 : ¬ q2.2.2.2.2.1 = 99 := fun h => hC2.1 (ws_id hm2 h)
    exact am_call_one X (S := 0) (d := 5) (by decide) (by decide) hm2 hd2 hraw2 hlen2 hcat2 hlm2 h9 (fun ad2 sz2 ho2 hf2 hv2 => am_met (ex_Ext hY) ex_w ex_x hL hxs js_P0_ok 5 id2 q2 as2 h2 K2 (am_mx_in hm2).2 h9 hC2.2 ad2 sz2 ho2 hf2 hv2) hk2
  -- the loop
  have hloop : am_G p l e room_1 s m #[Value.ref b] below meth c (lw_Z below #[Value.ref b] s) dC dI cA fx (fun q => s.heap.size ≤ q) 7 0 93 true (fun _ => 0) lw_cp 23 [(7, 0), (2, 1), (2, 59), (2, 93), (0, 0), (9, 0), (9, 0)] [] cx_H := by
    have := law_loop (lim := 93) (d := 0) (K := fun v h => v = (0, 1)) jP_lw jP_lk hL hxs (fun g _ _ _ => rfl) 512 0 (9, 0) (9, 0) cx_H (by omega) (by omega) cx_Inv cx_w.2.2.2.2.2.2.2.2.2.2.2.2.2.2.2.2.1 (by rw [cx_w.2.2.2.2.2.2.2.2.2.2.2.2.2.2.2.2.2]; decide) (by rw [cx_w.2.2.2.2.2.2.2.2.2.2.2.2.2.2.2.2.2]; decide)
    exact this (am_G p l e room_1 s m #[Value.ref b] below meth c (lw_Z below #[Value.ref b] s) dC dI cA fx (fun q => s.heap.size ≤ q) 7 0 93 true (fun _ => 0) lw_cp) (fun T pc e' B ls st h2 hT hd hb2 => am_blk_ok X hCallT (hRet true) hT e' B pc ls st h2 hd hb2)
  -- the two objects are made
  have h0 : am_G p l e room_1 s m #[Value.ref b] below meth c (lw_Z below #[Value.ref b] s) dC dI cA fx (fun q => s.heap.size ≤ q) 7 0 93 false (fun _ => 0) lw_cp 0 [(7, 0), (9, 0), (9, 0), (9, 0), (9, 0), (9, 0), (9, 0)] [] (cx_h []) := by
    refine am_blk_ok (C := fun id as h K => ¬ id = 223 ∧ am_C false L xv js_P0 5 id as h K) (K := fun v h => v = (0, 1)) (T := fun pc ls st h => pc = 23 ∧ ls = [(7, 0), (2, 1), (2, 59), (2, 93), (0, 0), (9, 0), (9, 0)] ∧ st = [] ∧ h = cx_H) X hCallF (hRet false) (fun pc ls st h hT => ?_) 23 [.new 10, .dup, .invokespecial 6513, .astore 1, .new 11, .dup, .invokespecial 9265, .astore 2, .iconst 1, .newarray .long, .astore 3, .iconst 0, .istore 4] 0 _ _ _ (by decide +kernel) ?_
    · obtain ⟨rfl, rfl, rfl, rfl⟩ := hT
      intro ad lsM H locs cells slots hJ hst
      obtain ⟨hP, hD, hS, hok, hfin, hls, hlv, hln, hn0, hlim, hcp, had⟩ := hJ
      exact hloop ad lsM H locs cells slots ⟨hP, hD, hS, hok, fun _ => cx_fin, hls, hlv, hln, hn0, hlim, hcp, had⟩ hst
    · refine ⟨0, rfl, by decide +kernel, by decide +kernel, fun _ => rfl, by decide, ?_⟩
      show (0 : Int) + 1 + ((57 : Nat) : Int) ≤ 93 ∧ (¬ (101 : Nat) = 223 ∧ am_C false L xv js_P0 5 101 [(2, 1)] (cx_h [(0, 0, 1)]) _)
      refine ⟨by decide, by decide, cx_made1 ?_⟩
      refine ⟨58, cx_n1.1, by decide +kernel, by decide +kernel, cx_new_ok (n := 58) (by decide +kernel), by rw [cx_n1.1]; decide, ?_⟩
      show (59 : Int) + ((33 : Nat) : Int) ≤ 93 ∧ (¬ (144 : Nat) = 223 ∧ am_C false L xv js_P0 5 144 [(2, 59)] (cx_h ((0, 0, 59) :: cx_l1)) _)
      refine ⟨by decide, by decide, cx_made2 ?_⟩
      exact ⟨92, cx_n1.2.2.1, by decide +kernel, by decide +kernel, cx_new_ok (n := 92) (by decide +kernel), by rw [cx_n1.2.2.1]; decide, rfl, rfl, rfl, rfl⟩
  have hl := lv_entry ([.ref b] : List Value) (n := 7) (Nat.le_of_ble_eq_true rfl)
  rw [lg_entry_eq]
  generalize (lg_sl ([.ref b] : List Value) ++ List.replicate (7 - (lg_sl ([.ref b] : List Value)).length) Slot.unset).toArray = ls at hl ⊢
  have hl : lv_has ls 7 [(0, .ref b)] := hl
  refine h0 (fun _ => 0) ls s.heap [] 0 0 ⟨fun k q h => by simp [am_w, cx_h] at h, ⟨fun i j p q h => by simp [am_w, cx_h] at h, fun k q h => by simp [am_w, cx_h] at h⟩, va_S.rf, ⟨by decide, by decide, fun k h1 h2 => absurd (show (k : Int) ≤ 0 from h2) (by omega)⟩, (fun h => by cases h), fun v hv => ?_, ?_, rfl, by decide, by decide, ⟨rfl, rfl, by decide, by decide, by decide⟩, fun _ _ => rfl⟩ (fun v hv => by cases hv)
  · simp only [List.mem_cons, List.not_mem_nil, or_false] at hv
    rcases hv with rfl | hv
    · exact ⟨(fun q => by cases q), (fun q => by cases q), (fun q => by cases q), (fun q => by cases q), fun _ => rfl⟩
    · have : v = (9, 0) := by rcases hv with h | h | h | h | h | h <;> exact h
      rw [this]; exact am_okv_9 _ _
  · have e7 : am_lv fx (fun _ => 0) [(7, 0), (9, 0), (9, 0), (9, 0), (9, 0), (9, 0), (9, 0)] 0 = [(0, .ref b)] := by rw [← hb7]; rfl
    rw [e7]; exact hl
