/-! jw4: what is known beside the world; Tape.spells -/
def ex_E (fx : Nat → Nat → Nat) (adV : Nat → Nat) (L : Nat) (xs : Nat → Int) (Y : (Nat → Prop) → State → Heap → Prop) : (Nat → Prop) → State → Heap → Prop := fun A U H =>
  (∀ i j : Nat, i < 12 → j < 4 → va_OF RX9 (["role", "slot", "low", "high"].getD j "") "I" (.int (Int32.ofInt (am_word i j))) (fx 4 i) A U H) ∧ (va_X (fx 7 0) L (fun j => Int32.ofInt (xs j)) U H ∧ ¬ A (fx 7 0)) ∧ ex_S (fx 5) adV A U H ∧ (∀ i : Nat, i < 12 → va_OF RX9 "text" "Ljava/lang/String;" (.ref (fx 5 i)) (fx 4 i) A U H) ∧ va_Z RX9 "ALL" "[LStonesAlike$Word;" (.ref (fx 6 0)) A U H ∧ va_T (.object RX9) (fx 6 0) 12 (fun i => .ref (fx 4 i)) A U H ∧ Y A U H
theorem ex_Ext {fx : Nat → Nat → Nat} {adV : Nat → Nat} {L : Nat} {xs : Nat → Int} {Y : (Nat → Prop) → State → Heap → Prop} (hY : am_Ext Y) : am_Ext (ex_E fx adV L xs Y) := by
  refine ⟨fun A u U H hvm h => ?_, fun A U H H1 hq h => ?_, fun A B U H hAB h => ?_⟩
  · obtain ⟨h1, h2, h3, h4, h5, h6, h7⟩ := h
    exact ⟨fun i j hi hj => (h1 i j hi hj).moved hvm, ⟨h2.1.moved hvm, h2.2⟩, h3.moved hvm, fun i hi => (h4 i hi).moved hvm, h5.moved hvm, h6.moved hvm, hY.1 A u U H hvm h7⟩
  · obtain ⟨h1, h2, h3, h4, h5, h6, h7⟩ := h
    have hb : fx 7 0 < H.size := by
      obtain ⟨scr, hs, _⟩ := h2.1
      exact (Array.getElem?_eq_some_iff.mp hs).1
    exact ⟨fun i j hi hj => (h1 i j hi hj).kept hq, ⟨h2.1.kept (hq _ hb h2.2), h2.2⟩, h3.kept hq, fun i hi => (h4 i hi).kept hq, h5.kept hq, h6.kept hq, hY.2.1 A U H H1 hq h7⟩
  · obtain ⟨h1, h2, h3, h4, h5, h6, h7⟩ := h
    exact ⟨fun i j hi hj => (h1 i j hi hj).narrow hAB, ⟨h2.1, fun q => h2.2 (hAB _ q)⟩, h3.narrow hAB, fun i hi => (h4 i hi).narrow hAB, h5.narrow hAB, h6.narrow hAB, hY.2.2 A B U H hAB h7⟩
theorem ex_w {fx : Nat → Nat → Nat} {adV : Nat → Nat} {L : Nat} {xs : Nat → Int} {Y : (Nat → Prop) → State → Heap → Prop} : ∀ (A : Nat → Prop) (U : State) (H : Heap), ex_E fx adV L xs Y A U H → ∀ i j : Nat, i < 12 → j < 4 → va_OF RX9 (["role", "slot", "low", "high"].getD j "") "I" (.int (Int32.ofInt (am_word i j))) (fx 4 i) A U H := fun _ _ _ h => h.1
theorem ex_x {fx : Nat → Nat → Nat} {adV : Nat → Nat} {L : Nat} {xs : Nat → Int} {Y : (Nat → Prop) → State → Heap → Prop} : ∀ (A : Nat → Prop) (U : State) (H : Heap), ex_E fx adV L xs Y A U H → va_X (fx 7 0) L (fun j => Int32.ofInt (xs j)) U H ∧ ¬ A (fx 7 0) := fun _ _ _ h => h.2.1
theorem jw_ofN (n : Nat) : Int32.ofInt (n : Int) = Int32.ofNat n := by
  have := am_nI (x := (n : Int)) (by omega)
  rw [Int.toNat_natCast] at this
  exact this
theorem jw_lenI (i : Nat) (hi : i < 12) : Int32.ofNat (jw_len.getD i 0) = Int32.ofInt (((W12.getD i []).length : Nat) : Int) := by
  have h : ∀ i : Fin 12, jw_len.getD i.val 0 = (W12.getD i.val []).length := by decide
  rw [jw_ofN, h ⟨i, hi⟩]
theorem jw_w8 : ∀ i : Fin 12, (W12.getD i.val []).length < 8 ∧ jw_len.getD i.val 0 = (W12.getD i.val []).length := by decide
theorem jw_chI : ∀ (i : Fin 12) (k : Fin 8), (jw_byt.getD i.val []).getD k.val 0 = Int32.ofInt ((W12.getD i.val []).getD k.val 0) ∧ am_inI ((W12.getD i.val []).getD k.val 0) := by decide
section
variable {p : Program} {l : Launch} {e : Env} {R : Room} {s : State} {m : MethodId} {args : Array Value} {below : List Frame} {meth : Method} {c : Code} {Q : State → Prop}
variable {dC : Nat → ClassId} {dI : Nat → Nat → Nat} {cA : Nat → ClassId} {fx : Nat → Nat → Nat} {A : Nat → Prop} {nL n0 : Nat} {lim : Int} {a0 : Nat → Nat} {cp : am_H → Nat → Nat → Prop} {bm : Bool} {L : Nat} {xs : Nat → Int} {adV : Nat → Nat} {Y : (Nat → Prop) → State → Heap → Prop}
theorem js_len (X : am_Cx p R s m args meth c dC dI cA fx A nL n0 lim cp false 8 cX8_spells (ex_E fx adV L xs Y) L xs) (hR : 5 ≤ R.frames ∧ 200 ≤ R.locals) {pc i : Nat} (hd0 : decode cX8_spells pc = .ok (.aload_n 3, 1)) (hd1 : decode cX8_spells (pc + 1) = .ok (.invokevirtual 23, 3)) (hi : i < 12) {ls st : List am_V} {h : am_H} (hl3 : ls[3]? = some (5, (i : Int))) (hcat : am_cat st ≤ 8) (hk : am_G p l e R s m args below meth c Q dC dI cA fx A nL n0 lim bm a0 cp (pc + 4) ls ((0, (((W12.getD i []).length : Nat) : Int)) :: st) h) : am_G p l e R s m args below meth c Q dC dI cA fx A nL n0 lim bm a0 cp pc ls st h := by
  intro ad lsM H locs cells slots hJ hst
  obtain ⟨hx, hb, hml, hown, hts, hE, hExt, hA, hini, hrm, hroom, hw, hsx, hL, hxs⟩ := X
  obtain ⟨hP, hD, hS, hok, hfin, hls, hlv, hln, hn0, hlim, hcp, had⟩ := id hJ
  have h3 := am_lv_at hlv hl3 (show ¬ (5 : Nat) = 9 by decide)
  have e5 : am_tr fx ad (5, (i : Int)) = .ref (fx 5 i) := by show Value.ref (fx 5 ((i : Int)).toNat) = _; rw [Int.toNat_natCast]
  rw [e5] at h3
  have hES : ex_S (fx 5) adV A s s.heap := hE.2.2.2.2.1
  have hf := hroom.2.2 h h 0 cells slots hok.1 (by simpa using hlim) (by simp) rfl hcp
  have w8 : (W12.getD i []).length < 8 := (jw_w8 ⟨i, hi⟩).1
  refine lv_aload_n hx hb hd0 rfl h3 ?_
  refine j_callV (As := []) (C := RJ0) (k := 1) hx hb hml hown hts (jm_length hi) (by omega) (by omega) jt9.2.2.2 jt4.2.2.2.1 jt9.1 jt9.2.1 jt9.2.2.1 rfl (by decide) (jpar (n := 0) (by decide +kernel)) (hES.kept hS.2.1) (vk_recv hES.1 hi hS) hlv.1 (by rw [am_tr_cats]; exact hcat) ⟨hf.1, by have := hf.2.1; omega⟩ hd1 ?_
  rw [jw_lenI i hi]
  exact hk ad lsM H locs cells slots hJ (am_ok0 hst (am_okv_0 (by constructor <;> omega)))
theorem js_chr (X : am_Cx p R s m args meth c dC dI cA fx A nL n0 lim cp false 8 cX8_spells (ex_E fx adV L xs Y) L xs) (hR : 5 ≤ R.frames ∧ 200 ≤ R.locals) {i k : Nat} (hi : i < 12) (hk8 : k < (W12.getD i []).length) {ls st : List am_V} {h : am_H} (hl3 : ls[3]? = some (5, (i : Int))) (hl4 : ls[4]? = some (0, (k : Int))) (hcat : am_cat st ≤ 8) (hk : am_G p l e R s m args below meth c Q dC dI cA fx A nL n0 lim bm a0 cp 38 ls ((0, (W12.getD i []).getD k 0) :: st) h) : am_G p l e R s m args below meth c Q dC dI cA fx A nL n0 lim bm a0 cp 32 ls st h := by
  intro ad lsM H locs cells slots hJ hst
  obtain ⟨hx, hb, hml, hown, hts, hE, hExt, hA, hini, hrm, hroom, hw, hsx, hL, hxs⟩ := X
  obtain ⟨hP, hD, hS, hok, hfin, hls, hlv, hln, hn0, hlim, hcp, had⟩ := id hJ
  have h3 := am_lv_at hlv hl3 (show ¬ (5 : Nat) = 9 by decide)
  have h4 := am_lv_at hlv hl4 (show ¬ (0 : Nat) = 9 by decide)
  have e5 : am_tr fx ad (5, (i : Int)) = .ref (fx 5 i) := by show Value.ref (fx 5 ((i : Int)).toNat) = _; rw [Int.toNat_natCast]
  have e0 : am_tr fx ad (0, (k : Int)) = .int (nI k) := by rw [am_tr_0, jw_ofN]; rfl
  rw [e5] at h3
  rw [e0] at h4
  have hES : ex_S (fx 5) adV A s s.heap := hE.2.2.2.2.1
  have hf := hroom.2.2 h h 0 cells slots hok.1 (by simpa using hlim) (by simp) rfl hcp
  have w8 := jw_w8 ⟨i, hi⟩
  dsimp only at w8
  have ch := jw_chI ⟨i, hi⟩ ⟨k, by omega⟩
  dsimp only at ch
  refine lv_aload_n hx hb (show decode cX8_spells 32 = .ok (.aload_n 3, 1) by decide +kernel) rfl h3 ?_
  refine lv_iload hx hb (show decode cX8_spells 33 = .ok (.iload 4, 2) by decide +kernel) h4 ?_
  refine j_callV (As := [.int (nI k)]) (C := RJ0) (k := 3) hx hb hml hown hts (jm_charAt hi (by rw [w8.2]; exact hk8)) (by omega) (by omega) jt10.2.2.2 jt4.2.2.2.1 jt10.1 jt10.2.1 jt10.2.2.1 rfl (by decide) (jpar (n := 1) (by decide +kernel)) (hES.kept hS.2.1) (vk_recv hES.1 hi hS) hlv.1 (by rw [am_tr_cats]; exact hcat) ⟨hf.1, by have := hf.2.1; omega⟩ (show decode cX8_spells 35 = .ok (.invokevirtual 29, 3) by decide +kernel) ?_
  rw [ch.1]
  exact hk ad lsM H locs cells slots hJ (am_ok0 hst (am_okv_0 ch.2))
end
section
variable {l : Launch} {dC : Nat → ClassId} {dI : Nat → Nat → Nat} {cA : Nat → ClassId} {fx : Nat → Nat → Nat} {L : Nat} {xs : Nat → Int} {adV : Nat → Nat} {Y : (Nat → Prop) → State → Heap → Prop}
def js_P0 : Nat → List am_V → am_H → am_K → Prop := fun _ _ _ _ => False
theorem js_P0_ok {S : Nat} {bm : Bool} {EX : (Nat → Prop) → State → Heap → Prop} : am_Prim l dC dI cA fx bm EX S js_P0 := fun _ _ _ _ _ _ _ _ _ h => h.elim
abbrev js_q : am_M := (yX8_spells, cX8_spells, 5, (some .boolean), 8, 1, 0, 3, 548, 546, 547, 88)
theorem js_me : am_me[86]? = some js_q := by rfl
theorem jm_spells (hY : am_Ext Y) (hL : L ≤ 3072) (hxs : ∀ j, am_inI (xs j)) {a b i : Nat} {h : am_H} {K : am_K} (hab : a ≤ b) (hb4 : b ≤ 400) (hi : i < 12) (H1 : wm (sgn h) a b (W12.getD i []) → K (0, 1) h) (H0 : ¬ wm (sgn h) a b (W12.getD i []) → K (0, 0) h) : ∀ (ad : Nat → Nat) (sz : Nat), am_okh h → (true = true → am_fin h) → (∀ v ∈ [((2, 2) : am_V), (0, (a : Int)), (0, (b : Int)), (5, (i : Int))], am_okv (h 0 0) v) → am_Mt l dC dI cA fx true (ex_E fx adV L xs Y) 6 0 js_q [(2, 2), (0, (a : Int)), (0, (b : Int)), (5, (i : Int))] h ad sz K := by
  refine am_metG (ex_Ext hY) ex_w ex_x hL hxs (by decide) js_me (by decide) (by show ¬ (5 : Nat) < 4; decide) ?_
  intro p e R s m args below meth c Q A cp ad hok X hRet hR
  have hR5 : 5 ≤ R.frames ∧ 200 ≤ R.locals := ⟨by omega, by omega⟩
  have w8 := (jw_w8 ⟨i, hi⟩).1
  dsimp only at w8
  have hCall : am_CallOK p l e R s m args below meth c Q dC dI cA fx A 5 (h 0 0).toNat (h 0 0 + (0 : Nat)) true ad cp 8 cX8_spells (am_C true L xs js_P0 1) := by
    intro pc idx id2 q2 raw as2 s2 h2 ls2 K2 hm2 hd2 hraw2 hlen2 hcat2 hlm2 hC2 hk2
    have hn99 := am_not99 hm2 (by decide)
    exact am_call_one X (S := 0) (d := 1) (by omega) (by omega) hm2 hd2 hraw2 hlen2 hcat2 hlm2 hn99 (fun ad2 sz2 ho2 hf2 hv2 => am_met (ex_Ext hY) ex_w ex_x hL hxs js_P0_ok 1 id2 q2 as2 h2 K2 (am_mx_in hm2).2 hn99 hC2 ad2 sz2 ho2 hf2 hv2) hk2
  have blk : ∀ (B : List Instr) (pc e' : Nat) (ls st : List am_V) (h2 : am_H), am_dec 8 cX8_spells e' B pc = true → am_blk true false 4 (h 0 0 + (0 : Nat)) L xs (am_C true L xs js_P0 1) K (am_G p l e R s m args below meth c Q dC dI cA fx A 5 (h 0 0).toNat (h 0 0 + (0 : Nat)) true ad cp) e' B ls st h2 → am_G p l e R s m args below meth c Q dC dI cA fx A 5 (h 0 0).toNat (h 0 0 + (0 : Nat)) true ad cp pc ls st h2 := fun B pc e' ls st h2 hd hb => am_blk_ok X hCall hRet (fun _ _ _ _ h => h) e' B pc ls st h2 hd hb
  show am_G p l e R s m args below meth c Q dC dI cA fx A 5 (h 0 0).toNat (h 0 0 + (0 : Nat)) true ad cp 0 [(2, 2), (0, (a : Int)), (0, (b : Int)), (5, (i : Int)), (9, 0)] [] h
  refine blk [.iload 2, .iload 1, .isub] 0 3 _ _ _ (by decide +kernel) ⟨⟨by omega, by omega⟩, ?_⟩
  refine js_len X hR5 (by decide +kernel) (by decide +kernel) hi rfl (Nat.le_of_ble_eq_true rfl) ?_
  have no : ¬ wm (sgn h) a b (W12.getD i []) → ∀ (x : am_V) (pc : Nat), am_dec 8 cX8_spells (pc + 2) [.iconst 0, .ireturn] pc = true → am_G p l e R s m args below meth c Q dC dI cA fx A 5 (h 0 0).toNat (h 0 0 + (0 : Nat)) true ad cp pc [(2, 2), (0, (a : Int)), (0, (b : Int)), (5, (i : Int)), x] [] h := fun hn x pc hd => blk [.iconst 0, .ireturn] pc (pc + 2) _ _ _ hd ⟨⟨by decide, by decide⟩, H0 hn⟩
  refine blk [.if_icmp .eq 12] 7 10 _ _ _ (by decide +kernel) ⟨fun z => ?_, fun z => no (fun q => z ?_) _ 10 (by decide +kernel)⟩
  rotate_left
  · show (b : Int) - a = (((W12.getD i []).length : Nat) : Int)
    rw [q.1]; omega
  have elen : (W12.getD i []).length = b - a := by
    have z2 : (b : Int) - a = (((W12.getD i []).length : Nat) : Int) := z
    omega
  refine blk [.iconst 0, .istore 4] 12 15 _ _ _ (by decide +kernel) ?_
  have loop : ∀ (f k : Nat), k + f = (W12.getD i []).length → (∀ j, j < k → (W12.getD i []).getD j 0 = sgn h (a + j)) → am_G p l e R s m args below meth c Q dC dI cA fx A 5 (h 0 0).toNat (h 0 0 + (0 : Nat)) true ad cp 15 [(2, 2), (0, (a : Int)), (0, (b : Int)), (5, (i : Int)), (0, (k : Int))] [] h := by
    intro f
    induction f with
    | zero =>
      intro k hk hj
      refine blk [.iload 4] 15 17 _ _ _ (by decide +kernel) ?_
      refine js_len X hR5 (by decide +kernel) (by decide +kernel) hi rfl (Nat.le_of_ble_eq_true rfl) ?_
      refine blk [.if_icmp .ge 49] 21 24 _ _ _ (by decide +kernel) ⟨fun _ => ?_, fun y => absurd (show ((((W12.getD i []).length : Nat) : Int)) ≤ (k : Int) by omega) y⟩
      exact blk [.iconst 1, .ireturn] 49 51 _ _ _ (by decide +kernel) ⟨⟨by decide, by decide⟩, H1 ⟨elen, fun j hj2 => hj j (by omega)⟩⟩
    | succ f ih =>
      intro k hk hj
      refine blk [.iload 4] 15 17 _ _ _ (by decide +kernel) ?_
      refine js_len X hR5 (by decide +kernel) (by decide +kernel) hi rfl (Nat.le_of_ble_eq_true rfl) ?_
      refine blk [.if_icmp .ge 49, .aload 0, .iload 1, .iload 4, .iadd, .invokestatic 5314] 21 32 _ _ _ (by decide +kernel) ⟨fun y => absurd (show ((((W12.getD i []).length : Nat) : Int)) ≤ (k : Int) from y) (by omega), fun _ => ⟨⟨by omega, by omega⟩, ?_⟩⟩
      show am_C true L xs js_P0 1 83 [(2, 2), (0, (a : Int) + (k : Int))] h _
      refine kX8_sign (d := 0) (by omega) ?_
      rw [show (a : Int) + (k : Int) = ((a + k : Nat) : Int) by omega, sgn_eq]
      refine js_chr X hR5 hi (by omega) rfl rfl (Nat.le_of_ble_eq_true rfl) ?_
      refine blk [.if_icmp .eq 43] 38 41 _ _ _ (by decide +kernel) ⟨fun y => ?_, fun y => no (fun q => y ?_) _ 41 (by decide +kernel)⟩
      · refine blk [.iinc 4 1, .goto 15] 43 49 _ _ _ (by decide +kernel) ⟨⟨by omega, by omega⟩, ?_⟩
        refine ih (k + 1) (by omega) (fun j hj2 => ?_)
        by_cases e : j = k
        · rw [e]
          have y2 : sgn h (a + k) = (W12.getD i []).getD k 0 := y
          exact y2.symm
        · exact hj j (by omega)
      · show sgn h (a + k) = (W12.getD i []).getD k 0
        exact (q.2 k (by omega)).symm
  exact loop (W12.getD i []).length 0 (by omega) (fun j hj => by omega)
end
