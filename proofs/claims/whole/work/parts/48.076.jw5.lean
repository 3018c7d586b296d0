/-! jw5: CharterReader.languageWord -/
theorem jt11 : Cond.fieldLinkNest RX1 147 RX9 "ALL" "[LStonesAlike$Word;" "StonesAlike" ∈ am_NW := List.mem_filter.mpr ⟨by decide +kernel, rfl⟩
theorem jt12 : Cond.fieldLinkNest RX1 151 RX9 "text" "Ljava/lang/String;" "StonesAlike" ∈ am_NW := List.mem_filter.mpr ⟨by decide +kernel, rfl⟩
section
variable {p : Program} {l : Launch} {e : Env} {R : Room} {s : State} {m : MethodId} {args : Array Value} {below : List Frame} {meth : Method} {c : Code} {Q : State → Prop}
variable {dC : Nat → ClassId} {dI : Nat → Nat → Nat} {cA : Nat → ClassId} {fx : Nat → Nat → Nat} {A : Nat → Prop} {nL n0 : Nat} {lim : Int} {a0 : Nat → Nat} {cp : am_H → Nat → Nat → Prop} {bm : Bool} {L : Nat} {xs : Nat → Int} {adV : Nat → Nat} {Y : (Nat → Prop) → State → Heap → Prop}
theorem jl_all (X : am_Cx p R s m args meth c dC dI cA fx A nL n0 lim cp false 1 cX1_languageWord (ex_E fx adV L xs Y) L xs) {ls st : List am_V} {h : am_H} (hk : am_G p l e R s m args below meth c Q dC dI cA fx A nL n0 lim bm a0 cp 15 ls ((0, 12) :: st) h) : am_G p l e R s m args below meth c Q dC dI cA fx A nL n0 lim bm a0 cp 11 ls st h := by
  intro ad lsM H locs cells slots hJ hst
  obtain ⟨hx, hb, hml, hown, hts, hE, hExt, hA, hini, hrm, hroom, hw, hsx, hL, hxs⟩ := X
  obtain ⟨hP, hD, hS, hok, hfin, hls, hlv, hln, hn0, hlim, hcp, had⟩ := id hJ
  obtain ⟨h1, h2, h3, h4, h5, h6, h7⟩ := hE.2.2
  refine va_getsN hx hb h5 hS hown (va_Nw.use rfl (hE.2.1 _ jt11)) (fun _ h => h) (show decode cX1_languageWord 11 = .ok (.getstatic 147, 3) by decide +kernel) ?_
  refine va_tlen hx hb h6 hS (v := 12) rfl (show decode cX1_languageWord 14 = .ok (.arraylength, 1) by decide +kernel) ?_
  exact hk ad lsM H locs cells slots hJ (am_ok0 hst (am_okv_0 (by decide)))
theorem jl_wrd (X : am_Cx p R s m args meth c dC dI cA fx A nL n0 lim cp false 1 cX1_languageWord (ex_E fx adV L xs Y) L xs) {k pc : Nat} (hd0 : decode cX1_languageWord pc = .ok (.getstatic 147, 3)) (hd1 : decode cX1_languageWord (pc + 3) = .ok (.iload_n 1, 1)) (hd2 : decode cX1_languageWord (pc + 4) = .ok (.aaload, 1)) (hk12 : k < 12) {ls st : List am_V} {h : am_H} (hl1 : ls[1]? = some (0, (k : Int))) (hk : am_G p l e R s m args below meth c Q dC dI cA fx A nL n0 lim bm a0 cp (pc + 5) ls ((4, (k : Int)) :: st) h) : am_G p l e R s m args below meth c Q dC dI cA fx A nL n0 lim bm a0 cp pc ls st h := by
  intro ad lsM H locs cells slots hJ hst
  obtain ⟨hx, hb, hml, hown, hts, hE, hExt, hA, hini, hrm, hroom, hw, hsx, hL, hxs⟩ := X
  obtain ⟨hP, hD, hS, hok, hfin, hls, hlv, hln, hn0, hlim, hcp, had⟩ := id hJ
  obtain ⟨h1, h2, h3, h4, h5, h6, h7⟩ := hE.2.2
  have g1 := am_lv_at hlv hl1 (show ¬ (0 : Nat) = 9 by decide)
  have e0 : am_tr fx ad (0, (k : Int)) = .int (nI k) := by rw [am_tr_0, jw_ofN]; rfl
  rw [e0] at g1
  have e4 : am_tr fx ad (4, (k : Int)) = .ref (fx 4 k) := by show Value.ref (fx 4 ((k : Int)).toNat) = _; rw [Int.toNat_natCast]
  refine va_getsN hx hb h5 hS hown (va_Nw.use rfl (hE.2.1 _ jt11)) (fun _ h => h) hd0 ?_
  refine lv_iload_n hx hb hd1 rfl g1 ?_
  refine vb_tq hx hb h6 hS (nI_in hk12 (by omega)) (v := .ref (fx 4 k)) (by rw [nI_clamp (by omega)]) hd2 ?_
  have := hk ad lsM H locs cells slots hJ (am_ok0 hst ⟨(fun q => by cases q), (fun q => by cases q), (fun q => by cases q), fun _ => ⟨by show (0 : Int) ≤ (k : Int); omega, by show (k : Int) < 12; omega⟩, (fun q => by cases q)⟩)
  rw [List.map_cons, e4] at this
  exact this
theorem jl_txt (X : am_Cx p R s m args meth c dC dI cA fx A nL n0 lim cp false 1 cX1_languageWord (ex_E fx adV L xs Y) L xs) {k : Nat} (hk12 : k < 12) {ls st : List am_V} {h : am_H} (hk : am_G p l e R s m args below meth c Q dC dI cA fx A nL n0 lim bm a0 cp 38 ls ((5, (k : Int)) :: st) h) : am_G p l e R s m args below meth c Q dC dI cA fx A nL n0 lim bm a0 cp 35 ls ((4, (k : Int)) :: st) h := by
  intro ad lsM H locs cells slots hJ hst
  obtain ⟨hx, hb, hml, hown, hts, hE, hExt, hA, hini, hrm, hroom, hw, hsx, hL, hxs⟩ := X
  obtain ⟨hP, hD, hS, hok, hfin, hls, hlv, hln, hn0, hlim, hcp, had⟩ := id hJ
  obtain ⟨h1, h2, h3, h4, h5, h6, h7⟩ := hE.2.2
  have e4 : am_tr fx ad (4, (k : Int)) = .ref (fx 4 k) := by show Value.ref (fx 4 ((k : Int)).toNat) = _; rw [Int.toNat_natCast]
  have e5 : am_tr fx ad (5, (k : Int)) = .ref (fx 5 k) := by show Value.ref (fx 5 ((k : Int)).toNat) = _; rw [Int.toNat_natCast]
  obtain ⟨cf, kk, fi, f, cell, g1, g2, g3, g4, g5, g6⟩ := (h4 k hk12).kept hS.2.1
  have := hk ad lsM H locs cells slots hJ (am_ok0 (am_okt hst) ⟨(fun q => by cases q), (fun q => by cases q), (fun q => by cases q), (fun q => by cases q), (fun q => by cases q)⟩)
  rw [List.map_cons, e5] at this
  rw [List.map_cons, e4]
  exact va_Wgetf hx hb hown (va_Nw.use rfl (hE.2.1 _ jt12)) g1 g2 g3 g4 g5 rfl rfl (show decode cX1_languageWord 35 = .ok (.getfield 151, 3) by decide +kernel) this
end
section
variable {l : Launch} {dC : Nat → ClassId} {dI : Nat → Nat → Nat} {cA : Nat → ClassId} {fx : Nat → Nat → Nat} {L : Nat} {xs : Nat → Int} {adV : Nat → Nat} {Y : (Nat → Prop) → State → Heap → Prop}
abbrev jl_q : am_M := (yX1_languageWord, cX1_languageWord, 2, (some (.object "StonesAlike$Word")), 1, 1, 0, 0, 542, 541, 1, 89)
theorem jl_me : am_me[17]? = some jl_q := by rfl
/-- what is known of spells -/
def jl_C (h : am_H) : Nat → List am_V → am_H → am_K → Prop := fun id as h2 K => id = 86 ∧ h2 = h ∧ ∃ a b i : Nat, as = [(2, 2), (0, (a : Int)), (0, (b : Int)), (5, (i : Int))] ∧ a ≤ b ∧ b ≤ 400 ∧ i < 12 ∧ (wm (sgn h) a b (W12.getD i []) → K (0, 1) h) ∧ (¬ wm (sgn h) a b (W12.getD i []) → K (0, 0) h)
theorem jl_rcv {r : List am_V} : am_rcv 8 ((2, 2) :: r) = true := by
  show decide ((2 : Nat) = 2 ∧ (am_cell (2 : Int).toNat).1 = 0 ∧ (am_cell (2 : Int).toNat).2.1 = 8 ∧ (0 : Int) < 2) = true
  decide +kernel
theorem jm_languageWord (hY : am_Ext Y) (hL : L ≤ 3072) (hxs : ∀ j, am_inI (xs j)) {d : Nat} {h : am_H} {K : am_K} (b1 : 0 ≤ h 4 5) (b2 : h 4 5 ≤ h 4 6) (b3 : h 4 6 ≤ 400) (HK : K (lwv h) h) : ∀ (ad : Nat → Nat) (sz : Nat), am_okh h → (true = true → am_fin h) → (∀ v ∈ [((2, 4) : am_V)], am_okv (h 0 0) v) → am_Mt l dC dI cA fx true (ex_E fx adV L xs Y) 8 (d + 1) jl_q [(2, 4)] h ad sz K := by
  refine am_metG (ex_Ext hY) ex_w ex_x hL hxs (by omega) jl_me (by decide) (by show ¬ (2 : Nat) < 1; decide) ?_
  intro p e R s m args below meth c Q A cp ad hok X hRet hR
  obtain ⟨a, ha⟩ : ∃ a : Nat, h 4 5 = a := ⟨(h 4 5).toNat, by omega⟩
  obtain ⟨b, hb⟩ : ∃ b : Nat, h 4 6 = b := ⟨(h 4 6).toNat, by omega⟩
  have hCall : am_CallOK p l e R s m args below meth c Q dC dI cA fx A 2 (h 0 0).toNat (h 0 0 + (0 : Nat)) true ad cp 1 cX1_languageWord (jl_C h) := by
    intro pc idx id2 q2 raw as2 s2 h2 ls2 K2 hm2 hd2 hraw2 hlen2 hcat2 hlm2 hC2 hk2
    obtain ⟨rfl, rfl, a', b', i, rfl, c1, c2, c3, c4, c5⟩ := hC2
    have hq2 : q2 = js_q := by
      have := (am_mx_in hm2).2
      rw [js_me] at this
      exact (Option.some.inj this).symm
    subst hq2
    exact am_call_one X (S := 6) (d := 0) (by omega) (by omega) hm2 hd2 hraw2 hlen2 hcat2 hlm2 (by decide) (fun ad2 sz2 ho2 hf2 hv2 => ⟨Or.inr jl_rcv, jm_spells hY hL hxs c1 c2 c3 c4 c5 ad2 sz2 ho2 hf2 hv2⟩) hk2
  have blk : ∀ (B : List Instr) (pc e' : Nat) (ls st : List am_V) (h2 : am_H), am_dec 1 cX1_languageWord e' B pc = true → am_blk true false 2 (h 0 0 + (0 : Nat)) L xs (jl_C h) K (am_G p l e R s m args below meth c Q dC dI cA fx A 2 (h 0 0).toNat (h 0 0 + (0 : Nat)) true ad cp) e' B ls st h2 → am_G p l e R s m args below meth c Q dC dI cA fx A 2 (h 0 0).toNat (h 0 0 + (0 : Nat)) true ad cp pc ls st h2 := fun B pc e' ls st h2 hd hb => am_blk_ok X hCall hRet (fun _ _ _ _ h => h) e' B pc ls st h2 hd hb
  show am_G p l e R s m args below meth c Q dC dI cA fx A 2 (h 0 0).toNat (h 0 0 + (0 : Nat)) true ad cp 0 [(2, 4), (9, 0)] [] h
  refine blk [.iconst 0, .istore 1] 0 2 _ _ _ (by decide +kernel) ?_
  have e56 : K (2, 0) h → ∀ v : am_V, am_G p l e R s m args below meth c Q dC dI cA fx A 2 (h 0 0).toNat (h 0 0 + (0 : Nat)) true ad cp 56 [(2, 4), v] [] h := fun hk v => blk [.aconst_null, .areturn] 56 58 _ _ _ (by decide +kernel) hk
  have ew : ∀ f k : Nat, k + f = 12 → wfr (sgn h) a b f k = widx (sgn h) a b → am_G p l e R s m args below meth c Q dC dI cA fx A 2 (h 0 0).toNat (h 0 0 + (0 : Nat)) true ad cp 2 [(2, 4), (0, (k : Int))] [] h := by
    intro f
    unfold lwv at HK
    rw [ha, hb, Int.toNat_natCast, Int.toNat_natCast] at HK
    induction f with
    | zero =>
      intro k hk he
      simp only [wfr] at he
      rw [if_neg (fun q => by rw [← he] at q; exact absurd q.2 (by decide))] at HK
      refine blk [.aload 0, .getfield 68, .iconst 1, .if_icmp .ne 56] 2 10 _ _ _ (by decide +kernel) ⟨fun _ => e56 HK _, fun _ => ?_⟩
      refine blk [.iload 1] 10 11 _ _ _ (by decide +kernel) ?_
      refine jl_all X ?_
      exact blk [.if_icmp .ge 56] 15 18 _ _ _ (by decide +kernel) ⟨fun _ => e56 HK _, fun y => absurd (show (12 : Int) ≤ (k : Int) by omega) y⟩
    | succ f ih =>
      intro k hk he
      simp only [wfr] at he
      refine blk [.aload 0, .getfield 68, .iconst 1, .if_icmp .ne 56] 2 10 _ _ _ (by decide +kernel) ⟨fun y => ?_, fun y => ?_⟩
      · have y2 : ¬ h 4 4 = 1 := y
        rw [if_neg (fun q => y2 q.1)] at HK
        exact e56 HK _
      have k1 : h 4 4 = 1 := Classical.not_not.mp y
      refine blk [.iload 1] 10 11 _ _ _ (by decide +kernel) ?_
      refine jl_all X ?_
      refine blk [.if_icmp .ge 56, .aload 0, .getfield 64, .aload 0, .getfield 69, .aload 0, .getfield 70] 15 30 _ _ _ (by decide +kernel) ⟨fun y => absurd (show (12 : Int) ≤ (k : Int) from y) (by omega), fun _ => ?_⟩
      show am_G p l e R s m args below meth c Q dC dI cA fx A 2 (h 0 0).toNat (h 0 0 + (0 : Nat)) true ad cp 30 [(2, 4), (0, (k : Int))] [(0, h 4 6), (0, h 4 5), (2, 2)] h
      rw [ha, hb]
      refine jl_wrd X (by decide +kernel) (by decide +kernel) (by decide +kernel) (by omega) rfl (jl_txt X (by omega) ?_)
      refine blk [.invokestatic 5508, .ifCond .eq 50] 38 44 _ _ _ (by decide +kernel) ?_
      show jl_C h 86 [(2, 2), (0, (a : Int)), (0, (b : Int)), (5, (k : Int))] h _
      refine ⟨rfl, rfl, a, b, k, rfl, by omega, by omega, by omega, fun hm => ⟨fun y => absurd (show (1 : Int) = 0 from y) (by decide), fun _ => ?_⟩, fun hm => ⟨fun _ => ?_, fun y => absurd rfl y⟩⟩
      · rw [if_pos hm] at he
        rw [if_pos ⟨k1, by rw [← he]; omega⟩, ← he] at HK
        refine jl_wrd X (by decide +kernel) (by decide +kernel) (by decide +kernel) (by omega) rfl ?_
        exact blk [.areturn] 49 50 _ _ _ (by decide +kernel) HK
      · rw [if_neg hm] at he
        exact blk [.iinc 1 1, .goto 2] 50 56 _ _ _ (by decide +kernel) ⟨⟨by omega, by omega⟩, ih (k + 1) (by omega) he⟩
  exact ew 12 0 (by decide) rfl
end
