/-! cx4: what holds when both stand -/
section
variable {L : Nat} {xs : Nat → Int} {P : Nat → List am_V → am_H → am_K → Prop} {K : am_K}
set_option maxRecDepth 100000 in
theorem cx_n1 : cx_h cx_l1 0 0 = 58 ∧ cx_h cx_lb 0 0 = 92 ∧ cx_h cx_l2 0 0 = 92 ∧ cx_h ((0, 0, 59) :: cx_l1) 0 0 + ((33 : Nat) : Int) = 92 ∧ cx_h cx_lb 0 0 + ((0 : Nat) : Int) = 92 := by decide +kernel
set_option maxRecDepth 20000 in
theorem cx_ek {d : Nat} {h : am_H} (H : am_T false false 3 (h 0 0 + (0 : Nat)) L xs 11 cX12_keep (am_C false L xs P d) K 0 [(2, 59), (9, 0)] [] h) : am_C false L xs P (d + 1) 155 [(2, 59)] h K := H
set_option maxRecDepth 20000 in
theorem cx_ei {d : Nat} {h : am_H} (H : am_T false true 3 (h 0 0 + (33 : Nat)) L xs 11 cX12_init (am_C false L xs P d) K 0 [(2, 59)] [] h) : am_C false L xs P (d + 1) 144 [(2, 59)] h K := H
set_option maxRecDepth 20000 in
theorem cx_keep (hK : K (9, 0) (cx_h cx_l2)) : am_C false L xs P 4 155 [(2, 59)] (cx_h cx_lb) K := by
  refine cx_ek ?_
  rw [cx_n1.2.2.2.2]
  refine cx_p_ok (cx_c_ok 3) _ cx_pk0 (cx_p_ok (cx_c_ok 3) _ cx_pk1 (cx_p_ok (cx_c_ok 3) _ cx_pk2 (cx_p_ok (cx_c_ok 3) _ cx_pk3 (cx_p_ok (cx_c_ok 3) _ cx_pk4 (cx_p_ok (cx_c_ok 3) _ cx_pk5 (cx_p_ok (cx_c_ok 3) _ cx_pk6 (cx_p_ok (cx_c_ok 3) _ cx_pk7 (cx_p_ok (cx_c_ok 3) _ cx_pk8 (cx_p_ok (cx_c_ok 3) _ cx_pk9 (cx_p_ok (cx_c_ok 3) _ cx_pk10 (cx_p_ok (cx_c_ok 3) _ cx_pk11 (?_))))))))))))
  exact am_go (e := 131) (B := .return_ :: []) (by decide +kernel) hK
set_option maxRecDepth 20000 in
theorem cx_made2 (hK : K (9, 0) (cx_h cx_l2)) : am_C false L xs P 5 144 [(2, 59)] (cx_h ((0, 0, 59) :: cx_l1)) K := by
  refine cx_ei ?_
  rw [cx_n1.2.2.2.1]
  refine cx_p_ok (cx_c_ok 4) _ cx_pa0 (cx_p_ok (cx_c_ok 4) _ cx_pa1 (cx_p_ok (cx_c_ok 4) _ cx_pa2 (cx_p_ok (cx_c_ok 4) _ cx_pa3 (?_))))
  refine am_go (e := 701) (B := (.invokestatic 9905) :: (.aload 0) :: (.invokestatic 9969) :: .return_ :: []) (by decide +kernel) ?_
  show am_C false L xs P 4 154 [(2, 59)] (cx_h cx_a3) (fun _ h => am_C false L xs P 4 155 [(2, 59)] h (fun _ h => h 0 0 = 92 ∧ K (9, 0) h))
  exact cx_c_ok 4 154 _ _ _ _ cx_pl (cx_keep ⟨cx_n1.2.2.1, hK⟩)
theorem cx_made1 (hK : K (9, 0) (cx_h cx_l1)) : am_C false L xs P 5 101 [(2, 1)] (cx_h [(0, 0, 1)]) K := cx_c_ok 5 101 _ _ _ _ cx_r1 hK
end
def cx_B : cx_L := (0, 0, 93) :: cx_l2
abbrev cx_H : am_H := cx_h cx_B
theorem cx_z (n : Nat) (h : cx_new n cx_B = true) : ∀ j, cx_H (n + 1) j = 0 := cx_new_ok h
theorem cx_all {N : Nat} {p : Nat → Bool} (h : (List.range N).all p = true) : ∀ i, i < N → p i = true := fun i hi => List.all_eq_true.mp h i (List.mem_range.mpr hi)
set_option maxRecDepth 100000 in
theorem cx_v : cx_H 34 4 = 0 ∧ cx_H 59 11 = 0 ∧ cx_H 34 5 = 0 ∧ cx_H 59 12 = 0 ∧ cx_H 59 3 = 4 ∧ cx_H 59 4 = 4 ∧ cx_H 20 13 = 16 ∧ cx_H 20 14 = 0 ∧ cx_H 59 7 = 0 ∧ cx_H 20 15 = 0 ∧ cx_H 59 9 = 0 ∧ cx_H 4 1 = 5 ∧ cx_H 4 2 = 11 ∧ cx_H 5 5 = 0 ∧ cx_H 59 31 = 0 ∧ cx_H 5 6 = 0 ∧ cx_H 59 36 = 0 ∧ cx_H 73 0 = 66 ∧ cx_H 73 1 = 4 ∧ cx_H 73 2 = 18 ∧ cx_H 73 3 = 10 := by decide +kernel
set_option maxRecDepth 100000 in
theorem cx_w : cx_H 2 1 = 0 ∧ cx_H 59 1 = 0 ∧ cx_H 1 11 = 0 ∧ cx_H 59 24 = 0 ∧ cx_H 1 12 = -1 ∧ cx_H 59 25 = -1 ∧ cx_H 17 3 = 0 ∧ cx_H 59 40 = 0 ∧ cx_H 55 3 = 0 ∧ cx_H 59 19 = 0 ∧ cx_H 55 4 = 100 ∧ cx_H 59 22 = 100 ∧ cx_H 1 9 = 0 ∧ cx_H 59 5 = 0 ∧ cx_H 1 10 = 0 ∧ cx_H 59 6 = 0 ∧ cx_H 0 0 = 93 ∧ cx_H 0 1 = 0 := by decide +kernel
set_option maxRecDepth 100000 in
theorem cx_co : (List.range 25).all (fun c => decide ((c < 16 → cx_H 21 c = (c : Int) % 4 ∧ cx_H 22 c = (c : Int) / 4) ∧ (0 ≤ cx_H 21 c ∧ cx_H 21 c ≤ 4) ∧ (0 ≤ cx_H 22 c ∧ cx_H 22 c ≤ 4))) = true := by decide +kernel
set_option maxRecDepth 100000 in
theorem cx_se : (List.range 4).all (fun k => decide (cx_H 6 k = cx_H 73 k)) = true := by decide +kernel
set_option maxRecDepth 100000 in
theorem cx_wd : (List.range 67).all (fun i => decide (cx_H 71 i = W67.getD i 0)) = true := by decide +kernel
set_option maxRecDepth 100000 in
theorem cx_zs : ([2, 59, 23, 60, 61, 55, 56, 68, 69].all (fun n => cx_new n cx_B)) = true := by decide +kernel
theorem cx_zz {n : Nat} (h : n ∈ [2, 59, 23, 60, 61, 55, 56, 68, 69]) : ∀ j, cx_H (n + 1) j = 0 := cx_z n (List.all_eq_true.mp cx_zs n h)
theorem cx_Inv : Inv cx_H := by
  obtain ⟨v1, v2, v3, v4, v5, v6, v7, v8, v9, v10, v11, v12, v13, v14, v15, v16, v17, s0, s1, s2, s3⟩ := cx_v
  obtain ⟨w1, w2, w3, w4, w5, w6, w7, w8, w9, w10, w11, w12, w13, w14, w15, w16, w17, w18⟩ := cx_w
  have z3 : ∀ j, cx_H 3 j = 0 := cx_zz (n := 2) (by decide)
  have z60 : ∀ j, cx_H 60 j = 0 := cx_zz (n := 59) (by decide)
  have z24 : ∀ j, cx_H 24 j = 0 := cx_zz (n := 23) (by decide)
  have z61 : ∀ j, cx_H 61 j = 0 := cx_zz (n := 60) (by decide)
  have z62 : ∀ j, cx_H 62 j = 0 := cx_zz (n := 61) (by decide)
  have z56 : ∀ j, cx_H 56 j = 0 := cx_zz (n := 55) (by decide)
  have z57 : ∀ j, cx_H 57 j = 0 := cx_zz (n := 56) (by decide)
  have z69 : ∀ j, cx_H 69 j = 0 := cx_zz (n := 68) (by decide)
  have z70 : ∀ j, cx_H 70 j = 0 := cx_zz (n := 69) (by decide)
  have co : ∀ c, c < 25 → (c < 16 → cx_H 21 c = (c : Int) % 4 ∧ cx_H 22 c = (c : Int) / 4) ∧ (0 ≤ cx_H 21 c ∧ cx_H 21 c ≤ 4) ∧ (0 ≤ cx_H 22 c ∧ cx_H 22 c ≤ 4) := fun c hc => of_decide_eq_true (cx_all cx_co c hc)
  refine ⟨⟨0, 0, v1, v2, by decide, v3, v4, fun k hk => absurd hk (Nat.not_lt_zero k), fun k hk => absurd hk (Nat.not_lt_zero k), fun k hk => absurd hk (Nat.not_lt_zero k), fun k hk => absurd hk (Nat.not_lt_zero k), fun k hk => absurd hk (Nat.not_lt_zero k), fun k hk => absurd hk (Nat.not_lt_zero k), ?_, fun k hk => absurd hk (Nat.not_lt_zero k), fun k hk => absurd hk (Nat.not_lt_zero k)⟩, ⟨0, by rw [v5]; decide, by rw [v6]; decide, by rw [v7, v5, v6]; decide, by rw [v8, v9], by rw [v9]; decide, v10, v11, by decide, fun c hc => ?_, fun j hj => ⟨(co j hj).2.1, (co j hj).2.2⟩, fun j hj => by rw [z24, z61]; decide, fun i hi => by rw [v9] at hi; omega, fun m hm => absurd hm (Nat.not_lt_zero m), fun m hm => by rw [z62]; decide, fun m t hm => absurd hm (Nat.not_lt_zero m), fun m t hm => absurd hm (Nat.not_lt_zero m)⟩, ⟨5, 0, 0, ⟨Or.inl rfl, v12, v14, v15, by decide, fun l hl => absurd hl (Nat.not_lt_zero l)⟩, ⟨by rw [v13]; decide, fun k hk => by simpa using cx_all cx_se k hk, by rw [s0]; decide, by rw [s1]; decide, by rw [s2]; decide, by rw [s3]; decide, v16, v17, by decide, fun k hk => absurd hk (Nat.not_lt_zero k), fun i hi => by simpa using cx_all cx_wd i hi⟩⟩, ⟨by rw [w1, w2], by rw [w2]; decide, fun j => by rw [z3, z60]; decide⟩, ⟨by rw [w3, w4], by rw [w5, w6]⟩, ⟨by rw [w7, w8], by rw [w8]; decide, fun k hk => by rw [w8] at hk; omega⟩, ⟨⟨by rw [w9]; decide, by rw [w11]; decide, fun j _ => by rw [z56]; decide, fun j _ => by rw [z57]; decide, fun j hj => by rw [w9] at hj; omega⟩, ⟨by rw [w10]; decide, by rw [w12]; decide, fun j _ => by rw [z69]; decide, fun j _ => by rw [z70]; decide, fun j hj => by rw [w10] at hj; omega⟩, by rw [w9, w10], by rw [w11, w12], fun j hj => by rw [w10] at hj; omega, fun j _ => by rw [z57, z70]⟩, ⟨by rw [w13, w14], by rw [w14]; decide, by rw [w15, w16]⟩⟩
  · exact ⟨by decide, fun k hk => absurd hk (Nat.not_lt_zero k), fun k hk => absurd hk (Nat.not_lt_zero k), fun k hk => absurd hk (Nat.not_lt_zero k), fun k hk => absurd hk (Nat.not_lt_zero k), fun k hk => absurd hk (Nat.not_lt_zero k), fun k _ hk => absurd hk (Nat.not_lt_zero k)⟩
  · rw [v7] at hc
    rw [v5]
    exact (co c (by omega)).1 (by omega)
def cx_finc (k : Nat) : Bool := (List.range (am_cell k).2.2.length).all (fun j => match am_nth (am_cell k).2.2 j with | some f => !(f.1 == 8) || decide (cx_H k j = f.2) | none => true)
set_option maxRecDepth 100000 in
theorem cx_finb : (List.range 94).all (fun k => !((am_cell k).1 == 0) || cx_finc k) = true := by decide +kernel
theorem cx_fin : am_fin cx_H := by
  intro k j f hk h0 hf h8
  have k93 : k < 94 := by
    have := (am_cell_k (k := k) (by rw [h0]; decide)).2
    omega
  have a := cx_all cx_finb k k93
  rw [h0] at a
  have b : cx_finc k = true := by simpa using a
  have hj : j < (am_cell k).2.2.length := by
    rw [am_nth_get] at hf
    exact (List.getElem?_eq_some_iff.mp hf).1
  have c := cx_all b j hj
  rw [hf] at c
  dsimp only at c
  rw [h8] at c
  simpa using c
