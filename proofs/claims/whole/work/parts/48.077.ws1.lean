/-! ws1: what the start gives beside the world -/
def ws_nm : List String := ["MAY", "SURE", "LETTERS_WORD", "LINES_WORD", "WIDE_WORD", "RECUT_WORD", "BAR_WORD", "DISC_WORD", "BUTTON_WORD", "BOOTS_WORD", "TEETH_WORD", "NEAR_WORD"]
def ws_sk : List Nat := [79, 85, 88, 91, 94, 97, 100, 103, 106, 109, 112, 115]
def ws_tw (i : Nat) : Term := .static RX9 (ws_nm.getD i "") "LStonesAlike$Word;"
def ws_ts (i : Nat) : Term := .string RX9 (ws_sk.getD i 0)
abbrev ws_al : Term := .static RX9 "ALL" "[LStonesAlike$Word;"
abbrev ws_F : List Cond := flatC (Jvm.Cond.and given_1 narrow_1)
def ws_in (w : Cond) : Bool := decide (w ∈ ws_F)
theorem ws_f1 : (List.range 12).all (fun i => ws_in (Cond.exactly (ws_ts i) "java/lang/String") && ws_in (Cond.eq (.field (ws_ts i) "java/lang/String" "coder" "B") (.int 0)) && ws_in (Cond.arrayOf (.field (ws_ts i) "java/lang/String" "value" "[B") .byte) && ws_in (Cond.eq (.length (.field (ws_ts i) "java/lang/String" "value" "[B")) (.int (Int32.ofNat (jw_len.getD i 0))))) = true := by decide +kernel
theorem ws_f2 : (List.range 12).all (fun i => (List.range (jw_len.getD i 0)).all (fun j => ws_in (Cond.eq (.elem (.field (ws_ts i) "java/lang/String" "value" "[B") (.int (Int32.ofNat j))) (.int ((jw_byt.getD i []).getD j 0))))) = true := by decide +kernel
def ws_at (k : Nat) (w : Cond) : Bool := decide (ws_F[k]? = some w)
theorem ws_at_in {k : Nat} {w : Cond} (h : ws_at k w = true) : w ∈ ws_F := List.mem_of_getElem? (of_decide_eq_true h)
def ws_ne (i : Nat) (q : Nat × Nat × Nat) : Bool := i == q.1 || (if q.2.1 = 0 then ws_at q.2.2 (Cond.not (Cond.eq (ws_ts i) (ws_ts q.1))) else ws_at q.2.2 (Cond.not (Cond.eq (ws_ts q.1) (ws_ts i))))
def ws_r0 : List (Nat × Nat × Nat) := [(0, 0, 0), (1, 0, 267), (2, 0, 281), (3, 0, 294), (4, 0, 307), (5, 0, 322), (6, 0, 336), (7, 0, 352), (8, 0, 371), (9, 0, 390), (10, 0, 410), (11, 0, 430)]
theorem ws_n0 : ws_r0.all (ws_ne 0) = true := by decide +kernel
def ws_r1 : List (Nat × Nat × Nat) := [(0, 1, 267), (1, 0, 0), (2, 0, 282), (3, 0, 295), (4, 0, 308), (5, 0, 323), (6, 0, 337), (7, 0, 353), (8, 0, 372), (9, 0, 391), (10, 0, 411), (11, 0, 431)]
theorem ws_n1 : ws_r1.all (ws_ne 1) = true := by decide +kernel
def ws_r2 : List (Nat × Nat × Nat) := [(0, 1, 281), (1, 1, 282), (2, 0, 0), (3, 0, 296), (4, 0, 309), (5, 0, 324), (6, 0, 338), (7, 0, 354), (8, 0, 373), (9, 0, 392), (10, 0, 412), (11, 0, 432)]
theorem ws_n2 : ws_r2.all (ws_ne 2) = true := by decide +kernel
def ws_r3 : List (Nat × Nat × Nat) := [(0, 1, 294), (1, 1, 295), (2, 1, 296), (3, 0, 0), (4, 0, 310), (5, 0, 325), (6, 0, 339), (7, 0, 355), (8, 0, 374), (9, 0, 393), (10, 0, 413), (11, 0, 433)]
theorem ws_n3 : ws_r3.all (ws_ne 3) = true := by decide +kernel
def ws_r4 : List (Nat × Nat × Nat) := [(0, 1, 307), (1, 1, 308), (2, 1, 309), (3, 1, 310), (4, 0, 0), (5, 0, 326), (6, 0, 340), (7, 0, 356), (8, 0, 375), (9, 0, 394), (10, 0, 414), (11, 0, 434)]
theorem ws_n4 : ws_r4.all (ws_ne 4) = true := by decide +kernel
def ws_r5 : List (Nat × Nat × Nat) := [(0, 1, 322), (1, 1, 323), (2, 1, 324), (3, 1, 325), (4, 1, 326), (5, 0, 0), (6, 0, 341), (7, 0, 357), (8, 0, 376), (9, 0, 395), (10, 0, 415), (11, 0, 435)]
theorem ws_n5 : ws_r5.all (ws_ne 5) = true := by decide +kernel
def ws_r6 : List (Nat × Nat × Nat) := [(0, 1, 336), (1, 1, 337), (2, 1, 338), (3, 1, 339), (4, 1, 340), (5, 1, 341), (6, 0, 0), (7, 0, 358), (8, 0, 377), (9, 0, 396), (10, 0, 416), (11, 0, 436)]
theorem ws_n6 : ws_r6.all (ws_ne 6) = true := by decide +kernel
def ws_r7 : List (Nat × Nat × Nat) := [(0, 1, 352), (1, 1, 353), (2, 1, 354), (3, 1, 355), (4, 1, 356), (5, 1, 357), (6, 1, 358), (7, 0, 0), (8, 0, 378), (9, 0, 397), (10, 0, 417), (11, 0, 437)]
theorem ws_n7 : ws_r7.all (ws_ne 7) = true := by decide +kernel
def ws_r8 : List (Nat × Nat × Nat) := [(0, 1, 371), (1, 1, 372), (2, 1, 373), (3, 1, 374), (4, 1, 375), (5, 1, 376), (6, 1, 377), (7, 1, 378), (8, 0, 0), (9, 0, 398), (10, 0, 418), (11, 0, 438)]
theorem ws_n8 : ws_r8.all (ws_ne 8) = true := by decide +kernel
def ws_r9 : List (Nat × Nat × Nat) := [(0, 1, 390), (1, 1, 391), (2, 1, 392), (3, 1, 393), (4, 1, 394), (5, 1, 395), (6, 1, 396), (7, 1, 397), (8, 1, 398), (9, 0, 0), (10, 0, 419), (11, 0, 439)]
theorem ws_n9 : ws_r9.all (ws_ne 9) = true := by decide +kernel
def ws_r10 : List (Nat × Nat × Nat) := [(0, 1, 410), (1, 1, 411), (2, 1, 412), (3, 1, 413), (4, 1, 414), (5, 1, 415), (6, 1, 416), (7, 1, 417), (8, 1, 418), (9, 1, 419), (10, 0, 0), (11, 0, 440)]
theorem ws_n10 : ws_r10.all (ws_ne 10) = true := by decide +kernel
def ws_r11 : List (Nat × Nat × Nat) := [(0, 1, 430), (1, 1, 431), (2, 1, 432), (3, 1, 433), (4, 1, 434), (5, 1, 435), (6, 1, 436), (7, 1, 437), (8, 1, 438), (9, 1, 439), (10, 1, 440), (11, 0, 0)]
theorem ws_n11 : ws_r11.all (ws_ne 11) = true := by decide +kernel
def ws_r : List (List (Nat × Nat × Nat)) := [ws_r0, ws_r1, ws_r2, ws_r3, ws_r4, ws_r5, ws_r6, ws_r7, ws_r8, ws_r9, ws_r10, ws_r11]
theorem ws_f3 : ∀ i : Fin 12, (ws_r.getD i.val []).all (ws_ne i.val) = true := by
  intro i
  match i with
  | ⟨0, _⟩ => exact ws_n0
  | ⟨1, _⟩ => exact ws_n1
  | ⟨2, _⟩ => exact ws_n2
  | ⟨3, _⟩ => exact ws_n3
  | ⟨4, _⟩ => exact ws_n4
  | ⟨5, _⟩ => exact ws_n5
  | ⟨6, _⟩ => exact ws_n6
  | ⟨7, _⟩ => exact ws_n7
  | ⟨8, _⟩ => exact ws_n8
  | ⟨9, _⟩ => exact ws_n9
  | ⟨10, _⟩ => exact ws_n10
  | ⟨11, _⟩ => exact ws_n11
theorem ws_rj : ∀ i j : Fin 12, ((ws_r.getD i.val []).getD j.val (0, 0, 0)).1 = j.val ∧ (ws_r.getD i.val []).length = 12 := by decide
theorem ws_f3' {i j : Nat} (hi : i < 12) (hj : j < 12) (hij : i ≠ j) : (Cond.not (Cond.eq (ws_ts i) (ws_ts j))) ∈ ws_F ∨ (Cond.not (Cond.eq (ws_ts j) (ws_ts i))) ∈ ws_F := by
  have h := ws_f3 ⟨i, hi⟩
  dsimp only at h
  obtain ⟨e1, e2⟩ := ws_rj ⟨i, hi⟩ ⟨j, hj⟩
  dsimp only at e1 e2
  generalize ws_r.getD i [] = r at h e1 e2
  have hm : r.getD j (0, 0, 0) ∈ r := by
    rw [List.getD_eq_getElem?_getD, List.getElem?_eq_getElem (by omega)]
    exact List.getElem_mem _
  have := List.all_eq_true.mp h _ hm
  unfold ws_ne at this
  rw [e1] at this
  rw [Bool.or_eq_true] at this
  rcases this with h | h
  · exact absurd (by simpa using h) hij
  · split at h
    · exact Or.inl (ws_at_in h)
    · exact Or.inr (ws_at_in h)
theorem ws_f4 : (List.range 12).all (fun i => ws_in (Cond.exactly (ws_tw i) RX9) && ws_in (Cond.eq (.field (ws_tw i) RX9 "text" "Ljava/lang/String;") (ws_ts i)) && ws_in (Cond.eq (.elem ws_al (.int (Int32.ofNat i))) (ws_tw i))) = true := by decide +kernel
theorem ws_f5 : (List.range 12).all (fun i => (List.range 4).all (fun j => ws_in (Cond.eq (.field (ws_tw i) RX9 (["role", "slot", "low", "high"].getD j "") "I") (.int (Int32.ofInt (am_word i j)))))) = true := by decide +kernel
theorem ws_f6 : (ws_in (Cond.arrayOf ws_al (.object RX9)) && ws_in (Cond.eq (.length ws_al) (.int 12)) && ws_in (Cond.eq (.static RJ0 "COMPACT_STRINGS" "Z") (.int 1)) && ws_in (Cond.isRef (.static RJ3 "SIOOBE_FORMATTER" "Ljava/util/function/BiFunction;"))) = true := by decide +kernel
theorem ws_g1 : Cond.laysStatic RX9 "ALL" "[LStonesAlike$Word;" ∈ lw_tbl ∧ Cond.initialized RX9 ∈ lw_tbl ∧ Cond.laysStatic RJ0 "COMPACT_STRINGS" "Z" ∈ lw_tbl ∧ Cond.initialized RJ0 ∈ lw_tbl ∧ Cond.laysStatic RJ3 "SIOOBE_FORMATTER" "Ljava/util/function/BiFunction;" ∈ lw_tbl ∧ Cond.initialized RJ3 ∈ lw_tbl := ⟨by decide +kernel, by decide +kernel, by decide +kernel, by decide +kernel, by decide +kernel, by decide +kernel⟩
theorem ws_eqL {args : Array Value} {s : State} {t u : Term} {a : Nat} (h : (Cond.eq t u).before args s = true) (hu : u.eval args s none [] s = some (.ref a)) : t.eval args s none [] s = some (.ref a) := by
  cases ht : t.eval args s none [] s with
  | none => simp [Cond.before, Cond.holds, Cond.value, ht, hu] at h
  | some w =>
    cases w with
    | ref b => have := va_eqR h ht; rw [hu] at this; exact this.symm
    | _ => simp [Cond.before, Cond.holds, Cond.value, ht, hu] at h
set_option maxHeartbeats 1000000 in
theorem ws_EX {s : State} {args : Array Value} {b L : Nat} {xs : Nat → Int32} {A : Nat → Prop} {Y : (Nat → Prop) → State → Heap → Prop} (hs : ∀ w ∈ ws_F, w.before args s = true) (hts : ∀ w ∈ lw_tbl, w.before args s = true) (hX : va_X b L xs s s.heap) (hbl : b < s.heap.size) (hA : ∀ a : Nat, a < s.heap.size → ¬ A a) (hY : Y A s s.heap) : ∃ (fx : Nat → Nat → Nat) (adV : Nat → Nat), fx 7 0 = b ∧ ex_E fx adV L (fun j => (xs j).toInt) Y A s s.heap := by
  have hin : ∀ {w : Cond}, ws_in w = true → w.before args s = true := fun h => hs _ (of_decide_eq_true h)
  have f1 : ∀ i, i < 12 → _ := fun i hi => cx_all ws_f1 i hi
  simp only [Bool.and_eq_true] at f1
  have f4 : ∀ i, i < 12 → _ := fun i hi => cx_all ws_f4 i hi
  simp only [Bool.and_eq_true] at f4
  have f6 := ws_f6
  simp only [Bool.and_eq_true] at f6
  obtain ⟨adK, adV, hSS, hev⟩ := vk_Sof (args := args) (s := s) (N := 12) (tm := ws_ts) (len := jw_len) (byt := jw_byt) (A := A) (fun i hi => by have := jw_l8 ⟨i, hi⟩; dsimp only at this; omega) (fun i hi => hin (f1 i hi).1.1.1) (fun i hi => hin (f1 i hi).1.1.2) (fun i hi => hin (f1 i hi).1.2) (fun i hi => hin (f1 i hi).2) (fun i hi j hj => hin (cx_all (cx_all ws_f2 i hi) j hj)) (fun i j hi hj hij => (ws_f3' hi hj hij).imp (fun h => hs _ h) (fun h => hs _ h)) hA
  have h0 : ∀ i : Nat, ∃ a : Nat, i < 12 → (ws_tw i).eval args s none [] s = some (.ref a) := by
    intro i
    by_cases hi : i < 12
    · obtain ⟨a, c, cA, kA, q1, -⟩ := Cond.exactly_spec (args := args) (first := s) (o := none) (s := s) (idx := []) (t := ws_tw i) (cls := RX9) (hin (f4 i hi).1.1)
      exact ⟨a, fun _ => q1⟩
    · exact ⟨0, fun h => absurd h hi⟩
  obtain ⟨adW, hW⟩ := Classical.axiomOfChoice h0
  obtain ⟨tA, htA, hTA⟩ := va_Tof (args := args) (s := s) (tm := ws_al) (ty := .object RX9) (N := 12) (f := fun i => .ref (adW i)) (A := A) (by decide) (hin f6.1.1.1) (va_eqt (hin f6.1.1.2)) (fun j hj => ws_eqL (hin (f4 j hj).2) (hW j hj)) hA
  refine ⟨fun k i => if k = 4 then adW i else if k = 5 then adK i else if k = 6 then tA else b, adV, rfl, fun i j hi hj => ?_, ⟨?_, hA b hbl⟩, ⟨hSS, va_Zof (hts _ ws_g1.2.2.1) (hts _ ws_g1.2.2.2.1) (va_eqt (hin f6.1.2)) hA, va_Zqof (hts _ ws_g1.2.2.2.2.1) (hts _ ws_g1.2.2.2.2.2) (hin f6.2) hA⟩, fun i hi => ?_, va_Zof (hts _ ws_g1.1) (hts _ ws_g1.2.1) htA hA, hTA, hY⟩
  · exact vk_OFof (hW i hi) (va_eqt (hin (cx_all (cx_all ws_f5 i hi) j hj))) hA
  · have : (fun j => Int32.ofInt (xs j).toInt) = xs := funext (fun j => Int32.ofInt_toInt _)
    show va_X b L (fun j => Int32.ofInt (xs j).toInt) s s.heap
    rw [this]; exact hX
  · exact vk_OFof (hW i hi) (ws_eqL (hin (f4 i hi).1.2) (hev i hi)) hA
