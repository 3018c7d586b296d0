/-! chm: the model takes a word, a number -/
section
variable {L : Nat} {xs : Nat → Int} {P : Nat → List am_V → am_H → am_K → Prop} {d : Nat} {h : am_H} {K : am_K}
theorem kX12_isSmall {p n : Nat} (h26 : h 59 26 = n) (hn : n ≤ 400) (H0 : ¬ (p < n ∧ Sm (h 60) p) → K (0, 0) h) (H1 : (p < n ∧ Sm (h 60) p) → K (0, 1) h) : am_C true L xs P (d + 1) 151 [(2, 59), (0, (p : Int))] h K := by
  have no : ¬ (p < n ∧ Sm (h 60) p) → tX12_isSmall (h 0 0 + (0 : Nat)) L xs (am_C true L xs P d) K 34 [(2, 59), (0, (p : Int))] [] h := fun z => bX12_isSmall_34 (bX12_isSmall_35 ⟨by decide, H0 z⟩)
  refine eX12_isSmall (bX12_isSmall_0 ?_)
  rw [h26, Int.toNat_natCast]
  exact ⟨fun z => no (fun q => by omega), fun z => ⟨by omega, fun z1 => no (fun q => by have := q.2.1; omega), fun z1 => ⟨by omega, fun z2 => no (fun q => by have := q.2.2; omega), fun z2 => bX12_isSmall_35 ⟨by decide, H1 ⟨by omega, by omega, by omega⟩⟩⟩⟩⟩
theorem kX12_isDigit {p n : Nat} (h26 : h 59 26 = n) (hn : n ≤ 400) (H0 : ¬ (p < n ∧ Dg (h 60) p) → K (0, 0) h) (H1 : (p < n ∧ Dg (h 60) p) → K (0, 1) h) : am_C true L xs P (d + 1) 152 [(2, 59), (0, (p : Int))] h K := by
  have no : ¬ (p < n ∧ Dg (h 60) p) → tX12_isDigit (h 0 0 + (0 : Nat)) L xs (am_C true L xs P d) K 34 [(2, 59), (0, (p : Int))] [] h := fun z => bX12_isDigit_34 (bX12_isDigit_35 ⟨by decide, H0 z⟩)
  refine eX12_isDigit (bX12_isDigit_0 ?_)
  rw [h26, Int.toNat_natCast]
  exact ⟨fun z => no (fun q => by omega), fun z => ⟨by omega, fun z1 => no (fun q => by have := q.2.1; omega), fun z1 => ⟨by omega, fun z2 => no (fun q => by have := q.2.2; omega), fun z2 => bX12_isDigit_35 ⟨by decide, H1 ⟨by omega, by omega, by omega⟩⟩⟩⟩⟩
def offs : List Nat := [0, 4, 9, 17, 23, 28, 34, 38, 43, 50, 56, 62, 67]
theorem off_all : ∀ k : Fin 12, offs.getD k.val 0 + (W12.getD k.val []).length + 1 = offs.getD (k.val + 1) 0 ∧ offs.getD k.val 0 < 67 ∧ W67.getD (offs.getD k.val 0 + (W12.getD k.val []).length) 0 = 32 ∧ (W12.getD k.val []).length ≤ 7 ∧ ∀ i : Fin 7, i.val < (W12.getD k.val []).length → W67.getD (offs.getD k.val 0 + i.val) 0 = (W12.getD k.val []).getD i.val 0 ∧ ¬ W67.getD (offs.getD k.val 0 + i.val) 0 = 32 := by decide
theorem kX12_wordAt {a b : Nat} (hab : a ≤ b) (hb : b ≤ 400) (hw : ∀ i, i < 67 → h 71 i = W67.getD i 0) (H : K (0, widx (h 60) a b) h) : am_C true L xs P (d + 1) 150 [(2, 59), (0, (a : Int)), (0, (b : Int))] h K := by
  refine eX12_wordAt (bX12_wordAt_0 ?_)
  have key : ∀ (f k : Nat) (v5 v6 v7 : am_V), k + f = 12 → K (0, wfr (h 60) a b f k) h → tX12_wordAt (h 0 0 + (0 : Nat)) L xs (am_C true L xs P d) K 5 [(2, 59), (0, (a : Int)), (0, (b : Int)), (0, (k : Int)), (0, ((offs.getD k 0 : Nat) : Int)), v5, v6, v7] [] h := by
    intro f
    induction f with
    | zero =>
      intro k v5 v6 v7 hk HK
      have ek : k = 12 := by omega
      subst ek
      exact bX12_wordAt_5 ⟨fun _ => bX12_wordAt_126 HK, fun z => absurd (by decide) z⟩
    | succ f ih =>
      intro k v5 v6 v7 hk HK
      obtain ⟨o1, o2, o3, o4, o5⟩ := off_all ⟨k, by omega⟩
      dsimp only at o1 o2 o3 o4 o5
      generalize hO : offs.getD k 0 = O at *
      generalize hwk : W12.getD k [] = w at *
      simp only [wfr] at HK
      rw [hwk] at HK
      refine bX12_wordAt_5 ⟨fun z => by omega, fun _ => ?_⟩
      -- the word's length
      have len : ∀ (j i : Nat), i + j = w.length → tX12_wordAt (h 0 0 + (0 : Nat)) L xs (am_C true L xs P d) K 39 [(2, 59), (0, (a : Int)), (0, (b : Int)), (0, (k : Int)), (0, (O : Int)), (0, (w.length : Int)), v6, v7] [] h → tX12_wordAt (h 0 0 + (0 : Nat)) L xs (am_C true L xs P d) K 18 [(2, 59), (0, (a : Int)), (0, (b : Int)), (0, (k : Int)), (0, (O : Int)), (0, (i : Int)), v6, v7] [] h := by
        intro j
        induction j with
        | zero =>
          intro i hi G
          have ei : i = w.length := by omega
          subst ei
          refine bX12_wordAt_18 ⟨⟨by omega, by omega⟩, ⟨by omega, ?_⟩, ?_⟩
          · have : O + w.length < 67 := by
              have : offs.getD (k + 1) 0 ≤ 67 := by
                have : ∀ k : Fin 12, offs.getD (k.val + 1) 0 ≤ 67 := by decide
                exact this ⟨k, by omega⟩
              omega
            omega
          · rw [show Int.toNat ((O : Int) + (w.length : Int)) = O + w.length by omega]
            have l67 : O + w.length < 67 := by
              have : ∀ k : Fin 12, offs.getD (k.val + 1) 0 ≤ 67 := by decide
              have := this ⟨k, by omega⟩
              dsimp only at this
              omega
            rw [hw _ l67, o3]
            exact ⟨fun _ => G, fun z => absurd rfl z⟩
        | succ j ihj =>
          intro i hi G
          have l67 : O + w.length < 67 := by
            have : ∀ k : Fin 12, offs.getD (k.val + 1) 0 ≤ 67 := by decide
            have := this ⟨k, by omega⟩
            dsimp only at this
            omega
          refine bX12_wordAt_18 ⟨⟨by omega, by omega⟩, ⟨by omega, by omega⟩, ?_⟩
          rw [show Int.toNat ((O : Int) + (i : Int)) = O + i by omega, hw _ (by omega)]
          have := (o5 ⟨i, by omega⟩ (by dsimp only; omega)).2
          dsimp only at this
          exact ⟨fun z => absurd z this, fun _ => ⟨by omega, ihj (i + 1) (by omega) G⟩⟩
      refine len w.length 0 (by omega) (bX12_wordAt_39 ⟨⟨by omega, by omega⟩, ?_⟩)
      have l67 : O + w.length < 67 := by
        have : ∀ k : Fin 12, offs.getD (k.val + 1) 0 ≤ 67 := by decide
        have := this ⟨k, by omega⟩
        dsimp only at this
        omega
      -- compare
      have cmp : ∀ (j i : Nat) (x : Int), i + j = w.length → ((x = 1 ∧ w.length = b - a ∧ ∀ i', i' < i → w.getD i' 0 = h 60 (a + i')) ∨ (x = 0 ∧ ¬ wm (h 60) a b w)) → tX12_wordAt (h 0 0 + (0 : Nat)) L xs (am_C true L xs P d) K 57 [(2, 59), (0, (a : Int)), (0, (b : Int)), (0, (k : Int)), (0, (O : Int)), (0, (w.length : Int)), (0, x), (0, (i : Int))] [] h := by
        have fin : ∀ (i : Nat) (x : Int), ((x = 1 ∧ wm (h 60) a b w) ∨ (x = 0 ∧ ¬ wm (h 60) a b w)) → tX12_wordAt (h 0 0 + (0 : Nat)) L xs (am_C true L xs P d) K 104 [(2, 59), (0, (a : Int)), (0, (b : Int)), (0, (k : Int)), (0, (O : Int)), (0, (w.length : Int)), (0, x), (0, (i : Int))] [] h := by
          intro i x hx
          refine bX12_wordAt_104 ⟨fun z => bX12_wordAt_111 ⟨by omega, ⟨by omega, by omega⟩, by omega, ?_⟩, fun z => ?_⟩
          · have nm := (hx.resolve_left (fun q => by omega)).2
            rw [if_neg nm] at HK
            have := ih (k + 1) (0, (w.length : Int)) (0, x) (0, (i : Int)) (by omega) HK
            rw [← o1] at this
            rw [show ((O + w.length + 1 : Nat) : Int) = (O : Int) + ((w.length : Int) + 1) by omega] at this
            exact this
          · have ym := (hx.resolve_right (fun q => z q.1)).2
            rw [if_pos ym] at HK
            exact HK
        intro j
        induction j with
        | zero =>
          intro i x hi hx
          refine bX12_wordAt_57 ⟨fun _ => fin i x ?_, fun z => by omega⟩
          rcases hx with q | q
          · exact Or.inl ⟨q.1, q.2.1, fun i' hi' => q.2.2 i' (by omega)⟩
          · exact Or.inr q
        | succ j ihj =>
          intro i x hi hx
          refine bX12_wordAt_57 ⟨fun z => by omega, fun _ => ⟨fun z => fin i x ?_, fun z => ?_⟩⟩
          · rcases hx with q | q
            · omega
            · exact Or.inr q
          · have q := hx.resolve_right (fun q => z q.1)
            rw [show Int.toNat ((O : Int) + (i : Int)) = O + i by omega, show Int.toNat ((a : Int) + (i : Int)) = a + i by omega, hw _ (by omega)]
            have e5 := (o5 ⟨i, by omega⟩ (by dsimp only; omega)).1
            dsimp only at e5
            rw [e5]
            refine ⟨⟨by omega, by omega⟩, ⟨by omega, by omega⟩, ⟨by omega, by omega⟩, ⟨by omega, by omega⟩, fun z2 => bX12_wordAt_95 (bX12_wordAt_96 ⟨by omega, ?_⟩), fun z2 => bX12_wordAt_96 ⟨by omega, ?_⟩⟩
            · exact ihj (i + 1) 0 (by omega) (Or.inr ⟨rfl, fun y => z2 (y.2 i (by omega))⟩)
            · refine ihj (i + 1) 1 (by omega) (Or.inl ⟨rfl, q.2.1, fun i' hi' => ?_⟩)
              by_cases ei : i' = i
              · rw [ei]; exact Classical.not_not.mp z2
              · exact q.2.2 i' (by omega)
      refine ⟨fun z => bX12_wordAt_51 (bX12_wordAt_52 (cmp w.length 0 0 (by omega) (Or.inr ⟨rfl, fun y => z (by have := y.1; omega)⟩))), fun z => bX12_wordAt_52 (cmp w.length 0 1 (by omega) (Or.inl ⟨rfl, by omega, fun i' hi' => by omega⟩))⟩
  exact key 12 0 _ _ _ (by omega) H
/-- what the model holds of a token -/
def Mt' (s : Nat → Int) (t : Tk) (g : am_H) : Prop := (g 59 28 = t.k) ∧ (g 59 30 = t.fr) ∧ (g 59 27 = t.to) ∧ (t.k = 1 → g 59 29 = widx s t.fr t.to) ∧ (t.k = 2 → g 59 29 = nvl s (t.to - t.fr) t.fr 0)
theorem Mt'.k {s : Nat → Int} {t : Tk} {g : am_H} (s_ : Mt' s t g) : g 59 28 = t.k := s_.1
theorem Mt'.fr {s : Nat → Int} {t : Tk} {g : am_H} (s_ : Mt' s t g) : g 59 30 = t.fr := s_.2.1
theorem Mt'.to {s : Nat → Int} {t : Tk} {g : am_H} (s_ : Mt' s t g) : g 59 27 = t.to := s_.2.2.1
theorem Mt'.w1 {s : Nat → Int} {t : Tk} {g : am_H} (s_ : Mt' s t g) : t.k = 1 → g 59 29 = widx s t.fr t.to := s_.2.2.2.1
theorem Mt'.w2 {s : Nat → Int} {t : Tk} {g : am_H} (s_ : Mt' s t g) : t.k = 2 → g 59 29 = nvl s (t.to - t.fr) t.fr 0 := s_.2.2.2.2
/-- only 27 to 30 of the model's fields differ -/
def Ft (h g : am_H) : Prop := (∀ i, ¬ i = 59 → g i = h i) ∧ ∀ j, ¬ (27 ≤ j ∧ j ≤ 30) → g 59 j = h 59 j
theorem Ft.rf {h : am_H} : Ft h h := ⟨fun _ _ => rfl, fun _ _ => rfl⟩
theorem Ft.st {h g : am_H} {j : Nat} {v : Int} (a : Ft h g) (hj : 27 ≤ j ∧ j ≤ 30) : Ft h (am_st g 59 j v) := ⟨fun i h1 => by rw [st_ne h1]; exact a.1 i h1, fun i h1 => by rw [st_nj (by omega)]; exact a.2 i h1⟩
theorem nvl_bnd {s : Nat → Int} : ∀ (c p : Nat) (v : Int), (∀ j, p ≤ j → j < p + c → Dg s j) → 0 ≤ v ∧ v ≤ 9999 → 0 ≤ nvl s c p v ∧ nvl s c p v ≤ 9999 := by
  intro c
  induction c with
  | zero => intro p v _ hv; exact hv
  | succ c ih =>
    intro p v hd hv
    simp only [nvl]
    have := hd p (by omega) (by omega)
    unfold Dg at this
    refine ih (p + 1) _ (fun j h1 h2 => hd j (by omega) (by omega)) ?_
    split <;> omega
theorem kX12_take {p n : Nat} (hp : p ≤ n) (hn : n ≤ 400) (h26 : h 59 26 = n) (h27 : h 59 27 = p) (hw : ∀ i, i < 67 → h 71 i = W67.getD i 0) (H : ∀ g, Ft h g → Mt' (h 60) (tk (h 60) n p) g → K (9, 0) g) : am_C true L xs P (d + 2) 153 [(2, 59)] h K := by
  refine eX12_take ?_
  have fb := tfr_bnd (s := h 60) hp
  -- the white
  have skip : ∀ (f q : Nat) (g : am_H), q + f = n → tfr (h 60) n p = run (Ws (h 60)) f q → Ft h g → g 59 27 = (q : Int) → (∀ g, Ft h g → g 59 27 = (tfr (h 60) n p : Int) → tX12_take (h 0 0 + (0 : Nat)) L xs (am_C true L xs P (d + 1)) K 52 [(2, 59)] [] g) → tX12_take (h 0 0 + (0 : Nat)) L xs (am_C true L xs P (d + 1)) K 0 [(2, 59)] [] g := by
    intro f
    induction f with
    | zero =>
      intro q g hq he fg g27 G
      simp only [run] at he
      refine bX12_take_0 ?_
      rw [fg.2 26 (by decide), h26, g27]
      exact ⟨fun _ => G g fg (by rw [g27, he]), fun z => by omega⟩
    | succ f ih =>
      intro q g hq he fg g27 G
      have go : Ws (h 60) q → tX12_take (h 0 0 + (0 : Nat)) L xs (am_C true L xs P (d + 1)) K 39 [(2, 59)] [] g := by
        intro hwq
        rw [run_step hwq] at he
        refine bX12_take_39 ?_
        rw [g27]
        refine ⟨by omega, ih (q + 1) _ (by omega) he (fg.st (by decide)) (by rw [st_at]; omega) G⟩
      refine bX12_take_0 ?_
      rw [fg.2 26 (by decide), h26, g27, Int.toNat_natCast, fg.1 60 (by decide)]
      refine ⟨fun z => by omega, fun _ => ⟨by omega, fun z => go (Or.inr z), fun z => ⟨by omega, fun z2 => ?_, fun z2 => go (Or.inl (Classical.not_not.mp z2))⟩⟩⟩
      rw [run_stop (show ¬ Ws (h 60) q by rintro (y | y); exact z2 y; exact z y)] at he
      exact G g fg (by rw [g27, he])
  refine skip (n - p) p h (by omega) rfl Ft.rf h27 (fun g fg g27 => bX12_take_52 ?_)
  generalize hF : tfr (h 60) n p = F at *
  rw [g27, fg.2 26 (by decide), h26]
  refine ⟨fun z => bX12_take_79 ?_, fun z => bX12_take_257 (H _ ((fg.st (by decide)).st (by decide)) ?_)⟩
  · have hlt : F < n := by omega
    have fg1 : Ft h (am_st g 59 30 (F : Int)) := fg.st (by decide)
    have a27 : am_st g 59 30 (F : Int) 59 27 = (F : Int) := by rw [st_nj (by decide)]; exact g27
    have a30 : am_st g 59 30 (F : Int) 59 30 = (F : Int) := st_at
    rw [a27]
    generalize hg1 : am_st g 59 30 (F : Int) = g1 at *
    refine kX12_isSmall (d := d) (n := n) (by rw [fg1.2 26 (by decide)]; exact h26) hn (fun zs => ?_) (fun zs => ?_)
    · rw [fg1.1 60 (by decide)] at zs
      have ns : ¬ Sm (h 60) F := fun q => zs ⟨hlt, q⟩
      refine ⟨fun _ => bX12_take_138 ?_, fun q => absurd rfl q⟩
      rw [a27]
      refine kX12_isDigit (d := d) (n := n) (by rw [fg1.2 26 (by decide)]; exact h26) hn (fun zd => ?_) (fun zd => ?_)
      · rw [fg1.1 60 (by decide)] at zd
        have nd' : ¬ Dg (h 60) F := fun q => zd ⟨hlt, q⟩
        have et : tk (h 60) n p = ⟨if h 60 F = 59 then 3 else 4, F, F + 1⟩ := by
          unfold tk; rw [hF, if_neg (by omega), if_neg ns, if_neg nd']
        have fin : ∀ x : Int, x = (if h 60 F = 59 then 3 else 4) → tX12_take (h 0 0 + (0 : Nat)) L xs (am_C true L xs P (d + 1)) K 244 [(2, 59)] [(0, x), (2, 59)] g1 := by
          intro x hx
          refine bX12_take_244 ?_
          rw [a27]
          refine ⟨by omega, bX12_take_257 (H _ ((fg1.st (by decide)).st (by decide)) ?_)⟩
          rw [et]
          refine ⟨by rw [st_nj (by decide), st_at]; exact hx, by rw [st_nj (by decide), st_nj (by decide)]; exact a30, by rw [st_at]; show (F : Int) + 1 = ((F + 1 : Nat) : Int); omega, fun q => ?_, fun q => ?_⟩
          · dsimp only [Tk.k, Tk.fr, Tk.to] at q; split at q <;> exact absurd q (by decide)
          · dsimp only [Tk.k, Tk.fr, Tk.to] at q; split at q <;> exact absurd q (by decide)
        refine ⟨fun _ => bX12_take_224 ⟨by omega, ?_⟩, fun q => absurd rfl q⟩
        rw [a27, Int.toNat_natCast, fg1.1 60 (by decide)]
        exact ⟨fun q => bX12_take_243 (fin 4 (by rw [if_neg q])), fun q => fin 3 (by rw [if_pos (Classical.not_not.mp q)])⟩
      · rw [fg1.1 60 (by decide)] at zd
        have et : tk (h 60) n p = ⟨2, F, run (Dg (h 60)) (n - F) F⟩ := by
          unfold tk; rw [hF, if_neg (by omega), if_neg ns, if_pos zd.2]
        refine ⟨fun q => absurd q (by decide), fun _ => ?_⟩
        -- the digits
        have dig : ∀ (f q : Nat) (v : Int) (g2 : am_H), q + f = n → run (Dg (h 60)) (n - F) F = run (Dg (h 60)) f q → (0 ≤ v ∧ v ≤ 9999) → F ≤ q → (∀ c, nvl (h 60) (c + (q - F)) F 0 = nvl (h 60) c q v) → Ft h g2 → g2 59 27 = (q : Int) → g2 59 28 = 2 → g2 59 29 = v → g2 59 30 = (F : Int) → tX12_take (h 0 0 + (0 : Nat)) L xs (am_C true L xs P (d + 1)) K 159 [(2, 59)] [] g2 := by
          intro f
          induction f with
          | zero =>
            intro q v g2 hq he hv hFq hnv f2 b27 b28 b29 b30
            simp only [run] at he
            refine bX12_take_159 ?_
            rw [b27]
            refine kX12_isDigit (d := d) (n := n) (by rw [f2.2 26 (by decide)]; exact h26) hn (fun _ => ⟨fun _ => bX12_take_257 (H g2 f2 ?_), fun y => absurd rfl y⟩) (fun y => by omega)
            rw [et, he]
            refine ⟨b28, b30, b27, fun y => (by dsimp only [Tk.k, Tk.fr, Tk.to] at y; exact absurd y (by decide)), fun _ => ?_⟩
            have := hnv 0
            rw [Nat.zero_add] at this
            dsimp only [Tk.k, Tk.fr, Tk.to]
            rw [this, b29]; rfl
          | succ f ih =>
            intro q v g2 hq he hv hFq hnv f2 b27 b28 b29 b30
            refine bX12_take_159 ?_
            rw [b27]
            refine kX12_isDigit (d := d) (n := n) (by rw [f2.2 26 (by decide)]; exact h26) hn (fun y => ?_) (fun y => ?_)
            · rw [f2.1 60 (by decide)] at y
              rw [run_stop (fun w => y ⟨by omega, w⟩)] at he
              refine ⟨fun _ => bX12_take_257 (H g2 f2 ?_), fun y => absurd rfl y⟩
              rw [et, he]
              refine ⟨b28, b30, b27, fun y => (by dsimp only [Tk.k, Tk.fr, Tk.to] at y; exact absurd y (by decide)), fun _ => ?_⟩
              have := hnv 0
              rw [Nat.zero_add] at this
              dsimp only [Tk.k, Tk.fr, Tk.to]
              rw [this, b29]; rfl
            · rw [f2.1 60 (by decide)] at y
              have yd := y.2
              rw [run_step yd] at he
              unfold Dg at yd
              have nxt : ∀ v' : Int, v' = (if v ≤ 999 then 10 * v + h 60 q - 48 else v) → tX12_take (h 0 0 + (0 : Nat)) L xs (am_C true L xs P (d + 1)) K 208 [(2, 59)] [(0, v'), (2, 59)] g2 := by
                intro v' hv'
                refine bX12_take_208 ?_
                rw [b27]
                refine ⟨by omega, ih (q + 1) v' _ (by omega) he (by rw [hv']; split <;> omega) (by omega) (fun c => ?_) ((f2.st (by decide)).st (by decide)) (by rw [st_at]; omega) (by rw [st_nj (by decide), st_nj (by decide)]; exact b28) (by rw [st_nj (by decide), st_at]) (by rw [st_nj (by decide), st_nj (by decide)]; exact b30)⟩
                have := hnv (c + 1)
                rw [show c + (q + 1 - F) = c + 1 + (q - F) by omega, this]
                simp only [nvl]
                rw [← hv']
              refine ⟨fun w => absurd w (by decide), fun _ => ?_⟩
              rw [b29]
              refine ⟨fun w => bX12_take_188 ?_, fun w => nxt v (by rw [if_neg w])⟩
              rw [b29, b27, Int.toNat_natCast, f2.1 60 (by decide)]
              exact ⟨⟨by omega, by omega⟩, by omega, ⟨by omega, by omega⟩, ⟨by omega, by omega⟩, nxt _ (by rw [if_pos w])⟩
        refine dig (n - F) F 0 _ (by omega) rfl (by decide) (Nat.le_refl _) (fun c => by rw [Nat.sub_self, Nat.add_zero]) ((fg1.st (by decide)).st (by decide)) (by rw [st_nj (by decide), st_nj (by decide)]; exact a27) (by rw [st_nj (by decide), st_at]) st_at (by rw [st_nj (by decide), st_nj (by decide)]; exact a30)
    · rw [fg1.1 60 (by decide)] at zs
      have et : tk (h 60) n p = ⟨1, F, run (Sm (h 60)) (n - F) F⟩ := by
        unfold tk; rw [hF, if_neg (by omega), if_pos zs.2]
      refine ⟨fun q => absurd q (by decide), fun _ => ?_⟩
      have sml : ∀ (f q : Nat) (g2 : am_H), q + f = n → run (Sm (h 60)) (n - F) F = run (Sm (h 60)) f q → F ≤ q → Ft h g2 → g2 59 27 = (q : Int) → g2 59 30 = (F : Int) → tX12_take (h 0 0 + (0 : Nat)) L xs (am_C true L xs P (d + 1)) K 90 [(2, 59)] [] g2 := by
        intro f
        have fin : ∀ (q : Nat) (g2 : am_H), run (Sm (h 60)) (n - F) F = q → F ≤ q → q ≤ n → Ft h g2 → g2 59 27 = (q : Int) → g2 59 30 = (F : Int) → tX12_take (h 0 0 + (0 : Nat)) L xs (am_C true L xs P (d + 1)) K 114 [(2, 59)] [] g2 := by
          intro q g2 he hFq hqn f2 b27 b30
          refine bX12_take_114 ?_
          rw [b27, b30]
          refine kX12_wordAt (d := d) hFq (by omega) (by rw [f2.1 71 (by decide)]; exact hw) (bX12_take_257 (H _ ((f2.st (by decide)).st (by decide)) ?_))
          rw [et, he, f2.1 60 (by decide)]
          refine ⟨st_at, by rw [st_nj (by decide), st_nj (by decide)]; exact b30, by rw [st_nj (by decide), st_nj (by decide)]; exact b27, fun _ => by rw [st_nj (by decide), st_at]; rfl, fun y => (by dsimp only [Tk.k, Tk.fr, Tk.to] at y; exact absurd y (by decide))⟩
        induction f with
        | zero =>
          intro q g2 hq he hFq f2 b27 b30
          simp only [run] at he
          refine bX12_take_90 ?_
          rw [b27]
          exact kX12_isSmall (d := d) (n := n) (by rw [f2.2 26 (by decide)]; exact h26) hn (fun _ => ⟨fun _ => fin q g2 he hFq (by omega) f2 b27 b30, fun y => absurd rfl y⟩) (fun y => by omega)
        | succ f ih =>
          intro q g2 hq he hFq f2 b27 b30
          refine bX12_take_90 ?_
          rw [b27]
          refine kX12_isSmall (d := d) (n := n) (by rw [f2.2 26 (by decide)]; exact h26) hn (fun y => ?_) (fun y => ?_)
          · rw [f2.1 60 (by decide)] at y
            rw [run_stop (fun w => y ⟨by omega, w⟩)] at he
            exact ⟨fun _ => fin q g2 he hFq (by omega) f2 b27 b30, fun y => absurd rfl y⟩
          · rw [f2.1 60 (by decide)] at y
            rw [run_step y.2] at he
            refine ⟨fun w => absurd w (by decide), fun _ => ?_⟩
            rw [b27]
            exact ⟨by omega, ih (q + 1) _ (by omega) he (by omega) (f2.st (by decide)) (by rw [st_at]; omega) (by rw [st_nj (by decide)]; exact b30)⟩
      exact sml (n - F) F g1 (by omega) rfl (Nat.le_refl _) fg1 a27 a30
  · have eF : F = n := by omega
    have et : tk (h 60) n p = ⟨0, F, F⟩ := by unfold tk; rw [hF, if_pos (by omega)]
    rw [et]
    refine ⟨st_at, by rw [st_nj (by decide), st_at]; rfl, by rw [st_nj (by decide), st_nj (by decide)]; exact g27, fun y => (by dsimp only [Tk.k, Tk.fr, Tk.to] at y; exact absurd y (by decide)), fun y => (by dsimp only [Tk.k, Tk.fr, Tk.to] at y; exact absurd y (by decide))⟩
end
