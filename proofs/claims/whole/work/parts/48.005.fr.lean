/-! frames -/
/-- only these cells may differ -/
def Fr (S : List Nat) (h h' : am_H) : Prop := ∀ c, c ∉ S → h' c = h c
theorem Fr.rf {S : List Nat} {h : am_H} : Fr S h h := fun _ _ => rfl
theorem Fr.st {S : List Nat} {h h' : am_H} {c j : Nat} {v : Int} (hf : Fr S h h') (hc : c ∈ S) : Fr S h (am_st h' c j v) := by
  intro c' hc'
  have : ¬ c' = c := fun e => hc' (e ▸ hc)
  rw [← hf c' hc']
  funext j'
  simp [am_st, this]
theorem Fr.tr {S : List Nat} {h h' h2 : am_H} (hf : Fr S h h') (hg : Fr S h' h2) : Fr S h h2 := fun c hc => (hg c hc).trans (hf c hc)
theorem Fr.mono {S S' : List Nat} {h h' : am_H} (hf : Fr S h h') (hs : ∀ c, c ∈ S → c ∈ S') : Fr S' h h' := fun c hc => hf c (fun z => hc (hs c z))
theorem st_ne {h : am_H} {c j c' : Nat} {v : Int} (hc : ¬ c' = c) : am_st h c j v c' = h c' := by
  funext j'; simp [am_st, hc]
theorem st_at {h : am_H} {c j : Nat} {v : Int} : am_st h c j v c j = v := by simp [am_st]
theorem st_nj {h : am_H} {c j j' : Nat} {v : Int} (hj : ¬ j' = j) : am_st h c j v c j' = h c j' := by simp [am_st, hj]
theorem st_ap (h : am_H) (c j : Nat) (v : Int) (j' : Nat) : am_st h c j v c j' = if j' = j then v else h c j' := by simp [am_st]
