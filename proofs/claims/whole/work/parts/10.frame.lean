/-! WHAT STANDS BESIDE THE WORLD, and a frame of the machine over a state of the small one -/
def am_tys (cA : Nat → ClassId) : List (ClassId × FieldType) := [(cA 1, .int), (cA 2, .long), (cA 3, .byte), (cA 4, .boolean)]
def am_Ext (EX : (Nat → Prop) → State → Heap → Prop) : Prop :=
  (∀ (A : Nat → Prop) (u U : State) (H : Heap), u.vm.Alike U.vm → EX A u H → EX A U H) ∧ (∀ (A : Nat → Prop) (U : State) (H H1 : Heap), (∀ a : Nat, a < H.size → ¬ A a → H1[a]? = H[a]?) → EX A U H → EX A U H1) ∧ (∀ (A B : Nat → Prop) (U : State) (H : Heap), (∀ q, B q → A q) → EX A U H → EX B U H)
def am_E (dC : Nat → ClassId) (dI : Nat → Nat → Nat) (cA : Nat → ClassId) (EX : (Nat → Prop) → State → Heap → Prop) (A : Nat → Prop) (U : State) (H : Heap) : Prop :=
  va_K (dC, dI) am_cl (am_tys cA) U ∧ (∀ w ∈ am_NW, va_Nw w U) ∧ EX A U H
theorem am_NW_is {w : Cond} (h : w ∈ am_NW) : (∃ a i b n d q, w = .fieldLinkNest a i b n d q) ∨ (∃ a i x q, w = .methodLinkNest a i x q) := by
  have h2 := (List.mem_filter.mp h).2
  cases w <;> first | exact Or.inl ⟨_, _, _, _, _, _, rfl⟩ | exact Or.inr ⟨_, _, _, _, rfl⟩ | cases h2
theorem am_E.warm {dC : Nat → ClassId} {dI : Nat → Nat → Nat} {cA : Nat → ClassId} {EX : (Nat → Prop) → State → Heap → Prop} {A B : Nat → Prop} {s U : State} {H0 H : Heap} {locs : List Loc} (hx : am_Ext EX) (h : am_E dC dI cA EX A s H0) (hW : s.WarmedH U.vm) (hS : va_S A H0 H locs) (hB : ∀ q, B q → A q) : am_E dC dI cA EX B U H := by
  refine ⟨va_K.moved hW.alike h.1, fun w hw => ?_, hx.2.2 A B U H hB (hx.2.1 A U H0 H hS.2.1 (hx.1 A s U H0 hW.alike h.2.2))⟩
  rcases am_NW_is hw with ⟨a, i, b, n, d, q, rfl⟩ | ⟨a, i, x, q, rfl⟩
  · exact va_Nw.warmF hW (h.2.1 _ hw)
  · exact va_Nw.warmM hW (h.2.1 _ hw)
def am_J (s : State) (dC : Nat → ClassId) (dI : Nat → Nat → Nat) (cA : Nat → ClassId) (fx : Nat → Nat → Nat) (A : Nat → Prop) (nL n0 : Nat) (lim : Int) (bm : Bool) (a0 : Nat → Nat) (cp : am_H → Nat → Nat → Prop) (ad : Nat → Nat) (h : am_H) (ls : List am_V) (lsM : Array Slot) (H : Heap) (locs : List Loc) (cells slots : Nat) : Prop :=
  va_P (dC, dI) am_cl (am_w cA fx ad h) H ∧ va_D A (am_w cA fx ad h) ∧ va_S A s.heap H locs ∧ am_okh h ∧ (bm = true → am_fin h) ∧ (∀ v ∈ ls, am_okv (h 0 0) v) ∧ lv_has lsM nL (am_lv fx ad ls 0) ∧ ls.length = nL ∧ (n0 : Int) ≤ h 0 0 ∧ h 0 0 ≤ lim ∧ cp h cells slots ∧ ∀ k : Nat, (k : Int) ≤ n0 → ad k = a0 k
def am_G (p : Program) (l : Launch) (e : Env) (R : Room) (s : State) (m : MethodId) (args : Array Value) (below : List Frame) (meth : Method) (c : Code) (Q : State → Prop) (dC : Nat → ClassId) (dI : Nat → Nat → Nat) (cA : Nat → ClassId) (fx : Nat → Nat → Nat) (A : Nat → Prop) (nL n0 : Nat) (lim : Int) (bm : Bool) (a0 : Nat → Nat) (cp : am_H → Nat → Nat → Prop) (pc : Nat) (ls st : List am_V) (h : am_H) : Prop :=
  ∀ (ad : Nat → Nat) (lsM : Array Slot) (H : Heap) (locs : List Loc) (cells slots : Nat), am_J s dC dI cA fx A nL n0 lim bm a0 cp ad h ls lsM H locs cells slots → (∀ v ∈ st, am_okv (h 0 0) v) → W p l e R s m args below meth c H locs cells slots Q (F0 m pc lsM (st.map (am_tr fx ad)))
theorem am_lv_at {fx : Nat → Nat → Nat} {ad : Nat → Nat} {lsM : Array Slot} {nL : Nat} {ls : List am_V} {k : Nat} {v : am_V} (h : lv_has lsM nL (am_lv fx ad ls 0)) (hk : ls[k]? = some v) (hv : ¬ v.1 = 9) : lsM[k]? = some (.val (am_tr fx ad v)) := by
  have := h.2.2 (0 + k, am_tr fx ad v) (am_lv_mem.mpr ⟨k, v, hk, hv, rfl⟩)
  simpa using this
theorem am_get_lt {ls : List am_V} {k : Nat} {v : am_V} (h : ls[k]? = some v) : k < ls.length := (List.getElem?_eq_some_iff.mp h).1
theorem am_tr_ad {fx : Nat → Nat → Nat} {ad ad' : Nat → Nat} {n : Int} {v : am_V} (hv : am_okv n v) (h : ∀ k : Nat, (k : Int) ≤ n → ad' k = ad k) : am_tr fx ad' v = am_tr fx ad v := by
  unfold am_tr
  by_cases h2 : v.1 = 2
  · have h3 := hv.2.2.1 h2
    rw [h v.2.toNat (by omega)]
  · simp [h2]
theorem am_trs_ad {fx : Nat → Nat → Nat} {ad ad' : Nat → Nat} {n : Int} {st : List am_V} (hv : ∀ v ∈ st, am_okv n v) (h : ∀ k : Nat, (k : Int) ≤ n → ad' k = ad k) : st.map (am_tr fx ad') = st.map (am_tr fx ad) := by
  apply List.map_congr_left
  intro v hm
  exact am_tr_ad (hv v hm) h
theorem am_lv_ad {fx : Nat → Nat → Nat} {ad ad' : Nat → Nat} {n : Int} (h : ∀ k : Nat, (k : Int) ≤ n → ad' k = ad k) : ∀ {ls : List am_V} {i : Nat}, (∀ v ∈ ls, am_okv n v) → am_lv fx ad' ls i = am_lv fx ad ls i := by
  intro ls
  induction ls with
  | nil => intro i _; rfl
  | cons a r ih =>
    intro i hv
    have h1 := am_tr_ad (fx := fx) (hv a List.mem_cons_self) h
    have h2 := ih (i := i + 1) (fun v hm => hv v (List.mem_cons_of_mem _ hm))
    simp only [am_lv, h1, h2]
theorem am_e_ad {cA : Nat → ClassId} {fx : Nat → Nat → Nat} {ad ad' : Nat → Nat} {h : am_H} {k : Nat} {n : Int} (hc : am_okc n k (h k)) (ha : ∀ k : Nat, (k : Int) ≤ n → ad' k = ad k) : am_e cA fx ad' h k = am_e cA fx ad h k := by
  unfold am_e
  by_cases h0 : (am_cell k).1 = 0
  · rw [if_pos h0, if_pos h0]
    have : am_fs fx ad' h k (am_cell k).2.2 0 = am_fs fx ad h k (am_cell k).2.2 0 := by
      apply List.ext_getElem?
      intro j
      rw [am_fs_get, am_fs_get]
      cases hj : am_nth (am_cell k).2.2 j with
      | none => rfl
      | some f =>
        simp only [Option.map_some, Nat.zero_add]
        rw [am_tr_ad (hc.1 h0 j f hj) ha]
    rw [this]
  · rw [if_neg h0, if_neg h0]
theorem am_w_ad {cA : Nat → ClassId} {fx : Nat → Nat → Nat} {ad ad' : Nat → Nat} {h : am_H} (hc : am_okh h) (ha : ∀ k : Nat, (k : Int) ≤ h 0 0 → ad' k = ad k) : am_w cA fx ad' h = am_w cA fx ad h := by
  unfold am_w
  apply List.map_congr_left
  intro i hi
  have hi2 : i < (h 0 0).toNat := by simpa using hi
  have h1 : ((i + 1 : Nat) : Int) ≤ h 0 0 := by omega
  rw [ha (i + 1) h1, am_e_ad (hc.2.2 (i + 1) (by omega) h1) ha]
/-- how the cells are counted: a store leaves the count; a cell, or a call's cells, must have room -/
def am_Cp (R : Room) (lim : Int) (cp : am_H → Nat → Nat → Prop) : Prop :=
  (∀ (h : am_H) (k j : Nat) (v : Int) (c s : Nat), 1 ≤ k → cp h c s → cp (am_st h k j v) c s) ∧ (∀ (h : am_H) (n c s : Nat), h 0 0 = n → h 0 0 + 1 ≤ lim → cp h c s → c + 1 ≤ R.cells ∧ s + am_csz (n + 1) ≤ R.slots ∧ cp (am_st h 0 0 (n + 1)) (c + 1) (s + am_csz (n + 1))) ∧ (∀ (h h' : am_H) (mc c s : Nat), 0 ≤ h 0 0 → h 0 0 + (mc : Nat) ≤ lim → h' 0 0 = h 0 0 + (mc : Nat) → h' 0 1 = h 0 1 → cp h c s → c + mc ≤ R.cells ∧ s + (am_sz ((h 0 0).toNat + mc) - am_sz (h 0 0).toNat) ≤ R.slots ∧ cp h' (c + mc) (s + (am_sz ((h 0 0).toNat + mc) - am_sz (h 0 0).toNat)))
section AMC
variable {p : Program} {l : Launch} {e : Env} {R : Room} {s : State} {m : MethodId} {args : Array Value} {below : List Frame} {meth : Method} {c : Code} {H : Heap} {locs : List Loc} {cells slots : Nat} {Q : State → Prop}
variable {pc : Nat} {ls : Array Slot} {rest st0 : List Value} {a : Array Value} {A0 A1 : Nat → Prop} {H0 : Heap} {mc ms : Nat} {free : Addr → Prop}
/-- what a call answers and does, in the small machine's words -/
def am_ro (fx : Nat → Nat → Nat) (ad : Nat → Nat) (v : am_V) : Option Value := if v.1 = 9 then none else some (am_tr fx ad v)
def am_rtok (rt : Nat) (v : am_V) : Prop := if rt = 0 then v.1 = 0 else if rt = 1 then v.1 = 1 else if rt = 2 then am_isr v.1 = true else v.1 = 9
def am_Qc (fx : Nat → Nat → Nat) (rt : Nat) (K : am_K) (B : am_H → (Nat → Nat) → State → Prop) (A : Nat → Prop) : Array Value → State → Outcome → State → Prop := fun _ st oc t => (∃ (v : am_V) (h : am_H) (ad : Nat → Nat), oc = .returned (am_ro fx ad v) ∧ am_rtok rt v ∧ am_okv (h 0 0) v ∧ K v h ∧ B h ad t) ∧ va_F A st t
theorem am_callx {fx : Nat → Nat → Nat} {rt : Nat} {K : am_K} {B : am_H → (Nat → Nat) → State → Prop} (hr : va_Run p l e R s m args below meth c H locs cells slots mc ms (F0 m pc ls st0) rest (am_Qc fx rt K B A1 a) free) (hS : va_S A0 H0 H locs) (hA : ∀ q, q < H.size → A1 q → A0 q) (hf : ∀ q, free q → A0 q)
    (kk : ∀ (v : am_V) (h : am_H) (ad : Nat → Nat) (t : State) (H1 : Heap) (locs1 : List Loc), t.heap = H1 → s.vm.Alike t.vm → am_rtok rt v → am_okv (h 0 0) v → K v h → B h ad t → va_S A0 H0 H1 locs1 → W p l e R s m args below meth c H1 locs1 (cells + mc) (slots + ms) Q (F0 m (pc + 3) ls ((am_ro fx ad v).toList ++ rest))) : W p l e R s m args below meth c H locs cells slots Q (F0 m pc ls st0) := by
  intro T hT X
  obtain ⟨v, st₀, t, T', L, h0, X', hL, e1, e2, ⟨⟨w, h, ad, hv, hrt, hok, hk1, hb⟩, hz, hk⟩, st⟩ := hr T hT X
  cases hv
  rw [h0] at hz hk
  obtain ⟨t2, a1, b1⟩ := kk w h ad t T'.heap (locs ++ L) e1.symm (by rw [← e2]; exact X'.warmed.alike) hrt hok hk1 hb
    ⟨Nat.le_trans hS.1 (by rw [e1]; exact hz), fun q h1 h2 => by rw [e1, hk q (Nat.lt_of_lt_of_le h1 hS.1) (fun z => h2 (hA q (Nat.lt_of_lt_of_le h1 hS.1) z))]; exact hS.2.1 q h1 h2, fun q hq => by
      rcases List.mem_append.mp hq with h | h
      · exact hS.2.2 q h
      · exact hf _ (hL q h)⟩ T' rfl X'
  exact ⟨t2, st t2 a1, b1⟩
end AMC
