/-! METHODS: what the small machine says of a call, the machine does -/
section AMM
variable {dC : Nat → ClassId} {dI : Nat → Nat → Nat} {cA : Nat → ClassId} {fx : Nat → Nat → Nat} {bm : Bool} {EX : (Nat → Prop) → State → Heap → Prop} {L : Nat} {xs : Nat → Int}
def am_Bw (dC : Nat → ClassId) (dI : Nat → Nat → Nat) (cA : Nat → ClassId) (fx : Nat → Nat → Nat) (bm : Bool) (A : Nat → Prop) (a0 : Nat → Nat) (n0 n1 x1 : Int) (h : am_H) (ad : Nat → Nat) (t : State) : Prop :=
  va_P (dC, dI) am_cl (am_w cA fx ad h) t.heap ∧ va_D A (am_w cA fx ad h) ∧ am_okh h ∧ (bm = true → am_fin h) ∧ (∀ k : Nat, (k : Int) ≤ n0 → ad k = a0 k) ∧ h 0 0 = n1 ∧ h 0 1 = x1
def am_Pw (dC : Nat → ClassId) (dI : Nat → Nat → Nat) (cA : Nat → ClassId) (fx : Nat → Nat → Nat) (EX : (Nat → Prop) → State → Heap → Prop) (h : am_H) (ad : Nat → Nat) (sz : Nat) (U : State) : Prop :=
  U.heap.size = sz ∧ va_P (dC, dI) am_cl (am_w cA fx ad h) U.heap ∧ va_D (fun _ => True) (am_w cA fx ad h) ∧ am_E dC dI cA EX (va_A (am_w cA fx ad h) sz) U U.heap
def am_rm (S d mc ms : Nat) : Room := { frames := d + S, cells := mc, slots := ms, locals := 60 * d + 60 * S }
/-- a method's contract at a state of the small machine -/
def am_Mt (l : Launch) (dC : Nat → ClassId) (dI : Nat → Nat → Nat) (cA : Nat → ClassId) (fx : Nat → Nat → Nat) (bm : Bool) (EX : (Nat → Prop) → State → Heap → Prop) (S d : Nat) (q : am_M) (as : List am_V) (h : am_H) (ad : Nat → Nat) (sz : Nat) (K : am_K) : Prop :=
  Met l q.1 (.code q.1 q.2.1 q.2.2.1 q.2.2.2.1 :: am_TB) (am_rm S d q.2.2.2.2.2.2.1 (am_sz ((h 0 0).toNat + q.2.2.2.2.2.2.1) - am_sz (h 0 0).toNat)) (va_Pc (as.map (am_tr fx ad)) (am_Pw dC dI cA fx EX h ad sz)) (am_Qc fx (am_rt q.2.2.2.1) K (am_Bw dC dI cA fx bm (va_A (am_w cA fx ad h) sz) ad (h 0 0) (h 0 0 + (q.2.2.2.2.2.2.1 : Nat)) (h 0 1)) (va_A (am_w cA fx ad h) sz)) q.2.2.2.2.2.2.1 (am_sz ((h 0 0).toNat + q.2.2.2.2.2.2.1) - am_sz (h 0 0).toNat) (va_A (am_w cA fx ad h) sz)
theorem am_lg_len (fx : Nat → Nat → Nat) (ad : Nat → Nat) (as : List am_V) : (lg_sl (as.map (am_tr fx ad))).length = (am_spl as).length := by
  induction as with
  | nil => rfl
  | cons v r ih =>
    have h1 : lg_sl ((v :: r).map (am_tr fx ad)) = (if (am_tr fx ad v).category = 2 then [Slot.val (am_tr fx ad v), Slot.second] else [Slot.val (am_tr fx ad v)]) ++ lg_sl (r.map (am_tr fx ad)) := rfl
    have h2 : am_spl (v :: r) = (if v.1 = 1 then [v, (9, 0)] else [v]) ++ am_spl r := rfl
    rw [h1, h2, List.length_append, List.length_append, ih, am_tr_cat]
    by_cases hv : v.1 = 1 <;> simp [hv]
theorem am_lv_args (fx : Nat → Nat → Nat) (ad : Nat → Nat) (k : Nat) (q : Nat × Value) : ∀ (as : List am_V) (i : Nat), q ∈ am_lv fx ad (am_spl as ++ List.replicate k (9, 0)) i → q ∈ lv_args i (as.map (am_tr fx ad)) := by
  intro as
  induction as with
  | nil =>
    intro i h
    obtain ⟨j, v, h1, h2, -⟩ := am_lv_mem.mp h
    have h3 := List.mem_of_getElem? h1
    have h4 : v ∈ List.replicate k ((9, 0) : am_V) := by simpa [am_spl] using h3
    rw [(List.mem_replicate.mp h4).2] at h2
    exact absurd rfl h2
  | cons v r ih =>
    intro i h
    have h2 : am_spl (v :: r) = (if v.1 = 1 then [v, (9, 0)] else [v]) ++ am_spl r := rfl
    rw [h2] at h
    rw [List.map_cons, lv_args, am_tr_cat]
    by_cases hv : v.1 = 1
    · rw [if_pos hv] at h
      rw [if_pos hv, if_pos rfl]
      have h9 : ¬ v.1 = 9 := by rw [hv]; decide
      simp only [List.cons_append, List.nil_append, am_lv, if_neg h9, if_true] at h
      rcases List.mem_cons.mp h with h | h
      · rw [h]; exact List.mem_cons_self
      · exact List.mem_cons_of_mem _ (ih (i + 2) h)
    · rw [if_neg hv] at h
      rw [if_neg hv, if_neg (by decide)]
      simp only [List.cons_append, List.nil_append, am_lv] at h
      by_cases h9 : v.1 = 9
      · rw [if_pos h9] at h
        exact List.mem_cons_of_mem _ (ih (i + 1) h)
      · rw [if_neg h9] at h
        rcases List.mem_cons.mp h with h | h
        · rw [h]; exact List.mem_cons_self
        · exact List.mem_cons_of_mem _ (ih (i + 1) h)
theorem am_ent_len {as : List am_V} {n : Nat} (h : (am_spl as).length ≤ n) : (am_ent as n).length = n := by
  unfold am_ent
  rw [List.length_append, List.length_replicate]
  omega
theorem am_ent_ok {as : List am_V} {n : Nat} {z : Int} (h : ∀ v ∈ as, am_okv z v) : ∀ v ∈ am_ent as n, am_okv z v := by
  intro v hv
  unfold am_ent at hv
  rcases List.mem_append.mp hv with hv | hv
  · unfold am_spl at hv
    obtain ⟨w, hw, hv⟩ := List.mem_flatMap.mp hv
    by_cases h1 : w.1 = 1
    · rw [if_pos h1] at hv
      rcases List.mem_cons.mp hv with rfl | hv
      · exact h _ hw
      · rw [List.mem_singleton.mp hv]; exact am_okv_9 _ _
    · rw [if_neg h1] at hv
      rw [List.mem_singleton.mp hv]; exact h _ hw
  · rw [(List.mem_replicate.mp hv).2]; exact am_okv_9 _ _
theorem am_lv_ent {fx : Nat → Nat → Nat} {ad : Nat → Nat} {as : List am_V} {n : Nat} (h : (am_spl as).length ≤ n) : lv_has ((lg_sl (as.map (am_tr fx ad)) ++ List.replicate (n - (lg_sl (as.map (am_tr fx ad))).length) Slot.unset).toArray) n (am_lv fx ad (am_ent as n) 0) := by
  have h1 := lv_entry (as.map (am_tr fx ad)) (n := n) (by rw [am_lg_len]; exact h)
  exact ⟨h1.1, h1.2.1, fun q hq => h1.2.2 q (am_lv_args fx ad _ q as 0 hq)⟩
theorem am_no12 : am_me.all (fun q => decide (¬ q.2.2.2.2.1 = 12)) = true := by decide +kernel
theorem am_99 : am_ML.all (fun r => match am_me[r.2.2.1]? with | some q => decide (q.2.2.2.2.1 = 99 → r.1 = 12) | none => false) = true := by decide +kernel
theorem am_not99 {own idx id : Nat} {q : am_M} (h : am_mx own idx = some (id, q)) (ho : ¬ own = 12) : ¬ q.2.2.2.2.1 = 99 := by
  unfold am_mx at h
  split at h
  · next r hr =>
    cases hm : am_me[r.2.2.1]? with
    | none => rw [hm] at h; cases h
    | some z =>
      rw [hm] at h
      cases h
      obtain ⟨h1, h2⟩ := am_find hr
      simp only [Bool.and_eq_true, beq_iff_eq] at h2
      have h3 := List.all_eq_true.mp am_99 r h1
      rw [hm] at h3
      simp only [decide_eq_true_eq] at h3
      exact fun h9 => ho (h2.1 ▸ h3 h9)
  · cases h
/-- a method's own words, out of the tables -/
theorem am_words {q : am_M} (hq : q ∈ am_me) (h9 : ¬ q.2.2.2.2.1 = 99) : q.2.2.1 ≤ 40 ∧ Cond.code q.1 q.2.1 q.2.2.1 q.2.2.2.1 ∈ am_TB ∧ (q.2.2.2.2.2.1 = 0 → Cond.static q.1 ∈ am_TB) ∧ (¬ q.2.2.2.2.2.1 = 0 → Cond.instanceMethod q.1 ∈ am_TB) ∧ (q.2.2.2.2.2.1 = 1 → Cond.selects q.1.cls q.1 q.1 ∈ am_TB) ∧ Cond.initialized q.1.cls ∈ am_TB ∧ am_R q.2.2.2.2.1 = q.1.cls ∧ plainFor q.1 = true ∧ (q.1.cls ≠ "java/lang/invoke/MethodHandle" ∧ q.1.cls ≠ "java/lang/invoke/VarHandle") ∧ (parseMethodDescriptor q.1.desc).map (fun d => d.parameters.length) = some q.2.2.2.2.2.2.2.1 ∧ (q.2.2.2.2.2.1 = 2 → q.1.name = "<init>" ∧ q.2.2.2.1 = none) ∧ (¬ q.2.2.2.2.2.1 = 2 → q.2.2.2.2.2.2.1 = 0) ∧ (q.2.2.2.2.2.1 = 1 → q.2.2.2.2.1 < 12) := by
  have h1 := List.all_eq_true.mp am_me_ok q hq
  unfold am_meok at h1
  simp only [Bool.or_eq_true, beq_iff_eq, h9, false_or, Bool.and_eq_true, decide_eq_true_eq] at h1
  obtain ⟨⟨⟨⟨⟨⟨⟨⟨⟨c1, c2⟩, c3⟩, c4⟩, c5⟩, c6⟩, c7⟩, c8⟩, c9⟩, c10⟩ := h1
  have hcd := (am_cd q hq).resolve_left h9
  refine ⟨c1, am_inT hcd rfl, fun hk => ?_, fun hk => ?_, fun hk => ?_, am_inT c4 rfl, c5, c6, c7, c8, fun hk => ?_, fun hk => ?_, fun hk => ?_⟩
  · rw [if_pos hk] at c2; exact am_inT c2 rfl
  · rw [if_neg hk] at c2; exact am_inT c2 rfl
  · rw [if_pos hk] at c3; simp only [decide_eq_true_eq] at c3; exact am_inT c3 rfl
  · rw [if_pos hk] at c9; simpa using c9
  · rw [if_neg hk] at c9; simpa using c9
  · rw [if_pos hk] at c10; simpa using c10
theorem am_ml_link {own idx id : Nat} {q : am_M} (h : am_mx own idx = some (id, q)) : (Cond.methodLink (am_R own) idx q.1 ∈ am_TB) ∨ (Cond.methodLinkNest (am_R own) idx q.1 "StonesAlike" ∈ am_NW) := by
  unfold am_mx at h
  split at h
  · next r hr =>
    cases hm : am_me[r.2.2.1]? with
    | none => rw [hm] at h; cases h
    | some z =>
      rw [hm] at h
      cases h
      obtain ⟨h1, h2⟩ := am_find hr
      simp only [Bool.and_eq_true, beq_iff_eq] at h2
      have h3 := List.all_eq_true.mp am_ML_ok r h1
      unfold am_mlok am_mlc at h3
      rw [hm] at h3
      simp only [Bool.and_eq_true, decide_eq_true_eq] at h3
      have h4 := h3.2
      rw [h2.1, h2.2] at h4
      by_cases hn : r.2.2.2.1 = 0
      · rw [if_pos hn] at h4
        exact Or.inl (am_inT h4 rfl)
      · rw [if_neg hn] at h4
        exact Or.inr (List.mem_filter.mpr ⟨List.mem_of_getElem? h4, rfl⟩)
  · cases h
end AMM
