/-! lk2: an exception of the JDK is made with a text and thrown; its constructor may name its super's at any pool place.
Our own rows over laws of the library that are named in them; lk_throwSW at the end is the printed row vx_throwSW, turned to them. -/
/-- the fields of Throwable that a fresh exception's cell must have room for -/
def lk_fds : List (String × String) := [("backtrace", "Ljava/lang/Object;"), ("detailMessage", "Ljava/lang/String;"), ("cause", "Ljava/lang/Throwable;"), ("stackTrace", Bundle.steD), ("suppressedExceptions", Bundle.listD)]
/-- what the tables say of the exception X beside its constructors -/
def lk_cls (X : String) : List Cond :=
  .instantiable X 6 :: (lk_fds.map (fun q => Cond.lays X Bundle.tN q.1 q.2) ++ [Bundle.tFill, Bundle.tFill0].map (fun t => Cond.selects X t t))
/-- what they say of Throwable beside what the library asks for both its constructors -/
def lk_thr : List Cond :=
  [.fieldLink Bundle.tN 198 Bundle.tN "backtrace" "Ljava/lang/Object;", .lays Bundle.tN Bundle.tN "backtrace" "Ljava/lang/Object;", .isRef (.static Bundle.tN "UNASSIGNED_STACK" Bundle.steD), .isRef (.static Bundle.tN "SUPPRESSED_SENTINEL" Bundle.listD)]
def lk_own (own : String) (ic : Nat) (X Y : String) (k : Nat) (bytes : ByteArray) (names : List String) : List Cond :=
  .methodLink own ic (Bundle.initS X) :: (Bundle.passSAtoms X Y k bytes ++ (Bundle.chainSAtoms Y names ++ (lk_cls X ++ (lk_thr ++ (Bundle.throwableSAtoms ++ Bundle.throwableAtoms)))))
section
variable {own X Y : String} {ic k : Nat} {bytes : ByteArray} {names : List String} {w : Cond}
theorem lk_o1 (h : w ∈ Bundle.passSAtoms X Y k bytes) : w ∈ lk_own own ic X Y k bytes names := List.mem_cons_of_mem _ (List.mem_append_left _ h)
theorem lk_o2 (h : w ∈ Bundle.chainSAtoms Y names) : w ∈ lk_own own ic X Y k bytes names := List.mem_cons_of_mem _ (List.mem_append_right _ (List.mem_append_left _ h))
theorem lk_o3 (h : w ∈ lk_cls X) : w ∈ lk_own own ic X Y k bytes names := List.mem_cons_of_mem _ (List.mem_append_right _ (List.mem_append_right _ (List.mem_append_left _ h)))
theorem lk_o4 (h : w ∈ lk_thr) : w ∈ lk_own own ic X Y k bytes names := List.mem_cons_of_mem _ (List.mem_append_right _ (List.mem_append_right _ (List.mem_append_right _ (List.mem_append_left _ h))))
theorem lk_o5 (h : w ∈ Bundle.throwableSAtoms ++ Bundle.throwableAtoms) : w ∈ lk_own own ic X Y k bytes names := List.mem_cons_of_mem _ (List.mem_append_right _ (List.mem_append_right _ (List.mem_append_right _ (List.mem_append_right _ h))))
theorem lk_c1 {n d : String} (h : (n, d) ∈ lk_fds) : Cond.lays X Bundle.tN n d ∈ lk_cls X := List.mem_cons_of_mem _ (List.mem_append_left _ (List.mem_map.mpr ⟨(n, d), h, rfl⟩))
theorem lk_c2 {t : MethodName} (h : t ∈ [Bundle.tFill, Bundle.tFill0]) : Cond.selects X t t ∈ lk_cls X := List.mem_cons_of_mem _ (List.mem_append_right _ (List.mem_map.mpr ⟨t, h, rfl⟩))
end
section
variable {p : Program} {l : Launch} {e : Env} {R : Room} {s : State} {m : MethodId} {args : Array Value} {below : List Frame} {meth : Method} {c : Code} {V : State} {cells slots : Nat}
/-- a method that a class doesn't write anew is chosen as it stands -/
theorem lk_sel (hl : l.admits e) {X : String} {x : ClassId} {t : MethodName} {u : MethodId} (hx : s.vm.findClass X = some x) (hu : s.methodNamed? t = some u) (ht : t.cls ≠ "java/lang/invoke/MethodHandle" ∧ t.cls ≠ "java/lang/invoke/VarHandle") (h : (Cond.selects X t t).before args s = true) : selectMethod e.platform s.vm x u = .method u := by
  obtain ⟨x2, r, u2, g1, g2, g3, g4, _⟩ := Cond.selects_spec (show (Cond.selects X t t).holds args s none s [] = true from h)
  have e1 : x2 = x := by rw [hx] at g1; injection g1 with g; exact g.symm
  have e2 : r = u := by rw [State.methodFound?_of_named hu ht] at g2; injection g2 with g; exact g.symm
  have e3 : u2 = u := by rw [hu] at g3; injection g3 with g; exact g.symm
  rw [e1, e2, e3] at g4
  exact (Launch.admits_selectMethod hl _ _ _).trans g4
/-- the constructors in a row: the first one's super stands at place k, those behind it as the library has them -/
theorem lk_line {pl : Platform} (hpl : pl.magicAccessors = ({} : Platform).magicAccessors) {top : MethodId} (ht : s.methodNamed? (Bundle.initS Bundle.tN) = some top) {X Y : String} {k : Nat} {by0 : ByteArray} {names : List String} (fX : Bundle.fit X = true) (fY : Bundle.fit Y = true) (fn : ∀ n ∈ names, Bundle.fit n = true)
    (y0 : decode by0 0 = .ok (.aload_n 0, 1)) (y1 : decode by0 1 = .ok (.aload_n 1, 1)) (y2 : decode by0 2 = .ok (.invokespecial k, 3)) (y5 : decode by0 5 = .ok (.return_, 1))
    (h1 : ∀ w ∈ Bundle.passSAtoms X Y k by0, w.before args s = true) (h2 : ∀ w ∈ Bundle.chainSAtoms Y names, w.before args s = true) :
    ∃ Qs : List PassC, s.methodNamed? (Bundle.initS X) = some (firstOf top (Qs.map (·.toPassT))) ∧ Qs.length = names.length + 2 ∧ (∀ Q, Q ∈ Qs → Q.LinksS pl s) ∧ PassesOn top (Qs.map (·.toPassT)) := by
  obtain ⟨A, hA, eA, sA⟩ := PassC.ofS_atoms (args := args) hpl (Bundle.fit_spec fX).1 (Bundle.fit_spec fY).2 y0 y1 y2 y5 h1
  obtain ⟨B, Bs, nB, hB, hBs, eB, oB⟩ := Bundle.chainS (args := args) hpl ht names Y fY fn h2
  refine ⟨A :: B :: Bs, eA, by rw [List.length_cons, List.length_cons, nB], fun Q hQ => ?_, ?_, oB⟩
  · cases hQ with
    | head => exact hA
    | tail _ hQ =>
      cases hQ with
      | head => exact hB
      | tail _ hQ => exact hBs Q hQ
  · rw [eB] at sA
    injection sA with q
    exact q.symm
/-- a cell of statics stands as it stood where nothing old was written -/
theorem lk_stat (N : Stand p l e R s m args below meth c V [] cells slots) {b : Addr} {c0 : Cell} (h0 : s.heap[b]? = some c0) (hs : c0.vm.isStatics = true) : ∃ c1, V.heap[b]? = some c1 ∧ c1.vm ≠ .unknown ∧ ∀ i : Nat, c1.slots[i]? = c0.slots[i]? := by
  obtain ⟨c1, g1, g2, _, g3⟩ := N.same.2.2.2.2.2 b c0 h0
  refine ⟨c1, g1, fun q => ?_, fun i => g3 i (fun z => nomatch z)⟩
  rw [g2] at q
  have q' : c0.vm = .unknown := q
  rw [q'] at hs
  exact absurd hs (by decide)
theorem lk_keep {x : Cell} {i j : Nat} {v : Value} (h : ¬ i = j) : (x.setSlot i v).slots[j]? = x.slots[j]? := by
  show (x.slots.setIfInBounds i v)[j]? = _
  rw [Array.getElem?_setIfInBounds, if_neg h]
/-- a field of Throwable in a fresh cell of X: it has its type's place, and no other name's -/
def lk_at0 (s : State) (x : ClassId) (kx : Class) (f : Field) : Prop := kx.instanceTypes[f.slot]? = some f.type ∧ ∃ d, Jmm.declares? s.vm f.slot (x + 1) x = some d ∧ d.2.name = f.name
theorem lk_apart {x : ClassId} {kx : Class} {f g : Field} (a : lk_at0 s x kx f) (b : lk_at0 s x kx g) (h : f.name ≠ g.name) : ¬ f.slot = g.slot := by
  obtain ⟨_, d1, a1, a2⟩ := a
  obtain ⟨_, d2, b1, b2⟩ := b
  exact Cond.laysApart a1 b1 a2 b2 h
/-- the trace is not asked for: 'backtrace' is null in the cell that Throwable's constructor has filled -/
theorem lk_skip {T : ThrowableC} {Z0 : Init0T} {x : ClassId} {kx : Class} (L : T.Links e.platform s) (D : Bundle.Ties T Z0 s) (hpl : e.platform.magicAccessors = ({} : Platform).magicAccessors)
    (h4 : ∀ w ∈ lk_thr, w.before args s = true) (hb : ∀ f : Field, ∀ c' k' i, s.fieldFound? Bundle.tN "backtrace" "Ljava/lang/Object;" = some (c', k', i, f) → lk_at0 s x kx f)
    (h1 : lk_at0 s x kx T.fCause) (h2 : lk_at0 s x kx T.fStack) (h3 : lk_at0 s x kx T.fSupp) (a : Addr) (v0 v1 : RefV) (th : ThreadId) :
    SkipFacts T e.platform s (fun u => u) v0 ((preparedCellV T.toThrowableT (freshCell x kx) a v0 v1).withEntry th) := by
  obtain ⟨j, i, f, q1, q2, q3, q4, _, q5, q6, q7⟩ := Cond.ownField (t := .object "java/lang/Object") D.found L.cls (by decide +kernel) (h4 (.fieldLink Bundle.tN 198 Bundle.tN "backtrace" "Ljava/lang/Object;") (by simp [lk_thr])) (h4 (.lays Bundle.tN Bundle.tN "backtrace" "Ljava/lang/Object;") (by simp [lk_thr])) e.platform hpl
  have b := hb f _ _ _ q7
  refine ⟨⟨j, i, f⟩, ⟨q1, q2, q3, q4⟩, ?_, fun _ _ => rfl⟩
  show ((((freshCell x kx).setSlot T.fCause.slot (.ref a)).setSlot T.fStack.slot v0.v).setSlot T.fSupp.slot v1.v).slots[f.slot]? = some .null
  rw [lk_keep (lk_apart h3 b (by rw [q5, D.suppName]; decide)), lk_keep (lk_apart h2 b (by rw [q5, D.stackName]; decide)), lk_keep (lk_apart h1 b (by rw [q5, D.causeName]; decide)), fresh_default b.1, q6]
  rfl
set_option maxHeartbeats 1000000 in
/-- the constructor runs and the exception leaves the method -/
theorem lk_ctor (N : Stand p l e R s m args below meth c V [] cells slots) (hexec : p.tables.exec = Jvm.exec) (htr : e.platform.stackTraces = false) {own X Y : String} {names : List String} {ic k : Nat} {by0 : ByteArray}
    (hown : s.vm.findClass own = some m.cls) (fX : Bundle.fit X = true) (fY : Bundle.fit Y = true) (fn : ∀ n ∈ names, Bundle.fit n = true) (y0 : decode by0 0 = .ok (.aload_n 0, 1)) (y1 : decode by0 1 = .ok (.aload_n 1, 1)) (y2 : decode by0 2 = .ok (.invokespecial k, 3)) (y5 : decode by0 5 = .ok (.return_, 1))
    (h : ∀ w ∈ lk_own own ic X Y k by0 names, w.before args s = true) {a sa : Addr} {x : ClassId} {kx : Class} (hx : s.vm.findClass X = some x) (hkx : s.vm.classes[x]? = some kx) (hcell : V.heap[a]? = some (freshCell x kx)) (hnew : s.heap.size ≤ a)
    {pc : Nat} {ls : Array Slot} {rest : List Value} (hsize : ls.size = c.maxLocals) (di : decode c.code pc = .ok (.invokespecial ic, 3)) (da : decode c.code (pc + 3) = .ok (.athrow, 1)) (hout : ∀ r ∈ c.exceptionTable.toList, covers r (pc + 3) = false)
    (hRf : names.length + 4 < R.frames) (hRl : (rest.map fun v => v.category).sum + (13 * (names.length + 2) + 43) ≤ R.locals) (hlocks : meth.locks = false) :
    ∃ U : State, Steps p.tables e below (V.setTop (F0 m pc ls (.ref sa :: .ref a :: .ref a :: rest))) U ∧ U.status = .running ∧ Ended U below (.threw a) ∧ s.WarmedH U.vm ∧ s.sameButNew ({ U with vm := s.vm } : State) [] cells slots ∧
      ∃ ce, U.heap[a]? = some ce ∧ s.vm.findClass X = some ce.cls ∧ ce.vm = .none := by
  have pf := N.admits.platform
  have hpl : e.platform.magicAccessors = ({} : Platform).magicAccessors := by rw [pf]
  -- Throwable, its constructors, and the row of constructors down to X's
  obtain ⟨T, Z0, L, _, D⟩ := ThrowableC.of_atoms (args := args) (s := s) (pl := e.platform) (by rw [pf]) (by rw [pf]) hpl (fun w hw => h w (lk_o5 (List.mem_append_right _ hw)))
  obtain ⟨Z, M, LZ, LM, eZ⟩ := Init0T.ofS_atoms (args := args) hpl L D (fun w hw => h w (lk_o5 (List.mem_append_left _ hw)))
  obtain ⟨Qs, eX, nQ, hQ, oQ⟩ := lk_line (args := args) hpl eZ fX fY fn y0 y1 y2 y5 (fun w hw => h w (lk_o1 hw)) (fun w hw => h w (lk_o2 hw))
  -- the fresh cell
  obtain ⟨x', kx', i1, i2, ord, _⟩ := Cond.instantiable_spec (show (Cond.instantiable X 6).holds args s none s [] = true from h _ (lk_o3 List.mem_cons_self))
  have e1 : x' = x := by rw [hx] at i1; injection i1 with q; exact q.symm
  subst e1
  have e2 : kx' = kx := by rw [hkx] at i2; injection i2 with q; exact q.symm
  subst e2
  have lay : ∀ {n d : String}, (n, d) ∈ lk_fds → ∀ {f : Field} {c' k' i}, s.fieldFound? Bundle.tN n d = some (c', k', i, f) → lk_at0 s x' kx' f := fun hm f c' k' i hf =>
    Cond.laysAt hx hkx hf (show (Cond.lays X Bundle.tN _ _).holds args s none s [] = true from h _ (lk_o3 (lk_c1 hm)))
  obtain ⟨iM, fM⟩ := D.msg
  have lC := lay (by simp [lk_fds]) D.cause
  have lS := lay (by simp [lk_fds]) D.stack
  have lP := lay (by simp [lk_fds]) D.supp
  have lM := lay (by simp [lk_fds]) fM
  -- the two statics
  obtain ⟨c0, s0, sv⟩ := D.statics
  obtain ⟨v0, w0⟩ := Cond.staticRefV (args := args) (first := s) (o := none) (idx := []) D.unassigned L.unassignedStatic L.statics s0 sv (h _ (lk_o4 (by simp [lk_thr])))
  obtain ⟨v1, w1⟩ := Cond.staticRefV (args := args) (first := s) (o := none) (idx := []) D.sentinel L.sentinelStatic L.statics s0 sv (h _ (lk_o4 (by simp [lk_thr])))
  obtain ⟨c1, t0, t1, t2⟩ := lk_stat N s0 sv
  have ne : T.aS ≠ a := fun q => by
    have z := (Array.getElem?_eq_some_iff.mp s0).1
    rw [q] at z
    exact absurd z (Nat.not_lt.mpr hnew)
  -- the call
  obtain ⟨u, _, _, _, vm1, eu, _, _, _, _, _, _, _, hW1, go1⟩ := Steps.initColdS (tb := p.tables) (e := e) (below := below) N.here hexec N.warmed hpl hown (t := Bundle.initS X) rfl rfl (Bundle.fit_spec fX).2 (h _ List.mem_cons_self) (h (.instanceMethod (Bundle.initS X)) (lk_o1 (by simp [Bundle.passSAtoms]))) (h (.code (Bundle.initS X) by0 2 none) (lk_o1 (by simp [Bundle.passSAtoms]))) (f := F0 m pc ls (.ref sa :: .ref a :: .ref a :: rest)) rfl (a := a) (msg := .ref sa) (rest := .ref a :: rest) rfl di
  have eu' : u = firstOf (Z.m T.toThrowableT) (Qs.map (·.toPassT)) := by rw [eX] at eu; injection eu with q; exact q.symm
  subst eu'
  have N1 := N.noted hW1
  obtain ⟨vm2, N2, go2⟩ := N1.ctorMessageOffV hexec (g := F0 m pc ls (.ref a :: rest)) rfl hsize T L Z LZ M LM Qs hQ oQ (u0 := v0) (sen := v1) (self := a) (msg := .ref sa) rfl (cell := freshCell x' kx') (cellS := c1) hcell (fun _ q => by cases q) (fun q => by cases q) rfl rfl
    (lk_sel (args := args) N.admits hx D.fill0 (by decide) (h _ (lk_o3 (lk_c2 (by simp))))) (lk_sel (args := args) N.admits hx D.fill (by decide) (h _ (lk_o3 (lk_c2 (by simp))))) t0 ne t1 ((t2 _).trans w0) ((t2 _).trans w1)
    (Takes.of_laid hkx ord lC.1 (by rw [D.causeType]; rfl)) (Takes.of_laid hkx ord lS.1 (by rw [D.stackType]; exact fits_refV_array _ v0)) (Takes.of_laid hkx ord lP.1 (by rw [D.suppType]; exact fits_refV_object _ v1)) (Takes.of_laid hkx ord lM.1 (by rw [D.msgType]; rfl)) D.objLocals
    (lk_skip (args := args) L D hpl (fun w hw => h w (lk_o4 hw)) (fun f _ _ _ hf => lay (by simp [lk_fds]) hf) lC lS lP a v0 v1 _) htr [] di (by rw [nQ]; omega)
    (by rw [nQ]; have ca : (Value.ref a).category = 1 := rfl; simp only [List.map_cons, List.sum_cons, ca]; omega)
  -- the throw
  obtain ⟨st, run, fin, hW2, same⟩ := N2.athrowLeaves hexec (g := F0 m (pc + 3) ls (.ref a :: rest)) rfl rfl rfl hout rfl da hlocks
  refine ⟨_, go1 _ (fun acts => by rw [doInvoke_state]; exact go2 _ st), run, fin, hW2, same.weaken (fun z hz hlt => ?_) (Nat.le_refl _) (Nat.le_refl _), _, heapAt_setCell_self _ (Array.getElem?_eq_some_iff.mp hcell).1, hx, rfl⟩
  have hz' : z.base = a := by
    simp only [List.nil_append, List.mem_cons, List.not_mem_nil, or_false] at hz
    rcases hz with q | q | q | q | q <;> rw [q]
  rw [hz'] at hlt
  exact absurd hlt (Nat.not_lt.mpr hnew)
end
section
variable {p : Program} {l : Launch} {e : Env} {R : Room} {s : State} {m : MethodId} {args : Array Value} {below : List Frame} {meth : Method} {c : Code} {H : Heap} {locs : List Loc} {cells slots : Nat} {Q : State → Prop}
variable {mc ms : Nat} {free : Addr → Prop} {ls : Array Slot} {rest : List Value} {Qc : Array Value → State → Outcome → State → Prop} {XC : String → State → State → Prop}
theorem lk_throwSW {cc : ByteArray} {pc : Nat} (hexec : p.tables.exec = Jvm.exec) (hb : c.code = cc) (hl : l.stackTraces = false) {own cls Y0 text : String} {names : List String} {ik is ic k0 mc ms sa : Nat} {by0 : ByteArray} {A : Nat → Prop}
    (hown : s.vm.findClass own = some m.cls) (hcls : Bundle.fit cls = true) (hY0 : Bundle.fit Y0 = true) (hnames : ∀ n ∈ names, Bundle.fit n = true) (y0 : decode by0 0 = .ok (.aload_n 0, 1)) (y1 : decode by0 1 = .ok (.aload_n 1, 1)) (y2 : decode by0 2 = .ok (.invokespecial k0, 3)) (y5 : decode by0 5 = .ok (.return_, 1))
    (hk : (Cond.classLink own ik cls).before args s = true) (hini : (Cond.initialized cls).before args s = true) (hstr : vk_R own is text sa s) (hat : ∀ w ∈ (lk_own own ic cls Y0 k0 by0 names).filter vx_no, w.before args s = true)
    (hgood : ∀ w ∈ Cond.classLink own ik cls :: Cond.initialized cls :: (lk_own own ic cls Y0 k0 by0 names).filter vx_no, vx_ot w = true)
    (hU : vx_Zq Bundle.tN "UNASSIGNED_STACK" Bundle.steD A s s.heap) (hN : vx_Zq Bundle.tN "SUPPRESSED_SENTINEL" Bundle.listD A s s.heap) (hS : va_S A s.heap H locs) (hsize : ls.size = c.maxLocals)
    (d0 : decode cc pc = .ok (.new ik, 3)) (d3 : decode cc (pc + 3) = .ok (.dup, 1)) (d4 : decode cc (pc + 4) = .ok (.ldc_w is, 3)) (d7 : decode cc (pc + 7) = .ok (.invokespecial ic, 3)) (d10 : decode cc (pc + 10) = .ok (.athrow, 1))
    (hout : ∀ x ∈ c.exceptionTable.toList, covers x (pc + 10) = false)
    (hRframes : names.length + 4 < R.frames) (hRlocals : (rest.map fun v => v.category).sum + (13 * (names.length + 2) + 43) ≤ R.locals) (hRcells : cells + 1 ≤ R.cells) (hRslots : slots + 6 ≤ R.slots) (hlocks : meth.locks = false)
    (hx : ∀ t : State, s.vm.Alike t.vm → H.size ≤ t.heap.size → (∀ q : Nat, q < H.size → t.heap[q]? = H[q]?) → XC cls s t)
    (hf : ∀ z ∈ locs, free z.base) (hc : cells + 1 ≤ mc) (hs : slots + 6 ≤ ms) :
    W p l e R s m args below meth c H locs cells slots (vx_MQ below Qc XC args s mc ms free) (F0 m pc ls rest) := by
  intro T hT X
  have htr : e.platform.stackTraces = false := (show e.platform.stackTraces = l.stackTraces by rw [X.admits.platform]).trans hl
  have Y := vx_rebase X (R' := { frames := R.frames, locals := R.locals, cells := 1, slots := 6 }) (Nat.le_refl _) (Nat.le_refl _) hRcells hRslots
  obtain ⟨s', hA⟩ : ∃ z, z = (T.setVm s.vm).setFrames (.invoking m args :: below) := ⟨_, rfl⟩
  rw [← hA] at Y
  have hvm : s'.vm = s.vm := by rw [hA]; rfl
  have hhp : s'.heap = H := by rw [hA]; exact hT
  have hW0 : s.WarmedH s'.vm := by rw [hvm]; exact State.WarmedH.refl s
  have hat' : ∀ w ∈ (lk_own own ic cls Y0 k0 by0 names).filter vx_no, w.before args s' = true := fun w hw => vx_ot_at hW0 hvm.symm (hgood w (List.mem_cons_of_mem _ (List.mem_cons_of_mem _ hw))) (hat w hw)
  have hk' : (Cond.classLink own ik cls).before args s' = true := vx_ot_at hW0 hvm.symm (hgood _ List.mem_cons_self) hk
  have hini' : (Cond.initialized cls).before args s' = true := vx_ot_at hW0 hvm.symm (hgood _ (List.mem_cons_of_mem _ List.mem_cons_self)) hini
  have hU' : vx_Zq Bundle.tN "UNASSIGNED_STACK" Bundle.steD A s' s'.heap := by rw [hhp]; exact vx_Zq.moved hW0.alike (hU.kept hS.2.1)
  have hN' : vx_Zq Bundle.tN "SUPPRESSED_SENTINEL" Bundle.listD A s' s'.heap := by rw [hhp]; exact vx_Zq.moved hW0.alike (hN.kept hS.2.1)
  have h : ∀ w ∈ lk_own own ic cls Y0 k0 by0 names, w.before args s' = true := vx_own hat' (vx_isRefq hU'.1) (vx_isRefq hN'.1) hU'.2.word hN'.2.word
  have hown' : s'.vm.findClass own = some m.cls := by rw [hvm]; exact hown
  have hins : (Cond.instantiable cls 6).before args s' = true := h _ (lk_o3 List.mem_cons_self)
  obtain ⟨vm₁, cX, kX, hfX, hkX, -, -, X₁, st1⟩ := Y.newCold hexec (own := own) (C := cls) (index := ik) (n := 6) hown' hk' hins hini'
    (g := F0 m pc ls rest) rfl (by rw [hb]; exact d0) (Nat.le_refl _) (Nat.le_refl _)
  generalize hT1 : (T.setVm vm₁).pushCell { cls := cX, slots := kX.instanceTypes.map defaultValue, vm := .none } = T1 at X₁ st1
  have hcat : (Value.ref T.heap.size).category = 1 := rfl
  have hcellA : T1.heap[T.heap.size]? = some (freshCell cX kX) := by rw [← hT1]; exact State.heap_pushCell_size _ _
  have d3' : decode c.code (pc + 3) = .ok (.dup, 1) := by rw [hb]; exact d3
  have d4' : decode c.code (pc + 4) = .ok (.ldc_w is, 3) := by rw [hb]; exact d4
  have hstr' : vk_R own is text sa s' := vk_R.warm hW0 hstr
  obtain ⟨U, hsteps, hrun, hend, hW, hsame, ce, hce, hO⟩ := lk_ctor X₁ hexec htr (own := own) (X := cls) (names := names) (ic := ic) hown' hcls hY0 hnames y0 y1 y2 y5 h hfX hkX hcellA (by rw [hhp, hT]; exact Nat.le_refl _) (sa := sa) (pc := pc + 7) (ls := ls) (rest := rest) hsize
    (by rw [hb]; exact d7) (by rw [hb]; exact d10) hout hRframes hRlocals hlocks
  obtain ⟨f1, f2⟩ := vx_frame hsame
  rw [hhp] at f1 f2
  have hWs : s.WarmedH U.vm := State.WarmedH.trans hW0 hW
  have hcl : s.vm.findClass cls = some ce.cls := by
    have h9 := hO.1
    rw [hvm] at h9
    exact h9
  have hall : s.sameButNew ({ U with vm := s.vm } : State) locs mc ms := by
    subst hA
    obtain ⟨e1, e2⟩ := hsame
    rw [State.setFrames_setFrames] at e1
    have h2 : (T.setVm s.vm).sameButNew ({ U with vm := s.vm } : State) [] (0 + 1) (0 + 6) := ⟨e1, e2⟩
    have h3 := X.same.trans h2
    rw [List.append_nil] at h3
    exact h3.mono hc hs
  refine ⟨U, ?_, .threw T.heap.size, hrun, hend, Or.inr ⟨T.heap.size, rfl, cls, ce, locs, hx U hWs.alike f1 (fun q hq => f2 q hq (fun z hz => nomatch hz)), hce, hO.2, hcl, hWs, hall, hf⟩⟩
  refine st1 _ ?_
  show Steps p.tables e below (T1.setTop { method := m, pc := pc + 3, locals := ls, stack := .ref T.heap.size :: rest, locked := none }) _
  jvm_step X₁.here [X₁.here.top, hexec, d3', Value.category]
  exact X₁.ldcStringW hexec (own := own) (text := text) (index := is) (a := sa) hown' hstr'.1 hstr'.2
    (g := { method := m, pc := pc + 4, locals := ls, stack := .ref T.heap.size :: .ref T.heap.size :: rest, locked := none }) rfl d4' _ hsteps
end
