/-! jw: the JDK's String.length and charAt of the words' texts -/
def jr (k : Nat) : Room := { frames := k, cells := 0, slots := 0, locals := 40 * k }
def jq (r : Option Value) : Array Value → State → Outcome → State → Prop := fun _ st oc t => oc = .returned r ∧ t.heap = st.heap
def jw_len : List Nat := W12.map List.length
def jw_byt : List (List Int32) := W12.map (fun l => l.map Int32.ofInt)
def ex_S (adK adV : Nat → Nat) (A : Nat → Prop) (U : State) (H : Heap) : Prop := vk_S 12 jw_len jw_byt adK adV A U H ∧ va_Z RJ0 "COMPACT_STRINGS" "Z" (.int 1) A U H ∧ va_Zq RJ3 "SIOOBE_FORMATTER" "Ljava/util/function/BiFunction;" A U H
theorem ex_S.moved {adK adV : Nat → Nat} {A : Nat → Prop} {u U : State} {H : Heap} (hvm : u.vm.Alike U.vm) (h : ex_S adK adV A u H) : ex_S adK adV A U H := ⟨vk_S.moved hvm h.1, va_Z.moved hvm h.2.1, va_Zq.moved hvm h.2.2⟩
theorem ex_S.kept {adK adV : Nat → Nat} {A : Nat → Prop} {U : State} {H H1 : Heap} (h : ex_S adK adV A U H) (hq : ∀ a : Nat, a < H.size → ¬ A a → H1[a]? = H[a]?) : ex_S adK adV A U H1 := ⟨h.1.kept hq, h.2.1.kept hq, h.2.2.kept hq⟩
theorem ex_S.narrow {adK adV : Nat → Nat} {A B : Nat → Prop} {U : State} {H : Heap} (h : ex_S adK adV A U H) (hAB : ∀ q, B q → A q) : ex_S adK adV B U H := ⟨h.1.narrow hAB, h.2.1.narrow hAB, h.2.2.narrow hAB⟩
section
variable {p : Program} {l : Launch} {e : Env} {R : Room} {s : State} {m : MethodId} {args : Array Value} {below : List Frame} {meth : Method} {c : Code} {Q : State → Prop} {cc : ByteArray} {nL : Nat} {own : String} {A : Nat → Prop} {adK adV : Nat → Nat} {H : Heap} {locs : List Loc} {cells slots : Nat}
theorem j_callV {C : String} {index b k maxL : Nat} {y : MethodName} {bytes : ByteArray} {ret : Option FieldType} {As rest : List Value} {r : Option Value} {pc : Nat} {ls : Array Slot} (hx : p.tables.exec = Jvm.exec) (hb : c.code = cc) (hml : c.maxLocals = nL) (hown : s.vm.findClass own = some m.cls) (hts : ∀ w ∈ am_TB, w.before args s = true)
    (hM : Met l y (.code y bytes maxL ret :: am_TB) (jr k) (va_Pc (Value.ref b :: As) (fun U => ex_S adK adV A U U.heap)) (jq r) 0 0 (fun _ => False)) (h1 : k + 1 ≤ R.frames) (h2 : 8 + (maxL + 11) + 40 * k ≤ R.locals)
    (w1 : Cond.code y bytes maxL ret ∈ am_TB) (w2 : Cond.initialized y.cls ∈ am_TB) (w3 : Cond.methodLink own index y ∈ am_TB) (w4 : Cond.instanceMethod y ∈ am_TB) (w5 : Cond.selects C y y ∈ am_TB) (hC : y.cls = C) (hpl : y.cls ≠ "java/lang/invoke/MethodHandle" ∧ y.cls ≠ "java/lang/invoke/VarHandle") (hpar : ∀ sig, parseMethodDescriptor y.desc = some sig → As.length = sig.parameters.length)
    (hE : ex_S adK adV A s H) (hrecv : ∃ cell : Cell, H[b]? = some cell ∧ cell.vm.isStatics = false ∧ s.vm.findClass C = some cell.cls) (hls : ls.size = nL) (hcat : (rest.map fun v => v.category).sum ≤ 8) (hf : cells ≤ R.cells ∧ slots ≤ R.slots) (hdg : decode cc pc = .ok (.invokevirtual index, 3))
    (kk : W p l e R s m args below meth c H locs cells slots Q (F0 m (pc + 3) ls (r.toList ++ rest))) : W p l e R s m args below meth c H locs cells slots Q (F0 m pc ls (As.reverse ++ .ref b :: rest)) := by
  have hG : GoodIn am_TB (.code y bytes maxL ret :: am_TB) := fun w hw => by
    rcases List.mem_cons.mp hw with rfl | hw
    · exact am_TB_good _ w1
    · exact am_TB_good _ hw
  have hblind : FrameBlind (va_Pc (Value.ref b :: As) (fun U => ex_S adK adV A U U.heap)) := fun a U g mk hz => ⟨hz.1, ex_S.moved (u := U) (U := U.calling g mk a) (Vm.Alike.refl U.vm) hz.2⟩
  have hr := va_runV (p := p) (e := e) (R := R) (below := below) (meth := meth) (locs := locs) (cells := cells) (slots := slots) (g := F0 m pc ls (As.reverse ++ .ref b :: rest)) (C := C) (As := As) (rest := rest) ⟨hx, hb, hml, hown, hts⟩ hM ⟨⟨rfl, rfl, h1, h2, pay_in hts hG, List.mem_cons_self, hts _ w1, hts _ w2, hpl, hpar, hts _ w3⟩, hts _ w4, hts _ w5⟩ ⟨hblind, hrecv, fun U hU hW => ⟨rfl, by show ex_S adK adV A U U.heap; rw [hU]; exact hE.moved hW.alike⟩⟩ rfl rfl hls rfl (lv_room hcat) hdg hf
  intro T hT X
  obtain ⟨v, st₀, t, T', L, h0, X', hL, e1, e2, ⟨hv, hh⟩, st⟩ := hr T hT X
  cases hv
  obtain ⟨t2, a1, b1⟩ := kk T' (by rw [e1, hh, h0]) (Stand.forget X' (fun q h => (hL q h).elim))
  exact ⟨t2, st t2 a1, b1⟩
theorem j_callS {index k maxL : Nat} {y : MethodName} {bytes : ByteArray} {ret : Option FieldType} {As rest : List Value} {r : Option Value} {pc : Nat} {ls : Array Slot} (hx : p.tables.exec = Jvm.exec) (hb : c.code = cc) (hml : c.maxLocals = nL) (hown : s.vm.findClass own = some m.cls) (hts : ∀ w ∈ am_TB, w.before args s = true)
    (hM : Met l y (.code y bytes maxL ret :: am_TB) (jr k) (va_Pc As (fun U => ex_S adK adV A U U.heap)) (jq r) 0 0 (fun _ => False)) (h1 : k + 1 ≤ R.frames) (h2 : 8 + (maxL + 11) + 40 * k ≤ R.locals)
    (w1 : Cond.code y bytes maxL ret ∈ am_TB) (w2 : Cond.initialized y.cls ∈ am_TB) (w3 : Cond.methodLink own index y ∈ am_TB) (w4 : Cond.static y ∈ am_TB) (hpl : y.cls ≠ "java/lang/invoke/MethodHandle" ∧ y.cls ≠ "java/lang/invoke/VarHandle") (hpar : ∀ sig, parseMethodDescriptor y.desc = some sig → As.length = sig.parameters.length)
    (hE : ex_S adK adV A s H) (hls : ls.size = nL) (hcat : (rest.map fun v => v.category).sum ≤ 8) (hf : cells ≤ R.cells ∧ slots ≤ R.slots) (hdg : decode cc pc = .ok (.invokestatic index, 3))
    (kk : W p l e R s m args below meth c H locs cells slots Q (F0 m (pc + 3) ls (r.toList ++ rest))) : W p l e R s m args below meth c H locs cells slots Q (F0 m pc ls (As.reverse ++ rest)) := by
  have hG : GoodIn am_TB (.code y bytes maxL ret :: am_TB) := fun w hw => by
    rcases List.mem_cons.mp hw with rfl | hw
    · exact am_TB_good _ w1
    · exact am_TB_good _ hw
  have hblind : FrameBlind (va_Pc As (fun U => ex_S adK adV A U U.heap)) := fun a U g mk hz => ⟨hz.1, ex_S.moved (u := U) (U := U.calling g mk a) (Vm.Alike.refl U.vm) hz.2⟩
  have hr := va_runS (p := p) (e := e) (R := R) (below := below) (meth := meth) (locs := locs) (cells := cells) (slots := slots) (g := F0 m pc ls (As.reverse ++ rest)) (As := As) (rest := rest) ⟨hx, hb, hml, hown, hts⟩ hM ⟨⟨rfl, rfl, h1, h2, pay_in hts hG, List.mem_cons_self, hts _ w1, hts _ w2, hpl, hpar, hts _ w3⟩, hts _ w4⟩ ⟨hblind, fun U hU hW => ⟨rfl, by show ex_S adK adV A U U.heap; rw [hU]; exact hE.moved hW.alike⟩⟩ rfl rfl hls rfl (lv_room hcat) hdg hf
  intro T hT X
  obtain ⟨v, st₀, t, T', L, h0, X', hL, e1, e2, ⟨hv, hh⟩, st⟩ := hr T hT X
  cases hv
  obtain ⟨t2, a1, b1⟩ := kk T' (by rw [e1, hh, h0]) (Stand.forget X' (fun q h => (hL q h).elim))
  exact ⟨t2, st t2 a1, b1⟩
end
theorem jt1 : Cond.fieldLink RJ0 38 "java/lang/String" "COMPACT_STRINGS" "Z" ∈ am_TB := List.mem_filter.mpr ⟨by decide +kernel, by decide +kernel⟩
theorem jt2 : Cond.fieldLink RJ0 15 "java/lang/String" "coder" "B" ∈ am_TB := List.mem_filter.mpr ⟨by decide +kernel, by decide +kernel⟩
theorem jt3 : Cond.fieldLink RJ0 9 "java/lang/String" "value" "[B" ∈ am_TB := List.mem_filter.mpr ⟨by decide +kernel, by decide +kernel⟩
theorem jt4 : Cond.methodLink RJ0 335 yJ0_coder_7d493 ∈ am_TB ∧ Cond.instanceMethod yJ0_coder_7d493 ∈ am_TB ∧ Cond.selects RJ0 yJ0_coder_7d493 yJ0_coder_7d493 ∈ am_TB ∧ Cond.initialized RJ0 ∈ am_TB ∧ Cond.code yJ0_coder_7d493 cJ0_coder_7d493 1 (some .byte) ∈ am_TB := ⟨List.mem_filter.mpr ⟨by decide +kernel, by decide +kernel⟩, List.mem_filter.mpr ⟨by decide +kernel, by decide +kernel⟩, List.mem_filter.mpr ⟨by decide +kernel, by decide +kernel⟩, List.mem_filter.mpr ⟨by decide +kernel, by decide +kernel⟩, List.mem_filter.mpr ⟨by decide +kernel, by decide +kernel⟩⟩
theorem jt5 : Cond.methodLink RJ0 492 yJ0_isLatin1_aae02 ∈ am_TB ∧ Cond.instanceMethod yJ0_isLatin1_aae02 ∈ am_TB ∧ Cond.selects RJ0 yJ0_isLatin1_aae02 yJ0_isLatin1_aae02 ∈ am_TB ∧ Cond.code yJ0_isLatin1_aae02 cJ0_isLatin1_aae02 1 (some .boolean) ∈ am_TB := ⟨List.mem_filter.mpr ⟨by decide +kernel, by decide +kernel⟩, List.mem_filter.mpr ⟨by decide +kernel, by decide +kernel⟩, List.mem_filter.mpr ⟨by decide +kernel, by decide +kernel⟩, List.mem_filter.mpr ⟨by decide +kernel, by decide +kernel⟩⟩
theorem jt6 : Cond.methodLink RJ0 495 yJ1_charAt_3b067 ∈ am_TB ∧ Cond.static yJ1_charAt_3b067 ∈ am_TB ∧ Cond.initialized RJ1 ∈ am_TB ∧ Cond.code yJ1_charAt_3b067 cJ1_charAt_3b067 2 (some .char) ∈ am_TB := ⟨List.mem_filter.mpr ⟨by decide +kernel, by decide +kernel⟩, List.mem_filter.mpr ⟨by decide +kernel, by decide +kernel⟩, List.mem_filter.mpr ⟨by decide +kernel, by decide +kernel⟩, List.mem_filter.mpr ⟨by decide +kernel, by decide +kernel⟩⟩
theorem jt7 : Cond.methodLink RJ1 9 yJ0_checkIndex_df160 ∈ am_TB ∧ Cond.static yJ0_checkIndex_df160 ∈ am_TB ∧ Cond.code yJ0_checkIndex_df160 cJ0_checkIndex_df160 2 none ∈ am_TB := ⟨List.mem_filter.mpr ⟨by decide +kernel, by decide +kernel⟩, List.mem_filter.mpr ⟨by decide +kernel, by decide +kernel⟩, List.mem_filter.mpr ⟨by decide +kernel, by decide +kernel⟩⟩
theorem jt8 : Cond.fieldLink RJ0 1053 "jdk/internal/util/Preconditions" "SIOOBE_FORMATTER" "Ljava/util/function/BiFunction;" ∈ am_TB ∧ Cond.methodLink RJ0 1059 yJ3_checkIndex_8e157 ∈ am_TB ∧ Cond.static yJ3_checkIndex_8e157 ∈ am_TB ∧ Cond.initialized RJ3 ∈ am_TB ∧ Cond.code yJ3_checkIndex_8e157 cJ3_checkIndex_8e157 3 (some .int) ∈ am_TB := ⟨List.mem_filter.mpr ⟨by decide +kernel, by decide +kernel⟩, List.mem_filter.mpr ⟨by decide +kernel, by decide +kernel⟩, List.mem_filter.mpr ⟨by decide +kernel, by decide +kernel⟩, List.mem_filter.mpr ⟨by decide +kernel, by decide +kernel⟩, List.mem_filter.mpr ⟨by decide +kernel, by decide +kernel⟩⟩
theorem jt9 : Cond.methodLink RX8 23 yJ0_length_8abf5 ∈ am_TB ∧ Cond.instanceMethod yJ0_length_8abf5 ∈ am_TB ∧ Cond.selects RJ0 yJ0_length_8abf5 yJ0_length_8abf5 ∈ am_TB ∧ Cond.code yJ0_length_8abf5 cJ0_length_8abf5 1 (some .int) ∈ am_TB := ⟨List.mem_filter.mpr ⟨by decide +kernel, by decide +kernel⟩, List.mem_filter.mpr ⟨by decide +kernel, by decide +kernel⟩, List.mem_filter.mpr ⟨by decide +kernel, by decide +kernel⟩, List.mem_filter.mpr ⟨by decide +kernel, by decide +kernel⟩⟩
theorem jt10 : Cond.methodLink RX8 29 yJ0_charAt_5068e ∈ am_TB ∧ Cond.instanceMethod yJ0_charAt_5068e ∈ am_TB ∧ Cond.selects RJ0 yJ0_charAt_5068e yJ0_charAt_5068e ∈ am_TB ∧ Cond.code yJ0_charAt_5068e cJ0_charAt_5068e 2 (some .char) ∈ am_TB := ⟨List.mem_filter.mpr ⟨by decide +kernel, by decide +kernel⟩, List.mem_filter.mpr ⟨by decide +kernel, by decide +kernel⟩, List.mem_filter.mpr ⟨by decide +kernel, by decide +kernel⟩, List.mem_filter.mpr ⟨by decide +kernel, by decide +kernel⟩⟩
