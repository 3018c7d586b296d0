/-! the tables' rows, checked: what stands at the places that part 03 names -/
def am_nest (q : Nat × Nat × Nat × Nat × Nat × Nat) : Option Cond := match am_cl[q.2.2.1]? with
  | some c => some (if q.2.2.2.2.1 = 0 then .fieldLink (am_R q.1) q.2.1 (c.2.1 q.2.2.2.1).1 (c.2.1 q.2.2.2.1).2.1 (c.2.1 q.2.2.2.1).2.2.1 else .fieldLinkNest (am_R q.1) q.2.1 (c.2.1 q.2.2.2.1).1 (c.2.1 q.2.2.2.1).2.1 (c.2.1 q.2.2.2.1).2.2.1 "StonesAlike")
  | none => none
def am_flok (q : Nat × Nat × Nat × Nat × Nat × Nat) : Bool := decide (q.2.2.2.1 < 64) && (match am_cl[q.2.2.1]? with | some c => decide (q.2.2.2.1 < c.2.2) | none => false) && (am_nest q).isSome && decide (lw_tbl[q.2.2.2.2.2]? = am_nest q)
theorem am_FL_ok : am_FL.all am_flok = true := by decide +kernel
def am_mlc (q : Nat × Nat × Nat × Nat × Nat) : Option Cond := match am_me[q.2.2.1]? with
  | some c => some (if q.2.2.2.1 = 0 then .methodLink (am_R q.1) q.2.1 c.1 else .methodLinkNest (am_R q.1) q.2.1 c.1 "StonesAlike")
  | none => none
def am_mlok (q : Nat × Nat × Nat × Nat × Nat) : Bool := (am_mlc q).isSome && decide (lw_tbl[q.2.2.2.2]? = am_mlc q)
theorem am_ML_ok : am_ML.all am_mlok = true := by decide +kernel
def am_clok (q : Nat × Nat × Nat × Nat × Nat × Nat) : Bool := match am_cl[q.2.2.1]? with
  | some c => decide (lw_tbl[q.2.2.2.1]? = some (.classLink (am_R q.1) q.2.1 c.1)) && decide (lw_tbl[q.2.2.2.2.1]? = some (.initialized c.1)) && decide (lw_tbl[q.2.2.2.2.2]? = some (.instantiable c.1 c.2.2))
  | none => false
theorem am_CL_ok : am_CL.all am_clok = true := by decide +kernel
def am_klok (q : Nat × Nat × Nat × Int × Nat) : Bool := decide (lw_tbl[q.2.2.2.2]? = some (if q.2.2.1 = 0 then .constant (am_R q.1) q.2.1 (Int32.ofInt q.2.2.2.1) else .constantLong (am_R q.1) q.2.1 (Int64.ofInt q.2.2.2.1))) && (if q.2.2.1 = 0 then decide (-2147483648 ≤ q.2.2.2.1 ∧ q.2.2.2.1 ≤ 2147483647) else decide (-9223372036854775808 ≤ q.2.2.2.1 ∧ q.2.2.2.1 ≤ 9223372036854775807))
theorem am_KL_ok : am_KL.all am_klok = true := by decide +kernel
def am_olok (q : Nat × Nat × Nat) : Bool := decide (lw_tbl[q.2.2]? = some (.methodLink (am_R q.1) q.2.1 objectInit))
theorem am_OL_ok : am_OL.all am_olok = true := by decide +kernel
theorem am_obj_im : Cond.instanceMethod objectInit ∈ lw_tbl := by decide +kernel
theorem am_obj_cd : Cond.code objectInit ⟨#[0xb1]⟩ 1 none ∈ lw_tbl := by decide +kernel
def am_wlok (q : Nat × Nat × Nat × Nat) : Bool := decide (q.2.2.1 < 4) && decide (lw_tbl[q.2.2.2]? = some (.fieldLinkNest (am_R q.1) q.2.1 RX9 (["role", "slot", "low", "high"].getD q.2.2.1 "") "I" "StonesAlike"))
theorem am_WL_ok : am_WL.all am_wlok = true := by decide +kernel
/-- a method's own words -/
def am_meok (q : am_M) : Bool := q.2.2.2.2.1 == 99 || (decide (q.2.2.1 ≤ 40) && decide (lw_tbl[q.2.2.2.2.2.2.2.2.2.1]? = some (if q.2.2.2.2.2.1 = 0 then .static q.1 else .instanceMethod q.1)) && (if q.2.2.2.2.2.1 = 1 then decide (lw_tbl[q.2.2.2.2.2.2.2.2.2.2.1]? = some (.selects q.1.cls q.1 q.1)) else true) && decide (lw_tbl[q.2.2.2.2.2.2.2.2.2.2.2]? = some (.initialized q.1.cls)) && decide (am_R q.2.2.2.2.1 = q.1.cls) && plainFor q.1 && decide (q.1.cls ≠ "java/lang/invoke/MethodHandle" ∧ q.1.cls ≠ "java/lang/invoke/VarHandle") && decide ((parseMethodDescriptor q.1.desc).map (fun d => d.parameters.length) = some q.2.2.2.2.2.2.2.1) && (if q.2.2.2.2.2.1 = 2 then decide (q.1.name = "<init>" ∧ q.2.2.2.1 = none) else decide (q.2.2.2.2.2.2.1 = 0)) && (if q.2.2.2.2.2.1 = 1 then decide (q.2.2.2.2.1 < 12) else true))
theorem am_me_ok0 : am_me0.all am_meok = true := by decide +kernel
theorem am_me_ok1 : am_me1.all am_meok = true := by decide +kernel
theorem am_me_ok2 : am_me2.all am_meok = true := by decide +kernel
theorem am_me_ok3 : am_me3.all am_meok = true := by decide +kernel
theorem am_me_ok4 : am_me4.all am_meok = true := by decide +kernel
theorem am_me_ok5 : am_me5.all am_meok = true := by decide +kernel
theorem am_me_ok6 : am_me6.all am_meok = true := by decide +kernel
theorem am_me_ok7 : am_me7.all am_meok = true := by decide +kernel
theorem am_me_ok8 : am_me8.all am_meok = true := by decide +kernel
theorem am_me_ok : am_me.all am_meok = true := by
  unfold am_me
  simp only [List.all_append, am_me_ok0, am_me_ok1, am_me_ok2, am_me_ok3, am_me_ok4, am_me_ok5, am_me_ok6, am_me_ok7, am_me_ok8, Bool.and_self]
/-- the good words of the tables: every method's own list holds them -/
def am_TB : List Cond := lw_tbl.filter goodWord
theorem am_TB_good : GoodIn am_TB am_TB := fun w h => ⟨h, good_of_word (List.mem_filter.mp h).2⟩
theorem am_inT {w : Cond} {i : Nat} (h : lw_tbl[i]? = some w) (hg : goodWord w = true) : w ∈ am_TB := List.mem_filter.mpr ⟨List.mem_of_getElem? h, hg⟩
def am_clin (c : vw_C) : Bool := (u_ws c.1 c.2.1 c.2.2).all (fun w => decide (w ∈ lw_tbl) && goodWord w)
theorem am_cl_in : am_cl.all am_clin = true := by decide +kernel
theorem am_ar_in : am_AC.all (fun q => decide (lw_tbl[q.2]? = some (.arrayClass q.1))) = true := by decide +kernel
/-- the words of the nest: they go with the world -/
def am_NW : List Cond := lw_tbl.filter (fun w => match w with | .fieldLinkNest _ _ _ _ _ _ => true | .methodLinkNest _ _ _ _ => true | _ => false)
