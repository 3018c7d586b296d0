/-! THE SMALL MACHINE: ints, longs and cells as integers; what an instruction asks, and where it goes. A value: its kind (0 int, 1 long, 2 a cell or null, 4 a constant of Word, 7 the script, 9 none) and a number. A heap: of each cell its places. Cell 0, place 0: how many cells there are. -/
abbrev am_V : Type := Nat × Int
abbrev am_H : Type := Nat → Nat → Int
abbrev am_K : Type := am_V → am_H → Prop
def am_st (h : am_H) (c j : Nat) (v : Int) : am_H := fun c' j' => if c' = c then (if j' = j then v else h c' j') else h c' j'
abbrev am_inI (x : Int) : Prop := -2147483648 ≤ x ∧ x ≤ 2147483647
abbrev am_inL (x : Int) : Prop := -9223372036854775808 ≤ x ∧ x ≤ 9223372036854775807
def am_and (a b : Int) : Int := (Int32.ofInt a &&& Int32.ofInt b).toInt
def am_or (a b : Int) : Int := (Int32.ofInt a ||| Int32.ofInt b).toInt
def am_xor (a b : Int) : Int := (Int32.ofInt a ^^^ Int32.ofInt b).toInt
def am_ushr (a b : Int) : Int := ((Int32.ofInt a).toUInt32 >>> ((Int32.ofInt b).toUInt32 &&& Int32.toUInt32 31)).toInt32.toInt
def am_i2b (a : Int) : Int := (Int32.ofInt a).toInt8.toInt32.toInt
def am_lcmp (a b : Int) : Int := if a < b then -1 else if a = b then 0 else 1
def am_cmp (c : Jvm.ClassFile.Cond) (a b : Int) : Prop := match c with
  | .eq => a = b
  | .ne => ¬ a = b
  | .lt => a < b
  | .ge => b ≤ a
  | .gt => b < a
  | .le => a ≤ b
def am_isr (t : Nat) : Bool := t == 2 || (t == 4 || t == 7)
def am_1 (t : Nat) (st : List am_V) (k : Int → List am_V → Prop) : Prop := match st with
  | v :: r => if v.1 = t then k v.2 r else False
  | [] => False
def am_2 (t u : Nat) (st : List am_V) (k : Int → Int → List am_V → Prop) : Prop := am_1 u st (fun b r => am_1 t r (fun a r => k a b r))
def am_r (st : List am_V) (k : am_V → List am_V → Prop) : Prop := match st with
  | v :: r => if am_isr v.1 = true then k v r else False
  | [] => False
def am_c1 (st : List am_V) (k : am_V → List am_V → Prop) : Prop := match st with
  | v :: r => if v.1 = 1 then False else k v r
  | [] => False
def am_nil (st : List am_V) (k : Prop) : Prop := match st with
  | [] => k
  | _ :: _ => False
def am_ld : List am_V → Nat → (am_V → Prop) → Prop
  | v :: _, 0, k => k v
  | _ :: l, i + 1, k => am_ld l i k
  | [], _, _ => False
def am_ldt (t : Nat) (ls : List am_V) (i : Nat) (k : Int → Prop) : Prop := am_ld ls i (fun v => if v.1 = t then k v.2 else False)
def am_ldr (ls : List am_V) (i : Nat) (k : am_V → Prop) : Prop := am_ld ls i (fun v => if am_isr v.1 = true then k v else False)
def am_sto : List am_V → Nat → am_V → List am_V
  | _ :: l, 0, v => v :: l
  | a :: _ :: l, 1, v => (if a.1 = 1 then (9, 0) else a) :: v :: l
  | a :: l, i + 2, v => a :: am_sto l (i + 1) v
  | l, _, _ => l
def am_kil : List am_V → Nat → List am_V
  | _ :: l, 0 => (9, 0) :: l
  | a :: l, i + 1 => a :: am_kil l i
  | [], _ => []
def am_nth {α : Type} : List α → Nat → Option α
  | a :: _, 0 => some a
  | _ :: l, i + 1 => am_nth l i
  | [], _ => none
def am_cat (st : List am_V) : Nat := match st with
  | [] => 0
  | v :: r => (if v.1 = 1 then 2 else 1) + am_cat r
def am_take : Nat → List am_V → (List am_V → List am_V → Prop) → Prop
  | 0, st, k => k [] st
  | n + 1, v :: st, k => am_take n st (fun as r => k (as ++ [v]) r)
  | _ + 1, [], _ => False
def am_sw : List Int → Int → Int → (Int → Prop) → Prop
  | [], _, _, _ => True
  | t :: l, lo, a, k => (a = lo → k t) ∧ am_sw l (lo + 1) a k
/-- the words' numbers: role, slot, low, high (places 1 .. 4) -/
def am_word (i j : Nat) : Int := ((([[0, 0, 0, 0], [0, 1, 0, 0], [1, 0, 1, 66], [1, 1, 1, 6], [1, 2, 5, 30], [1, 3, 1, 99], [2, 0, 0, 0], [3, 0, 1, 4], [3, 1, 0, 0], [3, 2, 0, 0], [3, 3, 1, 8], [3, 4, 0, 7]] : List (List Int)).getD i []).getD j 0)
def am_get (bm : Bool) (ci : Nat) (o : Int) (j : Nat) (h : am_H) (k : am_V → Prop) : Prop :=
  if (am_cell o.toNat).1 = 0 ∧ (am_cell o.toNat).2.1 = ci ∧ 0 < o then
    match am_nth (am_cell o.toNat).2.2 j with
    | some f => if f.1 = 8 then (if bm = true then k (2, f.2) else (h o.toNat j = f.2 ∧ k (2, f.2))) else k (f.1, h o.toNat j)
    | none => False
  else False
def am_put (bm ini : Bool) (ci : Nat) (o : Int) (j : Nat) (v : am_V) (h : am_H) (k : am_H → Prop) : Prop :=
  if (am_cell o.toNat).1 = 0 ∧ (am_cell o.toNat).2.1 = ci ∧ 0 < o then
    match am_nth (am_cell o.toNat).2.2 j with
    | some f => if f.1 = 8 then (if bm = true ∨ ini = false then False else if v.1 = 2 then k (am_st h o.toNat j v.2) else False) else if v.1 = f.1 then k (am_st h o.toNat j v.2) else False
    | none => False
  else False
def am_arr (kd : Nat) (a : Int) (k : Int → Prop) : Prop := if (am_cell a.toNat).1 = kd ∧ 0 < a then k (am_cell a.toNat).2.1 else False
def am_blk (bm ini : Bool) (bz : Nat) (lim : Int) (L : Nat) (xs : Nat → Int) (C : Nat → List am_V → am_H → am_K → Prop) (Q : am_K) (T : Nat → List am_V → List am_V → am_H → Prop) (e : Nat) : List Instr → List am_V → List am_V → am_H → Prop
  | [], ls, st, h => T e ls st h
  | i :: r, ls, st, h => match i with
    | .iconst n => am_blk bm ini bz lim L xs C Q T e r ls ((0, n) :: st) h
    | .sipush n => am_blk bm ini bz lim L xs C Q T e r ls ((1, n) :: st) h
    | .iload k => am_ldt 0 ls k (fun x => am_blk bm ini bz lim L xs C Q T e r ls ((0, x) :: st) h)
    | .lload k => am_ldt 1 ls k (fun x => am_blk bm ini bz lim L xs C Q T e r ls ((1, x) :: st) h)
    | .aload k => am_ldr ls k (fun v => am_blk bm ini bz lim L xs C Q T e r ls (v :: st) h)
    | .istore k => am_1 0 st (fun x s => if k < ls.length then am_blk bm ini bz lim L xs C Q T e r (am_sto ls k (0, x)) s h else False)
    | .lstore k => am_1 1 st (fun x s => if k + 1 < ls.length then am_blk bm ini bz lim L xs C Q T e r (am_sto (am_kil ls (k + 1)) k (1, x)) s h else False)
    | .astore k => am_r st (fun v s => if k < ls.length then am_blk bm ini bz lim L xs C Q T e r (am_sto ls k v) s h else False)
    | .iinc k n => am_ldt 0 ls k (fun x => am_inI (x + n) ∧ am_blk bm ini bz lim L xs C Q T e r (am_sto ls k (0, x + n)) st h)
    | .iadd => am_2 0 0 st (fun a b s => am_inI (a + b) ∧ am_blk bm ini bz lim L xs C Q T e r ls ((0, a + b) :: s) h)
    | .isub => am_2 0 0 st (fun a b s => am_inI (a - b) ∧ am_blk bm ini bz lim L xs C Q T e r ls ((0, a - b) :: s) h)
    | .imul => am_2 0 0 st (fun a b s => am_inI (a * b) ∧ am_blk bm ini bz lim L xs C Q T e r ls ((0, a * b) :: s) h)
    | .idiv => am_2 0 0 st (fun a b s => (0 ≤ a ∧ 0 < b) ∧ am_blk bm ini bz lim L xs C Q T e r ls ((0, a / b) :: s) h)
    | .irem => am_2 0 0 st (fun a b s => (0 ≤ a ∧ 0 < b) ∧ am_blk bm ini bz lim L xs C Q T e r ls ((0, a % b) :: s) h)
    | .ineg => am_1 0 st (fun a s => am_inI (-a) ∧ am_blk bm ini bz lim L xs C Q T e r ls ((0, -a) :: s) h)
    | .iand => am_2 0 0 st (fun a b s => am_blk bm ini bz lim L xs C Q T e r ls ((0, am_and a b) :: s) h)
    | .ior => am_2 0 0 st (fun a b s => am_blk bm ini bz lim L xs C Q T e r ls ((0, am_or a b) :: s) h)
    | .ixor => am_2 0 0 st (fun a b s => am_blk bm ini bz lim L xs C Q T e r ls ((0, am_xor a b) :: s) h)
    | .ishl => am_2 0 0 st (fun a b s => (0 ≤ a ∧ 0 ≤ b ∧ b ≤ 31 ∧ am_inI (a * 2 ^ b.toNat)) ∧ am_blk bm ini bz lim L xs C Q T e r ls ((0, a * 2 ^ b.toNat) :: s) h)
    | .ishr => am_2 0 0 st (fun a b s => (0 ≤ b ∧ b ≤ 31) ∧ am_blk bm ini bz lim L xs C Q T e r ls ((0, a / 2 ^ b.toNat) :: s) h)
    | .iushr => am_2 0 0 st (fun a b s => am_blk bm ini bz lim L xs C Q T e r ls ((0, am_ushr a b) :: s) h)
    | .ladd => am_2 1 1 st (fun a b s => am_inL (a + b) ∧ am_blk bm ini bz lim L xs C Q T e r ls ((1, a + b) :: s) h)
    | .lsub => am_2 1 1 st (fun a b s => am_inL (a - b) ∧ am_blk bm ini bz lim L xs C Q T e r ls ((1, a - b) :: s) h)
    | .lmul => am_2 1 1 st (fun a b s => am_inL (a * b) ∧ am_blk bm ini bz lim L xs C Q T e r ls ((1, a * b) :: s) h)
    | .ldiv => am_2 1 1 st (fun a b s => (0 ≤ a ∧ 0 < b) ∧ am_blk bm ini bz lim L xs C Q T e r ls ((1, a / b) :: s) h)
    | .lrem => am_2 1 1 st (fun a b s => (0 ≤ a ∧ 0 < b) ∧ am_blk bm ini bz lim L xs C Q T e r ls ((1, a % b) :: s) h)
    | .lshl => am_2 1 0 st (fun a b s => (0 ≤ a ∧ 0 ≤ b ∧ b ≤ 62 ∧ am_inL (a * 2 ^ b.toNat)) ∧ am_blk bm ini bz lim L xs C Q T e r ls ((1, a * 2 ^ b.toNat) :: s) h)
    | .lcmp => am_2 1 1 st (fun a b s => am_blk bm ini bz lim L xs C Q T e r ls ((0, am_lcmp a b) :: s) h)
    | .i2l => am_1 0 st (fun a s => am_blk bm ini bz lim L xs C Q T e r ls ((1, a) :: s) h)
    | .i2b => am_1 0 st (fun a s => am_blk bm ini bz lim L xs C Q T e r ls ((0, am_i2b a) :: s) h)
    | .aconst_null => am_blk bm ini bz lim L xs C Q T e r ls ((2, 0) :: st) h
    | .dup => am_c1 st (fun v s => am_blk bm ini bz lim L xs C Q T e r ls (v :: v :: s) h)
    | .dup2 => am_c1 st (fun v s => am_c1 s (fun w s => am_blk bm ini bz lim L xs C Q T e r ls (v :: w :: v :: w :: s) h))
    | .pop => am_c1 st (fun _ s => am_blk bm ini bz lim L xs C Q T e r ls s h)
    | .nop => am_r st (fun v s => if v.1 = 2 ∧ 0 < v.2 ∧ am_cat s ≤ 8 then am_blk bm ini bz lim L xs C Q T e r ls s h else False)
    | .ifCond c t => am_1 0 st (fun a s => (am_cmp c a 0 → T t.toNat ls s h) ∧ (¬ am_cmp c a 0 → am_blk bm ini bz lim L xs C Q T e r ls s h))
    | .if_icmp c t => am_2 0 0 st (fun a b s => (am_cmp c a b → T t.toNat ls s h) ∧ (¬ am_cmp c a b → am_blk bm ini bz lim L xs C Q T e r ls s h))
    | .goto t => T t.toNat ls st h
    | .ifnull t => am_r st (fun v s => (v = (2, 0) → T t.toNat ls s h) ∧ (¬ v = (2, 0) → am_blk bm ini bz lim L xs C Q T e r ls s h))
    | .tableswitch d lo hi offs => am_1 0 st (fun a s => ((a < lo ∨ hi < a) → T d.toNat ls s h) ∧ am_sw offs.toList lo a (fun t => T t.toNat ls s h))
    | .ireturn => am_1 0 st (fun a s => am_nil s (if bz = 0 then Q (0, a) h else if bz = 4 then ((0 ≤ a ∧ a ≤ 1) ∧ Q (0, a) h) else False))
    | .lreturn => am_1 1 st (fun a s => am_nil s (if bz = 1 then Q (1, a) h else False))
    | .areturn => am_r st (fun v s => am_nil s (if bz = 2 then Q v h else False))
    | .return_ => am_nil st (if bz = 3 then (if ini = true then (h 0 0 = lim ∧ Q (9, 0) h) else Q (9, 0) h) else False)
    | .getfield k => am_r st (fun v s => if v.1 = 2 then am_get bm (k / 64) v.2 (k % 64) h (fun w => am_blk bm ini bz lim L xs C Q T e r ls (w :: s) h) else if v.1 = 4 ∧ k / 64 = 15 then am_blk bm ini bz lim L xs C Q T e r ls ((0, am_word v.2.toNat (k % 64)) :: s) h else False)
    | .putfield k => match st with
      | v :: st => am_1 2 st (fun o s => am_put bm ini (k / 64) o (k % 64) v h (fun h => am_blk bm ini bz lim L xs C Q T e r ls s h))
      | [] => False
    | .iaload => am_1 0 st (fun i s => am_r s (fun v s => if v.1 = 2 then am_arr 1 v.2 (fun n => (0 ≤ i ∧ i < n) ∧ am_blk bm ini bz lim L xs C Q T e r ls ((0, h v.2.toNat i.toNat) :: s) h) else if v.1 = 7 then ((0 ≤ i ∧ i < L) ∧ am_blk bm ini bz lim L xs C Q T e r ls ((0, xs i.toNat) :: s) h) else False))
    | .laload => am_1 0 st (fun i s => am_1 2 s (fun a s => am_arr 2 a (fun n => (0 ≤ i ∧ i < n) ∧ am_blk bm ini bz lim L xs C Q T e r ls ((1, h a.toNat i.toNat) :: s) h)))
    | .baload => am_1 0 st (fun i s => am_1 2 s (fun a s => if (am_cell a.toNat).1 = 3 then am_arr 3 a (fun n => (0 ≤ i ∧ i < n) ∧ (-128 ≤ h a.toNat i.toNat ∧ h a.toNat i.toNat ≤ 127 → am_blk bm ini bz lim L xs C Q T e r ls ((0, h a.toNat i.toNat) :: s) h)) else am_arr 4 a (fun n => (0 ≤ i ∧ i < n) ∧ (0 ≤ h a.toNat i.toNat ∧ h a.toNat i.toNat ≤ 1 → am_blk bm ini bz lim L xs C Q T e r ls ((0, h a.toNat i.toNat) :: s) h))))
    | .iastore => am_1 0 st (fun x s => am_1 0 s (fun i s => am_1 2 s (fun a s => am_arr 1 a (fun n => (0 ≤ i ∧ i < n) ∧ am_blk bm ini bz lim L xs C Q T e r ls s (am_st h a.toNat i.toNat x)))))
    | .lastore => am_1 1 st (fun x s => am_1 0 s (fun i s => am_1 2 s (fun a s => am_arr 2 a (fun n => (0 ≤ i ∧ i < n) ∧ am_blk bm ini bz lim L xs C Q T e r ls s (am_st h a.toNat i.toNat x)))))
    | .bastore => am_1 0 st (fun x s => am_1 0 s (fun i s => am_1 2 s (fun a s => if (am_cell a.toNat).1 = 3 then am_arr 3 a (fun n => (0 ≤ i ∧ i < n ∧ -128 ≤ x ∧ x ≤ 127) ∧ am_blk bm ini bz lim L xs C Q T e r ls s (am_st h a.toNat i.toNat x)) else am_arr 4 a (fun n => (0 ≤ i ∧ i < n ∧ 0 ≤ x ∧ x ≤ 1) ∧ am_blk bm ini bz lim L xs C Q T e r ls s (am_st h a.toNat i.toNat x)))))
    | .arraylength => am_r st (fun v s => if v.1 = 2 then am_arr (if (am_cell v.2.toNat).1 = 0 then 9 else (am_cell v.2.toNat).1) v.2 (fun n => am_blk bm ini bz lim L xs C Q T e r ls ((0, n) :: s) h) else if v.1 = 7 then am_blk bm ini bz lim L xs C Q T e r ls ((0, L) :: s) h else False)
    | .new ci => ∃ n : Nat, h 0 0 = n ∧ (am_cell (n + 1)).1 = 0 ∧ (am_cell (n + 1)).2.1 = ci ∧ (∀ j, h (n + 1) j = 0) ∧ h 0 0 + 1 ≤ lim ∧ am_blk bm ini bz lim L xs C Q T e r ls ((2, n + 1) :: st) (am_st h 0 0 (n + 1))
    | .newarray ty => am_1 0 st (fun x s => ∃ n : Nat, h 0 0 = n ∧ (am_cell (n + 1)).1 = (match ty with | .int => 1 | .long => 2 | .byte => 3 | .boolean => 4 | _ => 99) ∧ x = (am_cell (n + 1)).2.1 ∧ (∀ j, h (n + 1) j = 0) ∧ h 0 0 + 1 ≤ lim ∧ am_blk bm ini bz lim L xs C Q T e r ls ((2, n + 1) :: s) (am_st h 0 0 (n + 1)))
    | .invokestatic k => am_take (k % 16) st (fun as s => if am_cat s ≤ 8 then C (k / 64) as h (if k / 16 % 4 = 0 then (fun v h => am_blk bm ini bz lim L xs C Q T e r ls ((0, v.2) :: s) h) else if k / 16 % 4 = 1 then (fun v h => am_blk bm ini bz lim L xs C Q T e r ls ((1, v.2) :: s) h) else if k / 16 % 4 = 2 then (fun v h => am_blk bm ini bz lim L xs C Q T e r ls (v :: s) h) else (fun _ h => am_blk bm ini bz lim L xs C Q T e r ls s h)) else False)
    | .invokespecial k => am_take (k % 16) st (fun as s => if am_cat s ≤ 8 then (h 0 0 + ((am_me.getD (k / 64) (⟨"", "", ""⟩, ⟨#[]⟩, 0, none, 99, 9, 0, 0, 0, 0, 0, 0)).2.2.2.2.2.2.1 : Nat) ≤ lim ∧ C (k / 64) as h (fun _ h => am_blk bm ini bz lim L xs C Q T e r ls s h)) else False)
    | _ => False
/-- what the pool's places are, in the small machine's numbers -/
def am_fx (own idx : Nat) : Nat := match am_FL.find? (fun q => q.1 == own && q.2.1 == idx) with
  | some q => q.2.2.1 * 64 + q.2.2.2.1
  | none => match am_WL.find? (fun q => q.1 == own && q.2.1 == idx) with
    | some q => 960 + q.2.2.1
    | none => 99999
/-- a final field is written by its own class's constructor -/
def am_fw (own idx : Nat) : Bool := match am_FL.find? (fun q => q.1 == own && q.2.1 == idx) with
  | some q => (match am_cl[q.2.2.1]? with | some c => !(c.2.1 q.2.2.2.1).2.2.2 || (q.2.2.2.2.1 == 0 && q.2.2.1 == own) | none => false)
  | none => false
def am_rt (r : Option FieldType) : Nat := match r with
  | none => 3
  | some .long => 1
  | some (.object _) => 2
  | some (.array _) => 2
  | _ => 0
def am_rk (r : Option FieldType) : Nat := match r with
  | none => 3
  | some .int => 0
  | some .boolean => 4
  | some .long => 1
  | some (.object _) => 2
  | some (.array _) => 2
  | _ => 9
def am_mx (own idx : Nat) : Option (Nat × am_M) := match am_ML.find? (fun q => q.1 == own && q.2.1 == idx) with
  | some q => (am_me[q.2.2.1]?).map (fun c => (q.2.2.1, c))
  | none => none
def am_kc (id : Nat) (c : am_M) : Nat := (id * 4 + am_rt c.2.2.2.1) * 16 + (c.2.2.2.2.2.2.2.1 + (if c.2.2.2.2.2.1 = 0 then 0 else 1))
def am_kx (own idx lg : Nat) : Option Int := (am_KL.find? (fun q => q.1 == own && (q.2.1 == idx && q.2.2.1 == lg))).map (fun q => q.2.2.2.1)
def am_res (own pc : Nat) (i : Instr) : Option Instr := match i with
  | .iconst n => if -1 ≤ n ∧ n ≤ 5 then some (.iconst n) else none
  | .bipush n => if (Int8.ofInt n).toInt32.toInt = n then some (.iconst n) else none
  | .sipush n => if (Int16.ofInt n).toInt32.toInt = n then some (.iconst n) else none
  | .lconst n => some (.sipush (n : Nat))
  | .ldc_w k => (am_kx own k 0).map (fun n => .iconst n)
  | .ldc2_w k => (am_kx own k 1).map (fun n => .sipush n)
  | .iload k => some (.iload k)
  | .iload_n k => some (.iload k)
  | .lload k => some (.lload k)
  | .lload_n k => some (.lload k)
  | .aload k => some (.aload k)
  | .aload_n k => some (.aload k)
  | .istore k => some (.istore k)
  | .istore_n k => some (.istore k)
  | .lstore k => some (.lstore k)
  | .lstore_n k => some (.lstore k)
  | .astore k => some (.astore k)
  | .astore_n k => some (.astore k)
  | .iinc k n => if (Int32.ofInt n).toInt = n then some (.iinc k n) else none
  | .iadd => some .iadd
  | .isub => some .isub
  | .imul => some .imul
  | .idiv => some .idiv
  | .irem => some .irem
  | .ineg => some .ineg
  | .iand => some .iand
  | .ior => some .ior
  | .ixor => some .ixor
  | .ishl => some .ishl
  | .ishr => some .ishr
  | .iushr => some .iushr
  | .ladd => some .ladd
  | .lsub => some .lsub
  | .lmul => some .lmul
  | .ldiv => some .ldiv
  | .lrem => some .lrem
  | .lshl => some .lshl
  | .lcmp => some .lcmp
  | .i2l => some .i2l
  | .i2b => some .i2b
  | .aconst_null => some .aconst_null
  | .dup => some .dup
  | .dup2 => some .dup2
  | .pop => some .pop
  | .ifCond c t => if 0 ≤ (pc : Int) + t then some (.ifCond c (pc + t)) else none
  | .if_icmp c t => if 0 ≤ (pc : Int) + t then some (.if_icmp c (pc + t)) else none
  | .goto t => if 0 ≤ (pc : Int) + t then some (.goto (pc + t)) else none
  | .ifnull t => if 0 ≤ (pc : Int) + t then some (.ifnull (pc + t)) else none
  | .tableswitch d lo hi offs => if 0 ≤ (pc : Int) + d ∧ (offs.toList.all (fun t => decide (0 ≤ (pc : Int) + t)) = true) ∧ hi - lo + 1 = (offs.size : Int) ∧ lo ≤ hi then some (.tableswitch (pc + d) lo hi (offs.toList.map (fun t => (pc : Int) + t)).toArray) else none
  | .ireturn => some .ireturn
  | .lreturn => some .lreturn
  | .areturn => some .areturn
  | .return_ => some .return_
  | .getfield k => if am_fx own k = 99999 then none else some (.getfield (am_fx own k))
  | .putfield k => if am_fx own k = 99999 ∨ am_fw own k = false then none else some (.putfield (am_fx own k))
  | .iaload => some .iaload
  | .laload => some .laload
  | .baload => some .baload
  | .iastore => some .iastore
  | .lastore => some .lastore
  | .bastore => some .bastore
  | .arraylength => some .arraylength
  | .new k => (am_CL.find? (fun q => q.1 == own && q.2.1 == k)).map (fun q => .new q.2.2.1)
  | .newarray ty => some (.newarray ty)
  | .invokestatic k => (am_mx own k).bind (fun q => if q.2.2.2.2.2.2.1 = 0 then some (.invokestatic (am_kc q.1 q.2)) else none)
  | .invokevirtual k => (am_mx own k).bind (fun q => if q.2.2.2.2.2.2.1 = 1 then some (.invokestatic (am_kc q.1 q.2)) else none)
  | .invokespecial k => if (am_OL.find? (fun q => q.1 == own && q.2.1 == k)).isSome = true then some .nop else (am_mx own k).bind (fun q => if q.2.2.2.2.2.2.1 = 2 then some (.invokespecial (am_kc q.1 q.2)) else none)
  | _ => none
/-- how long an instruction is -/
def am_lnk (i : Instr) (n : Nat) : Bool := match i with
  | .tableswitch _ _ _ _ => true
  | .bipush _ => n == 2
  | .iload _ => n == 2
  | .lload _ => n == 2
  | .aload _ => n == 2
  | .istore _ => n == 2
  | .lstore _ => n == 2
  | .astore _ => n == 2
  | .newarray _ => n == 2
  | .sipush _ => n == 3
  | .ldc_w _ => n == 3
  | .ldc2_w _ => n == 3
  | .iinc _ _ => n == 3
  | .ifCond _ _ => n == 3
  | .if_icmp _ _ => n == 3
  | .goto _ => n == 3
  | .ifnull _ => n == 3
  | .getfield _ => n == 3
  | .putfield _ => n == 3
  | .new _ => n == 3
  | .invokestatic _ => n == 3
  | .invokevirtual _ => n == 3
  | .invokespecial _ => n == 3
  | _ => n == 1
/-- the block of resolved instructions from pc on, up to e -/
def am_dec (own : Nat) (b : ByteArray) (e : Nat) : List Instr → Nat → Bool
  | [], pc => pc == e
  | i :: r, pc => match decode b pc with
    | .ok (raw, len) => decide (am_res own pc raw = some i) && (am_lnk raw len && am_dec own b e r (pc + len))
    | .error _ => false
/-- it ends, with Q: whatever is closed under the blocks backwards holds here -/
def am_T (bm ini : Bool) (bz : Nat) (lim : Int) (L : Nat) (xs : Nat → Int) (own : Nat) (b : ByteArray) (C : Nat → List am_V → am_H → am_K → Prop) (Q : am_K) (pc : Nat) (ls st : List am_V) (h : am_H) : Prop :=
  ∀ G : Nat → List am_V → List am_V → am_H → Prop, (∀ (T : Nat → List am_V → List am_V → am_H → Prop) (pc e : Nat) (B : List Instr) (ls st : List am_V) (h : am_H), (∀ (pc : Nat) (ls st : List am_V) (h : am_H), T pc ls st h → G pc ls st h) → am_dec own b e B pc = true → am_blk bm ini bz lim L xs C Q T e B ls st h → G pc ls st h) → G pc ls st h
theorem am_go {bm ini : Bool} {bz : Nat} {lim : Int} {L : Nat} {xs : Nat → Int} {own : Nat} {b : ByteArray} {C : Nat → List am_V → am_H → am_K → Prop} {Q : am_K} {pc e : Nat} {B : List Instr} {ls st : List am_V} {h : am_H} (hd : am_dec own b e B pc = true) (hb : am_blk bm ini bz lim L xs C Q (am_T bm ini bz lim L xs own b C Q) e B ls st h) : am_T bm ini bz lim L xs own b C Q pc ls st h :=
  fun G hG => hG _ pc e B ls st h (fun _ _ _ _ ht => ht G hG) hd hb
/-- a method called: d calls may stand open below it. The words' reader and the law's look have contracts of their own. -/
def am_spl (ls : List am_V) : List am_V := ls.flatMap (fun v => if v.1 = 1 then [v, (9, 0)] else [v])
def am_ent (args : List am_V) (n : Nat) : List am_V := am_spl args ++ List.replicate (n - (am_spl args).length) (9, 0)
def am_rcv (own : Nat) (as : List am_V) : Bool := match as with
  | v :: _ => decide (v.1 = 2 ∧ (am_cell v.2.toNat).1 = 0 ∧ (am_cell v.2.toNat).2.1 = own ∧ 0 < v.2)
  | [] => false
def am_C (bm : Bool) (L : Nat) (xs : Nat → Int) (P : Nat → List am_V → am_H → am_K → Prop) : Nat → Nat → List am_V → am_H → am_K → Prop
  | 0, _, _, _, _ => False
  | d + 1, id, as, h, K => match am_nth am_me id with
    | some c => if c.2.2.2.2.1 = 99 then P id as h K else if (c.2.2.2.2.2.1 == 0 || am_rcv c.2.2.2.2.1 as) = true then (if id = am_lwid then P id as h K else if c.2.2.1 < (am_spl as).length then False else am_T bm (c.2.2.2.2.2.1 == 2) (am_rk c.2.2.2.1) (h 0 0 + (c.2.2.2.2.2.2.1 : Nat)) L xs c.2.2.2.2.1 c.2.1 (am_C bm L xs P d) K 0 (am_ent as c.2.2.1) [] h) else False
    | none => False
