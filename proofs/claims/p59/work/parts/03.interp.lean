/-! A small interpreter of the instructions that this class, its reference and its law use, over a heap of cells by number. Its runs are runs of the machine (part 05). -/
section ZI
abbrev z_En : Type := Nat × Instr × Nat × List Nat
abbrev z_H : Type := List va_E × Nat × Nat
abbrev z_Ls : Type := List (Nat × Value)
abbrev z_C : Type := Nat × z_Ls × List Value × z_H
abbrev z_R : Type := Option Value ⊕ Nat
/-- how many cells were made in all -/
def z_n (hp : z_H) : Nat := hp.1.length + hp.2.1
def z_find : List z_En → Nat → Option (Instr × Nat × List Nat)
  | [], _ => none
  | q :: l, pc => bif Nat.beq q.1 pc then some q.2 else z_find l pc
def z_get : z_Ls → Nat → Option Value
  | [], _ => none
  | q :: l, i => bif Nat.beq q.1 i then some q.2 else z_get l i
def z_ins (q : Nat × Value) : z_Ls → z_Ls
  | [] => [q]
  | r :: l => bif Nat.ble q.1 r.1 then q :: r :: l else r :: z_ins q l
def z_st1 (ls : z_Ls) (i : Nat) (v : Value) : z_Ls := z_ins (i, v) (ls.filter (fun q => !(q.1 == i) && !(q.1 + 1 == i && q.2.category == 2)))
def z_st2 (ls : z_Ls) (i : Nat) (v : Value) : z_Ls := z_ins (i, v) (ls.filter (fun q => !(q.1 == i) && (!(q.1 == i + 1) && !(q.1 + 1 == i && q.2.category == 2))))
def z_cat (st : List Value) : Nat := (st.map fun v => v.category).sum
/-- what an exception's number names -/
def z_xn : Nat → String
  | 0 => "java/lang/IndexOutOfBoundsException"
  | 1 => "java/lang/IllegalArgumentException"
  | 2 => "java/lang/IllegalStateException"
  | 3 => "java/util/NoSuchElementException"
  | 4 => "java/lang/ArithmeticException"
  | _ => "java/lang/UnsupportedOperationException"
/-- the classes whose objects the cells are -/
abbrev z_cl : List vw_C := [(RX0, TX0, 5), (RX1, TX1, 5), (RX2, TX2, 9), (RX3, TX3, 5), (RX4, TX4, 3), (RX5, TX5, 2), (RX6, TX6, 6), (RX7, TX7, 4), (RX8, TX8, 3), (RX9, TX9, 10)]
def z_ty : Nat → Nat → FieldType
  | 0 => tyX0 | 1 => tyX1 | 2 => tyX2 | 3 => tyX3 | 4 => tyX4 | 5 => tyX5 | 6 => tyX6 | 7 => tyX7 | 8 => tyX8 | 9 => tyX9 | _ => tyX10
/-- the element types of the arrays, by their tags -/
def z_aty : Nat → FieldType
  | 0 => .int | 1 => .char | 2 => .boolean | 3 => .int | 4 => .int | _ => .object RX7
def z_own : Nat → String
  | 0 => RX0 | 1 => RX1 | 2 => RX2 | 3 => RX3 | 4 => RX4 | 5 => RX5 | 6 => RX6 | 7 => RX7 | 8 => RX8 | 9 => RX9 | 10 => RX10 | 11 => RL | _ => "java/lang/Math"
/-- a reference to a row that stands, or to what lies outside -/
def z_vwf (n : Nat) : Value → Bool
  | .ref k => Nat.blt k n || Nat.ble 1000 k
  | _ => true
def z_wfb (n : Nat) (ls : z_Ls) (st : List Value) : Bool := ls.all (fun q => z_vwf n q.2) && st.all (z_vwf n)
def z_rvi : Option Value → Bool
  | some (.ref _) => false
  | _ => true
/-- what is held on to over a call that may make rows names rows that stood -/
def z_cok (hp hp' : z_H) (ls : z_Ls) (rr : List Value) (v : Option Value) : Bool := (Nat.beq hp'.1.length hp.1.length && z_rvi v) || z_wfb hp.1.length ls rr
def z_def : FieldType → Value
  | .int | .char | .boolean => .int 0
  | _ => .null
/-- a new array's contents -/
def z_new : Nat → Nat → va_E
  | 5, n => .inl (5, n, .inr (.inr (.inr (.inr (fun _ => none)))))
  | t, n => .inl (t, n, .inl (fun _ => 0))
def z_inb (i : Int32) (n : Nat) : Bool := !decide (i < 0) && decide (i.toNatClampNeg < n)
def z_tgt (pc : Nat) (off : Int) : Option Nat := if 0 ≤ (pc : Int) + off then some ((pc : Int) + off).toNat else none
def z_cmp0 (c : ClassFile.Cond) (x : Int32) : Bool := match c with
  | .eq => decide (x = 0) | .ne => decide (¬ x = 0) | .lt => decide (x < 0) | .ge => decide (0 ≤ x) | .gt => decide (0 < x) | .le => decide (x ≤ 0)
def z_cmp2 (c : ClassFile.Cond) (x y : Int32) : Bool := match c with
  | .eq => decide (x = y) | .ne => decide (¬ x = y) | .lt => decide (x < y) | .ge => decide (y ≤ x) | .gt => decide (y < x) | .le => decide (x ≤ y)
def z_mk (pc : Nat) (ls : z_Ls) (hp : z_H) (st : Option (List Value)) : Option z_C := match st with
  | some s => some (pc, ls, s, hp)
  | none => none
def z_i1 (f : Int32 → Option Value) (st : List Value) : Option (List Value) := match st with
  | .int x :: r => match f x with
    | some v => some (v :: r)
    | none => none
  | _ => none
def z_i2 (f : Int32 → Int32 → Option Value) (st : List Value) : Option (List Value) := match st with
  | .int y :: .int x :: r => match f x y with
    | some v => some (v :: r)
    | none => none
  | _ => none
def z_ldI (ls : z_Ls) (i : Nat) (st : List Value) : Option (List Value) := match z_get ls i with
  | some (.int x) => some (.int x :: st)
  | _ => none
def z_ldA (ls : z_Ls) (i : Nat) (st : List Value) : Option (List Value) := match z_get ls i with
  | some (.ref x) => some (.ref x :: st)
  | _ => none
def z_ldF (ls : z_Ls) (i : Nat) (st : List Value) : Option (List Value) := match z_get ls i with
  | some (.float x) => some (.float x :: st)
  | _ => none
def z_ldD (ls : z_Ls) (i : Nat) (st : List Value) : Option (List Value) := match z_get ls i with
  | some (.double x) => some (.double x :: st)
  | _ => none
def z_sI (nL pc : Nat) (ls : z_Ls) (i : Nat) (st : List Value) (hp : z_H) : Option z_C := match st with
  | .int x :: r => if i < nL then some (pc, z_st1 ls i (.int x), r, hp) else none
  | _ => none
def z_sA (nL pc : Nat) (ls : z_Ls) (i : Nat) (st : List Value) (hp : z_H) : Option z_C := match st with
  | .ref x :: r => if i < nL then some (pc, z_st1 ls i (.ref x), r, hp) else none
  | _ => none
def z_sF (nL pc : Nat) (ls : z_Ls) (i : Nat) (st : List Value) (hp : z_H) : Option z_C := match st with
  | .float x :: r => if i < nL then some (pc, z_st1 ls i (.float x), r, hp) else none
  | _ => none
def z_sD (nL pc : Nat) (ls : z_Ls) (i : Nat) (st : List Value) (hp : z_H) : Option z_C := match st with
  | .double x :: r => if i + 1 < nL then some (pc, z_st2 ls i (.double x), r, hp) else none
  | _ => none
def z_inc (nL pc : Nat) (ls : z_Ls) (i : Nat) (n : Int) (st : List Value) (hp : z_H) : Option z_C := match z_get ls i with
  | some (.int x) => if i < nL then some (pc, z_st1 ls i (.int (x + Int32.ofInt n)), st, hp) else none
  | _ => none
def z_dup (st : List Value) : Option (List Value) := match st with
  | v :: r => if v.category = 1 then some (v :: v :: r) else none
  | _ => none
def z_dup2 (st : List Value) : Option (List Value) := match st with
  | v :: w :: r => if v.category = 1 ∧ w.category = 1 then some (v :: w :: v :: w :: r) else none
  | _ => none
def z_pop (st : List Value) : Option (List Value) := match st with
  | v :: r => if v.category = 1 then some r else none
  | _ => none
def z_ifc (c : ClassFile.Cond) (pc : Nat) (off : Int) (ls : z_Ls) (st : List Value) (hp : z_H) : Option z_C := match st with
  | .int x :: r => match z_tgt pc off with
    | some t => bif z_cmp0 c x then some (t, ls, r, hp) else some (pc + 3, ls, r, hp)
    | none => none
  | _ => none
def z_icm (c : ClassFile.Cond) (pc : Nat) (off : Int) (ls : z_Ls) (st : List Value) (hp : z_H) : Option z_C := match st with
  | .int y :: .int x :: r => match z_tgt pc off with
    | some t => bif z_cmp2 c x y then some (t, ls, r, hp) else some (pc + 3, ls, r, hp)
    | none => none
  | _ => none
def z_gto (pc : Nat) (off : Int) (ls : z_Ls) (st : List Value) (hp : z_H) : Option z_C := match z_tgt pc off with
  | some t => some (t, ls, st, hp)
  | none => none
/-- at a jump back the locals of the loop's body are let go -/
def z_cut : List Nat → z_Ls → z_Ls
  | [n], ls => ls.filter (fun q => Nat.blt q.1 n)
  | _, ls => ls
def z_ifn (pc : Nat) (off : Int) (ls : z_Ls) (st : List Value) (hp : z_H) : Option z_C := match st with
  | .ref _ :: r => some (pc + 3, ls, r, hp)
  | _ => none
def z_tsw (pc : Nat) (dflt lo hi : Int) (offs : Array Int) (ls : z_Ls) (st : List Value) (hp : z_H) : Option z_C := match st with
  | .int x :: r => if x.toInt < lo ∨ hi < x.toInt then z_gto pc dflt ls r hp else match offs[(x.toInt - lo).toNat]? with
    | some off => z_gto pc off ls r hp
    | none => none
  | _ => none
def z_lsw (pc : Nat) (dflt : Int) (ps : Array (Int × Int)) (ls : z_Ls) (st : List Value) (hp : z_H) : Option z_C := match st with
  | .int x :: r => bif (ps.toList.zip (ps.toList.drop 1)).all (fun (a, next) => a.1 < next.1) then z_gto pc (Op.lookupswitch.offset ps.toList dflt x.toInt) ls r hp else none
  | _ => none
def z_gf (ax : List Nat) (st : List Value) (hp : z_H) : Option (List Value) := match ax, st with
  | ci :: j :: _, .ref a :: r => match hp.1[a]? with
    | some (.inr (c, fs)) => if c = ci then match fs[j]? with
      | some v => some (v :: r)
      | none => none
      else none
    | _ => none
  | _, _ => none
def z_pf (ax : List Nat) (pc : Nat) (ls : z_Ls) (st : List Value) (hp : z_H) : Option z_C := match ax, st with
  | ci :: j :: _, v :: .ref a :: r => match hp.1[a]? with
    | some (.inr (c, fs)) => if c = ci ∧ j < fs.length ∧ narrow (z_ty ci j) v = v ∧ fits (z_ty ci j) v = true ∧ z_vwf hp.1.length v = true then some (pc + 3, ls, r, (hp.1.set a (.inr (c, fs.set j v)), hp.2)) else none
    | _ => none
  | _, _ => none
/-- a cell to be read; 2000 is the law's script -/
def z_hg (sc : Nat × (Nat → Int32)) (hp : z_H) (a : Nat) : Option va_E := bif Nat.beq a 2000 then some (.inl (0, sc.1, .inl sc.2)) else hp.1[a]?
/-- an int, char or boolean is read -/
def z_ald (sc : Nat × (Nat → Int32)) (t : Nat) (st : List Value) (hp : z_H) : Option (List Value) := match st with
  | .int i :: .ref a :: r => match z_hg sc hp a with
    | some (.inl (t0, n, .inl f)) => bif Nat.beq t0 t && z_inb i n then some (.int (f i.toNatClampNeg) :: r) else none
    | _ => none
  | _ => none
/-- an int, char or boolean is written, as its array keeps it -/
def z_ast (t : Nat) (g : Int32 → Int32) (pc : Nat) (ls : z_Ls) (st : List Value) (hp : z_H) : Option z_C := match st with
  | .int x :: .int i :: .ref a :: r => match hp.1[a]? with
    | some (.inl (t0, n, .inl f)) => bif Nat.beq t0 t && z_inb i n then some (pc + 1, ls, r, (hp.1.set a (.inl (t0, n, .inl (upd f i.toNatClampNeg (g x)))), hp.2)) else none
    | _ => none
  | _ => none
def z_lald (st : List Value) (hp : z_H) : Option (List Value) := match st with
  | .int i :: .ref a :: r => match hp.1[a]? with
    | some (.inl (t0, n, .inr (.inl f))) => bif Nat.beq t0 3 && z_inb i n then some (.long (f i.toNatClampNeg) :: r) else none
    | _ => none
  | _ => none
def z_last (pc : Nat) (ls : z_Ls) (st : List Value) (hp : z_H) : Option z_C := match st with
  | .long x :: .int i :: .ref a :: r => match hp.1[a]? with
    | some (.inl (t0, n, .inr (.inl f))) => bif Nat.beq t0 3 && z_inb i n then some (pc + 1, ls, r, (hp.1.set a (.inl (t0, n, .inr (.inl (vp_updL f i.toNatClampNeg x)))), hp.2)) else none
    | _ => none
  | _ => none
def z_dald (st : List Value) (hp : z_H) : Option (List Value) := match st with
  | .int i :: .ref a :: r => match hp.1[a]? with
    | some (.inl (t0, n, .inr (.inr (.inr (.inl f))))) => bif Nat.beq t0 4 && z_inb i n then some (.double (f i.toNatClampNeg) :: r) else none
    | _ => none
  | _ => none
def z_dast (pc : Nat) (ls : z_Ls) (st : List Value) (hp : z_H) : Option z_C := match st with
  | .double x :: .int i :: .ref a :: r => match hp.1[a]? with
    | some (.inl (t0, n, .inr (.inr (.inr (.inl f))))) => bif Nat.beq t0 4 && z_inb i n then some (pc + 1, ls, r, (hp.1.set a (.inl (t0, n, .inr (.inr (.inr (.inl (vf_upd f i.toNatClampNeg x)))))), hp.2)) else none
    | _ => none
  | _ => none
def z_qald (st : List Value) (hp : z_H) : Option (List Value) := match st with
  | .int i :: .ref a :: r => match hp.1[a]? with
    | some (.inl (t0, n, .inr (.inr (.inr (.inr f))))) => bif Nat.beq t0 5 && z_inb i n then some (va_rf (f i.toNatClampNeg) :: r) else none
    | _ => none
  | _ => none
def z_qast (pc : Nat) (ls : z_Ls) (st : List Value) (hp : z_H) : Option z_C := match st with
  | .ref v :: .int i :: .ref a :: r => match hp.1[a]?, hp.1[v]? with
    | some (.inl (t0, n, .inr (.inr (.inr (.inr f))))), some (.inr (c, _)) => bif Nat.beq t0 5 && (Nat.beq c 7 && z_inb i n) then some (pc + 1, ls, r, (hp.1.set a (.inl (t0, n, .inr (.inr (.inr (.inr (va_up f i.toNatClampNeg (some v))))))), hp.2)) else none
    | _, _ => none
  | _ => none
def z_len (sc : Nat × (Nat → Int32)) (st : List Value) (hp : z_H) : Option (List Value) := match st with
  | .ref a :: r => match z_hg sc hp a with
    | some (.inl (t0, x)) => bif Nat.blt t0 6 then some (.int (Int32.ofNat x.1) :: r) else none
    | _ => none
  | _ => none
def z_mka (ax : List Nat) (pc : Nat) (ls : z_Ls) (st : List Value) (hp : z_H) : Option z_C := match ax, st with
  | t :: _, .int n :: r => if ¬ n < 0 ∧ n.toNatClampNeg < 100000 ∧ z_wfb hp.1.length ls r = true ∧ hp.1.length < 999 ∧ t < 6 then some (pc, ls, .ref hp.1.length :: r, (hp.1 ++ [z_new t n.toNatClampNeg], hp.2.1, hp.2.2 + n.toNatClampNeg)) else none
  | _, _ => none
def z_mko (ax : List Nat) (pc : Nat) (ls : z_Ls) (st : List Value) (hp : z_H) : Option z_C := match ax with
  | ci :: N :: _ => if z_wfb hp.1.length ls st = true ∧ hp.1.length < 999 then some (pc + 3, ls, .ref hp.1.length :: st, (hp.1 ++ [.inr (ci, (List.range N).map (fun j => z_def (z_ty ci j)))], hp.2.1, hp.2.2 + N)) else none
  | _ => none
def z_ldc (ax : List Nat) (st : List Value) : Option (List Value) := match ax with
  | [0, _, v] => some (.int (Int32.ofNat v) :: st)
  | [1, j] => some (.ref (1000 + j) :: st)
  | _ => none
def z_cpy (pc : Nat) (ls : z_Ls) (st : List Value) (hp : z_H) : Option z_C := match st with
  | .int n :: .int dp :: .ref a :: .int sp :: .ref b :: r => match hp.1[b]?, hp.1[a]? with
    | some (.inl (t0, n0, .inl f)), some (.inl (t1, n1, .inl g)) => if t0 = 0 ∧ t1 = 0 ∧ ¬ sp < 0 ∧ ¬ dp < 0 ∧ ¬ n < 0 ∧ sp.toNatClampNeg + n.toNatClampNeg ≤ n0 ∧ dp.toNatClampNeg + n.toNatClampNeg ≤ n1 then some (pc + 3, ls, r, (hp.1.set a (.inl (t1, n1, .inl (va_cpy f g sp.toNatClampNeg dp.toNatClampNeg n.toNatClampNeg))), hp.2)) else none
    | _, _ => none
  | _ => none
/-- the text of the String constants, by their numbers -/
def z_str : Nat → List Nat
  | 0 => [103, 101, 97, 114, 32]
  | 1 => [109, 101, 115, 104, 32]
  | 2 => [116, 117, 114, 110, 32]
  | 3 => [119, 104, 101, 101, 108, 32]
  | 4 => [110, 111, 116, 101, 32]
  | 5 => [104, 111, 117, 114, 32]
  | 6 => [116, 117, 114, 110, 32, 48, 43, 55, 59, 116, 117, 114, 110, 32, 49, 45, 51, 48, 59, 104, 111, 117, 114, 32, 53]
  | 7 => [104, 111, 117, 114, 32, 49, 59, 116, 117, 114, 110, 32, 48, 43, 48]
  | 8 => [103, 101, 97, 114, 32, 55]
  | 9 => [116, 117, 114, 110, 32, 48]
  | 10 => [109, 101, 115, 104, 32, 48, 45, 49]
  | 11 => [119, 104, 101, 101, 108, 32, 48, 42]
  | 12 => [110, 111, 116, 101, 32, 97]
  | 13 => [103, 101, 97, 114, 32, 49, 50, 51]
  | 14 => []
  | 15 => [104, 111, 117, 114, 32, 57, 59]
  | 16 => [110, 111, 116, 101, 32, 65, 48]
  | 17 => [116, 117, 114, 110, 32, 48, 42, 53]
  | 18 => [103]
  | 19 => [122]
  | _ => [103, 101, 97, 114, 32, 52, 48, 59, 103, 101, 97, 114, 32, 50, 48, 59, 103, 101, 97, 114, 32, 51, 48, 59, 109, 101, 115, 104, 32, 48, 45, 49, 47, 51, 59, 109, 101, 115, 104, 32, 50, 45, 49, 47, 50]
def z_slen (st : List Value) : Option (List Value) := match st with
  | .ref a :: r => bif Nat.ble 1000 a && Nat.blt a 1021 then some (.int (Int32.ofNat (z_str (a - 1000)).length) :: r) else none
  | _ => none
def z_sch (st : List Value) : Option (List Value) := match st with
  | .int i :: .ref a :: r => bif Nat.ble 1000 a && Nat.blt a 1021 && z_inb i (z_str (a - 1000)).length then some (.int (Int32.ofNat ((z_str (a - 1000)).getD i.toNatClampNeg 0)) :: r) else none
  | _ => none
/-- what a call to the JDK does that is taken whole -/
def z_jo (d pc : Nat) (ls : z_Ls) (st : List Value) (hp : z_H) : Option z_C := match st with
  | .ref _ :: r => if 1 ≤ d ∧ z_cat r ≤ 8 then some (pc + 3, ls, r, hp) else none
  | _ => none
def z_jc (d pc : Nat) (ls : z_Ls) (st : List Value) (hp : z_H) : Option z_C := if 1 ≤ d ∧ z_cat st ≤ 8 then z_cpy pc ls st hp else none
def z_jl (d pc : Nat) (ls : z_Ls) (st : List Value) (hp : z_H) : Option z_C := if 6 ≤ d ∧ z_cat st ≤ 8 then z_mk (pc + 3) ls hp (z_slen st) else none
def z_jx (d pc : Nat) (ls : z_Ls) (st : List Value) (hp : z_H) : Option z_C := if 6 ≤ d ∧ z_cat st ≤ 8 then z_mk (pc + 3) ls hp (z_sch st) else none
def z_jdk (ax : List Nat) (d pc : Nat) (ls : z_Ls) (st : List Value) (hp : z_H) : Option z_C := match ax with
  | 6 :: _ => z_jo d pc ls st hp
  | 7 :: _ => z_jc d pc ls st hp
  | 8 :: _ => z_jl d pc ls st hp
  | 9 :: _ => z_jx d pc ls st hp
  | _ => none
/-- a step within a frame; d: how deep further calls may go, nL: the frame's locals -/
def z_loc (sc : Nat × (Nat → Int32)) (d nL : Nat) (i : Instr) (ax : List Nat) (pc : Nat) (ls : z_Ls) (st : List Value) (hp : z_H) : Option z_C := match i with
  | .iconst n => some (pc + 1, ls, .int (Int32.ofInt n) :: st, hp)
  | .bipush n => some (pc + 2, ls, .int (Int8.ofInt n).toInt32 :: st, hp)
  | .sipush n => some (pc + 3, ls, .int (Int16.ofInt n).toInt32 :: st, hp)
  | .lconst n => some (pc + 1, ls, .long (Int64.ofNat (n : Nat)) :: st, hp)
  | .dconst n => if n = 0 then some (pc + 1, ls, .double FP.dconst0 :: st, hp) else none
  | .fconst n => if n = 0 then some (pc + 1, ls, .float FP.fconst0 :: st, hp) else if n = 1 then some (pc + 1, ls, .float FP.fconst1 :: st, hp) else none
  | .ldc _ => z_mk (pc + 2) ls hp (z_ldc ax st)
  | .iload_n k => z_mk (pc + 1) ls hp (z_ldI ls k st)
  | .iload k => z_mk (pc + 2) ls hp (z_ldI ls k st)
  | .aload_n k => z_mk (pc + 1) ls hp (z_ldA ls k st)
  | .aload k => z_mk (pc + 2) ls hp (z_ldA ls k st)
  | .fload k => z_mk (pc + 2) ls hp (z_ldF ls k st)
  | .dload k => z_mk (pc + 2) ls hp (z_ldD ls k st)
  | .istore_n k => z_sI nL (pc + 1) ls k st hp
  | .istore k => z_sI nL (pc + 2) ls k st hp
  | .astore_n k => z_sA nL (pc + 1) ls k st hp
  | .astore k => z_sA nL (pc + 2) ls k st hp
  | .fstore k => z_sF nL (pc + 2) ls k st hp
  | .dstore k => z_sD nL (pc + 2) ls k st hp
  | .iinc k n => z_inc nL (pc + 3) ls k n st hp
  | .iadd => z_mk (pc + 1) ls hp (z_i2 (fun x y => some (.int (x + y))) st)
  | .isub => z_mk (pc + 1) ls hp (z_i2 (fun x y => some (.int (x - y))) st)
  | .imul => z_mk (pc + 1) ls hp (z_i2 (fun x y => some (.int (x * y))) st)
  | .iand => z_mk (pc + 1) ls hp (z_i2 (fun x y => some (.int (x &&& y))) st)
  | .ishr => z_mk (pc + 1) ls hp (z_i2 (fun x y => some (.int (x >>> (y &&& 31)))) st)
  | .ixor => z_mk (pc + 1) ls hp (z_i2 (fun x y => some (.int (x ^^^ y))) st)
  | .idiv => z_mk (pc + 1) ls hp (z_i2 (fun x y => if y = 0 then none else some (.int (x / y))) st)
  | .irem => z_mk (pc + 1) ls hp (z_i2 (fun x y => if y = 0 then none else some (.int (x - x / y * y))) st)
  | .ineg => z_mk (pc + 1) ls hp (z_i1 (fun x => some (.int (-x))) st)
  | .i2c => z_mk (pc + 1) ls hp (z_i1 (fun x => some (.int (x.toUInt32 % 65536).toInt32)) st)
  | .i2l => z_mk (pc + 1) ls hp (z_i1 (fun x => some (.long x.toInt64)) st)
  | .i2d => z_mk (pc + 1) ls hp (z_i1 (fun x => some (.double (FP.i2d x))) st)
  | .i2f => z_mk (pc + 1) ls hp (z_i1 (fun x => some (.float (FP.i2f x))) st)
  | .f2d => match st with
    | .float x :: r => if FP.f2d x &&& 0x7fffffffffffffff ≤ 0x7ff0000000000000 then some (pc + 1, ls, .double (FP.f2d x) :: r, hp) else none
    | _ => none
  | .ddiv => match st with
    | .double y :: .double x :: r => if FP.ddiv x y &&& 0x7fffffffffffffff ≤ 0x7ff0000000000000 then some (pc + 1, ls, .double (FP.ddiv x y) :: r, hp) else none
    | _ => none
  | .fdiv => match st with
    | .float y :: .float x :: r => if FP.fdiv x y &&& 0x7fffffff ≤ 0x7f800000 then some (pc + 1, ls, .float (FP.fdiv x y) :: r, hp) else none
    | _ => none
  | .lcmp => match st with
    | .long y :: .long x :: r => some (pc + 1, ls, .int (lg_cmp x y) :: r, hp)
    | _ => none
  | .dcmp op => match st with
    | .double y :: .double x :: r => some (pc + 1, ls, .int (Op.cmpValue (FP.dcmp x y) op) :: r, hp)
    | _ => none
  | .fcmp op => match st with
    | .float y :: .float x :: r => some (pc + 1, ls, .int (Op.cmpValue (FP.fcmp x y) op) :: r, hp)
    | _ => none
  | .dup => z_mk (pc + 1) ls hp (z_dup st)
  | .dup2 => z_mk (pc + 1) ls hp (z_dup2 st)
  | .pop => z_mk (pc + 1) ls hp (z_pop st)
  | .ifCond c off => z_ifc c pc off ls st hp
  | .if_icmp c off => z_icm c pc off ls st hp
  | .goto off => z_gto pc off (z_cut ax ls) st hp
  | .ifnull off => z_ifn pc off ls st hp
  | .tableswitch dflt lo hi offs => z_tsw pc dflt lo hi offs ls st hp
  | .lookupswitch dflt ps => z_lsw pc dflt ps ls st hp
  | .getfield _ => z_mk (pc + 3) ls hp (z_gf ax st hp)
  | .putfield _ => z_pf ax pc ls st hp
  | .iaload => z_mk (pc + 1) ls hp (z_ald sc 0 st hp)
  | .caload => z_mk (pc + 1) ls hp (z_ald sc 1 st hp)
  | .baload => z_mk (pc + 1) ls hp (z_ald sc 2 st hp)
  | .iastore => z_ast 0 id pc ls st hp
  | .castore => z_ast 1 (vp_nar .char) pc ls st hp
  | .bastore => z_ast 2 (vp_nar .boolean) pc ls st hp
  | .aaload => z_mk (pc + 1) ls hp (z_qald st hp)
  | .aastore => z_qast pc ls st hp
  | .arraylength => z_mk (pc + 1) ls hp (z_len sc st hp)
  | .newarray _ => z_mka ax (pc + 2) ls st hp
  | .anewarray _ => z_mka ax (pc + 3) ls st hp
  | .new _ => z_mko ax pc ls st hp
  | .invokespecial _ => z_jdk ax d pc ls st hp
  | .invokestatic _ => z_jdk ax d pc ls st hp
  | .invokevirtual _ => z_jdk ax d pc ls st hp
  | _ => none
end ZI
