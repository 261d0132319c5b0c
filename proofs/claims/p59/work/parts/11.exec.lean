/-! The interpreter with calls, ends and throws. -/
section ZX
/-- an instruction's length; 0: any -/
def z_ln (i : Instr) : Nat := match i with
  | .tableswitch .. | .lookupswitch .. => 0
  | .bipush _ | .ldc _ | .iload _ | .aload _ | .fload _ | .dload _ | .istore _ | .astore _ | .fstore _ | .dstore _ | .newarray _ => 2
  | .sipush _ | .iinc .. | .ifCond .. | .if_icmp .. | .goto _ | .ifnull _ | .getfield _ | .putfield _ | .anewarray _ | .new _ | .invokespecial _ | .invokestatic _ | .invokevirtual _ => 3
  | _ => 1
def z_lok (i : Instr) (len : Nat) : Bool := Nat.beq (z_ln i) len || Nat.beq (z_ln i) 0
/-- what a method ends with -/
def z_fin (ret : Option FieldType) (i : Instr) (st : List Value) : Option (Option Value) := match i with
  | .ireturn => match st, ret with
    | [.int x], some t => if narrow t (.int x) = .int x then some (some (.int x)) else none
    | _, _ => none
  | .freturn => match st, ret with
    | [.float x], some .float => some (some (.float x))
    | _, _ => none
  | .areturn => match st, ret with
    | [.ref x], some (.object _) => some (some (.ref x))
    | _, _ => none
  | .dreturn => match st, ret with
    | [.double x], some .double => some (some (.double x))
    | _, _ => none
  | .return_ => match st, ret with
    | [], none => some none
    | _, _ => none
  | _ => none
/-- 0: within the frame, 1: an end, 2: an exception made and thrown, 3: a call -/
def z_kd (i : Instr) (ax : List Nat) : Nat := match i with
  | .ireturn | .freturn | .dreturn | .areturn | .return_ => 1
  | .new _ => match ax with
    | [_] => 2
    | _ => 0
  | .invokespecial _ | .invokestatic _ | .invokevirtual _ => match ax with
    | [_, _, _, _, _, _, _, _] => 3
    | _ => 0
  | _ => 0
def z_xl : Nat → Nat × Nat
  | 0 => (216, 218) | 1 => (179, 181) | 2 => (308, 310) | 3 => (243, 245) | 4 => (281, 283) | _ => (325, 327)
def z_isI (l : List z_En) (pc : Nat) (i : Instr) (n : Nat) : Bool := match z_find l pc with
  | some (j, m, _) => decide (j = i) && Nat.beq m n
  | none => false
def z_thr (r : z_Rec) (d pc : Nat) (i : Instr) (ax : List Nat) (st : List Value) (hp : z_H) : Option (Nat × z_H) := match ax with
  | [e] => bif Nat.ble 100 e && (Nat.blt e 106 && (Nat.beq r.1 9 && (r.2.2.2.2.2.2.1.isEmpty && (st.isEmpty && (Nat.ble 6 d && (decide (i = .new (z_xl (e - 100)).1) && (z_isI r.2.2.2.2.2.2.2.2 (pc + 3) .dup 1 && (z_isI r.2.2.2.2.2.2.2.2 (pc + 4) (.invokespecial (z_xl (e - 100)).2) 3 && z_isI r.2.2.2.2.2.2.2.2 (pc + 7) .athrow 1)))))))) then some (e - 100, (hp.1, hp.2.1 + 1, hp.2.2 + 6)) else none
  | _ => none
/-- the arguments of a call, and what stays on the stack -/
def z_args (kd n : Nat) (st : List Value) : Option (List Value × List Value) := bif Nat.ble n st.length then
    (match kd with
      | 0 | 3 | 4 => match st.drop n with
        | .ref b :: rr => some (.ref b :: (st.take n).reverse, rr)
        | _ => none
      | _ => some ((st.take n).reverse, st.drop n))
  else none
/-- the receiver is of the method's class -/
def z_rcv (kd c : Nat) (as : List Value) (hp : z_H) : Bool := match kd with
  | 0 => match as with
    | .ref b :: _ => match hp.1[b]? with
      | some (.inr (c', _)) => Nat.beq c' c
      | _ => false
    | _ => false
  | _ => true
/-- the classes that the law's handlers name, as exceptions -/
def z_xc : Nat → Option Nat
  | 92 => some 0 | 94 => some 1 | 96 => some 2 | 98 => some 3 | 261 => some 5 | _ => none
/-- none: not known; some none: not caught here -/
def z_hd (own : Nat) (pc E : Nat) : List (Nat × Nat × Nat × Nat) → Option (Option Nat)
  | [] => some none
  | (a, b, h, t) :: l => bif Nat.ble a pc && Nat.blt pc b then (bif Nat.beq own 11 then (match z_xc t with
      | some e => bif Nat.beq e E then some (some h) else z_hd own pc E l
      | none => none) else none) else z_hd own pc E l
/-- a handler's first instruction lays the exception aside -/
def z_hs (i : Instr) : Option Nat := match i with
  | .astore k => some k
  | .astore_n k => some (k : Nat)
  | _ => none
def z_rm (ls : z_Ls) (i : Nat) : z_Ls := ls.filter (fun q => !(q.1 == i) && !(q.1 + 1 == i && q.2.category == 2))
def z_ex (sc : Nat × (Nat → Int32)) : Nat → Nat → Nat → Nat → z_Ls → List Value → z_H → Option (z_R × z_H)
  | 0, _, _, _, _, _, _ => none
  | f + 1, d, k, pc, ls, st, hp => match z_rec k with
    | none => none
    | some r => match z_find r.2.2.2.2.2.2.2.2 pc with
      | none => none
      | some (i, len, ax) => bif z_lok i len then
        (match z_kd i ax with
        | 0 => match z_loc sc d r.2.2.2.2.1 i ax pc ls st hp with
          | some C => z_ex sc f d k C.1 C.2.1 C.2.2.1 C.2.2.2
          | none => none
        | 1 => match z_fin r.2.2.2.2.2.1 i st with
          | some v => some (.inl v, hp)
          | none => none
        | 2 => match z_thr r d pc i ax st hp with
          | some x => some (.inr x.1, x.2)
          | none => none
        | _ => match ax with
          | kd :: k2 :: n :: _ => match z_rec k2, z_args kd n st with
            | some r2, some (as, rr) => bif Nat.ble 1 d && (Nat.ble (lg_sl as).length r2.2.2.2.2.1 && (Nat.ble r2.2.2.2.2.1 20 && (Nat.ble (z_cat rr) 8 && (z_rcv kd r2.1 as hp && (Nat.beq kd 5 || r2.2.2.2.2.2.2.1.isEmpty))))) then
              (match z_ex sc f (d - 1) k2 0 (lv_args 0 as) [] hp with
              | some (.inl v, hp') => bif z_cok hp hp' ls rr v then z_ex sc f d k (pc + 3) ls (v.toList ++ rr) hp' else none
              | some (.inr E, hp') => bif Nat.ble kd 1 then (match z_hd r.1 pc E r.2.2.2.2.2.2.1 with
                | some none => some (.inr E, hp')
                | some (some h) => match z_find r.2.2.2.2.2.2.2.2 h with
                  | some (j, m, _) => match z_hs j with
                    | some x => bif z_lok j m && (Nat.blt x r.2.2.2.2.1 && z_cok hp hp' (z_rm ls x) [] none) then z_ex sc f d k (h + m) (z_rm ls x) [] hp' else none
                    | none => none
                  | none => none
                | none => none) else none
              | none => none)
              else none
            | _, _ => none
          | _ => none)
        else none
end ZX
