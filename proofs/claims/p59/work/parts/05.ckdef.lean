/-! The table is what the machine's files hold: decoded by the kernel, every link a word of the Statement's tables. -/
section ZK
def z_gt : List Cond := lw_tbl.filter goodWord
def z_ch : Nat → List Cond
  | 0 => k2_sels lw_privs | 1 => tables_1_1 | 2 => tables_1_2 | 3 => tables_1_3 | 4 => tables_1_4 | 5 => tables_1_5 | _ => []
theorem z_ch_in {q : Nat} {w : Cond} (h : w ∈ z_ch q) : w ∈ lw_tbl := by
  have e : tables_1 = tables_1_1 ++ (tables_1_2 ++ (tables_1_3 ++ (tables_1_4 ++ tables_1_5))) := rfl
  unfold lw_tbl
  rw [e]
  unfold z_ch at h
  split at h <;> first | (cases h; done) | (simp only [List.mem_append]; simp only [h, true_or, or_true])
def z_at (p : Nat) (w : Cond) : Bool := decide ((z_ch (p / 1000))[p % 1000]? = some w) && goodWord w
theorem z_at_mem {p : Nat} {w : Cond} (h : z_at p w = true) : w ∈ z_gt := by
  simp only [z_at, Bool.and_eq_true, decide_eq_true_eq] at h
  exact List.mem_filter.mpr ⟨z_ch_in (List.mem_of_getElem? h.1), h.2⟩
def z_y (r : z_Rec) : MethodName := ⟨z_own r.1, r.2.1, r.2.2.1⟩
/-- the nest words that the calls of private members need -/
def z_nest : List Cond := [.methodLinkNest RX9 11 ⟨RX7, "<init>", "()V"⟩ RX9, .methodLinkNest RX7 11 ⟨RX2, "<init>", "()V"⟩ RX9, .methodLinkNest RX7 20 ⟨RX8, "<init>", "()V"⟩ RX9, .methodLinkNest RX7 27 ⟨RX6, "<init>", "()V"⟩ RX9, .methodLinkNest RX7 34 ⟨RX1, "<init>", "()V"⟩ RX9, .methodLinkNest RX3 11 ⟨RX2, "<init>", "()V"⟩ RX9, .methodLinkNest RX4 17 ⟨RX7, "<init>", "()V"⟩ RX9, .methodLinkNest RX7 75 ⟨RX9, "distanceBetween", "(II)I"⟩ RX9, .methodLinkNest RX6 46 ⟨RX9, "distanceBetween", "(II)I"⟩ RX9]
theorem z_nest_ok : z_nest.all (fun w => decide (w ∈ lw_tbl)) = true := by decide +kernel
def z_sidx : Nat → Nat
  | 0 => 46 | 1 => 56 | 2 => 62 | 3 => 64 | 4 => 66 | 5 => 71 | 6 => 171 | 7 => 183 | 8 => 191 | 9 => 193 | 10 => 199 | 11 => 201 | 12 => 203 | 13 => 205 | 14 => 207 | 15 => 209 | 16 => 211 | 17 => 213 | 18 => 215 | 19 => 217 | _ => 226
def z_scl (j : Nat) : String := bif Nat.blt j 6 then RX0 else RL
def z_nargs (ds : String) : Option Nat := (parseMethodDescriptor ds).map (fun d => d.parameters.length)
def z_ckF (own : Nat) (nm : String) (put : Bool) (idx : Nat) (ax : List Nat) : Bool := match ax with
  | [ci, j, p] => match z_cl[ci]? with
    | some (C, T, N) => decide (j < N) && (z_at p (.fieldLink (z_own own) idx (T j).1 (T j).2.1 (T j).2.2.1) && (!put || (!(T j).2.2.2 || (decide (nm = "<init>") && decide ((T j).1 = z_own own)))))
    | none => false
  | _ => false
def z_ckN (own idx : Nat) (ax : List Nat) : Bool := match ax with
  | [ci, N, p1, p2, p3] => match z_cl[ci]? with
    | some (C, _, N') => decide (N = N') && (z_at p1 (.classLink (z_own own) idx C) && (z_at p2 (.instantiable C N) && z_at p3 (.initialized C)))
    | none => false
  | [_] => true
  | _ => false
def z_ckA (t : ArrayType) (ax : List Nat) : Bool := match ax with
  | [g, p] => decide (g < 5) && (decide (newarray.typeOf t = z_aty g) && z_at p (.arrayClass (z_aty g)))
  | _ => false
def z_ckQ (own idx : Nat) (ax : List Nat) : Bool := match ax with
  | [5, p1, _] => z_at p1 (.classLink (z_own own) idx RX7)
  | _ => false
def z_ckC (own idx : Nat) (ax : List Nat) : Bool := match ax with
  | [0, p, v] => z_at p (.constant (z_own own) idx (Int32.ofNat v))
  | [1, j] => decide (z_own own = z_scl j) && (decide (j < 21) && decide (idx = z_sidx j))
  | _ => false
def z_ckI (op own idx : Nat) (ax : List Nat) : Bool := match ax with
  | [kd, k2, n, p1, p2, p3, p4, p5] => match z_rec k2 with
    | some r => decide (z_nargs r.2.2.1 = some n) && (z_at p4 (.initialized (z_own r.1)) && (match kd with
      | 0 => decide (op = 0) && (decide (r.1 < 10) && (z_at p1 (.methodLink (z_own own) idx (z_y r)) && (z_at p2 (.instanceMethod (z_y r)) && (z_at p3 (.selects (z_own r.1) (z_y r) (z_y r)) && z_at p5 (.code (z_y r) r.2.2.2.1 r.2.2.2.2.1 r.2.2.2.2.2.1)))))
      | 1 => decide (op = 1) && (z_at p1 (.methodLink (z_own own) idx (z_y r)) && (z_at p2 (.static (z_y r)) && z_at p5 (.code (z_y r) r.2.2.2.1 r.2.2.2.2.1 r.2.2.2.2.2.1)))
      | 2 => decide (op = 1) && (decide (.methodLinkNest (z_own own) idx (z_y r) RX9 ∈ z_nest) && (z_at p2 (.static (z_y r)) && z_at p5 (.code (z_y r) r.2.2.2.1 r.2.2.2.2.1 r.2.2.2.2.2.1)))
      | 3 => decide (op = 2) && (decide (r.2.1 = "<init>") && (decide (r.2.2.2.2.2.1 = none) && (z_at p1 (.methodLink (z_own own) idx (z_y r)) && (z_at p2 (.instanceMethod (z_y r)) && z_at p5 (.code (z_y r) r.2.2.2.1 r.2.2.2.2.1 none)))))
      | 4 => decide (op = 2) && (decide (r.2.1 = "<init>") && (decide (r.2.2.2.2.2.1 = none) && (decide (.methodLinkNest (z_own own) idx (z_y r) RX9 ∈ z_nest) && (z_at p2 (.instanceMethod (z_y r)) && z_at p5 (.code (z_y r) r.2.2.2.1 r.2.2.2.2.1 none)))))
      | 5 => decide (op = 1) && (decide (r.1 = 11) && (z_at p1 (.methodLink (z_own own) idx (z_y r)) && (z_at p2 (.static (z_y r)) && z_at p5 (.codeWith (z_y r) r.2.2.2.1 r.2.2.2.2.1 r.2.2.2.2.2.1 r.2.2.2.2.2.2.1))))
      | _ => false))
    | none => false
  | [6, _, _, p1, p2, p3] => decide (op = 2) && (z_at p1 (.methodLink (z_own own) idx Lib.objectInit) && (z_at p2 (.instanceMethod Lib.objectInit) && z_at p3 (.code Lib.objectInit ⟨#[0xb1]⟩ 1 none)))
  | [7, _, _, p1, p2, p3, p4] => decide (op = 1) && (z_at p1 (.methodLink (z_own own) idx arraycopyName) && (z_at p2 (.native arraycopyName) && (z_at p3 (.static arraycopyName) && z_at p4 (.initialized "java/lang/System"))))
  | [8] => decide (op = 0) && ((decide (own = 0) && decide (idx = 77)) || (decide (own = 11) && decide (idx = 7)))
  | [9] => decide (op = 0) && ((decide (own = 0) && decide (idx = 81)) || (decide (own = 11) && decide (idx = 13)))
  | [] => true
  | _ => false
def z_ckL (own : Nat) (nm : String) (i : Instr) (ax : List Nat) : Bool := match i with
  | .getfield idx => z_ckF own nm false idx ax
  | .putfield idx => z_ckF own nm true idx ax
  | .new idx => z_ckN own idx ax
  | .newarray t => z_ckA t ax
  | .anewarray idx => z_ckQ own idx ax
  | .ldc idx => z_ckC own idx ax
  | .invokevirtual idx => z_ckI 0 own idx ax
  | .invokestatic idx => z_ckI 1 own idx ax
  | .invokespecial idx => z_ckI 2 own idx ax
  | _ => true
def z_ckE (own : Nat) (nm : String) (b : ByteArray) (e : z_En) : Bool := decide (decode b e.1 = .ok (e.2.1, e.2.2.1)) && z_ckL own nm e.2.1 e.2.2.2
def z_ckR (r : z_Rec) : Bool := plainFor (z_y r) && r.2.2.2.2.2.2.2.2.all (z_ckE r.1 r.2.1 r.2.2.2.1)
theorem z_okp {r : z_Rec} (h1 : plainFor (z_y r) = true) (h2 : r.2.2.2.2.2.2.2.2.all (z_ckE r.1 r.2.1 r.2.2.2.1) = true) : z_ckR r = true := by
  unfold z_ckR; rw [h1, h2]; rfl
theorem z_pl (o : Nat) (n d : String) (h : plainFor ⟨z_own o, n, d⟩ = true) : plainFor ⟨z_own o, n, d⟩ = true := h
theorem z_all2 {α : Type} {a b : List α} {p : α → Bool} (h1 : a.all p = true) (h2 : b.all p = true) : (a ++ b).all p = true := by rw [List.all_append, h1, h2]; rfl
theorem z_find_mem {l : List z_En} {pc : Nat} {q : Instr × Nat × List Nat} (h : z_find l pc = some q) : (pc, q) ∈ l := by
  induction l with
  | nil => cases h
  | cons a l ih =>
    unfold z_find at h
    by_cases e : Nat.beq a.1 pc = true
    · rw [e] at h
      have e2 : a.1 = pc := Nat.eq_of_beq_eq_true e
      have e3 : a.2 = q := Option.some.inj h
      rw [← e2, ← e3]
      exact List.mem_cons_self
    · have e1 : Nat.beq a.1 pc = false := Bool.eq_false_iff.mpr e
      rw [e1] at h
      exact List.mem_cons_of_mem _ (ih h)
theorem z_entry {k pc : Nat} {r : z_Rec} {q : Instr × Nat × List Nat} (hT : ∀ (k : Nat) (r : z_Rec), z_rec k = some r → z_ckR r = true) (h : z_rec k = some r) (hq : z_find r.2.2.2.2.2.2.2.2 pc = some q) : decode r.2.2.2.1 pc = .ok (q.1, q.2.1) ∧ z_ckL r.1 r.2.1 q.1 q.2.2 = true := by
  have h0 := hT k r h
  simp only [z_ckR, Bool.and_eq_true] at h0
  have h1 := List.all_eq_true.mp h0.2 _ (z_find_mem hq)
  simp only [z_ckE, Bool.and_eq_true, decide_eq_true_eq] at h1
  exact h1
end ZK
