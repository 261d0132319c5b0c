/-! The claim, out of a run of the interpreter. -/
section ZEND
def R_law : String := "GearObservatoryLaw"
def lw_P (b : Addr) (xs : List Int32) (args : Array Value) (s : State) : Prop := args = #[.ref b] ∧ s.IntsAt b xs ∧ xs.length ≤ 260 ∧ (Jvm.Cond.and given_1 narrow_1).before args s = true
/-- what a walk over the start with the record d0 says of its end, said of the start itself -/
theorem lw_closed {s t : State} {o : Outcome} {d0 : Drawn} {L : List Loc} {k n : Nat} (hd0 : s.drawn.sameBut d0 lw_cs) (hv : ∃ v, o = .returned v) (hW : (s.setDrawn d0).WarmedH t.vm) (hs : (s.setDrawn d0).sameButNew ({ t with vm := s.vm } : State) L k n) : State.butDraws s t lw_cs (fun t1 => Framed s o t1 L k n) := by
  have h2 : t.drawn = d0 := congrArg State.drawn hs.1
  refine ⟨⟨hv, hW, State.sameButNew.setDrawn hs s.drawn⟩, ?_, by decide⟩
  rw [h2]
  exact hd0
def lw_Q (_ : Array Value) (s : State) (o : Outcome) (t : State) : Prop := o = .returned (some (.int 1)) ∧ State.butDraws s t lw_cs (fun t1 => Framed s o t1 [] 600390 7285480)
def lw_Z (below : List Frame) (a : Array Value) (s : State) : State → Prop := fun t => ∃ o, t.status = .running ∧ Ended t below o ∧ lw_Q a s o t
/-- what holds at the law's entry: the machine, the code, the tables' words (any of lw_tbl by 'hts w (by decide +kernel)'), the script of L ints xs at the cell b, what the Statement gives of the start (any of its parts by flat_of_before) -/
def lw_At (p : Program) (s : State) (m : MethodId) (meth : Method) (c : Code) (b L : Nat) (xs : Nat → Int32) : Prop :=
  p.tables.exec = Jvm.exec ∧ c.code = code ∧ meth.sig.returnType = ret ∧ c.maxLocals = 10 ∧ s.vm.findClass R_law = some m.cls ∧ (∀ w ∈ lw_tbl, w.before #[Value.ref b] s = true) ∧ va_X b L xs s s.heap ∧ b < s.heap.size ∧ meth.locks = false ∧ (Jvm.Cond.and given_1 narrow_1).before #[Value.ref b] s = true
abbrev z_FL : List Cond := flatC (Jvm.Cond.and given_1 narrow_1)
theorem z_Wmono {p : Program} {l : Launch} {e : Env} {R : Room} {s : State} {m : MethodId} {args : Array Value} {below : List Frame} {meth : Method} {c : Code} {H : Heap} {locs : List Loc} {cells slots : Nat} {Q Q' : State → Prop} {g : JFrame} (h : W p l e R s m args below meth c H locs cells slots Q g) (hQ : ∀ t, Q t → Q' t) : W p l e R s m args below meth c H locs cells slots Q' g := by
  intro T hT X
  obtain ⟨t, a, b⟩ := h T hT X
  exact ⟨t, a, hQ t b⟩
theorem z_kcl : z_cl.all (fun q => (u_ws q.1 q.2.1 q.2.2).all (fun w => decide (w ∈ lw_tbl)) && decide (Cond.instantiable q.1 q.2.2 ∈ lw_tbl)) = true := by decide +kernel
theorem z_kar : [FieldType.int, .char, .boolean].all (fun t => decide (Cond.arrayClass t ∈ lw_tbl)) = true := by decide +kernel
theorem z_kao : Cond.arrayOver (.object RX7) ∈ lw_tbl := by decide +kernel
theorem z_kst : (List.range 21).all (fun j => decide (Cond.stringRef (z_scl j) (z_sidx j) (z_txt j) ∈ lw_tbl)) = true := by decide +kernel
/-- a place in the Statement's own tree -/
def z_path : List Bool → Cond → Option Cond
  | [], c => some c
  | x :: l, .and a b => bif x then z_path l b else z_path l a
  | _, _ => none
def z_leaf : Cond → Bool
  | .and _ _ => false
  | _ => true
theorem z_path_mem : ∀ (l : List Bool) (C w : Cond), z_path l C = some w → z_leaf w = true → w ∈ flatC C := by
  intro l
  induction l with
  | nil =>
    intro C w h hl
    cases h
    unfold z_leaf at hl
    split at hl
    · cases hl
    · rename_i hn
      unfold flatC
      split
      · exact absurd rfl (hn _ _)
      · exact List.mem_singleton.mpr rfl
  | cons x l ih =>
    intro C w h hl
    unfold z_path at h
    split at h
    · rename_i h0; cases h0
    · rename_i x' l' a b h0
      cases h0
      unfold flatC
      cases x with
      | true => exact List.mem_append.mpr (Or.inr (ih _ _ h hl))
      | false => exact List.mem_append.mpr (Or.inl (ih _ _ h hl))
    · cases h
def z_pw (p : List Bool) (w : Cond) : Bool := decide (z_path p (Jvm.Cond.and given_1 narrow_1) = some w) && z_leaf w
theorem z_pw_mem {p : List Bool} {w : Cond} (h : z_pw p w = true) : w ∈ z_FL := by
  unfold z_pw at h
  rw [Bool.and_eq_true] at h
  exact z_path_mem _ _ _ (of_decide_eq_true h.1) h.2
/-- what the start says of a String constant -/
def z_sc4 (j : Nat) : List Cond := [Cond.exactly (.string (z_scl j) (z_sidx j)) "java/lang/String", Cond.eq (.field (.string (z_scl j) (z_sidx j)) "java/lang/String" "coder" "B") (.int 0), Cond.arrayOf (.field (.string (z_scl j) (z_sidx j)) "java/lang/String" "value" "[B") .byte, Cond.eq (.length (.field (.string (z_scl j) (z_sidx j)) "java/lang/String" "value" "[B")) (.int (Int32.ofNat (z_str j).length))]
def z_scc (j i : Nat) : Cond := Cond.eq (.elem (.field (.string (z_scl j) (z_sidx j)) "java/lang/String" "value" "[B") (.int (Int32.ofNat i))) (.int (((z_str j).map Int32.ofNat).getD i 0))
def z_sne (i j : Nat) : Cond := Cond.not (Cond.eq (.string (z_scl i) (z_sidx i)) (.string (z_scl j) (z_sidx j)))
def z_all2w : List (List Bool) → List Cond → Bool
  | [], [] => true
  | p :: ps, w :: ws => z_pw p w && z_all2w ps ws
  | _, _ => false
theorem z_all2w_mem : ∀ (ps : List (List Bool)) (ws : List Cond), z_all2w ps ws = true → ∀ w ∈ ws, w ∈ z_FL := by
  intro ps
  induction ps with
  | nil =>
    intro ws h w hw
    cases ws with
    | nil => cases hw
    | cons a l => cases h
  | cons p ps ih =>
    intro ws h w hw
    cases ws with
    | nil => cases hw
    | cons a l =>
      have h : (z_pw p a && z_all2w ps l) = true := h
      rw [Bool.and_eq_true] at h
      rcases List.mem_cons.mp hw with rfl | hw
      · exact z_pw_mem h.1
      · exact ih l h.2 w hw
def z_scL (j : Nat) : List Cond := z_sc4 j ++ (List.range (z_str j).length).map (z_scc j)
def z_snL (i : Nat) : List Cond := (List.range (20 - i)).map (fun d => z_sne i (i + 1 + d))
theorem z_ksf_0 : ∀ w ∈ z_scL 0, w ∈ z_FL := z_all2w_mem [[true, false, false, true, false, true, false, false, false, true], [true, false, false, true, false, true, false, false, true, false], [true, false, false, true, false, true, false, false, true, true], [true, false, false, true, false, true, false, true, false, false], [true, false, false, true, false, true, false, true, false, true], [true, false, false, true, false, true, false, true, true, false], [true, false, false, true, false, true, false, true, true, true, false], [true, false, false, true, false, true, false, true, true, true, true], [true, false, false, true, false, true, true, false, false, false]] _ (by decide +kernel)
theorem z_ksf_1 : ∀ w ∈ z_scL 1, w ∈ z_FL := z_all2w_mem [[true, false, false, true, false, true, true, false, false, true], [true, false, false, true, false, true, true, false, true, false], [true, false, false, true, false, true, true, false, true, true], [true, false, false, true, false, true, true, true, false, false], [true, false, false, true, false, true, true, true, false, true], [true, false, false, true, false, true, true, true, true, false], [true, false, false, true, false, true, true, true, true, true, false], [true, false, false, true, false, true, true, true, true, true, true], [true, false, false, true, true, false, false, false, false, false]] _ (by decide +kernel)
theorem z_ksf_2 : ∀ w ∈ z_scL 2, w ∈ z_FL := z_all2w_mem [[true, false, false, true, true, false, false, false, true, false], [true, false, false, true, true, false, false, false, true, true], [true, false, false, true, true, false, false, true, false, false], [true, false, false, true, true, false, false, true, false, true], [true, false, false, true, true, false, false, true, true, false], [true, false, false, true, true, false, false, true, true, true, false], [true, false, false, true, true, false, false, true, true, true, true], [true, false, false, true, true, false, true, false, false, false], [true, false, false, true, true, false, true, false, false, true]] _ (by decide +kernel)
theorem z_ksf_3 : ∀ w ∈ z_scL 3, w ∈ z_FL := z_all2w_mem [[true, false, false, true, true, false, true, true, false, false], [true, false, false, true, true, false, true, true, false, true], [true, false, false, true, true, false, true, true, true, false], [true, false, false, true, true, false, true, true, true, true, false], [true, false, false, true, true, false, true, true, true, true, true], [true, false, false, true, true, true, false, false, false, false], [true, false, false, true, true, true, false, false, false, true], [true, false, false, true, true, true, false, false, true, false], [true, false, false, true, true, true, false, false, true, true], [true, false, false, true, true, true, false, true, false, false]] _ (by decide +kernel)
theorem z_ksf_4 : ∀ w ∈ z_scL 4, w ∈ z_FL := z_all2w_mem [[true, false, false, true, true, true, false, true, true, true, true], [true, false, false, true, true, true, true, false, false, false], [true, false, false, true, true, true, true, false, false, true], [true, false, false, true, true, true, true, false, true, false], [true, false, false, true, true, true, true, false, true, true], [true, false, false, true, true, true, true, true, false, false], [true, false, false, true, true, true, true, true, false, true], [true, false, false, true, true, true, true, true, true, false], [true, false, false, true, true, true, true, true, true, true, false]] _ (by decide +kernel)
theorem z_ksf_5 : ∀ w ∈ z_scL 5, w ∈ z_FL := z_all2w_mem [[true, false, true, false, false, false, false, false, true, true], [true, false, true, false, false, false, false, true, false, false], [true, false, true, false, false, false, false, true, false, true], [true, false, true, false, false, false, false, true, true, false], [true, false, true, false, false, false, false, true, true, true], [true, false, true, false, false, false, true, false, false, false], [true, false, true, false, false, false, true, false, false, true], [true, false, true, false, false, false, true, false, true, false], [true, false, true, false, false, false, true, false, true, true]] _ (by decide +kernel)
theorem z_ksf_6 : ∀ w ∈ z_scL 6, w ∈ z_FL := z_all2w_mem [[true, false, true, false, false, true, false, false, false, false], [true, false, true, false, false, true, false, false, false, true], [true, false, true, false, false, true, false, false, true, false], [true, false, true, false, false, true, false, false, true, true], [true, false, true, false, false, true, false, true, false, false], [true, false, true, false, false, true, false, true, false, true], [true, false, true, false, false, true, false, true, true, false], [true, false, true, false, false, true, false, true, true, true, false], [true, false, true, false, false, true, false, true, true, true, true], [true, false, true, false, false, true, true, false, false, false], [true, false, true, false, false, true, true, false, false, true], [true, false, true, false, false, true, true, false, true, false], [true, false, true, false, false, true, true, false, true, true], [true, false, true, false, false, true, true, true, false, false], [true, false, true, false, false, true, true, true, false, true], [true, false, true, false, false, true, true, true, true, false], [true, false, true, false, false, true, true, true, true, true, false], [true, false, true, false, false, true, true, true, true, true, true], [true, false, true, false, true, false, false, false, false, false], [true, false, true, false, true, false, false, false, false, true], [true, false, true, false, true, false, false, false, true, false], [true, false, true, false, true, false, false, false, true, true], [true, false, true, false, true, false, false, true, false, false], [true, false, true, false, true, false, false, true, false, true], [true, false, true, false, true, false, false, true, true, false], [true, false, true, false, true, false, false, true, true, true], [true, false, true, false, true, false, true, false, false, false], [true, false, true, false, true, false, true, false, false, true], [true, false, true, false, true, false, true, false, true, false]] _ (by decide +kernel)
theorem z_ksf_7 : ∀ w ∈ z_scL 7, w ∈ z_FL := z_all2w_mem [[true, false, true, false, true, true, false, false, false, false], [true, false, true, false, true, true, false, false, false, true], [true, false, true, false, true, true, false, false, true, false], [true, false, true, false, true, true, false, false, true, true], [true, false, true, false, true, true, false, true, false, false], [true, false, true, false, true, true, false, true, false, true], [true, false, true, false, true, true, false, true, true, false], [true, false, true, false, true, true, false, true, true, true, false], [true, false, true, false, true, true, false, true, true, true, true], [true, false, true, false, true, true, true, false, false, false], [true, false, true, false, true, true, true, false, false, true], [true, false, true, false, true, true, true, false, true, false], [true, false, true, false, true, true, true, false, true, true], [true, false, true, false, true, true, true, true, false, false], [true, false, true, false, true, true, true, true, false, true], [true, false, true, false, true, true, true, true, true, false], [true, false, true, false, true, true, true, true, true, true, false], [true, false, true, false, true, true, true, true, true, true, true], [true, false, true, true, false, false, false, false, false, false]] _ (by decide +kernel)
theorem z_ksf_8 : ∀ w ∈ z_scL 8, w ∈ z_FL := z_all2w_mem [[true, false, true, true, false, false, true, false, false, false], [true, false, true, true, false, false, true, false, false, true], [true, false, true, true, false, false, true, false, true, false], [true, false, true, true, false, false, true, false, true, true], [true, false, true, true, false, false, true, true, false, false], [true, false, true, true, false, false, true, true, false, true], [true, false, true, true, false, false, true, true, true, false], [true, false, true, true, false, false, true, true, true, true, false], [true, false, true, true, false, false, true, true, true, true, true], [true, false, true, true, false, true, false, false, false, false]] _ (by decide +kernel)
theorem z_ksf_9 : ∀ w ∈ z_scL 9, w ∈ z_FL := z_all2w_mem [[true, false, true, true, false, true, true, false, false, false], [true, false, true, true, false, true, true, false, false, true], [true, false, true, true, false, true, true, false, true, false], [true, false, true, true, false, true, true, false, true, true], [true, false, true, true, false, true, true, true, false, false], [true, false, true, true, false, true, true, true, false, true], [true, false, true, true, false, true, true, true, true, false], [true, false, true, true, false, true, true, true, true, true, false], [true, false, true, true, false, true, true, true, true, true, true], [true, false, true, true, true, false, false, false, false, false]] _ (by decide +kernel)
theorem z_ksf_10 : ∀ w ∈ z_scL 10, w ∈ z_FL := z_all2w_mem [[true, false, true, true, true, false, true, false, false, true], [true, false, true, true, true, false, true, false, true, false], [true, false, true, true, true, false, true, false, true, true], [true, false, true, true, true, false, true, true, false, false], [true, false, true, true, true, false, true, true, false, true], [true, false, true, true, true, false, true, true, true, false], [true, false, true, true, true, false, true, true, true, true, false], [true, false, true, true, true, false, true, true, true, true, true], [true, false, true, true, true, true, false, false, false, false], [true, false, true, true, true, true, false, false, false, true], [true, false, true, true, true, true, false, false, true, false], [true, false, true, true, true, true, false, false, true, true]] _ (by decide +kernel)
theorem z_ksf_11 : ∀ w ∈ z_scL 11, w ∈ z_FL := z_all2w_mem [[true, false, true, true, true, true, true, true, false, true], [true, false, true, true, true, true, true, true, true, false], [true, false, true, true, true, true, true, true, true, true, false], [true, false, true, true, true, true, true, true, true, true, true], [true, true, false, false, false, false, false, false, false, false], [true, true, false, false, false, false, false, false, false, true], [true, true, false, false, false, false, false, false, true, false], [true, true, false, false, false, false, false, false, true, true], [true, true, false, false, false, false, false, true, false, false], [true, true, false, false, false, false, false, true, false, true], [true, true, false, false, false, false, false, true, true, false], [true, true, false, false, false, false, false, true, true, true]] _ (by decide +kernel)
theorem z_ksf_12 : ∀ w ∈ z_scL 12, w ∈ z_FL := z_all2w_mem [[true, true, false, false, false, true, false, false, true, false], [true, true, false, false, false, true, false, false, true, true], [true, true, false, false, false, true, false, true, false, false], [true, true, false, false, false, true, false, true, false, true], [true, true, false, false, false, true, false, true, true, false], [true, true, false, false, false, true, false, true, true, true, false], [true, true, false, false, false, true, false, true, true, true, true], [true, true, false, false, false, true, true, false, false, false], [true, true, false, false, false, true, true, false, false, true], [true, true, false, false, false, true, true, false, true, false]] _ (by decide +kernel)
theorem z_ksf_13 : ∀ w ∈ z_scL 13, w ∈ z_FL := z_all2w_mem [[true, true, false, false, true, false, false, true, true, false], [true, true, false, false, true, false, false, true, true, true], [true, true, false, false, true, false, true, false, false, false], [true, true, false, false, true, false, true, false, false, true], [true, true, false, false, true, false, true, false, true, false], [true, true, false, false, true, false, true, false, true, true], [true, true, false, false, true, false, true, true, false, false], [true, true, false, false, true, false, true, true, false, true], [true, true, false, false, true, false, true, true, true, false], [true, true, false, false, true, false, true, true, true, true, false], [true, true, false, false, true, false, true, true, true, true, true], [true, true, false, false, true, true, false, false, false, false]] _ (by decide +kernel)
theorem z_ksf_14 : ∀ w ∈ z_scL 14, w ∈ z_FL := z_all2w_mem [[true, true, false, false, true, true, true, true, false, true], [true, true, false, false, true, true, true, true, true, false], [true, true, false, false, true, true, true, true, true, true, false], [true, true, false, false, true, true, true, true, true, true, true]] _ (by decide +kernel)
theorem z_ksf_15 : ∀ w ∈ z_scL 15, w ∈ z_FL := z_all2w_mem [[true, true, false, true, false, false, true, true, true, false], [true, true, false, true, false, false, true, true, true, true, false], [true, true, false, true, false, false, true, true, true, true, true], [true, true, false, true, false, true, false, false, false, false], [true, true, false, true, false, true, false, false, false, true], [true, true, false, true, false, true, false, false, true, false], [true, true, false, true, false, true, false, false, true, true], [true, true, false, true, false, true, false, true, false, false], [true, true, false, true, false, true, false, true, false, true], [true, true, false, true, false, true, false, true, true, false], [true, true, false, true, false, true, false, true, true, true, false]] _ (by decide +kernel)
theorem z_ksf_16 : ∀ w ∈ z_scL 16, w ∈ z_FL := z_all2w_mem [[true, true, false, true, true, false, false, true, false, true], [true, true, false, true, true, false, false, true, true, false], [true, true, false, true, true, false, false, true, true, true, false], [true, true, false, true, true, false, false, true, true, true, true], [true, true, false, true, true, false, true, false, false, false], [true, true, false, true, true, false, true, false, false, true], [true, true, false, true, true, false, true, false, true, false], [true, true, false, true, true, false, true, false, true, true], [true, true, false, true, true, false, true, true, false, false], [true, true, false, true, true, false, true, true, false, true], [true, true, false, true, true, false, true, true, true, false]] _ (by decide +kernel)
theorem z_ksf_17 : ∀ w ∈ z_scL 17, w ∈ z_FL := z_all2w_mem [[true, true, false, true, true, true, true, true, false, true], [true, true, false, true, true, true, true, true, true, false], [true, true, false, true, true, true, true, true, true, true, false], [true, true, false, true, true, true, true, true, true, true, true], [true, true, true, false, false, false, false, false, false, false], [true, true, true, false, false, false, false, false, false, true], [true, true, true, false, false, false, false, false, true, false], [true, true, true, false, false, false, false, false, true, true], [true, true, true, false, false, false, false, true, false, false], [true, true, true, false, false, false, false, true, false, true], [true, true, true, false, false, false, false, true, true, false], [true, true, true, false, false, false, false, true, true, true]] _ (by decide +kernel)
theorem z_ksf_18 : ∀ w ∈ z_scL 18, w ∈ z_FL := z_all2w_mem [[true, true, true, false, false, true, false, true, true, true, true], [true, true, true, false, false, true, true, false, false, false], [true, true, true, false, false, true, true, false, false, true], [true, true, true, false, false, true, true, false, true, false], [true, true, true, false, false, true, true, false, true, true]] _ (by decide +kernel)
theorem z_ksf_19 : ∀ w ∈ z_scL 19, w ∈ z_FL := z_all2w_mem [[true, true, true, false, true, false, true, true, false, true], [true, true, true, false, true, false, true, true, true, false], [true, true, true, false, true, false, true, true, true, true, false], [true, true, true, false, true, false, true, true, true, true, true], [true, true, true, false, true, true, false, false, false, false]] _ (by decide +kernel)
theorem z_ksf_20 : ∀ w ∈ z_scL 20, w ∈ z_FL := z_all2w_mem [[true, true, true, true, false, false, false, false, true, false], [true, true, true, true, false, false, false, false, true, true], [true, true, true, true, false, false, false, true, false, false], [true, true, true, true, false, false, false, true, false, true], [true, true, true, true, false, false, false, true, true, false], [true, true, true, true, false, false, false, true, true, true], [true, true, true, true, false, false, true, false, false, false], [true, true, true, true, false, false, true, false, false, true], [true, true, true, true, false, false, true, false, true, false], [true, true, true, true, false, false, true, false, true, true], [true, true, true, true, false, false, true, true, false, false], [true, true, true, true, false, false, true, true, false, true], [true, true, true, true, false, false, true, true, true, false], [true, true, true, true, false, false, true, true, true, true, false], [true, true, true, true, false, false, true, true, true, true, true], [true, true, true, true, false, true, false, false, false, false], [true, true, true, true, false, true, false, false, false, true], [true, true, true, true, false, true, false, false, true, false], [true, true, true, true, false, true, false, false, true, true], [true, true, true, true, false, true, false, true, false, false], [true, true, true, true, false, true, false, true, false, true], [true, true, true, true, false, true, false, true, true, false], [true, true, true, true, false, true, false, true, true, true, false], [true, true, true, true, false, true, false, true, true, true, true], [true, true, true, true, false, true, true, false, false, false], [true, true, true, true, false, true, true, false, false, true], [true, true, true, true, false, true, true, false, true, false], [true, true, true, true, false, true, true, false, true, true], [true, true, true, true, false, true, true, true, false, false], [true, true, true, true, false, true, true, true, false, true], [true, true, true, true, false, true, true, true, true, false], [true, true, true, true, false, true, true, true, true, true, false], [true, true, true, true, false, true, true, true, true, true, true], [true, true, true, true, true, false, false, false, false, false], [true, true, true, true, true, false, false, false, false, true], [true, true, true, true, true, false, false, false, true, false], [true, true, true, true, true, false, false, false, true, true], [true, true, true, true, true, false, false, true, false, false], [true, true, true, true, true, false, false, true, false, true], [true, true, true, true, true, false, false, true, true, false], [true, true, true, true, true, false, false, true, true, true, false], [true, true, true, true, true, false, false, true, true, true, true], [true, true, true, true, true, false, true, false, false, false], [true, true, true, true, true, false, true, false, false, true], [true, true, true, true, true, false, true, false, true, false], [true, true, true, true, true, false, true, false, true, true], [true, true, true, true, true, false, true, true, false, false], [true, true, true, true, true, false, true, true, false, true], [true, true, true, true, true, false, true, true, true, false]] _ (by decide +kernel)
theorem z_ksn_0 : ∀ w ∈ z_snL 0, w ∈ z_FL := z_all2w_mem [[true, false, false, true, true, false, false, false, false, true], [true, false, false, true, true, false, true, false, true, false], [true, false, false, true, true, true, false, true, false, true], [true, false, false, true, true, true, true, true, true, true, true], [true, false, true, false, false, false, true, true, false, false], [true, false, true, false, true, false, true, false, true, true], [true, false, true, true, false, false, false, false, false, true], [true, false, true, true, false, true, false, false, false, true], [true, false, true, true, true, false, false, false, false, true], [true, false, true, true, true, true, false, true, false, false], [true, true, false, false, false, false, true, false, false, false], [true, true, false, false, false, true, true, false, true, true], [true, true, false, false, true, true, false, false, false, true], [true, true, false, true, false, false, false, false, false, false], [true, true, false, true, false, true, false, true, true, true, true], [true, true, false, true, true, false, true, true, true, true, false], [true, true, true, false, false, false, true, false, false, false], [true, true, true, false, false, true, true, true, false, false], [true, true, true, false, true, true, false, false, false, true], [true, true, true, true, true, false, true, true, true, true, false]] _ (by decide +kernel)
theorem z_ksn_1 : ∀ w ∈ z_snL 1, w ∈ z_FL := z_all2w_mem [[true, false, false, true, true, false, true, false, true, true], [true, false, false, true, true, true, false, true, true, false], [true, false, true, false, false, false, false, false, false, false], [true, false, true, false, false, false, true, true, false, true], [true, false, true, false, true, false, true, true, false, false], [true, false, true, true, false, false, false, false, true, false], [true, false, true, true, false, true, false, false, true, false], [true, false, true, true, true, false, false, false, true, false], [true, false, true, true, true, true, false, true, false, true], [true, true, false, false, false, false, true, false, false, true], [true, true, false, false, false, true, true, true, false, false], [true, true, false, false, true, true, false, false, true, false], [true, true, false, true, false, false, false, false, false, true], [true, true, false, true, false, true, true, false, false, false], [true, true, false, true, true, false, true, true, true, true, true], [true, true, true, false, false, false, true, false, false, true], [true, true, true, false, false, true, true, true, false, true], [true, true, true, false, true, true, false, false, true, false], [true, true, true, true, true, false, true, true, true, true, true]] _ (by decide +kernel)
theorem z_ksn_2 : ∀ w ∈ z_snL 2, w ∈ z_FL := z_all2w_mem [[true, false, false, true, true, true, false, true, true, true, false], [true, false, true, false, false, false, false, false, false, true], [true, false, true, false, false, false, true, true, true, false], [true, false, true, false, true, false, true, true, false, true], [true, false, true, true, false, false, false, false, true, true], [true, false, true, true, false, true, false, false, true, true], [true, false, true, true, true, false, false, false, true, true], [true, false, true, true, true, true, false, true, true, false], [true, true, false, false, false, false, true, false, true, false], [true, true, false, false, false, true, true, true, false, true], [true, true, false, false, true, true, false, false, true, true], [true, true, false, true, false, false, false, false, true, false], [true, true, false, true, false, true, true, false, false, true], [true, true, false, true, true, true, false, false, false, false], [true, true, true, false, false, false, true, false, true, false], [true, true, true, false, false, true, true, true, true, false], [true, true, true, false, true, true, false, false, true, true], [true, true, true, true, true, true, false, false, false, false]] _ (by decide +kernel)
theorem z_ksn_3 : ∀ w ∈ z_snL 3, w ∈ z_FL := z_all2w_mem [[true, false, true, false, false, false, false, false, true, false], [true, false, true, false, false, false, true, true, true, true, false], [true, false, true, false, true, false, true, true, true, false], [true, false, true, true, false, false, false, true, false, false], [true, false, true, true, false, true, false, true, false, false], [true, false, true, true, true, false, false, true, false, false], [true, false, true, true, true, true, false, true, true, true, false], [true, true, false, false, false, false, true, false, true, true], [true, true, false, false, false, true, true, true, true, false], [true, true, false, false, true, true, false, true, false, false], [true, true, false, true, false, false, false, false, true, true], [true, true, false, true, false, true, true, false, true, false], [true, true, false, true, true, true, false, false, false, true], [true, true, true, false, false, false, true, false, true, true], [true, true, true, false, false, true, true, true, true, true, false], [true, true, true, false, true, true, false, true, false, false], [true, true, true, true, true, true, false, false, false, true]] _ (by decide +kernel)
theorem z_ksn_4 : ∀ w ∈ z_snL 4, w ∈ z_FL := z_all2w_mem [[true, false, true, false, false, false, true, true, true, true, true], [true, false, true, false, true, false, true, true, true, true, false], [true, false, true, true, false, false, false, true, false, true], [true, false, true, true, false, true, false, true, false, true], [true, false, true, true, true, false, false, true, false, true], [true, false, true, true, true, true, false, true, true, true, true], [true, true, false, false, false, false, true, true, false, false], [true, true, false, false, false, true, true, true, true, true, false], [true, true, false, false, true, true, false, true, false, true], [true, true, false, true, false, false, false, true, false, false], [true, true, false, true, false, true, true, false, true, true], [true, true, false, true, true, true, false, false, true, false], [true, true, true, false, false, false, true, true, false, false], [true, true, true, false, false, true, true, true, true, true, true], [true, true, true, false, true, true, false, true, false, true], [true, true, true, true, true, true, false, false, true, false]] _ (by decide +kernel)
theorem z_ksn_5 : ∀ w ∈ z_snL 5, w ∈ z_FL := z_all2w_mem [[true, false, true, false, true, false, true, true, true, true, true], [true, false, true, true, false, false, false, true, true, false], [true, false, true, true, false, true, false, true, true, false], [true, false, true, true, true, false, false, true, true, false], [true, false, true, true, true, true, true, false, false, false], [true, true, false, false, false, false, true, true, false, true], [true, true, false, false, false, true, true, true, true, true, true], [true, true, false, false, true, true, false, true, true, false], [true, true, false, true, false, false, false, true, false, true], [true, true, false, true, false, true, true, true, false, false], [true, true, false, true, true, true, false, false, true, true], [true, true, true, false, false, false, true, true, false, true], [true, true, true, false, true, false, false, false, false, false], [true, true, true, false, true, true, false, true, true, false], [true, true, true, true, true, true, false, false, true, true]] _ (by decide +kernel)
theorem z_ksn_6 : ∀ w ∈ z_snL 6, w ∈ z_FL := z_all2w_mem [[true, false, true, true, false, false, false, true, true, true], [true, false, true, true, false, true, false, true, true, true, false], [true, false, true, true, true, false, false, true, true, true, false], [true, false, true, true, true, true, true, false, false, true], [true, true, false, false, false, false, true, true, true, false], [true, true, false, false, true, false, false, false, false, false], [true, true, false, false, true, true, false, true, true, true, false], [true, true, false, true, false, false, false, true, true, false], [true, true, false, true, false, true, true, true, false, true], [true, true, false, true, true, true, false, true, false, false], [true, true, true, false, false, false, true, true, true, false], [true, true, true, false, true, false, false, false, false, true], [true, true, true, false, true, true, false, true, true, true, false], [true, true, true, true, true, true, false, true, false, false]] _ (by decide +kernel)
theorem z_ksn_7 : ∀ w ∈ z_snL 7, w ∈ z_FL := z_all2w_mem [[true, false, true, true, false, true, false, true, true, true, true], [true, false, true, true, true, false, false, true, true, true, true], [true, false, true, true, true, true, true, false, true, false], [true, true, false, false, false, false, true, true, true, true, false], [true, true, false, false, true, false, false, false, false, true], [true, true, false, false, true, true, false, true, true, true, true], [true, true, false, true, false, false, false, true, true, true], [true, true, false, true, false, true, true, true, true, false], [true, true, false, true, true, true, false, true, false, true], [true, true, true, false, false, false, true, true, true, true, false], [true, true, true, false, true, false, false, false, true, false], [true, true, true, false, true, true, false, true, true, true, true], [true, true, true, true, true, true, false, true, false, true]] _ (by decide +kernel)
theorem z_ksn_8 : ∀ w ∈ z_snL 8, w ∈ z_FL := z_all2w_mem [[true, false, true, true, true, false, true, false, false, false], [true, false, true, true, true, true, true, false, true, true], [true, true, false, false, false, false, true, true, true, true, true], [true, true, false, false, true, false, false, false, true, false], [true, true, false, false, true, true, true, false, false, false], [true, true, false, true, false, false, true, false, false, false], [true, true, false, true, false, true, true, true, true, true, false], [true, true, false, true, true, true, false, true, true, false], [true, true, true, false, false, false, true, true, true, true, true], [true, true, true, false, true, false, false, false, true, true], [true, true, true, false, true, true, true, false, false, false], [true, true, true, true, true, true, false, true, true, false]] _ (by decide +kernel)
theorem z_ksn_9 : ∀ w ∈ z_snL 9, w ∈ z_FL := z_all2w_mem [[true, false, true, true, true, true, true, true, false, false], [true, true, false, false, false, true, false, false, false, false], [true, true, false, false, true, false, false, false, true, true], [true, true, false, false, true, true, true, false, false, true], [true, true, false, true, false, false, true, false, false, true], [true, true, false, true, false, true, true, true, true, true, true], [true, true, false, true, true, true, false, true, true, true, false], [true, true, true, false, false, true, false, false, false, false], [true, true, true, false, true, false, false, true, false, false], [true, true, true, false, true, true, true, false, false, true], [true, true, true, true, true, true, false, true, true, true, false]] _ (by decide +kernel)
theorem z_ksn_10 : ∀ w ∈ z_snL 10, w ∈ z_FL := z_all2w_mem [[true, true, false, false, false, true, false, false, false, true], [true, true, false, false, true, false, false, true, false, false], [true, true, false, false, true, true, true, false, true, false], [true, true, false, true, false, false, true, false, true, false], [true, true, false, true, true, false, false, false, false, false], [true, true, false, true, true, true, false, true, true, true, true], [true, true, true, false, false, true, false, false, false, true], [true, true, true, false, true, false, false, true, false, true], [true, true, true, false, true, true, true, false, true, false], [true, true, true, true, true, true, false, true, true, true, true]] _ (by decide +kernel)
theorem z_ksn_11 : ∀ w ∈ z_snL 11, w ∈ z_FL := z_all2w_mem [[true, true, false, false, true, false, false, true, false, true], [true, true, false, false, true, true, true, false, true, true], [true, true, false, true, false, false, true, false, true, true], [true, true, false, true, true, false, false, false, false, true], [true, true, false, true, true, true, true, false, false, false], [true, true, true, false, false, true, false, false, true, false], [true, true, true, false, true, false, false, true, true, false], [true, true, true, false, true, true, true, false, true, true], [true, true, true, true, true, true, true, false, false, false]] _ (by decide +kernel)
theorem z_ksn_12 : ∀ w ∈ z_snL 12, w ∈ z_FL := z_all2w_mem [[true, true, false, false, true, true, true, true, false, false], [true, true, false, true, false, false, true, true, false, false], [true, true, false, true, true, false, false, false, true, false], [true, true, false, true, true, true, true, false, false, true], [true, true, true, false, false, true, false, false, true, true], [true, true, true, false, true, false, false, true, true, true], [true, true, true, false, true, true, true, true, false, false], [true, true, true, true, true, true, true, false, false, true]] _ (by decide +kernel)
theorem z_ksn_13 : ∀ w ∈ z_snL 13, w ∈ z_FL := z_all2w_mem [[true, true, false, true, false, false, true, true, false, true], [true, true, false, true, true, false, false, false, true, true], [true, true, false, true, true, true, true, false, true, false], [true, true, true, false, false, true, false, true, false, false], [true, true, true, false, true, false, true, false, false, false], [true, true, true, false, true, true, true, true, false, true], [true, true, true, true, true, true, true, false, true, false]] _ (by decide +kernel)
theorem z_ksn_14 : ∀ w ∈ z_snL 14, w ∈ z_FL := z_all2w_mem [[true, true, false, true, true, false, false, true, false, false], [true, true, false, true, true, true, true, false, true, true], [true, true, true, false, false, true, false, true, false, true], [true, true, true, false, true, false, true, false, false, true], [true, true, true, false, true, true, true, true, true, false], [true, true, true, true, true, true, true, false, true, true]] _ (by decide +kernel)
theorem z_ksn_15 : ∀ w ∈ z_snL 15, w ∈ z_FL := z_all2w_mem [[true, true, false, true, true, true, true, true, false, false], [true, true, true, false, false, true, false, true, true, false], [true, true, true, false, true, false, true, false, true, false], [true, true, true, false, true, true, true, true, true, true, false], [true, true, true, true, true, true, true, true, false, false]] _ (by decide +kernel)
theorem z_ksn_16 : ∀ w ∈ z_snL 16, w ∈ z_FL := z_all2w_mem [[true, true, true, false, false, true, false, true, true, true, false], [true, true, true, false, true, false, true, false, true, true], [true, true, true, false, true, true, true, true, true, true, true], [true, true, true, true, true, true, true, true, false, true]] _ (by decide +kernel)
theorem z_ksn_17 : ∀ w ∈ z_snL 17, w ∈ z_FL := z_all2w_mem [[true, true, true, false, true, false, true, true, false, false], [true, true, true, true, false, false, false, false, false, false], [true, true, true, true, true, true, true, true, true, false]] _ (by decide +kernel)
theorem z_ksn_18 : ∀ w ∈ z_snL 18, w ∈ z_FL := z_all2w_mem [[true, true, true, true, false, false, false, false, false, true], [true, true, true, true, true, true, true, true, true, true, false]] _ (by decide +kernel)
theorem z_ksn_19 : ∀ w ∈ z_snL 19, w ∈ z_FL := z_all2w_mem [[true, true, true, true, true, true, true, true, true, true, true]] _ (by decide +kernel)
theorem z_ksn_20 : ∀ w ∈ z_snL 20, w ∈ z_FL := z_all2w_mem [] _ (by decide +kernel)
theorem z_ksf : ∀ j, j < 21 → ∀ w ∈ z_scL j, w ∈ z_FL := fun j hj => by
  rcases (show j = 0 ∨ j = 1 ∨ j = 2 ∨ j = 3 ∨ j = 4 ∨ j = 5 ∨ j = 6 ∨ j = 7 ∨ j = 8 ∨ j = 9 ∨ j = 10 ∨ j = 11 ∨ j = 12 ∨ j = 13 ∨ j = 14 ∨ j = 15 ∨ j = 16 ∨ j = 17 ∨ j = 18 ∨ j = 19 ∨ j = 20 by omega) with rfl | rfl | rfl | rfl | rfl | rfl | rfl | rfl | rfl | rfl | rfl | rfl | rfl | rfl | rfl | rfl | rfl | rfl | rfl | rfl | rfl
  · exact z_ksf_0
  · exact z_ksf_1
  · exact z_ksf_2
  · exact z_ksf_3
  · exact z_ksf_4
  · exact z_ksf_5
  · exact z_ksf_6
  · exact z_ksf_7
  · exact z_ksf_8
  · exact z_ksf_9
  · exact z_ksf_10
  · exact z_ksf_11
  · exact z_ksf_12
  · exact z_ksf_13
  · exact z_ksf_14
  · exact z_ksf_15
  · exact z_ksf_16
  · exact z_ksf_17
  · exact z_ksf_18
  · exact z_ksf_19
  · exact z_ksf_20
theorem z_ksn1 : ∀ j, j < 21 → ∀ w ∈ z_snL j, w ∈ z_FL := fun j hj => by
  rcases (show j = 0 ∨ j = 1 ∨ j = 2 ∨ j = 3 ∨ j = 4 ∨ j = 5 ∨ j = 6 ∨ j = 7 ∨ j = 8 ∨ j = 9 ∨ j = 10 ∨ j = 11 ∨ j = 12 ∨ j = 13 ∨ j = 14 ∨ j = 15 ∨ j = 16 ∨ j = 17 ∨ j = 18 ∨ j = 19 ∨ j = 20 by omega) with rfl | rfl | rfl | rfl | rfl | rfl | rfl | rfl | rfl | rfl | rfl | rfl | rfl | rfl | rfl | rfl | rfl | rfl | rfl | rfl | rfl
  · exact z_ksn_0
  · exact z_ksn_1
  · exact z_ksn_2
  · exact z_ksn_3
  · exact z_ksn_4
  · exact z_ksn_5
  · exact z_ksn_6
  · exact z_ksn_7
  · exact z_ksn_8
  · exact z_ksn_9
  · exact z_ksn_10
  · exact z_ksn_11
  · exact z_ksn_12
  · exact z_ksn_13
  · exact z_ksn_14
  · exact z_ksn_15
  · exact z_ksn_16
  · exact z_ksn_17
  · exact z_ksn_18
  · exact z_ksn_19
  · exact z_ksn_20
theorem z_ksf4 {j : Nat} (hj : j < 21) {w : Cond} (hw : w ∈ z_sc4 j) : w ∈ z_FL := z_ksf j hj w (List.mem_append.mpr (Or.inl hw))
theorem z_ksfc {j i : Nat} (hj : j < 21) (hi : i < (z_str j).length) : z_scc j i ∈ z_FL := z_ksf j hj _ (List.mem_append.mpr (Or.inr (List.mem_map.mpr ⟨i, List.mem_range.mpr hi, rfl⟩)))
theorem z_ksnl {i j : Nat} (hi : i < 21) (hj : j < 21) (h : i < j) : z_sne i j ∈ z_FL := z_ksn1 i hi _ (List.mem_map.mpr ⟨j - (i + 1), List.mem_range.mpr (by omega), by rw [show i + 1 + (j - (i + 1)) = j by omega]⟩)
theorem z_kcs : Cond.laysStatic "java/lang/String" "COMPACT_STRINGS" "Z" ∈ lw_tbl ∧ Cond.initialized "java/lang/String" ∈ lw_tbl ∧ Cond.eq (.static "java/lang/String" "COMPACT_STRINGS" "Z") (.int 1) ∈ z_FL := by decide +kernel
theorem z_ksx : Cond.laysStatic "jdk/internal/util/Preconditions" "SIOOBE_FORMATTER" "Ljava/util/function/BiFunction;" ∈ lw_tbl ∧ Cond.initialized "jdk/internal/util/Preconditions" ∈ lw_tbl ∧ Cond.isRef (.static "jdk/internal/util/Preconditions" "SIOOBE_FORMATTER" "Ljava/util/function/BiFunction;") ∈ z_FL := by decide +kernel
theorem z_kus : Cond.laysStatic Bundle.tN "UNASSIGNED_STACK" Bundle.steD ∈ lw_tbl ∧ Cond.laysStatic Bundle.tN "SUPPRESSED_SENTINEL" Bundle.listD ∈ lw_tbl ∧ Cond.initialized Bundle.tN ∈ lw_tbl ∧ Cond.isRef (.static Bundle.tN "UNASSIGNED_STACK" Bundle.steD) ∈ z_FL ∧ Cond.isRef (.static Bundle.tN "SUPPRESSED_SENTINEL" Bundle.listD) ∈ z_FL := by decide +kernel
theorem z_knc : (List.range 6).all (fun i => (List.range 6).all (fun j => decide (i = j) || decide (j = 4) || decide (Cond.not (Cond.castable (z_xn i) (z_xn j)) ∈ z_FL))) = true := by decide +kernel
theorem z_kca : (List.range 6).all (fun j => decide (Cond.castable (z_xn j) (z_xn j) ∈ lw_tbl)) = true := by decide +kernel
theorem z_kde : z_dec.all (fun C => decide (Cond.declares ⟨C, "<init>", "()V"⟩ ∈ lw_tbl)) = true := by decide +kernel
theorem z_memL {w : Cond} {L : List Cond} {P : Bool} (h : decide (w ∈ L) = true) : w ∈ L := of_decide_eq_true h
theorem z_start (hT : ∀ (k : Nat) (r : z_Rec), z_rec k = some r → z_ckR r = true) (hlp : ∀ (sc : Nat × (Nat → Int32)), sc.1 ≤ 260 → ∃ (f : Nat) (hp' : z_H), hp'.1.length ≤ 964 ∧ hp'.2.1 ≤ 2000 ∧ hp'.2.2 ≤ 50000 ∧ z_ex sc f 100 155 0 [(0, .ref 2000)] [] ([], 0, 0) = some (.inl (some (.int 1)), hp'))
    {p : Program} {e : Env} {s : State} {m : MethodId} {below : List Frame} {meth : Method} {c : Code} (l : Launch) (hflags : l.flags = flags0) {b L : Nat} {xs : Nat → Int32} (hL : L ≤ 260) (C0 : lw_At p s m meth c b L xs) (ht : ∀ x ∈ c.exceptionTable.toList, False) (hnm : meth.name = "law") : W p l e room_1 s m #[Value.ref b] below meth c s.heap [] 0 0 (lw_Z below #[Value.ref b] s) (entryFrame m ([Value.ref b] : List Value).toArray 10) := by
  obtain ⟨hx, hb, hr, hml, hown, hts, hX, hbl, hlocks, hgv⟩ := id C0
  have hfl := flat_of_before _ hgv
  have hA : ∀ a : Nat, a < s.heap.size → ¬ z_A0 s.heap.size a := fun a h => Nat.not_le.mpr h
  have hst : l.stackTraces = false := by
    unfold Launch.stackTraces
    rw [hflags]
    decide +kernel
  -- the classes
  have hcl : ∀ (k : Nat) (q : vw_C), z_cl[k]? = some q → ∃ z : ClassId × (Nat → Nat), u_Kn s q.1 q.2.1 q.2.2 z.1 z.2 := by
    intro k q hq
    have h1 := List.all_eq_true.mp z_kcl q (List.mem_of_getElem? hq)
    rw [Bool.and_eq_true] at h1
    obtain ⟨cC, iS, hK⟩ := u_known (C := q.1) (T := q.2.1) (N := q.2.2) (n := q.2.2) hts (fun w hw => of_decide_eq_true (List.all_eq_true.mp h1.1 w hw)) (hts _ (of_decide_eq_true h1.2))
    exact ⟨(cC, iS), hK⟩
  obtain ⟨D, hD⟩ : ∃ D : va_G, ∀ (k : Nat) (q : vw_C), z_cl[k]? = some q → u_Kn s q.1 q.2.1 q.2.2 (D.1 k) (D.2 k) := by
    have h1 : ∀ k : Nat, ∃ z : ClassId × (Nat → Nat), ∀ q : vw_C, z_cl[k]? = some q → u_Kn s q.1 q.2.1 q.2.2 z.1 z.2 := by
      intro k
      cases hq : z_cl[k]? with
      | none => exact ⟨(0, fun _ => 0), fun q h => by cases h⟩
      | some q =>
        obtain ⟨z, hz⟩ := hcl k q hq
        exact ⟨z, fun q' h => by cases h; exact hz⟩
    exact ⟨(fun k => (h1 k).choose.1, fun k => (h1 k).choose.2), fun k q hq => (h1 k).choose_spec q hq⟩
  -- the arrays
  have har : ∀ t : FieldType, Cond.arrayClass t ∈ lw_tbl → (∀ C, t ≠ .object C) → ∃ cA : ClassId, ArrOfT s cA t ∧ va_RA s cA t := by
    intro t ht hno
    obtain ⟨cA, kA, comp, h1, h2, h3⟩ := Cond.arrayClass_spec (hts _ ht)
    refine ⟨cA, fun n z => ⟨fun k h => (by cases h), kA, h2, comp, h3⟩, ?_⟩
    cases t with
    | object C => exact absurd rfl (hno C)
    | _ => exact h1
  have hao : ∃ cA : ClassId, ArrOfT s cA (.object RX7) ∧ va_RA s cA (.object RX7) := by
    obtain ⟨comp, cA, kA, h1, -, h2, h3, h4⟩ := Cond.arrayOver_spec (hts _ z_kao)
    exact ⟨cA, fun n z => ⟨fun k h => (by cases h), kA, h2, comp, h3⟩, kA, comp, h2, h3, h1, h4⟩
  have hka := List.all_eq_true.mp z_kar
  obtain ⟨c0, d0⟩ := har .int (of_decide_eq_true (hka .int (by decide))) (fun _ h => by cases h)
  obtain ⟨c1, d1⟩ := har .char (of_decide_eq_true (hka .char (by decide))) (fun _ h => by cases h)
  obtain ⟨c2, d2⟩ := har .boolean (of_decide_eq_true (hka .boolean (by decide))) (fun _ h => by cases h)
  obtain ⟨c3, d3⟩ := har .int (of_decide_eq_true (hka .int (by decide))) (fun _ h => by cases h)
  obtain ⟨c4, d4⟩ := har .int (of_decide_eq_true (hka .int (by decide))) (fun _ h => by cases h)
  obtain ⟨c5, d5⟩ := hao
  let cA : Nat → ClassId := fun k => [c0, c1, c2, c3, c4, c5].getD k 0
  have hK : va_K D z_cl (z_tys cA) s := by
    refine ⟨hD, fun k q hq => ?_⟩
    match k, hq with
    | 0, hq => cases hq; exact d0
    | 1, hq => cases hq; exact d1
    | 2, hq => cases hq; exact d2
    | 3, hq => cases hq; exact d3
    | 4, hq => cases hq; exact d4
    | 5, hq => cases hq; exact d5
    | k + 6, hq => cases hq
  -- the texts
  have hlen : ∀ i : Nat, i < 21 → ((List.range 21).map (fun j => (z_str j).length)).getD i 0 = (z_str i).length := by
    intro i hi
    rcases (show i = 0 ∨ i = 1 ∨ i = 2 ∨ i = 3 ∨ i = 4 ∨ i = 5 ∨ i = 6 ∨ i = 7 ∨ i = 8 ∨ i = 9 ∨ i = 10 ∨ i = 11 ∨ i = 12 ∨ i = 13 ∨ i = 14 ∨ i = 15 ∨ i = 16 ∨ i = 17 ∨ i = 18 ∨ i = 19 ∨ i = 20 by omega) with rfl | rfl | rfl | rfl | rfl | rfl | rfl | rfl | rfl | rfl | rfl | rfl | rfl | rfl | rfl | rfl | rfl | rfl | rfl | rfl | rfl <;> rfl
  have hbyt : ∀ i : Nat, i < 21 → ((List.range 21).map (fun j => (z_str j).map Int32.ofNat)).getD i [] = (z_str i).map Int32.ofNat := by
    intro i hi
    rcases (show i = 0 ∨ i = 1 ∨ i = 2 ∨ i = 3 ∨ i = 4 ∨ i = 5 ∨ i = 6 ∨ i = 7 ∨ i = 8 ∨ i = 9 ∨ i = 10 ∨ i = 11 ∨ i = 12 ∨ i = 13 ∨ i = 14 ∨ i = 15 ∨ i = 16 ∨ i = 17 ∨ i = 18 ∨ i = 19 ∨ i = 20 by omega) with rfl | rfl | rfl | rfl | rfl | rfl | rfl | rfl | rfl | rfl | rfl | rfl | rfl | rfl | rfl | rfl | rfl | rfl | rfl | rfl | rfl <;> rfl
  have hS := vk_Sof (args := #[Value.ref b]) (s := s) (N := 21) (tm := fun j => Term.string (z_scl j) (z_sidx j)) (len := (List.range 21).map (fun j => (z_str j).length)) (byt := (List.range 21).map (fun j => (z_str j).map Int32.ofNat)) (A := z_A0 s.heap.size)
    (fun i hi => by
      rw [hlen i hi]
      rcases (show i = 0 ∨ i = 1 ∨ i = 2 ∨ i = 3 ∨ i = 4 ∨ i = 5 ∨ i = 6 ∨ i = 7 ∨ i = 8 ∨ i = 9 ∨ i = 10 ∨ i = 11 ∨ i = 12 ∨ i = 13 ∨ i = 14 ∨ i = 15 ∨ i = 16 ∨ i = 17 ∨ i = 18 ∨ i = 19 ∨ i = 20 by omega) with rfl | rfl | rfl | rfl | rfl | rfl | rfl | rfl | rfl | rfl | rfl | rfl | rfl | rfl | rfl | rfl | rfl | rfl | rfl | rfl | rfl <;> decide)
    (fun i hi => hfl _ (z_ksf4 hi List.mem_cons_self))
    (fun i hi => hfl _ (z_ksf4 hi (List.mem_cons_of_mem _ List.mem_cons_self)))
    (fun i hi => hfl _ (z_ksf4 hi (List.mem_cons_of_mem _ (List.mem_cons_of_mem _ List.mem_cons_self))))
    (fun i hi => by
      rw [hlen i hi]
      exact hfl _ (z_ksf4 hi (List.mem_cons_of_mem _ (List.mem_cons_of_mem _ (List.mem_cons_of_mem _ List.mem_cons_self)))))
    (fun i hi j hj => by
      rw [hlen i hi] at hj
      rw [hbyt i hi]
      exact hfl _ (z_ksfc hi hj))
    (fun i j hi hj hij => by
      rcases Nat.lt_or_gt_of_ne hij with h | h
      · exact Or.inl (hfl _ (z_ksnl hi hj h))
      · exact Or.inr (hfl _ (z_ksnl hj hi h))) hA
  obtain ⟨adK, adV, hS1, hS2⟩ := hS
  let sA : Nat → Nat := fun j => if j < 21 then adK j else b
  have hsA : ∀ j : Nat, j < 21 → sA j = adK j := fun j hj => if_pos hj
  have hStr : z_Str s.heap.size sA s s.heap := by
    refine ⟨fun j hj => ?_, ⟨adV, ?_⟩, va_Zof (hts _ z_kcs.1) (hts _ z_kcs.2.1) (va_eqi (hfl _ z_kcs.2.2)) hA, va_Zqof (hts _ z_ksx.1) (hts _ z_ksx.2.1) (hfl _ z_ksx.2.2) hA⟩
    · rw [hsA j hj]
      exact vk_R.of (A := #[Value.ref b]) (hts _ (of_decide_eq_true (List.all_eq_true.mp z_kst j (List.mem_range.mpr hj)))) (hS2 j hj)
    · refine ⟨fun i hi => ?_, fun i j hi hj hij => hS1.2 i j hi hj ?_⟩
      · rw [hsA i hi]
        exact hS1.1 i hi
      · rwa [hsA i hi, hsA j hj] at hij
  have hG : z_G (L, xs) D s.heap.size sA cA s s.heap := by
    refine ⟨hK, fun w hw => ?_, va_AO.of (hts _ z_kao), vx_Zqof (hts _ z_kus.1) (hts _ z_kus.2.2.1) (hfl _ z_kus.2.2.2.1) hA, vx_Zqof (hts _ z_kus.2.1) (hts _ z_kus.2.2.1) (hfl _ z_kus.2.2.2.2) hA, hStr, ⟨fun i j hi hj hij h4 => ?_, fun j hj => ?_, fun C hC => ?_⟩, hX, hbl, hA b hbl⟩
    · have h := of_decide_eq_true (List.all_eq_true.mp z_nest_ok w hw)
      simp only [z_nest, List.mem_cons, List.not_mem_nil, or_false] at hw
      rcases hw with rfl | rfl | rfl | rfl | rfl | rfl | rfl | rfl | rfl <;> exact va_Nw.of rfl (hts _ h)
    · have h := List.all_eq_true.mp (List.all_eq_true.mp z_knc i (List.mem_range.mpr hi)) j (List.mem_range.mpr hj)
      simp only [Bool.or_eq_true, decide_eq_true_eq] at h
      rcases h with (h | h) | h
      · exact absurd h hij
      · exact absurd h h4
      · exact va_Nc.of (hfl _ h)
    · exact va_Nw.of rfl (hts _ (of_decide_eq_true (List.all_eq_true.mp z_kca j (List.mem_range.mpr hj))))
    · exact va_Nw.of rfl (hts _ (of_decide_eq_true (List.all_eq_true.mp z_kde C hC)))
  obtain ⟨f, hp', hn1, hn2, hsl, hrun⟩ := hlp (L, xs) hL
  have hn : z_n hp' ≤ 2964 := by unfold z_n; omega
  obtain ⟨r, hr0⟩ : ∃ r, z_rec 155 = some r := ⟨_, rfl⟩
  have e1 : r.2.2.2.1 = code := by cases hr0; rfl
  have e2 : r.2.2.2.2.2.1 = ret := by cases hr0; rfl
  have e3 : r.2.2.2.2.1 = 10 := by cases hr0; rfl
  have e4 : r.1 = 11 := by cases hr0; rfl
  have e5 : r.2.2.2.2.2.2.1 = [] := by cases hr0; rfl
  have e6 : r.2.1 = "law" := by cases hr0; rfl
  have F : z_F (L, xs) D s.heap.size sA cA r p l s m #[Value.ref b] meth c := by
    refine ⟨hx, hb.trans e1.symm, hr.trans e2.symm, hml.trans e3.symm, ?_, fun w hw => hts w (List.mem_filter.mp hw).1, hlocks, ?_, hnm.trans e6.symm, hst, hG⟩
    · rw [e4]
      exact hown
    · rw [e5]
      exact List.eq_nil_iff_forall_not_mem.mpr (fun x hx => ht x hx)
  have K := (z_main hT f 100 155 0 [(0, .ref 2000)] [] ([], 0, 0) _ hp' hrun).2 l D s.heap.size (fun _ => 0) sA cA r hr0 p e room_1 s m #[Value.ref b] below meth c 0 0 0 (fun _ => 0) (fun k e h => by cases h) (Nat.le_refl _) z_ag_rfl F (by decide) (by decide) (by show z_n hp' - 0 ≤ 600390; omega) (by show hp'.2.2 - 0 ≤ 7285480; omega)
  rw [e3] at K
  have hlv := lv_entry ([Value.ref b]) (n := 10) (Nat.le_of_ble_eq_true rfl)
  rw [lg_entry_eq]
  have hk := K _ s.heap [] hlv ⟨fun k q h => (by cases h), ⟨fun i j p q h => (by cases h), fun k q h => (by cases h)⟩, va_S.rf, ⟨Nat.le_refl _, Nat.le_refl _⟩, Nat.le_refl _, Nat.le_refl _, Nat.le_refl _⟩
  refine z_Wmono hk (fun t hQ => ?_)
  obtain ⟨o, g1, g2, g3⟩ := hQ
  refine ⟨o, g1, g2, ?_⟩
  rcases g3 with ⟨⟨v, aX, hv, -, ho, -, -⟩, Lc, hF, hfr⟩ | ⟨q, -, E, ce, L', ⟨j, aX, hj, -⟩, -⟩
  · cases hv
    refine ⟨ho, ?_⟩
    obtain ⟨hv2, hW, hs⟩ := hF
    have hs2 : s.sameButNew ({ t with vm := s.vm } : State) [] 600390 7285480 := by
      refine State.sameButNew.drop_fresh (J := Lc) ?_ (fun z hz => hfr z hz)
      rw [List.nil_append]
      exact hs.mono (by omega) (by omega)
    exact lw_closed (d0 := s.drawn) (Drawn.sameBut.refl s.drawn lw_cs) hv2 hW hs2
  · cases hj
end ZEND
