/-! Each step of the small interpreter within a frame is a step of the machine. -/
section ZP
variable {p : Program} {l : Launch} {e : Env} {R : Room} {s : State} {m : MethodId} {args : Array Value} {below : List Frame} {meth : Method} {c : Code} {Q : State → Prop} {D : va_G} {b0 : Nat} {aA sA : Nat → Nat} {cA : Nat → ClassId} {nL n0 sl0 : Nat} {r : z_Rec} {sc : Nat × (Nat → Int32)}
theorem z_bound {H : Heap} {locs : List Loc} {cells slots : Nat} {g : JFrame} (h : H.size ≤ s.heap.size + cells → W p l e R s m args below meth c H locs cells slots Q g) : W p l e R s m args below meth c H locs cells slots Q g := by
  intro T hT X
  refine h ?_ T hT X
  have h1 := X.same.2.2.1
  rw [← hT]
  exact h1
theorem z_S_tr {A : Nat → Prop} {H0 H H1 : Heap} {l1 l2 : List Loc} (h1 : va_S A H0 H l1) (h2 : va_S A H H1 l2) : va_S A H0 H1 l2 :=
  ⟨Nat.le_trans h1.1 h2.1, fun q hq hA => (h2.2.1 q (Nat.lt_of_lt_of_le hq h1.1) hA).trans (h1.2.1 q hq hA), h2.2.2⟩
theorem z_S_self {A : Nat → Prop} {H0 H : Heap} {l1 : List Loc} (h1 : va_S A H0 H l1) : va_S A H H l1 := ⟨Nat.le_refl _, fun _ _ _ => rfl, h1.2.2⟩
theorem z_wr {hp : z_H} {H H1 : Heap} {locs locs1 : List Loc} {a : Nat} {e1 : va_E} (hI : z_I D b0 aA sA cA n0 sl0 s hp H locs) (hP : va_P D z_cl ((z_W (z_ad aA sA) cA hp.1).set a (z_ad aA sA a, z_E (z_ad aA sA) cA e1)) H1) (hD : va_D (z_A0 b0) ((z_W (z_ad aA sA) cA hp.1).set a (z_ad aA sA a, z_E (z_ad aA sA) cA e1))) (hS : va_S (z_A0 b0) H H1 locs1) (hb : H1.size ≤ s.heap.size + (z_n hp - n0)) : z_I D b0 aA sA cA n0 sl0 s (hp.1.set a e1, hp.2) H1 locs1 := by
  obtain ⟨i1, i2, i3, i4, i5, i6, i7⟩ := hI
  have hn : z_n (hp.1.set a e1, hp.2) = z_n hp := by unfold z_n; rw [List.length_set]
  refine ⟨?_, ?_, z_S_tr i3 hS, ?_, i5, ?_, i7⟩
  · rw [z_W_set]; exact hP
  · rw [z_W_set]; exact hD
  · rw [hn]
    have := hS.1
    refine ⟨by omega, by omega⟩
  · rw [hn]; exact i6
section Pure
variable {pc : Nat} {ls : z_Ls} {st st' : List Value} {hp : z_H} {C : z_C}
theorem z_s_iconst (F : z_F sc D b0 sA cA r p l s m args meth c) {n : Int} (hdg : decode r.2.2.2.1 pc = .ok (.iconst n, 1)) (k : z_K p l e R s m args below meth c Q D b0 aA sA cA nL n0 sl0 (pc + 1, ls, .int (Int32.ofInt n) :: st, hp)) : z_K p l e R s m args below meth c Q D b0 aA sA cA nL n0 sl0 (pc, ls, st, hp) :=
  fun lsM H locs hl hI => lv_iconst F.1 F.2.1 hdg rfl (k lsM H locs hl hI)
theorem z_s_bipush (F : z_F sc D b0 sA cA r p l s m args meth c) {n : Int} (hdg : decode r.2.2.2.1 pc = .ok (.bipush n, 2)) (k : z_K p l e R s m args below meth c Q D b0 aA sA cA nL n0 sl0 (pc + 2, ls, .int (Int8.ofInt n).toInt32 :: st, hp)) : z_K p l e R s m args below meth c Q D b0 aA sA cA nL n0 sl0 (pc, ls, st, hp) :=
  fun lsM H locs hl hI => lv_bipush F.1 F.2.1 hdg rfl (k lsM H locs hl hI)
theorem z_s_sipush (F : z_F sc D b0 sA cA r p l s m args meth c) {n : Int} (hdg : decode r.2.2.2.1 pc = .ok (.sipush n, 3)) (k : z_K p l e R s m args below meth c Q D b0 aA sA cA nL n0 sl0 (pc + 3, ls, .int (Int16.ofInt n).toInt32 :: st, hp)) : z_K p l e R s m args below meth c Q D b0 aA sA cA nL n0 sl0 (pc, ls, st, hp) :=
  fun lsM H locs hl hI => lv_sipush F.1 F.2.1 hdg rfl (k lsM H locs hl hI)
theorem z_s_lconst (F : z_F sc D b0 sA cA r p l s m args meth c) {n : Fin 2} (hdg : decode r.2.2.2.1 pc = .ok (.lconst n, 1)) (k : z_K p l e R s m args below meth c Q D b0 aA sA cA nL n0 sl0 (pc + 1, ls, .long (Int64.ofNat (n : Nat)) :: st, hp)) : z_K p l e R s m args below meth c Q D b0 aA sA cA nL n0 sl0 (pc, ls, st, hp) :=
  fun lsM H locs hl hI => lv_lconst F.1 F.2.1 hdg rfl (k lsM H locs hl hI)
theorem z_s_dconst (F : z_F sc D b0 sA cA r p l s m args meth c) {n : Fin 2} (hdg : decode r.2.2.2.1 pc = .ok (.dconst n, 1)) (h : (if n = 0 then some (pc + 1, ls, .double FP.dconst0 :: st, hp) else none) = some C) (k : z_K p l e R s m args below meth c Q D b0 aA sA cA nL n0 sl0 C) : z_K p l e R s m args below meth c Q D b0 aA sA cA nL n0 sl0 (pc, ls, st, hp) := by
  split at h
  · rename_i h0
    subst h0
    cases h
    exact fun lsM H locs hl hI => lv_dconst0 F.1 F.2.1 hdg (k lsM H locs hl hI)
  · cases h
theorem z_s_fconst (F : z_F sc D b0 sA cA r p l s m args meth c) {n : Fin 3} (hdg : decode r.2.2.2.1 pc = .ok (.fconst n, 1)) (h : (if n = 0 then some (pc + 1, ls, .float FP.fconst0 :: st, hp) else if n = 1 then some (pc + 1, ls, .float FP.fconst1 :: st, hp) else none) = some C) (k : z_K p l e R s m args below meth c Q D b0 aA sA cA nL n0 sl0 C) : z_K p l e R s m args below meth c Q D b0 aA sA cA nL n0 sl0 (pc, ls, st, hp) := by
  split at h
  · rename_i h0
    subst h0
    cases h
    exact fun lsM H locs hl hI => lv_fconst0 F.1 F.2.1 hdg (k lsM H locs hl hI)
  · split at h
    · rename_i h0
      subst h0
      cases h
      exact fun lsM H locs hl hI => lv_fconst1 F.1 F.2.1 hdg (k lsM H locs hl hI)
    · cases h
theorem z_mk_eq {pc' : Nat} {o : Option (List Value)} (h : z_mk pc' ls hp o = some C) : ∃ st', o = some st' ∧ C = (pc', ls, st', hp) := by
  cases o with
  | none => cases h
  | some x => cases h; exact ⟨x, rfl, rfl⟩
theorem z_ldI_eq {i : Nat} (h : z_ldI ls i st = some st') : ∃ x, z_get ls i = some (.int x) ∧ st' = .int x :: st := by
  unfold z_ldI at h
  split at h
  · rename_i x hx; cases h; exact ⟨x, hx, rfl⟩
  · cases h
theorem z_ldA_eq {i : Nat} (h : z_ldA ls i st = some st') : ∃ x, z_get ls i = some (.ref x) ∧ st' = .ref x :: st := by
  unfold z_ldA at h
  split at h
  · rename_i x hx; cases h; exact ⟨x, hx, rfl⟩
  · cases h
theorem z_ldF_eq {i : Nat} (h : z_ldF ls i st = some st') : ∃ x, z_get ls i = some (.float x) ∧ st' = .float x :: st := by
  unfold z_ldF at h
  split at h
  · rename_i x hx; cases h; exact ⟨x, hx, rfl⟩
  · cases h
theorem z_ldD_eq {i : Nat} (h : z_ldD ls i st = some st') : ∃ x, z_get ls i = some (.double x) ∧ st' = .double x :: st := by
  unfold z_ldD at h
  split at h
  · rename_i x hx; cases h; exact ⟨x, hx, rfl⟩
  · cases h
theorem z_s_iload_n (F : z_F sc D b0 sA cA r p l s m args meth c) {i : Fin 4} (hdg : decode r.2.2.2.1 pc = .ok (.iload_n i, 1)) (h : z_mk (pc + 1) ls hp (z_ldI ls i st) = some C) (k : z_K p l e R s m args below meth c Q D b0 aA sA cA nL n0 sl0 C) : z_K p l e R s m args below meth c Q D b0 aA sA cA nL n0 sl0 (pc, ls, st, hp) := by
  obtain ⟨st', h1, rfl⟩ := z_mk_eq h
  obtain ⟨x, h2, rfl⟩ := z_ldI_eq h1
  exact fun lsM H locs hl hI => lv_iload_n F.1 F.2.1 hdg rfl (z_lget hl h2) (k lsM H locs hl hI)
theorem z_s_iload (F : z_F sc D b0 sA cA r p l s m args meth c) {i : Nat} (hdg : decode r.2.2.2.1 pc = .ok (.iload i, 2)) (h : z_mk (pc + 2) ls hp (z_ldI ls i st) = some C) (k : z_K p l e R s m args below meth c Q D b0 aA sA cA nL n0 sl0 C) : z_K p l e R s m args below meth c Q D b0 aA sA cA nL n0 sl0 (pc, ls, st, hp) := by
  obtain ⟨st', h1, rfl⟩ := z_mk_eq h
  obtain ⟨x, h2, rfl⟩ := z_ldI_eq h1
  exact fun lsM H locs hl hI => lv_iload F.1 F.2.1 hdg (z_lget hl h2) (k lsM H locs hl hI)
theorem z_s_aload_n (F : z_F sc D b0 sA cA r p l s m args meth c) {i : Fin 4} (hdg : decode r.2.2.2.1 pc = .ok (.aload_n i, 1)) (h : z_mk (pc + 1) ls hp (z_ldA ls i st) = some C) (k : z_K p l e R s m args below meth c Q D b0 aA sA cA nL n0 sl0 C) : z_K p l e R s m args below meth c Q D b0 aA sA cA nL n0 sl0 (pc, ls, st, hp) := by
  obtain ⟨st', h1, rfl⟩ := z_mk_eq h
  obtain ⟨x, h2, rfl⟩ := z_ldA_eq h1
  exact fun lsM H locs hl hI => lv_aload_n F.1 F.2.1 hdg rfl (z_lget hl h2) (k lsM H locs hl hI)
theorem z_s_aload (F : z_F sc D b0 sA cA r p l s m args meth c) {i : Nat} (hdg : decode r.2.2.2.1 pc = .ok (.aload i, 2)) (h : z_mk (pc + 2) ls hp (z_ldA ls i st) = some C) (k : z_K p l e R s m args below meth c Q D b0 aA sA cA nL n0 sl0 C) : z_K p l e R s m args below meth c Q D b0 aA sA cA nL n0 sl0 (pc, ls, st, hp) := by
  obtain ⟨st', h1, rfl⟩ := z_mk_eq h
  obtain ⟨x, h2, rfl⟩ := z_ldA_eq h1
  exact fun lsM H locs hl hI => lv_aload F.1 F.2.1 hdg (z_lget hl h2) (k lsM H locs hl hI)
theorem z_s_fload (F : z_F sc D b0 sA cA r p l s m args meth c) {i : Nat} (hdg : decode r.2.2.2.1 pc = .ok (.fload i, 2)) (h : z_mk (pc + 2) ls hp (z_ldF ls i st) = some C) (k : z_K p l e R s m args below meth c Q D b0 aA sA cA nL n0 sl0 C) : z_K p l e R s m args below meth c Q D b0 aA sA cA nL n0 sl0 (pc, ls, st, hp) := by
  obtain ⟨st', h1, rfl⟩ := z_mk_eq h
  obtain ⟨x, h2, rfl⟩ := z_ldF_eq h1
  exact fun lsM H locs hl hI => lv_fload F.1 F.2.1 hdg (z_lget hl h2) (k lsM H locs hl hI)
theorem z_s_dload (F : z_F sc D b0 sA cA r p l s m args meth c) {i : Nat} (hdg : decode r.2.2.2.1 pc = .ok (.dload i, 2)) (h : z_mk (pc + 2) ls hp (z_ldD ls i st) = some C) (k : z_K p l e R s m args below meth c Q D b0 aA sA cA nL n0 sl0 C) : z_K p l e R s m args below meth c Q D b0 aA sA cA nL n0 sl0 (pc, ls, st, hp) := by
  obtain ⟨st', h1, rfl⟩ := z_mk_eq h
  obtain ⟨x, h2, rfl⟩ := z_ldD_eq h1
  exact fun lsM H locs hl hI => lv_dload F.1 F.2.1 hdg (z_lget hl h2) (k lsM H locs hl hI)
theorem z_sI_eq {pc' i : Nat} (h : z_sI nL pc' ls i st hp = some C) : ∃ x rr, st = .int x :: rr ∧ i < nL ∧ C = (pc', z_st1 ls i (.int x), rr, hp) := by
  unfold z_sI at h
  split at h
  · split at h
    · rename_i x rr h1; cases h; exact ⟨x, rr, rfl, h1, rfl⟩
    · cases h
  · cases h
theorem z_sA_eq {pc' i : Nat} (h : z_sA nL pc' ls i st hp = some C) : ∃ x rr, st = .ref x :: rr ∧ i < nL ∧ C = (pc', z_st1 ls i (.ref x), rr, hp) := by
  unfold z_sA at h
  split at h
  · split at h
    · rename_i x rr h1; cases h; exact ⟨x, rr, rfl, h1, rfl⟩
    · cases h
  · cases h
theorem z_sF_eq {pc' i : Nat} (h : z_sF nL pc' ls i st hp = some C) : ∃ x rr, st = .float x :: rr ∧ i < nL ∧ C = (pc', z_st1 ls i (.float x), rr, hp) := by
  unfold z_sF at h
  split at h
  · split at h
    · rename_i x rr h1; cases h; exact ⟨x, rr, rfl, h1, rfl⟩
    · cases h
  · cases h
theorem z_sD_eq {pc' i : Nat} (h : z_sD nL pc' ls i st hp = some C) : ∃ x rr, st = .double x :: rr ∧ i + 1 < nL ∧ C = (pc', z_st2 ls i (.double x), rr, hp) := by
  unfold z_sD at h
  split at h
  · split at h
    · rename_i x rr h1; cases h; exact ⟨x, rr, rfl, h1, rfl⟩
    · cases h
  · cases h
theorem z_s_istore_n (F : z_F sc D b0 sA cA r p l s m args meth c) {i : Fin 4} (hdg : decode r.2.2.2.1 pc = .ok (.istore_n i, 1)) (h : z_sI nL (pc + 1) ls i st hp = some C) (k : z_K p l e R s m args below meth c Q D b0 aA sA cA nL n0 sl0 C) : z_K p l e R s m args below meth c Q D b0 aA sA cA nL n0 sl0 (pc, ls, st, hp) := by
  obtain ⟨x, rr, rfl, h1, rfl⟩ := z_sI_eq h
  exact fun lsM H locs hl hI => lv_istore_n F.1 F.2.1 hdg rfl hl h1 rfl (fun ls' hl' => k ls' H locs (z_has1 (v := .int x) hl') hI)
theorem z_s_istore (F : z_F sc D b0 sA cA r p l s m args meth c) {i : Nat} (hdg : decode r.2.2.2.1 pc = .ok (.istore i, 2)) (h : z_sI nL (pc + 2) ls i st hp = some C) (k : z_K p l e R s m args below meth c Q D b0 aA sA cA nL n0 sl0 C) : z_K p l e R s m args below meth c Q D b0 aA sA cA nL n0 sl0 (pc, ls, st, hp) := by
  obtain ⟨x, rr, rfl, h1, rfl⟩ := z_sI_eq h
  exact fun lsM H locs hl hI => lv_istore F.1 F.2.1 hdg hl h1 rfl (fun ls' hl' => k ls' H locs (z_has1 (v := .int x) hl') hI)
theorem z_s_astore_n (F : z_F sc D b0 sA cA r p l s m args meth c) {i : Fin 4} (hdg : decode r.2.2.2.1 pc = .ok (.astore_n i, 1)) (h : z_sA nL (pc + 1) ls i st hp = some C) (k : z_K p l e R s m args below meth c Q D b0 aA sA cA nL n0 sl0 C) : z_K p l e R s m args below meth c Q D b0 aA sA cA nL n0 sl0 (pc, ls, st, hp) := by
  obtain ⟨x, rr, rfl, h1, rfl⟩ := z_sA_eq h
  exact fun lsM H locs hl hI => lv_astore_n F.1 F.2.1 hdg rfl hl h1 rfl (fun ls' hl' => k ls' H locs (z_has1 (v := .ref x) hl') hI)
theorem z_s_astore (F : z_F sc D b0 sA cA r p l s m args meth c) {i : Nat} (hdg : decode r.2.2.2.1 pc = .ok (.astore i, 2)) (h : z_sA nL (pc + 2) ls i st hp = some C) (k : z_K p l e R s m args below meth c Q D b0 aA sA cA nL n0 sl0 C) : z_K p l e R s m args below meth c Q D b0 aA sA cA nL n0 sl0 (pc, ls, st, hp) := by
  obtain ⟨x, rr, rfl, h1, rfl⟩ := z_sA_eq h
  exact fun lsM H locs hl hI => lv_astore F.1 F.2.1 hdg hl h1 rfl (fun ls' hl' => k ls' H locs (z_has1 (v := .ref x) hl') hI)
theorem z_s_fstore (F : z_F sc D b0 sA cA r p l s m args meth c) {i : Nat} (hdg : decode r.2.2.2.1 pc = .ok (.fstore i, 2)) (h : z_sF nL (pc + 2) ls i st hp = some C) (k : z_K p l e R s m args below meth c Q D b0 aA sA cA nL n0 sl0 C) : z_K p l e R s m args below meth c Q D b0 aA sA cA nL n0 sl0 (pc, ls, st, hp) := by
  obtain ⟨x, rr, rfl, h1, rfl⟩ := z_sF_eq h
  exact fun lsM H locs hl hI => lv_fstore F.1 F.2.1 hdg hl h1 rfl (fun ls' hl' => k ls' H locs (z_has1 (v := .float x) hl') hI)
theorem z_s_dstore (F : z_F sc D b0 sA cA r p l s m args meth c) {i : Nat} (hdg : decode r.2.2.2.1 pc = .ok (.dstore i, 2)) (h : z_sD nL (pc + 2) ls i st hp = some C) (k : z_K p l e R s m args below meth c Q D b0 aA sA cA nL n0 sl0 C) : z_K p l e R s m args below meth c Q D b0 aA sA cA nL n0 sl0 (pc, ls, st, hp) := by
  obtain ⟨x, rr, rfl, h1, rfl⟩ := z_sD_eq h
  exact fun lsM H locs hl hI => lv_dstore F.1 F.2.1 hdg hl h1 rfl (fun ls' hl' => k ls' H locs (z_has2 (v := .double x) hl') hI)
theorem z_s_iinc (F : z_F sc D b0 sA cA r p l s m args meth c) {i : Nat} {n : Int} (hdg : decode r.2.2.2.1 pc = .ok (.iinc i n, 3)) (h : z_inc nL (pc + 3) ls i n st hp = some C) (k : z_K p l e R s m args below meth c Q D b0 aA sA cA nL n0 sl0 C) : z_K p l e R s m args below meth c Q D b0 aA sA cA nL n0 sl0 (pc, ls, st, hp) := by
  unfold z_inc at h
  split at h
  · rename_i x hx
    split at h
    · rename_i h1
      cases h
      intro lsM H locs hl hI
      obtain ⟨j, hj⟩ := List.getElem?_of_mem (z_L_mem (ad := z_ad aA sA) (z_get_mem hx))
      exact lv_iinc F.1 F.2.1 hdg hl (k := j) (x := x) hj rfl h1 rfl (fun ls' hl' => k ls' H locs (z_has1 (v := .int (x + Int32.ofInt n)) hl') hI)
    · cases h
  · cases h
theorem z_i2_eq {f : Int32 → Int32 → Option Value} (h : z_i2 f st = some st') : ∃ x y v rr, st = .int y :: .int x :: rr ∧ f x y = some v ∧ st' = v :: rr := by
  unfold z_i2 at h
  split at h
  · split at h
    · rename_i v hv; cases h; exact ⟨_, _, v, _, rfl, hv, rfl⟩
    · cases h
  · cases h
theorem z_i1_eq {f : Int32 → Option Value} (h : z_i1 f st = some st') : ∃ x v rr, st = .int x :: rr ∧ f x = some v ∧ st' = v :: rr := by
  unfold z_i1 at h
  split at h
  · split at h
    · rename_i v hv; cases h; exact ⟨_, v, _, rfl, hv, rfl⟩
    · cases h
  · cases h
theorem z_s_iadd (F : z_F sc D b0 sA cA r p l s m args meth c) (hdg : decode r.2.2.2.1 pc = .ok (.iadd, 1)) (h : z_mk (pc + 1) ls hp (z_i2 (fun x y => some (.int (x + y))) st) = some C) (k : z_K p l e R s m args below meth c Q D b0 aA sA cA nL n0 sl0 C) : z_K p l e R s m args below meth c Q D b0 aA sA cA nL n0 sl0 (pc, ls, st, hp) := by
  obtain ⟨st', h1, rfl⟩ := z_mk_eq h
  obtain ⟨x, y, v, rr, rfl, h2, rfl⟩ := z_i2_eq h1
  cases h2
  exact fun lsM H locs hl hI => lv_iadd F.1 F.2.1 hdg (k lsM H locs hl hI)
theorem z_s_isub (F : z_F sc D b0 sA cA r p l s m args meth c) (hdg : decode r.2.2.2.1 pc = .ok (.isub, 1)) (h : z_mk (pc + 1) ls hp (z_i2 (fun x y => some (.int (x - y))) st) = some C) (k : z_K p l e R s m args below meth c Q D b0 aA sA cA nL n0 sl0 C) : z_K p l e R s m args below meth c Q D b0 aA sA cA nL n0 sl0 (pc, ls, st, hp) := by
  obtain ⟨st', h1, rfl⟩ := z_mk_eq h
  obtain ⟨x, y, v, rr, rfl, h2, rfl⟩ := z_i2_eq h1
  cases h2
  exact fun lsM H locs hl hI => lv_isub F.1 F.2.1 hdg (k lsM H locs hl hI)
theorem z_s_imul (F : z_F sc D b0 sA cA r p l s m args meth c) (hdg : decode r.2.2.2.1 pc = .ok (.imul, 1)) (h : z_mk (pc + 1) ls hp (z_i2 (fun x y => some (.int (x * y))) st) = some C) (k : z_K p l e R s m args below meth c Q D b0 aA sA cA nL n0 sl0 C) : z_K p l e R s m args below meth c Q D b0 aA sA cA nL n0 sl0 (pc, ls, st, hp) := by
  obtain ⟨st', h1, rfl⟩ := z_mk_eq h
  obtain ⟨x, y, v, rr, rfl, h2, rfl⟩ := z_i2_eq h1
  cases h2
  exact fun lsM H locs hl hI => lv_imul F.1 F.2.1 hdg (k lsM H locs hl hI)
theorem z_s_iand (F : z_F sc D b0 sA cA r p l s m args meth c) (hdg : decode r.2.2.2.1 pc = .ok (.iand, 1)) (h : z_mk (pc + 1) ls hp (z_i2 (fun x y => some (.int (x &&& y))) st) = some C) (k : z_K p l e R s m args below meth c Q D b0 aA sA cA nL n0 sl0 C) : z_K p l e R s m args below meth c Q D b0 aA sA cA nL n0 sl0 (pc, ls, st, hp) := by
  obtain ⟨st', h1, rfl⟩ := z_mk_eq h
  obtain ⟨x, y, v, rr, rfl, h2, rfl⟩ := z_i2_eq h1
  cases h2
  exact fun lsM H locs hl hI => lv_iand F.1 F.2.1 hdg (k lsM H locs hl hI)
theorem z_s_ishr (F : z_F sc D b0 sA cA r p l s m args meth c) (hdg : decode r.2.2.2.1 pc = .ok (.ishr, 1)) (h : z_mk (pc + 1) ls hp (z_i2 (fun x y => some (.int (x >>> (y &&& 31)))) st) = some C) (k : z_K p l e R s m args below meth c Q D b0 aA sA cA nL n0 sl0 C) : z_K p l e R s m args below meth c Q D b0 aA sA cA nL n0 sl0 (pc, ls, st, hp) := by
  obtain ⟨st', h1, rfl⟩ := z_mk_eq h
  obtain ⟨x, y, v, rr, rfl, h2, rfl⟩ := z_i2_eq h1
  cases h2
  exact fun lsM H locs hl hI => lv_ishr F.1 F.2.1 hdg (k lsM H locs hl hI)
theorem z_s_ixor (F : z_F sc D b0 sA cA r p l s m args meth c) (hdg : decode r.2.2.2.1 pc = .ok (.ixor, 1)) (h : z_mk (pc + 1) ls hp (z_i2 (fun x y => some (.int (x ^^^ y))) st) = some C) (k : z_K p l e R s m args below meth c Q D b0 aA sA cA nL n0 sl0 C) : z_K p l e R s m args below meth c Q D b0 aA sA cA nL n0 sl0 (pc, ls, st, hp) := by
  obtain ⟨st', h1, rfl⟩ := z_mk_eq h
  obtain ⟨x, y, v, rr, rfl, h2, rfl⟩ := z_i2_eq h1
  cases h2
  exact fun lsM H locs hl hI => lv_ixor F.1 F.2.1 hdg (k lsM H locs hl hI)
theorem z_s_idiv (F : z_F sc D b0 sA cA r p l s m args meth c) (hdg : decode r.2.2.2.1 pc = .ok (.idiv, 1)) (h : z_mk (pc + 1) ls hp (z_i2 (fun x y => if y = 0 then none else some (.int (x / y))) st) = some C) (k : z_K p l e R s m args below meth c Q D b0 aA sA cA nL n0 sl0 C) : z_K p l e R s m args below meth c Q D b0 aA sA cA nL n0 sl0 (pc, ls, st, hp) := by
  obtain ⟨st', h1, rfl⟩ := z_mk_eq h
  obtain ⟨x, y, v, rr, rfl, h2, rfl⟩ := z_i2_eq h1
  split at h2
  · cases h2
  · rename_i hne
    cases h2
    exact fun lsM H locs hl hI => lv_idiv F.1 F.2.1 hdg hne (k lsM H locs hl hI)
theorem z_s_irem (F : z_F sc D b0 sA cA r p l s m args meth c) (hdg : decode r.2.2.2.1 pc = .ok (.irem, 1)) (h : z_mk (pc + 1) ls hp (z_i2 (fun x y => if y = 0 then none else some (.int (x - x / y * y))) st) = some C) (k : z_K p l e R s m args below meth c Q D b0 aA sA cA nL n0 sl0 C) : z_K p l e R s m args below meth c Q D b0 aA sA cA nL n0 sl0 (pc, ls, st, hp) := by
  obtain ⟨st', h1, rfl⟩ := z_mk_eq h
  obtain ⟨x, y, v, rr, rfl, h2, rfl⟩ := z_i2_eq h1
  split at h2
  · cases h2
  · rename_i hne
    cases h2
    exact fun lsM H locs hl hI => lv_irem F.1 F.2.1 hdg hne (k lsM H locs hl hI)
theorem z_s_ineg (F : z_F sc D b0 sA cA r p l s m args meth c) (hdg : decode r.2.2.2.1 pc = .ok (.ineg, 1)) (h : z_mk (pc + 1) ls hp (z_i1 (fun x => some (.int (-x))) st) = some C) (k : z_K p l e R s m args below meth c Q D b0 aA sA cA nL n0 sl0 C) : z_K p l e R s m args below meth c Q D b0 aA sA cA nL n0 sl0 (pc, ls, st, hp) := by
  obtain ⟨st', h1, rfl⟩ := z_mk_eq h
  obtain ⟨x, v, rr, rfl, h2, rfl⟩ := z_i1_eq h1
  cases h2
  exact fun lsM H locs hl hI => lv_ineg F.1 F.2.1 hdg (k lsM H locs hl hI)
theorem z_s_i2c (F : z_F sc D b0 sA cA r p l s m args meth c) (hdg : decode r.2.2.2.1 pc = .ok (.i2c, 1)) (h : z_mk (pc + 1) ls hp (z_i1 (fun x => some (.int (x.toUInt32 % 65536).toInt32)) st) = some C) (k : z_K p l e R s m args below meth c Q D b0 aA sA cA nL n0 sl0 C) : z_K p l e R s m args below meth c Q D b0 aA sA cA nL n0 sl0 (pc, ls, st, hp) := by
  obtain ⟨st', h1, rfl⟩ := z_mk_eq h
  obtain ⟨x, v, rr, rfl, h2, rfl⟩ := z_i1_eq h1
  cases h2
  exact fun lsM H locs hl hI => lv_i2c F.1 F.2.1 hdg rfl (k lsM H locs hl hI)
theorem z_s_i2l (F : z_F sc D b0 sA cA r p l s m args meth c) (hdg : decode r.2.2.2.1 pc = .ok (.i2l, 1)) (h : z_mk (pc + 1) ls hp (z_i1 (fun x => some (.long x.toInt64)) st) = some C) (k : z_K p l e R s m args below meth c Q D b0 aA sA cA nL n0 sl0 C) : z_K p l e R s m args below meth c Q D b0 aA sA cA nL n0 sl0 (pc, ls, st, hp) := by
  obtain ⟨st', h1, rfl⟩ := z_mk_eq h
  obtain ⟨x, v, rr, rfl, h2, rfl⟩ := z_i1_eq h1
  cases h2
  exact fun lsM H locs hl hI => lv_i2l F.1 F.2.1 hdg rfl (k lsM H locs hl hI)
theorem z_s_i2d (F : z_F sc D b0 sA cA r p l s m args meth c) (hdg : decode r.2.2.2.1 pc = .ok (.i2d, 1)) (h : z_mk (pc + 1) ls hp (z_i1 (fun x => some (.double (FP.i2d x))) st) = some C) (k : z_K p l e R s m args below meth c Q D b0 aA sA cA nL n0 sl0 C) : z_K p l e R s m args below meth c Q D b0 aA sA cA nL n0 sl0 (pc, ls, st, hp) := by
  obtain ⟨st', h1, rfl⟩ := z_mk_eq h
  obtain ⟨x, v, rr, rfl, h2, rfl⟩ := z_i1_eq h1
  cases h2
  exact fun lsM H locs hl hI => lv_i2d F.1 F.2.1 hdg (k lsM H locs hl hI)
theorem z_s_i2f (F : z_F sc D b0 sA cA r p l s m args meth c) (hdg : decode r.2.2.2.1 pc = .ok (.i2f, 1)) (h : z_mk (pc + 1) ls hp (z_i1 (fun x => some (.float (FP.i2f x))) st) = some C) (k : z_K p l e R s m args below meth c Q D b0 aA sA cA nL n0 sl0 C) : z_K p l e R s m args below meth c Q D b0 aA sA cA nL n0 sl0 (pc, ls, st, hp) := by
  obtain ⟨st', h1, rfl⟩ := z_mk_eq h
  obtain ⟨x, v, rr, rfl, h2, rfl⟩ := z_i1_eq h1
  cases h2
  exact fun lsM H locs hl hI => lv_i2f F.1 F.2.1 hdg (k lsM H locs hl hI)
end Pure
end ZP
