/-! A step within a frame, by its instruction; and what a run makes only grows. -/
section ZD
variable {p : Program} {l : Launch} {e : Env} {R : Room} {s : State} {m : MethodId} {args : Array Value} {below : List Frame} {meth : Method} {c : Code} {Q : State → Prop} {D : va_G} {b0 : Nat} {aA sA : Nat → Nat} {cA : Nat → ClassId} {nL n0 sl0 : Nat} {r : z_Rec} {sc : Nat × (Nat → Int32)}
variable {pc : Nat} {ls : z_Ls} {st st' : List Value} {hp : z_H} {C : z_C}
theorem z_lok_eq {i : Instr} {len n : Nat} (h : z_lok i len = true) (h1 : z_ln i = n) (h0 : n ≠ 0) : len = n := by
  unfold z_lok at h
  rw [Bool.or_eq_true] at h
  rcases h with h | h
  · exact (Nat.eq_of_beq_eq_true h).symm.trans h1
  · exact absurd ((Nat.eq_of_beq_eq_true h).symm.trans h1).symm h0
def z_mn (hp : z_H) (C : z_C) : Prop := z_n hp ≤ z_n C.2.2.2 ∧ hp.2.2 ≤ C.2.2.2.2.2 ∧ hp.1.length ≤ C.2.2.2.1.length ∧ (z_hwf hp → z_hwf C.2.2.2)
theorem z_mn_rfl {pc : Nat} {ls : z_Ls} {st : List Value} : z_mn hp (pc, ls, st, hp) := ⟨Nat.le_refl _, Nat.le_refl _, Nat.le_refl _, id⟩
theorem z_hw_set {a : Nat} {x : va_E} (hx : z_ewf hp.1.length x) (hw : z_hwf hp) : z_hwf (hp.1.set a x, hp.2) := by
  intro k e hk
  show z_ewf (hp.1.set a x).length e
  rw [List.length_set]
  have hk2 : (hp.1.set a x)[k]? = some e := hk
  rw [List.getElem?_set] at hk2
  by_cases h1 : a = k
  · rw [if_pos h1] at hk2
    by_cases h2 : a < hp.1.length
    · rw [if_pos h2] at hk2; cases hk2; exact hx
    · rw [if_neg h2] at hk2; cases hk2
  · rw [if_neg h1] at hk2
    exact hw k e hk2
theorem z_hw_app {x : va_E} {j sl : Nat} (hx : z_ewf (hp.1.length + 1) x) (hw : z_hwf hp) : z_hwf (hp.1 ++ [x], j, sl) := by
  intro k e hk
  show z_ewf (hp.1 ++ [x]).length e
  rw [List.length_append]
  have hk2 : (hp.1 ++ [x])[k]? = some e := hk
  by_cases h1 : k < hp.1.length
  · rw [List.getElem?_append_left h1] at hk2
    exact z_ewf_up (Nat.le_add_right _ _) (hw k e hk2)
  · rw [List.getElem?_append_right (Nat.le_of_not_lt h1)] at hk2
    have h2 := (List.getElem?_eq_some_iff.mp hk2).1
    have h3 : k - hp.1.length = 0 := by
      have : k - hp.1.length < 1 := h2
      omega
    rw [h3] at hk2
    cases hk2
    exact hx
theorem z_mn_set {pc : Nat} {ls : z_Ls} {st : List Value} {a : Nat} {x : va_E} (hx : z_hwf hp → z_ewf hp.1.length x) : z_mn hp (pc, ls, st, (hp.1.set a x, hp.2)) := ⟨by unfold z_n; rw [List.length_set]; exact Nat.le_refl _, Nat.le_refl _, by show hp.1.length ≤ (hp.1.set a x).length; rw [List.length_set]; exact Nat.le_refl _, fun hw => z_hw_set (hx hw) hw⟩
theorem z_new_wf {n t m : Nat} : z_ewf n (z_new t m) := by
  unfold z_new
  split
  · intro j b hb; cases hb
  · trivial
theorem z_def_wf {n : Nat} {t : FieldType} : z_vwf n (z_def t) = true := by cases t <;> rfl
theorem z_mn_mk {pc' : Nat} {o : Option (List Value)} (h : z_mk pc' ls hp o = some C) : z_mn hp C := by
  obtain ⟨st', -, rfl⟩ := z_mk_eq h
  exact z_mn_rfl
theorem z_mn_gto {off : Int} (h : z_gto pc off ls st hp = some C) : z_mn hp C := by
  obtain ⟨t, -, rfl⟩ := z_gto_eq h
  exact z_mn_rfl
theorem z_mn_mka {ax : List Nat} (h : z_mka ax pc ls st hp = some C) : z_mn hp C := by
  unfold z_mka at h
  split at h
  · split at h
    · rename_i hc
      cases h
      refine ⟨?_, Nat.le_add_right _ _, by show hp.1.length ≤ (hp.1 ++ [_]).length; rw [List.length_append]; exact Nat.le_add_right _ _, z_hw_app z_new_wf⟩
      unfold z_n
      rw [List.length_append]
      show hp.1.length + hp.2.1 ≤ hp.1.length + 1 + hp.2.1
      omega
    · cases h
  · cases h
theorem z_mn_mko {ax : List Nat} (h : z_mko ax pc ls st hp = some C) : z_mn hp C := by
  unfold z_mko at h
  split at h
  · split at h
    · rename_i hc
      cases h
      refine ⟨?_, Nat.le_add_right _ _, by show hp.1.length ≤ (hp.1 ++ [_]).length; rw [List.length_append]; exact Nat.le_add_right _ _, z_hw_app (fun v hv => by obtain ⟨j, -, rfl⟩ := List.mem_map.mp hv; exact z_def_wf)⟩
      unfold z_n
      rw [List.length_append]
      show hp.1.length + hp.2.1 ≤ hp.1.length + 1 + hp.2.1
      omega
    · cases h
  · cases h
theorem z_mn_cpy (h : z_cpy pc ls st hp = some C) : z_mn hp C := by
  unfold z_cpy at h
  split at h
  · split at h
    · split at h
      · cases h; exact z_mn_set (fun _ => trivial)
      · cases h
    · cases h
  · cases h
theorem z_mn_jdk {ax : List Nat} {d : Nat} (h : z_jdk ax d pc ls st hp = some C) : z_mn hp C := by
  unfold z_jdk at h
  split at h
  · unfold z_jo at h
    split at h
    · split at h
      · cases h; exact z_mn_rfl
      · cases h
    · cases h
  · unfold z_jc at h
    split at h
    · exact z_mn_cpy h
    · cases h
  · unfold z_jl at h
    split at h
    · exact z_mn_mk h
    · cases h
  · unfold z_jx at h
    split at h
    · exact z_mn_mk h
    · cases h
  · cases h
theorem z_mn_ifc {cc : ClassFile.Cond} {off : Int} (h : z_ifc cc pc off ls st hp = some C) : z_mn hp C := by
  unfold z_ifc at h
  split at h
  · split at h
    · rename_i x rr _ t _
      cases hq : z_cmp0 cc _ <;> rw [hq] at h <;> cases h <;> exact z_mn_rfl
    · cases h
  · cases h
theorem z_mn_icm {cc : ClassFile.Cond} {off : Int} (h : z_icm cc pc off ls st hp = some C) : z_mn hp C := by
  unfold z_icm at h
  split at h
  · split at h
    · cases hq : z_cmp2 cc _ _ <;> rw [hq] at h <;> cases h <;> exact z_mn_rfl
    · cases h
  · cases h
theorem z_mn_ifn {off : Int} (h : z_ifn pc off ls st hp = some C) : z_mn hp C := by
  unfold z_ifn at h
  split at h
  · cases h; exact z_mn_rfl
  · cases h
theorem z_mn_tsw {dflt lo hi : Int} {offs : Array Int} (h : z_tsw pc dflt lo hi offs ls st hp = some C) : z_mn hp C := by
  unfold z_tsw at h
  split at h
  · split at h
    · exact z_mn_gto h
    · split at h
      · exact z_mn_gto h
      · cases h
  · cases h
theorem z_mn_lsw {dflt : Int} {ps : Array (Int × Int)} (h : z_lsw pc dflt ps ls st hp = some C) : z_mn hp C := by
  unfold z_lsw at h
  split at h
  · cases hq : (ps.toList.zip (ps.toList.drop 1)).all (fun (a, next) => a.1 < next.1) <;> rw [hq] at h
    · cases h
    · exact z_mn_gto h
  · cases h
theorem z_mn_pf {ax : List Nat} (h : z_pf ax pc ls st hp = some C) : z_mn hp C := by
  unfold z_pf at h
  split at h
  · split at h
    · rename_i c0 fs hc
      split at h
      · rename_i hcc
        cases h
        refine z_mn_set (fun hw => ?_)
        have h1 := hw _ _ hc
        intro w hwm
        rcases List.mem_or_eq_of_mem_set hwm with q | q
        · exact h1 w q
        · rw [q]; exact hcc.2.2.2.2
      · cases h
    · cases h
  · cases h
theorem z_mn_ast {t : Nat} {g : Int32 → Int32} (h : z_ast t g pc ls st hp = some C) : z_mn hp C := by
  obtain ⟨x, i, a, rr, n, f, -, -, -, rfl⟩ := z_ast_eq h
  exact z_mn_set (fun _ => trivial)
theorem z_mn_last (h : z_last pc ls st hp = some C) : z_mn hp C := by
  unfold z_last at h
  split at h
  · rename_i x i a rr
    split at h
    · rename_i t0 n f hc
      cases hq : (Nat.beq t0 3 && z_inb i n) <;> rw [hq] at h <;> cases h <;> exact z_mn_set (fun _ => trivial)
    · cases h
  · cases h
theorem z_mn_dast (h : z_dast pc ls st hp = some C) : z_mn hp C := by
  unfold z_dast at h
  split at h
  · rename_i x i a rr
    split at h
    · rename_i t0 n f hc
      cases hq : (Nat.beq t0 4 && z_inb i n) <;> rw [hq] at h <;> cases h <;> exact z_mn_set (fun _ => trivial)
    · cases h
  · cases h
theorem z_mn_qast (h : z_qast pc ls st hp = some C) : z_mn hp C := by
  unfold z_qast at h
  split at h
  · rename_i v i a rr
    split at h
    · rename_i t0 n f c0 fs hc hcv
      cases hq : (Nat.beq t0 5 && (Nat.beq c0 7 && z_inb i n)) <;> rw [hq] at h <;> cases h
      refine z_mn_set (fun hw => ?_)
      have h1 : ∀ j b, f j = some b → z_vwf hp.1.length (.ref b) = true := hw _ _ hc
      show ∀ j b, va_up f i.toNatClampNeg (some v) j = some b → z_vwf hp.1.length (.ref b) = true
      intro j b hb
      unfold va_up at hb
      by_cases hj : j = i.toNatClampNeg
      · rw [if_pos hj] at hb
        cases hb
        have h2 := (List.getElem?_eq_some_iff.mp hcv).1
        show (Nat.blt v hp.1.length || Nat.ble 1000 v) = true
        rw [Bool.or_eq_true]
        exact Or.inl (Nat.ble_eq_true_of_le h2)
      · rw [if_neg hj] at hb
        exact h1 j b hb
    · cases h
  · cases h
theorem z_op6 {op own idx : Nat} {ax : List Nat} (h : z_ckI op own idx (6 :: ax) = true) (hne : op ≠ 2) : False := by
  unfold z_ckI at h
  split at h
  · rename_i he
    cases he
    split at h
    · simp at h
    · cases h
  all_goals first
    | (rename_i he; cases he; simp only [Bool.and_eq_true, decide_eq_true_eq] at h; exact hne h.1)
    | (rename_i he; cases he; done)
    | (cases h; done)
theorem z_op7 {op own idx : Nat} {ax : List Nat} (h : z_ckI op own idx (7 :: ax) = true) (hne : op ≠ 1) : False := by
  unfold z_ckI at h
  split at h
  · rename_i he
    cases he
    split at h
    · simp at h
    · cases h
  all_goals first
    | (rename_i he; cases he; simp only [Bool.and_eq_true, decide_eq_true_eq] at h; exact hne h.1)
    | (rename_i he; cases he; done)
    | (cases h; done)
theorem z_op8 {op own idx : Nat} {ax : List Nat} (h : z_ckI op own idx (8 :: ax) = true) (hne : op ≠ 0) : False := by
  unfold z_ckI at h
  split at h
  · rename_i he
    cases he
    split at h
    · simp at h
    · cases h
  all_goals first
    | (rename_i he; cases he; simp only [Bool.and_eq_true, decide_eq_true_eq] at h; exact hne h.1)
    | (rename_i he; cases he; done)
    | (cases h; done)
theorem z_op9 {op own idx : Nat} {ax : List Nat} (h : z_ckI op own idx (9 :: ax) = true) (hne : op ≠ 0) : False := by
  unfold z_ckI at h
  split at h
  · rename_i he
    cases he
    split at h
    · simp at h
    · cases h
  all_goals first
    | (rename_i he; cases he; simp only [Bool.and_eq_true, decide_eq_true_eq] at h; exact hne h.1)
    | (rename_i he; cases he; done)
    | (cases h; done)
theorem z_s_jdk2 (F : z_F sc D b0 sA cA r p l s m args meth c) (hnL : r.2.2.2.2.1 = nL) {idx : Nat} {ax : List Nat} {d : Nat} (hd1 : d ≤ R.frames) (hd2 : 46 * d ≤ R.locals) (hdg : decode r.2.2.2.1 pc = .ok (.invokespecial idx, 3)) (hck : z_ckI 2 r.1 idx ax = true) (h : z_jdk ax d pc ls st hp = some C) (k : z_K p l e R s m args below meth c Q D b0 aA sA cA nL n0 sl0 C) : z_K p l e R s m args below meth c Q D b0 aA sA cA nL n0 sl0 (pc, ls, st, hp) := by
  unfold z_jdk at h
  split at h
  · exact z_s_objI F hnL hd1 hd2 hdg hck h k
  · exact (z_op7 hck (by decide)).elim
  · exact (z_op8 hck (by decide)).elim
  · exact (z_op9 hck (by decide)).elim
  · cases h
theorem z_s_jdk1 (F : z_F sc D b0 sA cA r p l s m args meth c) (hnL : r.2.2.2.2.1 = nL) {idx : Nat} {ax : List Nat} {d : Nat} (hd1 : d ≤ R.frames) (hd2 : 46 * d ≤ R.locals) (hdg : decode r.2.2.2.1 pc = .ok (.invokestatic idx, 3)) (hck : z_ckI 1 r.1 idx ax = true) (h : z_jdk ax d pc ls st hp = some C) (k : z_K p l e R s m args below meth c Q D b0 aA sA cA nL n0 sl0 C) : z_K p l e R s m args below meth c Q D b0 aA sA cA nL n0 sl0 (pc, ls, st, hp) := by
  unfold z_jdk at h
  split at h
  · exact (z_op6 hck (by decide)).elim
  · exact z_s_copy F hnL hd1 hd2 hdg hck h k
  · exact (z_op8 hck (by decide)).elim
  · exact (z_op9 hck (by decide)).elim
  · cases h
theorem z_s_jdk0 (F : z_F sc D b0 sA cA r p l s m args meth c) (hnL : r.2.2.2.2.1 = nL) {idx : Nat} {ax : List Nat} {d : Nat} (hd1 : d ≤ R.frames) (hd2 : 46 * d ≤ R.locals) (hdg : decode r.2.2.2.1 pc = .ok (.invokevirtual idx, 3)) (hck : z_ckI 0 r.1 idx ax = true) (h : z_jdk ax d pc ls st hp = some C) (hRc : z_n C.2.2.2 - n0 ≤ R.cells) (hRs : C.2.2.2.2.2 - sl0 ≤ R.slots) (k : z_K p l e R s m args below meth c Q D b0 aA sA cA nL n0 sl0 C) : z_K p l e R s m args below meth c Q D b0 aA sA cA nL n0 sl0 (pc, ls, st, hp) := by
  unfold z_jdk at h
  split at h
  · exact (z_op6 hck (by decide)).elim
  · exact (z_op7 hck (by decide)).elim
  · exact z_s_strl F hnL hd1 hd2 hdg hck h hRc hRs k
  · exact z_s_strc F hnL hd1 hd2 hdg hck h hRc hRs k
  · cases h
theorem z_loc_sound (F : z_F sc D b0 sA cA r p l s m args meth c) (hnL : r.2.2.2.2.1 = nL) {i : Instr} {len : Nat} {ax : List Nat} {d : Nat} (hd1 : d ≤ R.frames) (hd2 : 46 * d ≤ R.locals) (hdg : decode r.2.2.2.1 pc = .ok (i, len)) (hlen : z_lok i len = true) (hck : z_ckL r.1 r.2.1 i ax = true) (h : z_loc sc d nL i ax pc ls st hp = some C) (hRc : z_n C.2.2.2 - n0 ≤ R.cells) (hRs : C.2.2.2.2.2 - sl0 ≤ R.slots) (hw : z_hwf hp) (kA : ∀ aA' : Nat → Nat, z_ag hp.1.length aA aA' → z_K p l e R s m args below meth c Q D b0 aA' sA cA nL n0 sl0 C) : z_K p l e R s m args below meth c Q D b0 aA sA cA nL n0 sl0 (pc, ls, st, hp) := by
  have k := kA aA z_ag_rfl
  have L : ∀ n, z_ln i = n → n ≠ 0 → decode r.2.2.2.1 pc = .ok (i, n) := fun n h1 h0 => by rw [z_lok_eq hlen h1 h0] at hdg; exact hdg
  cases i
  case iconst n => exact z_s_iconst F (L 1 rfl (by decide)) (by cases h; exact k)
  case bipush n => exact z_s_bipush F (L 2 rfl (by decide)) (by cases h; exact k)
  case sipush n => exact z_s_sipush F (L 3 rfl (by decide)) (by cases h; exact k)
  case lconst n => exact z_s_lconst F (L 1 rfl (by decide)) (by cases h; exact k)
  case dconst n => exact z_s_dconst F (L 1 rfl (by decide)) h k
  case fconst n => exact z_s_fconst F (L 1 rfl (by decide)) h k
  case ldc n => exact z_s_ldc F (L 2 rfl (by decide)) hck h k
  case iload_n n => exact z_s_iload_n F (L 1 rfl (by decide)) h k
  case iload n => exact z_s_iload F (L 2 rfl (by decide)) h k
  case aload_n n => exact z_s_aload_n F (L 1 rfl (by decide)) h k
  case aload n => exact z_s_aload F (L 2 rfl (by decide)) h k
  case fload n => exact z_s_fload F (L 2 rfl (by decide)) h k
  case dload n => exact z_s_dload F (L 2 rfl (by decide)) h k
  case istore_n n => exact z_s_istore_n F (L 1 rfl (by decide)) h k
  case istore n => exact z_s_istore F (L 2 rfl (by decide)) h k
  case astore_n n => exact z_s_astore_n F (L 1 rfl (by decide)) h k
  case astore n => exact z_s_astore F (L 2 rfl (by decide)) h k
  case fstore n => exact z_s_fstore F (L 2 rfl (by decide)) h k
  case dstore n => exact z_s_dstore F (L 2 rfl (by decide)) h k
  case iinc n q => exact z_s_iinc F (L 3 rfl (by decide)) h k
  case iadd  => exact z_s_iadd F (L 1 rfl (by decide)) h k
  case isub  => exact z_s_isub F (L 1 rfl (by decide)) h k
  case imul  => exact z_s_imul F (L 1 rfl (by decide)) h k
  case iand  => exact z_s_iand F (L 1 rfl (by decide)) h k
  case ishr  => exact z_s_ishr F (L 1 rfl (by decide)) h k
  case ixor  => exact z_s_ixor F (L 1 rfl (by decide)) h k
  case idiv  => exact z_s_idiv F (L 1 rfl (by decide)) h k
  case irem  => exact z_s_irem F (L 1 rfl (by decide)) h k
  case ineg  => exact z_s_ineg F (L 1 rfl (by decide)) h k
  case i2c  => exact z_s_i2c F (L 1 rfl (by decide)) h k
  case i2l  => exact z_s_i2l F (L 1 rfl (by decide)) h k
  case i2d  => exact z_s_i2d F (L 1 rfl (by decide)) h k
  case i2f  => exact z_s_i2f F (L 1 rfl (by decide)) h k
  case f2d  => exact z_s_f2d F (L 1 rfl (by decide)) h k
  case ddiv  => exact z_s_ddiv F (L 1 rfl (by decide)) h k
  case fdiv  => exact z_s_fdiv F (L 1 rfl (by decide)) h k
  case lcmp  => exact z_s_lcmp F (L 1 rfl (by decide)) h k
  case dcmp n => exact z_s_dcmp F (L 1 rfl (by decide)) h k
  case fcmp n => exact z_s_fcmp F (L 1 rfl (by decide)) h k
  case dup  => exact z_s_dup F (L 1 rfl (by decide)) h k
  case dup2  => exact z_s_dup2 F (L 1 rfl (by decide)) h k
  case pop  => exact z_s_pop F (L 1 rfl (by decide)) h k
  case ifCond n q => exact z_s_if F (L 3 rfl (by decide)) h k
  case if_icmp n q => exact z_s_icmp F (L 3 rfl (by decide)) h k
  case goto n => exact z_s_goto F (L 3 rfl (by decide)) h k
  case ifnull n => exact z_s_ifnull F (L 3 rfl (by decide)) h k
  case tableswitch a b1 c1 d1 => exact z_s_tsw F hdg h k
  case lookupswitch a b1 => exact z_s_lsw F hdg h k
  case getfield n => exact z_s_getf F (L 3 rfl (by decide)) hck h k
  case putfield n => exact z_s_putf F (L 3 rfl (by decide)) hck h k
  case iaload  => exact z_s_iald F (L 1 rfl (by decide)) h k
  case caload  => exact z_s_cald F (L 1 rfl (by decide)) h k
  case baload  => exact z_s_zald F (L 1 rfl (by decide)) h k
  case iastore  => exact z_s_iast F (L 1 rfl (by decide)) h k
  case castore  => exact z_s_cast F (L 1 rfl (by decide)) h k
  case bastore  => exact z_s_zast F (L 1 rfl (by decide)) h k
  case aaload  => exact z_s_qald F (L 1 rfl (by decide)) h k
  case aastore  => exact z_s_qast F (L 1 rfl (by decide)) h k
  case arraylength  => exact z_s_len F (L 1 rfl (by decide)) h k
  case newarray n => exact z_s_newa F (L 2 rfl (by decide)) hck h hRc hRs hw kA
  case anewarray n => exact z_s_anew F (L 3 rfl (by decide)) hck h hRc hRs hw kA
  case new n => exact z_s_newo F (L 3 rfl (by decide)) hck h hRc hRs hw kA
  case invokespecial n => exact z_s_jdk2 F hnL hd1 hd2 (L 3 rfl (by decide)) hck h k
  case invokestatic n => exact z_s_jdk1 F hnL hd1 hd2 (L 3 rfl (by decide)) hck h k
  case invokevirtual n => exact z_s_jdk0 F hnL hd1 hd2 (L 3 rfl (by decide)) hck h hRc hRs k
  all_goals (cases h)
theorem z_loc_mn {i : Instr} {ax : List Nat} {d : Nat} (h : z_loc sc d nL i ax pc ls st hp = some C) : z_mn hp C := by
  cases i
  case iconst n => exact by cases h; exact z_mn_rfl
  case bipush n => exact by cases h; exact z_mn_rfl
  case sipush n => exact by cases h; exact z_mn_rfl
  case lconst n => exact by cases h; exact z_mn_rfl
  case dconst n => have h : (if _ then some _ else none) = some C := h; split at h <;> cases h; exact z_mn_rfl
  case fconst n => 
    unfold z_loc at h
    dsimp only at h
    split at h
    · cases h; exact z_mn_rfl
    · split at h
      · cases h; exact z_mn_rfl
      · cases h
  case ldc n => exact z_mn_mk h
  case iload_n n => exact z_mn_mk h
  case iload n => exact z_mn_mk h
  case aload_n n => exact z_mn_mk h
  case aload n => exact z_mn_mk h
  case fload n => exact z_mn_mk h
  case dload n => exact z_mn_mk h
  case istore_n n => exact by obtain ⟨x, rr, -, -, rfl⟩ := z_sI_eq h; exact z_mn_rfl
  case istore n => exact by obtain ⟨x, rr, -, -, rfl⟩ := z_sI_eq h; exact z_mn_rfl
  case astore_n n => exact by obtain ⟨x, rr, -, -, rfl⟩ := z_sA_eq h; exact z_mn_rfl
  case astore n => exact by obtain ⟨x, rr, -, -, rfl⟩ := z_sA_eq h; exact z_mn_rfl
  case fstore n => exact by obtain ⟨x, rr, -, -, rfl⟩ := z_sF_eq h; exact z_mn_rfl
  case dstore n => exact by obtain ⟨x, rr, -, -, rfl⟩ := z_sD_eq h; exact z_mn_rfl
  case iinc n q => 
    have h : z_inc _ _ _ _ _ _ _ = some C := h
    unfold z_inc at h
    split at h
    · split at h
      · cases h; exact z_mn_rfl
      · cases h
    · cases h
  case iadd  => exact z_mn_mk h
  case isub  => exact z_mn_mk h
  case imul  => exact z_mn_mk h
  case iand  => exact z_mn_mk h
  case ishr  => exact z_mn_mk h
  case ixor  => exact z_mn_mk h
  case idiv  => exact z_mn_mk h
  case irem  => exact z_mn_mk h
  case ineg  => exact z_mn_mk h
  case i2c  => exact z_mn_mk h
  case i2l  => exact z_mn_mk h
  case i2d  => exact z_mn_mk h
  case i2f  => exact z_mn_mk h
  case f2d  => 
    unfold z_loc at h
    dsimp only at h
    split at h
    · split at h
      · cases h; exact z_mn_rfl
      · cases h
    · cases h
  case ddiv  => 
    unfold z_loc at h
    dsimp only at h
    split at h
    · split at h
      · cases h; exact z_mn_rfl
      · cases h
    · cases h
  case fdiv  => 
    unfold z_loc at h
    dsimp only at h
    split at h
    · split at h
      · cases h; exact z_mn_rfl
      · cases h
    · cases h
  case lcmp  => 
    unfold z_loc at h
    dsimp only at h
    split at h
    · cases h; exact z_mn_rfl
    · cases h
  case dcmp n => 
    unfold z_loc at h
    dsimp only at h
    split at h
    · cases h; exact z_mn_rfl
    · cases h
  case fcmp n => 
    unfold z_loc at h
    dsimp only at h
    split at h
    · cases h; exact z_mn_rfl
    · cases h
  case dup  => exact z_mn_mk h
  case dup2  => exact z_mn_mk h
  case pop  => exact z_mn_mk h
  case ifCond n q => exact z_mn_ifc h
  case if_icmp n q => exact z_mn_icm h
  case goto n => exact z_mn_gto h
  case ifnull n => exact z_mn_ifn (off := n) h
  case tableswitch a b1 c1 d1 => exact z_mn_tsw h
  case lookupswitch a b1 => exact z_mn_lsw h
  case getfield n => exact z_mn_mk h
  case putfield n => exact z_mn_pf h
  case iaload  => exact z_mn_mk h
  case caload  => exact z_mn_mk h
  case baload  => exact z_mn_mk h
  case iastore  => exact z_mn_ast h
  case castore  => exact z_mn_ast h
  case bastore  => exact z_mn_ast h
  case aaload  => exact z_mn_mk h
  case aastore  => exact z_mn_qast h
  case arraylength  => exact z_mn_mk h
  case newarray n => exact z_mn_mka h
  case anewarray n => exact z_mn_mka h
  case new n => exact z_mn_mko h
  case invokespecial n => exact z_mn_jdk h
  case invokestatic n => exact z_mn_jdk h
  case invokevirtual n => exact z_mn_jdk h
  all_goals (cases h)
end ZD
