section ZP2
variable {p : Program} {l : Launch} {e : Env} {R : Room} {s : State} {m : MethodId} {args : Array Value} {below : List Frame} {meth : Method} {c : Code} {Q : State → Prop} {D : va_G} {b0 : Nat} {aA sA : Nat → Nat} {cA : Nat → ClassId} {nL n0 sl0 : Nat} {r : z_Rec} {sc : Nat × (Nat → Int32)}
variable {pc : Nat} {ls : z_Ls} {st st' : List Value} {hp : z_H} {C : z_C}
theorem z_s_f2d (F : z_F sc D b0 sA cA r p l s m args meth c) (hdg : decode r.2.2.2.1 pc = .ok (.f2d, 1)) (h : (match st with
    | .float x :: rr => if FP.f2d x &&& 0x7fffffffffffffff ≤ 0x7ff0000000000000 then some (pc + 1, ls, .double (FP.f2d x) :: rr, hp) else none
    | _ => none) = some C) (k : z_K p l e R s m args below meth c Q D b0 aA sA cA nL n0 sl0 C) : z_K p l e R s m args below meth c Q D b0 aA sA cA nL n0 sl0 (pc, ls, st, hp) := by
  split at h
  · split at h
    · rename_i h1; cases h; exact fun lsM H locs hl hI => lv_f2d F.1 F.2.1 hdg h1 (k lsM H locs hl hI)
    · cases h
  · cases h
theorem z_s_ddiv (F : z_F sc D b0 sA cA r p l s m args meth c) (hdg : decode r.2.2.2.1 pc = .ok (.ddiv, 1)) (h : (match st with
    | .double y :: .double x :: rr => if FP.ddiv x y &&& 0x7fffffffffffffff ≤ 0x7ff0000000000000 then some (pc + 1, ls, .double (FP.ddiv x y) :: rr, hp) else none
    | _ => none) = some C) (k : z_K p l e R s m args below meth c Q D b0 aA sA cA nL n0 sl0 C) : z_K p l e R s m args below meth c Q D b0 aA sA cA nL n0 sl0 (pc, ls, st, hp) := by
  split at h
  · split at h
    · rename_i h1; cases h; exact fun lsM H locs hl hI => lv_ddiv F.1 F.2.1 hdg h1 (k lsM H locs hl hI)
    · cases h
  · cases h
theorem z_s_fdiv (F : z_F sc D b0 sA cA r p l s m args meth c) (hdg : decode r.2.2.2.1 pc = .ok (.fdiv, 1)) (h : (match st with
    | .float y :: .float x :: rr => if FP.fdiv x y &&& 0x7fffffff ≤ 0x7f800000 then some (pc + 1, ls, .float (FP.fdiv x y) :: rr, hp) else none
    | _ => none) = some C) (k : z_K p l e R s m args below meth c Q D b0 aA sA cA nL n0 sl0 C) : z_K p l e R s m args below meth c Q D b0 aA sA cA nL n0 sl0 (pc, ls, st, hp) := by
  split at h
  · split at h
    · rename_i h1; cases h; exact fun lsM H locs hl hI => lv_fdiv F.1 F.2.1 hdg h1 (k lsM H locs hl hI)
    · cases h
  · cases h
theorem z_s_lcmp (F : z_F sc D b0 sA cA r p l s m args meth c) (hdg : decode r.2.2.2.1 pc = .ok (.lcmp, 1)) (h : (match st with
    | .long y :: .long x :: rr => some (pc + 1, ls, .int (lg_cmp x y) :: rr, hp)
    | _ => none) = some C) (k : z_K p l e R s m args below meth c Q D b0 aA sA cA nL n0 sl0 C) : z_K p l e R s m args below meth c Q D b0 aA sA cA nL n0 sl0 (pc, ls, st, hp) := by
  split at h
  · cases h; exact fun lsM H locs hl hI => W.lcmp F.1 F.2.1 hdg (k lsM H locs hl hI)
  · cases h
theorem z_s_dcmp (F : z_F sc D b0 sA cA r p l s m args meth c) {op : CmpOp} (hdg : decode r.2.2.2.1 pc = .ok (.dcmp op, 1)) (h : (match st with
    | .double y :: .double x :: rr => some (pc + 1, ls, .int (Op.cmpValue (FP.dcmp x y) op) :: rr, hp)
    | _ => none) = some C) (k : z_K p l e R s m args below meth c Q D b0 aA sA cA nL n0 sl0 C) : z_K p l e R s m args below meth c Q D b0 aA sA cA nL n0 sl0 (pc, ls, st, hp) := by
  split at h
  · cases h; exact fun lsM H locs hl hI => lv_dcmp F.1 F.2.1 hdg (k lsM H locs hl hI)
  · cases h
theorem z_s_fcmp (F : z_F sc D b0 sA cA r p l s m args meth c) {op : CmpOp} (hdg : decode r.2.2.2.1 pc = .ok (.fcmp op, 1)) (h : (match st with
    | .float y :: .float x :: rr => some (pc + 1, ls, .int (Op.cmpValue (FP.fcmp x y) op) :: rr, hp)
    | _ => none) = some C) (k : z_K p l e R s m args below meth c Q D b0 aA sA cA nL n0 sl0 C) : z_K p l e R s m args below meth c Q D b0 aA sA cA nL n0 sl0 (pc, ls, st, hp) := by
  split at h
  · cases h; exact fun lsM H locs hl hI => lv_fcmp F.1 F.2.1 hdg (k lsM H locs hl hI)
  · cases h
theorem z_s_dup (F : z_F sc D b0 sA cA r p l s m args meth c) (hdg : decode r.2.2.2.1 pc = .ok (.dup, 1)) (h : z_mk (pc + 1) ls hp (z_dup st) = some C) (k : z_K p l e R s m args below meth c Q D b0 aA sA cA nL n0 sl0 C) : z_K p l e R s m args below meth c Q D b0 aA sA cA nL n0 sl0 (pc, ls, st, hp) := by
  obtain ⟨st', h1, rfl⟩ := z_mk_eq h
  unfold z_dup at h1
  split at h1
  · split at h1
    · rename_i hc; cases h1; exact fun lsM H locs hl hI => lv_dup F.1 F.2.1 hdg (by rw [z_V_cat]; exact hc) (k lsM H locs hl hI)
    · cases h1
  · cases h1
theorem z_s_dup2 (F : z_F sc D b0 sA cA r p l s m args meth c) (hdg : decode r.2.2.2.1 pc = .ok (.dup2, 1)) (h : z_mk (pc + 1) ls hp (z_dup2 st) = some C) (k : z_K p l e R s m args below meth c Q D b0 aA sA cA nL n0 sl0 C) : z_K p l e R s m args below meth c Q D b0 aA sA cA nL n0 sl0 (pc, ls, st, hp) := by
  obtain ⟨st', h1, rfl⟩ := z_mk_eq h
  unfold z_dup2 at h1
  split at h1
  · split at h1
    · rename_i hc; cases h1; exact fun lsM H locs hl hI => lv_dup2_11 F.1 F.2.1 hdg (by rw [z_V_cat]; exact hc.1) (by rw [z_V_cat]; exact hc.2) (k lsM H locs hl hI)
    · cases h1
  · cases h1
theorem z_s_pop (F : z_F sc D b0 sA cA r p l s m args meth c) (hdg : decode r.2.2.2.1 pc = .ok (.pop, 1)) (h : z_mk (pc + 1) ls hp (z_pop st) = some C) (k : z_K p l e R s m args below meth c Q D b0 aA sA cA nL n0 sl0 C) : z_K p l e R s m args below meth c Q D b0 aA sA cA nL n0 sl0 (pc, ls, st, hp) := by
  obtain ⟨st', h1, rfl⟩ := z_mk_eq h
  unfold z_pop at h1
  split at h1
  · split at h1
    · rename_i hc; cases h1; exact fun lsM H locs hl hI => lv_pop F.1 F.2.1 hdg (by rw [z_V_cat]; exact hc) (k lsM H locs hl hI)
    · cases h1
  · cases h1
theorem z_cut_mem {ax : List Nat} {ls : z_Ls} {x : Nat × Value} (h : x ∈ z_cut ax ls) : x ∈ ls := by
  unfold z_cut at h
  split at h
  · exact (List.mem_filter.mp h).1
  · exact h
theorem z_has_cut {ad : Nat → Nat} {lsM : Array Slot} {nL : Nat} {ls : z_Ls} {ax : List Nat} (h : lv_has lsM nL (z_L ad ls)) : lv_has lsM nL (z_L ad (z_cut ax ls)) := by
  refine z_has_sub h (fun q hq => ?_)
  obtain ⟨x, hx, rfl⟩ := List.mem_map.mp hq
  exact List.mem_map.mpr ⟨x, z_cut_mem hx, rfl⟩
theorem z_s_goto {ax : List Nat} (F : z_F sc D b0 sA cA r p l s m args meth c) {off : Int} (hdg : decode r.2.2.2.1 pc = .ok (.goto off, 3)) (h : z_gto pc off (z_cut ax ls) st hp = some C) (k : z_K p l e R s m args below meth c Q D b0 aA sA cA nL n0 sl0 C) : z_K p l e R s m args below meth c Q D b0 aA sA cA nL n0 sl0 (pc, ls, st, hp) := by
  unfold z_gto at h
  split at h
  · rename_i t ht; cases h; exact fun lsM H locs hl hI => lv_goto F.1 F.2.1 hdg (z_tgt_eq ht) (k lsM H locs (z_has_cut hl) hI)
  · cases h
theorem z_s_ifnull (F : z_F sc D b0 sA cA r p l s m args meth c) {off : Int} (hdg : decode r.2.2.2.1 pc = .ok (.ifnull off, 3)) (h : z_ifn pc off ls st hp = some C) (k : z_K p l e R s m args below meth c Q D b0 aA sA cA nL n0 sl0 C) : z_K p l e R s m args below meth c Q D b0 aA sA cA nL n0 sl0 (pc, ls, st, hp) := by
  unfold z_ifn at h
  split at h
  · cases h; exact fun lsM H locs hl hI => lv_ifnull F.1 F.2.1 hdg (k lsM H locs hl hI)
  · cases h
theorem z_s_if (F : z_F sc D b0 sA cA r p l s m args meth c) {cc : ClassFile.Cond} {off : Int} (hdg : decode r.2.2.2.1 pc = .ok (.ifCond cc off, 3)) (h : z_ifc cc pc off ls st hp = some C) (k : z_K p l e R s m args below meth c Q D b0 aA sA cA nL n0 sl0 C) : z_K p l e R s m args below meth c Q D b0 aA sA cA nL n0 sl0 (pc, ls, st, hp) := by
  unfold z_ifc at h
  split at h
  · rename_i x rr
    split at h
    · rename_i t ht
      have ht' := z_tgt_eq ht
      intro lsM H locs hl hI
      have kt : z_cmp0 cc x = true → W p l e R s m args below meth c H locs (z_n hp - n0) (hp.2.2 - sl0) Q (F0 m t lsM (rr.map (z_V (z_ad aA sA)))) := fun q => by
        rw [q] at h; cases h; exact k lsM H locs hl hI
      have kf : z_cmp0 cc x = false → W p l e R s m args below meth c H locs (z_n hp - n0) (hp.2.2 - sl0) Q (F0 m (pc + 3) lsM (rr.map (z_V (z_ad aA sA)))) := fun q => by
        rw [q] at h; cases h; exact k lsM H locs hl hI
      clear h k
      cases cc
      · exact lv_if_eq F.1 F.2.1 hdg ht' (fun q => kt (decide_eq_true q)) (fun q => kf (decide_eq_false q))
      · exact lv_if_ne F.1 F.2.1 hdg ht' (fun q => kt (decide_eq_true q)) (fun q => kf (decide_eq_false (fun hh => hh q)))
      · exact lv_if_lt F.1 F.2.1 hdg ht' (fun q => kt (decide_eq_true q)) (fun q => kf (decide_eq_false q))
      · exact lv_if_ge F.1 F.2.1 hdg ht' (fun q => kt (decide_eq_true q)) (fun q => kf (decide_eq_false q))
      · exact lv_if_gt F.1 F.2.1 hdg ht' (fun q => kt (decide_eq_true q)) (fun q => kf (decide_eq_false q))
      · exact lv_if_le F.1 F.2.1 hdg ht' (fun q => kt (decide_eq_true q)) (fun q => kf (decide_eq_false q))
    · cases h
  · cases h
theorem z_s_icmp (F : z_F sc D b0 sA cA r p l s m args meth c) {cc : ClassFile.Cond} {off : Int} (hdg : decode r.2.2.2.1 pc = .ok (.if_icmp cc off, 3)) (h : z_icm cc pc off ls st hp = some C) (k : z_K p l e R s m args below meth c Q D b0 aA sA cA nL n0 sl0 C) : z_K p l e R s m args below meth c Q D b0 aA sA cA nL n0 sl0 (pc, ls, st, hp) := by
  unfold z_icm at h
  split at h
  · rename_i y x rr
    split at h
    · rename_i t ht
      have ht' := z_tgt_eq ht
      intro lsM H locs hl hI
      have kt : z_cmp2 cc x y = true → W p l e R s m args below meth c H locs (z_n hp - n0) (hp.2.2 - sl0) Q (F0 m t lsM (rr.map (z_V (z_ad aA sA)))) := fun q => by
        rw [q] at h; cases h; exact k lsM H locs hl hI
      have kf : z_cmp2 cc x y = false → W p l e R s m args below meth c H locs (z_n hp - n0) (hp.2.2 - sl0) Q (F0 m (pc + 3) lsM (rr.map (z_V (z_ad aA sA)))) := fun q => by
        rw [q] at h; cases h; exact k lsM H locs hl hI
      clear h k
      cases cc
      · exact lv_icmp_eq F.1 F.2.1 hdg ht' (fun q => kt (decide_eq_true q)) (fun q => kf (decide_eq_false q))
      · exact lv_icmp_ne F.1 F.2.1 hdg ht' (fun q => kt (decide_eq_true q)) (fun q => kf (decide_eq_false (fun hh => hh q)))
      · exact lv_icmp_lt F.1 F.2.1 hdg ht' (fun q => kt (decide_eq_true q)) (fun q => kf (decide_eq_false q))
      · exact lv_icmp_ge F.1 F.2.1 hdg ht' (fun q => kt (decide_eq_true q)) (fun q => kf (decide_eq_false q))
      · exact lv_icmp_gt F.1 F.2.1 hdg ht' (fun q => kt (decide_eq_true q)) (fun q => kf (decide_eq_false q))
      · exact lv_icmp_le F.1 F.2.1 hdg ht' (fun q => kt (decide_eq_true q)) (fun q => kf (decide_eq_false q))
    · cases h
  · cases h
theorem z_gto_eq {off : Int} {ls : z_Ls} {st : List Value} {hp : z_H} (h : z_gto pc off ls st hp = some C) : ∃ t : Nat, (pc : Int) + off = (t : Int) ∧ C = (t, ls, st, hp) := by
  unfold z_gto at h
  split at h
  · rename_i t ht; cases h; exact ⟨t, z_tgt_eq ht, rfl⟩
  · cases h
theorem z_s_tsw (F : z_F sc D b0 sA cA r p l s m args meth c) {dflt lo hi : Int} {offs : Array Int} {len : Nat} (hdg : decode r.2.2.2.1 pc = .ok (.tableswitch dflt lo hi offs, len)) (h : z_tsw pc dflt lo hi offs ls st hp = some C) (k : z_K p l e R s m args below meth c Q D b0 aA sA cA nL n0 sl0 C) : z_K p l e R s m args below meth c Q D b0 aA sA cA nL n0 sl0 (pc, ls, st, hp) := by
  unfold z_tsw at h
  split at h
  · split at h
    · rename_i x rr h1
      obtain ⟨t, ht, rfl⟩ := z_gto_eq h
      exact fun lsM H locs hl hI => lv_tableOut F.1 F.2.1 hdg h1 ht (k lsM H locs hl hI)
    · rename_i x rr h1
      split at h
      · rename_i off ho
        obtain ⟨t, ht, rfl⟩ := z_gto_eq h
        exact fun lsM H locs hl hI => lv_tableIn F.1 F.2.1 hdg (fun q => h1 (Or.inl q)) (fun q => h1 (Or.inr q)) ho ht (k lsM H locs hl hI)
      · cases h
  · cases h
theorem z_s_lsw (F : z_F sc D b0 sA cA r p l s m args meth c) {dflt : Int} {ps : Array (Int × Int)} {len : Nat} (hdg : decode r.2.2.2.1 pc = .ok (.lookupswitch dflt ps, len)) (h : z_lsw pc dflt ps ls st hp = some C) (k : z_K p l e R s m args below meth c Q D b0 aA sA cA nL n0 sl0 C) : z_K p l e R s m args below meth c Q D b0 aA sA cA nL n0 sl0 (pc, ls, st, hp) := by
  unfold z_lsw at h
  split at h
  · by_cases hq : (ps.toList.zip (ps.toList.drop 1)).all (fun (a, next) => a.1 < next.1) = true
    · rw [hq] at h
      obtain ⟨t, ht, rfl⟩ := z_gto_eq h
      exact fun lsM H locs hl hI => lv_lookup F.1 F.2.1 hdg hq rfl ht (k lsM H locs hl hI)
    · rw [Bool.eq_false_iff.mpr hq] at h; cases h
  · cases h
-- fields
theorem z_lays : ∀ (ci : Nat) (C : String) (T : u_T) (N : Nat), z_cl[ci]? = some (C, T, N) → (∀ w ∈ u_ws C T N, w ∈ z_gt) := by
  have h0 : ∀ q ∈ z_cl, (u_ws q.1 q.2.1 q.2.2).all (fun w => decide (w ∈ lw_tbl) && goodWord w) = true := by decide +kernel
  intro ci C T N h w hw
  have h1 := List.all_eq_true.mp (h0 _ (List.mem_of_getElem? h)) w hw
  simp only [Bool.and_eq_true, decide_eq_true_eq] at h1
  exact List.mem_filter.mpr h1
theorem z_clty (ci : Nat) (C : String) (T : u_T) (N : Nat) (h : z_cl[ci]? = some (C, T, N)) : (∀ k, k < N → parseFieldDescriptor (T k).2.2.1 = some (z_ty ci k)) ∧ (∀ a, a < N → ∀ b, b < N → a ≠ b → (T a).2.1 ≠ (T b).2.1) := by
  match ci, h with
  | 0, h => cases h; exact ⟨tyX0_ok, nmX0⟩
  | 1, h => cases h; exact ⟨tyX1_ok, nmX1⟩
  | 2, h => cases h; exact ⟨tyX2_ok, nmX2⟩
  | 3, h => cases h; exact ⟨tyX3_ok, nmX3⟩
  | 4, h => cases h; exact ⟨tyX4_ok, nmX4⟩
  | 5, h => cases h; exact ⟨tyX5_ok, nmX5⟩
  | 6, h => cases h; exact ⟨tyX6_ok, nmX6⟩
  | 7, h => cases h; exact ⟨tyX7_ok, nmX7⟩
  | 8, h => cases h; exact ⟨tyX8_ok, nmX8⟩
  | 9, h => cases h; exact ⟨tyX9_ok, nmX9⟩
  | n + 10, h => exact absurd (List.getElem?_eq_some_iff.mp h).1 (by show ¬ n + 10 < 10; omega)
theorem z_ckF_eq {own : Nat} {nm : String} {put : Bool} {idx ci j : Nat} {ax : List Nat} (h : z_ckF own nm put idx (ci :: j :: ax) = true) : ∃ (C : String) (T : u_T) (N : Nat), z_cl[ci]? = some (C, T, N) ∧ j < N ∧ Jvm.Cond.fieldLink (z_own own) idx (T j).1 (T j).2.1 (T j).2.2.1 ∈ z_gt ∧ (put = true → (T j).2.2.2 = true → nm = "<init>" ∧ (T j).1 = z_own own) := by
  match ax, h with
  | [pl], h =>
    dsimp only [z_ckF] at h
    split at h
    · rename_i C T N hc
      simp only [Bool.and_eq_true, decide_eq_true_eq, Bool.or_eq_true, Bool.not_eq_true'] at h
      obtain ⟨h1, h2, h3⟩ := h
      refine ⟨C, T, N, hc, h1, z_at_mem h2, fun hp hf => ?_⟩
      rcases h3 with h3 | h3
      · rw [hp] at h3; cases h3
      · rcases h3 with h3 | h3
        · rw [hf] at h3; cases h3
        · exact h3
    · cases h
  | [], h => exact absurd h Bool.false_ne_true
  | _ :: _ :: _, h => exact absurd h Bool.false_ne_true
theorem z_s_getf (F : z_F sc D b0 sA cA r p l s m args meth c) {idx : Nat} {ax : List Nat} (hdg : decode r.2.2.2.1 pc = .ok (.getfield idx, 3)) (hck : z_ckF r.1 r.2.1 false idx ax = true) (h : z_mk (pc + 3) ls hp (z_gf ax st hp) = some C) (k : z_K p l e R s m args below meth c Q D b0 aA sA cA nL n0 sl0 C) : z_K p l e R s m args below meth c Q D b0 aA sA cA nL n0 sl0 (pc, ls, st, hp) := by
  obtain ⟨st', h1, rfl⟩ := z_mk_eq h
  unfold z_gf at h1
  split at h1
  · rename_i ci j ax' a rr
    split at h1
    · rename_i c' fs hc
      split at h1
      · rename_i hci
        subst hci
        split at h1
        · rename_i v hv
          cases h1
          obtain ⟨CC, T, N, hcl, hj, hlink, -⟩ := z_ckF_eq hck
          intro lsM H locs hl hI
          have hE := z_W_at (ad := z_ad aA sA) (cA := cA) hc
          exact va_get (own := z_own r.1) F.1 F.2.1 F.2.2.2.2.2.1 (z_lays _ _ _ _ hcl) F.2.2.2.2.1 F.2.2.2.2.2.2.2.2.2.2.1 hI.1 a hE hcl j hj (F.2.2.2.2.2.1 _ hlink) (fun x hx => hx) (v := z_V (z_ad aA sA) v) (by rw [List.getElem?_map, hv]; rfl) hdg (k lsM H locs hl hI)
        · cases h1
      · cases h1
    · cases h1
  · cases h1
theorem z_narrow_V {ad : Nat → Nat} {ty : FieldType} {v : Value} (h : narrow ty v = v) : narrow ty (z_V ad v) = z_V ad v := by
  cases v with
  | ref a => cases ty <;> rfl
  | _ => exact h
theorem z_fits_V {ad : Nat → Nat} {ty : FieldType} {v : Value} (h : fits ty v = true) : fits ty (z_V ad v) = true := by
  cases v with
  | ref a => cases ty <;> first | rfl | exact h
  | _ => exact h
theorem z_kw {pc' a : Nat} {e1 : va_E} {H1 : Heap} {locs1 : List Loc} {lsM : Array Slot} (k : z_K p l e R s m args below meth c Q D b0 aA sA cA nL n0 sl0 (pc', ls, st, (hp.1.set a e1, hp.2))) (hl : lv_has lsM nL (z_L (z_ad aA sA) ls)) (hI : z_I D b0 aA sA cA n0 sl0 s (hp.1.set a e1, hp.2) H1 locs1) : W p l e R s m args below meth c H1 locs1 (z_n hp - n0) (hp.2.2 - sl0) Q (F0 m pc' lsM (st.map (z_V (z_ad aA sA)))) := by
  have hn : z_n (hp.1.set a e1, hp.2) = z_n hp := by unfold z_n; rw [List.length_set]
  have h := k lsM H1 locs1 hl hI
  rw [← hn]
  exact h
theorem z_s_putf (F : z_F sc D b0 sA cA r p l s m args meth c) {idx : Nat} {ax : List Nat} (hdg : decode r.2.2.2.1 pc = .ok (.putfield idx, 3)) (hck : z_ckF r.1 r.2.1 true idx ax = true) (h : z_pf ax pc ls st hp = some C) (k : z_K p l e R s m args below meth c Q D b0 aA sA cA nL n0 sl0 C) : z_K p l e R s m args below meth c Q D b0 aA sA cA nL n0 sl0 (pc, ls, st, hp) := by
  unfold z_pf at h
  split at h
  · rename_i ci j ax' v a rr
    split at h
    · rename_i c' fs hc
      split at h
      · rename_i hcond
        obtain ⟨hci, hjl, hnr, hft, -⟩ := hcond
        subst hci
        cases h
        obtain ⟨CC, T, N, hcl, hj, hlink, hfin⟩ := z_ckF_eq hck
        obtain ⟨hty, hnm⟩ := z_clty _ _ _ _ hcl
        intro lsM H locs hl hI
        have hE := z_W_at (ad := z_ad aA sA) (cA := cA) hc
        have hset : z_E (z_ad aA sA) cA (.inr (c', fs.set j v)) = .inr (c', (fs.map (z_V (z_ad aA sA))).set j (z_V (z_ad aA sA) v)) := by
          show Sum.inr (c', (fs.set j v).map (z_V (z_ad aA sA))) = _
          rw [List.map_set]
        have hjl' : j < (fs.map (z_V (z_ad aA sA))).length := by rw [List.length_map]; exact hjl
        cases hfl : (T j).2.2.2 with
        | false =>
          exact va_put (own := z_own r.1) F.1 F.2.1 F.2.2.2.2.2.1 (z_lays _ _ _ _ hcl) (z_ty c') hty hnm F.2.2.2.2.1 F.2.2.2.2.2.2.2.2.2.2.1 hI.1 hI.2.1 (z_S_self hI.2.2.1) a hE hcl j hj (F.2.2.2.2.2.1 _ hlink) (fun x hx => hx) hfl (hty j hj) (z_narrow_V hnr) (z_fits_V hft) hjl' hdg (fun H1 locs1 hP1 hD1 hS1 => z_bound fun hb => z_kw k hl (z_wr (e1 := .inr (c', fs.set j v)) hI (by rw [hset]; exact hP1) (by rw [hset]; exact hD1) hS1 hb))
        | true =>
          obtain ⟨hin, hdecl⟩ := hfin rfl hfl
          exact va_putF (own := z_own r.1) F.1 F.2.1 F.2.2.2.2.2.1 (z_lays _ _ _ _ hcl) (z_ty c') hty hnm F.2.2.2.2.1 F.2.2.2.2.2.2.2.2.2.2.1 hI.1 hI.2.1 (z_S_self hI.2.2.1) a hE hcl j hj (F.2.2.2.2.2.1 _ hlink) (fun x hx => hx) hfl (F.2.2.2.2.2.2.2.2.1.trans hin) hdecl (hty j hj) (z_narrow_V hnr) (z_fits_V hft) hjl' hdg (fun H1 locs1 hP1 hD1 hS1 => z_bound fun hb => z_kw k hl (z_wr (e1 := .inr (c', fs.set j v)) hI (by rw [hset]; exact hP1) (by rw [hset]; exact hD1) hS1 hb))
      · cases h
    · cases h
  · cases h
end ZP2
