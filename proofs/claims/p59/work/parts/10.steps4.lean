section ZP4
variable {p : Program} {l : Launch} {e : Env} {R : Room} {s : State} {m : MethodId} {args : Array Value} {below : List Frame} {meth : Method} {c : Code} {Q : State → Prop} {D : va_G} {b0 : Nat} {aA sA : Nat → Nat} {cA : Nat → ClassId} {nL n0 sl0 : Nat} {r : z_Rec} {sc : Nat × (Nat → Int32)}
variable {pc : Nat} {ls : z_Ls} {st st' : List Value} {hp : z_H} {C : z_C}
theorem z_s_anew (F : z_F sc D b0 sA cA r p l s m args meth c) {idx : Nat} {ax : List Nat} (hdg : decode r.2.2.2.1 pc = .ok (.anewarray idx, 3)) (hck : z_ckQ r.1 idx ax = true) (h : z_mka ax (pc + 3) ls st hp = some C) (hRc : z_n C.2.2.2 - n0 ≤ R.cells) (hRs : C.2.2.2.2.2 - sl0 ≤ R.slots) (hw : z_hwf hp) (k : ∀ aA' : Nat → Nat, z_ag hp.1.length aA aA' → z_K p l e R s m args below meth c Q D b0 aA' sA cA nL n0 sl0 C) : z_K p l e R s m args below meth c Q D b0 aA sA cA nL n0 sl0 (pc, ls, st, hp) := by
  unfold z_mka at h
  split at h
  · rename_i t ax' n rr
    split at h
    · rename_i hc
      obtain ⟨hn0, hnb, hj, hlen, ht6⟩ := hc
      cases h
      have ht5 : t = 5 ∧ Jvm.Cond.classLink (z_own r.1) idx RX7 ∈ z_gt := by
        unfold z_ckQ at hck
        split at hck
        · rename_i p1 p2 he
          cases he
          exact ⟨rfl, z_at_mem hck⟩
        · cases hck
      obtain ⟨rfl, hlink⟩ := ht5
      intro lsM H locs hl hI
      have hnn : z_n (hp.1 ++ [z_new 5 n.toNatClampNeg], hp.2.1, hp.2.2 + n.toNatClampNeg) = z_n hp + 1 := by
        unfold z_n
        rw [List.length_append]
        show hp.1.length + 1 + hp.2.1 = hp.1.length + hp.2.1 + 1
        omega
      have i6 : n0 ≤ z_n hp := hI.2.2.2.2.2.1
      have i7 : sl0 ≤ hp.2.2 := hI.2.2.2.2.2.2
      have hRc' : z_n hp + 1 - n0 ≤ R.cells := by rw [← hnn]; exact hRc
      have hRs' : hp.2.2 + n.toNatClampNeg - sl0 ≤ R.slots := hRs
      have hA1 : z_n hp - n0 + 1 ≤ R.cells := by omega
      have hA2 : hp.2.2 - sl0 + n.toNatClampNeg ≤ R.slots := by omega
      have hover := F.2.2.2.2.2.2.2.2.2.2.2.2.1
      refine W.anew F.1 F.2.1 F.2.2.2.2.1 (F.2.2.2.2.2.1 _ hlink) (va_AO.use hover) rfl hdg rfl hn0 (by omega) hA1 hA2 fun c1 kA comp f1 f2 f3 f4 => ?_
      generalize hH1 : H.push ({ cls := c1, slots := Array.replicate n.toNatClampNeg .null, vm := .none } : Cell) = H1
      have z1 : H1.size = H.size + 1 := by rw [← hH1, Array.size_push]
      have e1 : H1[H.size]? = some (arrV c1 n.toNatClampNeg (fun _ => .null)) := by rw [← hH1, Array.getElem?_push_size, ← arrV_new]
      have o1 : ∀ q : Nat, q < H.size → H1[q]? = H[q]? := fun q hq => by rw [← hH1, Array.getElem?_push, if_neg (Nat.ne_of_lt hq)]
      have hcA : c1 = cA 5 := by
        obtain ⟨kB, comB, g1, g2, g3, g4⟩ := (F.2.2.2.2.2.2.2.2.2.2.1.2 5 _ (z_tys_at cA (t := 5) (by omega))).2
        exact Option.some.inj (f1.symm.trans g4)
      subst hcA
      obtain ⟨q1, q2⟩ := z_new_cell (ad := z_ad (z_upA aA hp.1.length H.size) sA) (cA := cA) (n := n.toNatClampNeg) (t := 5) (by omega)
      obtain ⟨g1, g2, g3, g4⟩ := z_al (e1 := z_new 5 n.toNatClampNeg) (sl := n.toNatClampNeg) hw hI hlen (by
        rw [q1]
        show H1[H.size]? = some (vp_cell _ _)
        rw [q2]
        exact e1) z1 o1
      have hwf := hj
      unfold z_wfb at hwf
      rw [Bool.and_eq_true] at hwf
      have hk := k _ (z_upA_ag (a := H.size)) lsM H1 locs (by rw [z_L_ag z_upA_ag hwf.1]; exact hl) g1
      show W p l e R s m args below meth c H1 locs (z_n hp - n0 + 1) (hp.2.2 - sl0 + n.toNatClampNeg) Q (F0 m (pc + 3) lsM (.ref H.size :: rr.map (z_V (z_ad aA sA))))
      rw [← g3, ← g4, ← z_st_ag z_upA_ag hwf.2, ← g2]
      exact hk
    · cases h
  · cases h
theorem z_defs : ∀ (ci : Nat) (C : String) (T : u_T) (N : Nat), z_cl[ci]? = some (C, T, N) → ∀ j, j < N → defaultValue (z_ty ci j) = z_def (z_ty ci j) := by
  intro ci C T N h
  match ci, h with
  | 0, h => cases h; decide +kernel
  | 1, h => cases h; decide +kernel
  | 2, h => cases h; decide +kernel
  | 3, h => cases h; decide +kernel
  | 4, h => cases h; decide +kernel
  | 5, h => cases h; decide +kernel
  | 6, h => cases h; decide +kernel
  | 7, h => cases h; decide +kernel
  | 8, h => cases h; decide +kernel
  | 9, h => cases h; decide +kernel
  | n + 10, h => exact absurd (List.getElem?_eq_some_iff.mp h).1 (by show ¬ n + 10 < 10; omega)
theorem z_def_V (ad : Nat → Nat) (t : FieldType) : z_V ad (z_def t) = z_def t := by cases t <;> rfl
theorem z_s_newo (F : z_F sc D b0 sA cA r p l s m args meth c) {idx : Nat} {ax : List Nat} (hdg : decode r.2.2.2.1 pc = .ok (.new idx, 3)) (hck : z_ckN r.1 idx ax = true) (h : z_mko ax pc ls st hp = some C) (hRc : z_n C.2.2.2 - n0 ≤ R.cells) (hRs : C.2.2.2.2.2 - sl0 ≤ R.slots) (hw : z_hwf hp) (k : ∀ aA' : Nat → Nat, z_ag hp.1.length aA aA' → z_K p l e R s m args below meth c Q D b0 aA' sA cA nL n0 sl0 C) : z_K p l e R s m args below meth c Q D b0 aA sA cA nL n0 sl0 (pc, ls, st, hp) := by
  unfold z_mko at h
  split at h
  · rename_i ci N ax'
    split at h
    · rename_i hc
      obtain ⟨hj, hlen⟩ := hc
      cases h
      have hq : ∃ (CC : String) (T : u_T), z_cl[ci]? = some (CC, T, N) ∧ Jvm.Cond.classLink (z_own r.1) idx CC ∈ z_gt ∧ Jvm.Cond.instantiable CC N ∈ z_gt ∧ Jvm.Cond.initialized CC ∈ z_gt := by
        match ax', hck with
        | [p1, p2, p3], hck =>
          dsimp only [z_ckN] at hck
          split at hck
          · rename_i CC T N' hcl
            simp only [Bool.and_eq_true, decide_eq_true_eq] at hck
            obtain ⟨h1, h2, h3, h4⟩ := hck
            subst h1
            exact ⟨CC, T, hcl, z_at_mem h2, z_at_mem h3, z_at_mem h4⟩
          · cases hck
        | [], hck => exact absurd hck Bool.false_ne_true
        | [_], hck => exact absurd hck Bool.false_ne_true
        | [_, _], hck => exact absurd hck Bool.false_ne_true
        | _ :: _ :: _ :: _ :: _, hck => exact absurd hck Bool.false_ne_true
      obtain ⟨CC, T, hcl, w1, w2, w3⟩ := hq
      intro lsM H locs hl hI
      have hKn := F.2.2.2.2.2.2.2.2.2.2.1.1 ci _ hcl
      have hnn : z_n (hp.1 ++ [.inr (ci, (List.range N).map (fun j => z_def (z_ty ci j)))], hp.2.1, hp.2.2 + N) = z_n hp + 1 := by
        unfold z_n
        rw [List.length_append]
        show hp.1.length + 1 + hp.2.1 = hp.1.length + hp.2.1 + 1
        omega
      have i6 : n0 ≤ z_n hp := hI.2.2.2.2.2.1
      have i7 : sl0 ≤ hp.2.2 := hI.2.2.2.2.2.2
      have hRc' : z_n hp + 1 - n0 ≤ R.cells := by rw [← hnn]; exact hRc
      have hRs' : hp.2.2 + N - sl0 ≤ R.slots := hRs
      have hA1 : z_n hp - n0 + 1 ≤ R.cells := by omega
      have hA2 : hp.2.2 - sl0 + N ≤ R.slots := by omega
      refine W.newcK F.1 F.2.1 F.2.2.2.2.1 (F.2.2.2.2.2.1 _ w1) (F.2.2.2.2.2.1 _ w2) (F.2.2.2.2.2.1 _ w3) rfl hdg hA1 hA2 hKn.2.1 rfl fun H1 kC hkC e1 z1 o1 => ?_
      have hcell : va_at D z_cl (H.size, z_E (z_ad (z_upA aA hp.1.length H.size) sA) cA (.inr (ci, (List.range N).map (fun j => z_def (z_ty ci j))))) H1 := by
        refine ⟨_, hcl, (u_born (z_ty ci) F.2.2.2.2.2.1 (z_lays _ _ _ _ hcl) hKn hkC e1 (z_clty _ _ _ _ hcl).1).to (fun j hj => ?_)⟩
        show defaultValue (z_ty ci j) = (((List.range N).map (fun j => z_def (z_ty ci j))).map (z_V (z_ad (z_upA aA hp.1.length H.size) sA))).getD j .null
        rw [z_defs _ _ _ _ hcl j hj, List.getD_eq_getElem?_getD, List.getElem?_map, List.getElem?_map, List.getElem?_range hj]
        show z_def (z_ty ci j) = z_V (z_ad (z_upA aA hp.1.length H.size) sA) (z_def (z_ty ci j))
        rw [z_def_V]
      obtain ⟨g1, g2, g3, g4⟩ := z_al (e1 := .inr (ci, (List.range N).map (fun j => z_def (z_ty ci j)))) (sl := N) hw hI hlen hcell z1 o1
      have hwf := hj
      unfold z_wfb at hwf
      rw [Bool.and_eq_true] at hwf
      have hk := k _ (z_upA_ag (a := H.size)) lsM H1 locs (by rw [z_L_ag z_upA_ag hwf.1]; exact hl) g1
      show W p l e R s m args below meth c H1 locs (z_n hp - n0 + 1) (hp.2.2 - sl0 + N) Q (F0 m (pc + 3) lsM (.ref H.size :: st.map (z_V (z_ad aA sA))))
      rw [← g3, ← g4, ← z_st_ag z_upA_ag hwf.2, ← g2]
      exact hk
    · cases h
  · cases h
theorem z_s_ldc (F : z_F sc D b0 sA cA r p l s m args meth c) {idx : Nat} {ax : List Nat} (hdg : decode r.2.2.2.1 pc = .ok (.ldc idx, 2)) (hck : z_ckC r.1 idx ax = true) (h : z_mk (pc + 2) ls hp (z_ldc ax st) = some C) (k : z_K p l e R s m args below meth c Q D b0 aA sA cA nL n0 sl0 C) : z_K p l e R s m args below meth c Q D b0 aA sA cA nL n0 sl0 (pc, ls, st, hp) := by
  obtain ⟨st', h1, rfl⟩ := z_mk_eq h
  unfold z_ldc at h1
  split at h1
  · rename_i pl v
    cases h1
    exact fun lsM H locs hl hI => lv_ldc F.1 F.2.1 F.2.2.2.2.1 (F.2.2.2.2.2.1 _ (z_at_mem (p := pl) hck)) hdg (k lsM H locs hl hI)
  · rename_i j
    cases h1
    simp only [z_ckC, Bool.and_eq_true, decide_eq_true_eq] at hck
    obtain ⟨h1, h2, h3⟩ := hck
    intro lsM H locs hl hI
    have hown : s.vm.findClass (z_scl j) = some m.cls := by
      have := F.2.2.2.2.1
      rw [h1] at this
      exact this
    subst h3
    have hk := k lsM H locs hl hI
    have had : z_ad aA sA (1000 + j) = sA j := by
      unfold z_ad
      rw [if_neg (by omega), Nat.add_sub_cancel_left]
    have hk2 : W p l e R s m args below meth c H locs (z_n hp - n0) (hp.2.2 - sl0) Q (F0 m (pc + 2) lsM (.ref (sA j) :: st.map (z_V (z_ad aA sA)))) := by
      rw [← had]; exact hk
    exact va_ldcS (own := z_scl j) F.1 F.2.1 hown (F.2.2.2.2.2.2.2.2.2.2.2.2.2.2.2.1.1 j h2) hdg hk2
  · cases h1
theorem z_s_objI (F : z_F sc D b0 sA cA r p l s m args meth c) (hnL : r.2.2.2.2.1 = nL) {idx : Nat} {ax : List Nat} {d : Nat} (hd1 : d ≤ R.frames) (hd2 : 46 * d ≤ R.locals) (hdg : decode r.2.2.2.1 pc = .ok (.invokespecial idx, 3)) (hck : z_ckI 2 r.1 idx (6 :: ax) = true) (h : z_jo d pc ls st hp = some C) (k : z_K p l e R s m args below meth c Q D b0 aA sA cA nL n0 sl0 C) : z_K p l e R s m args below meth c Q D b0 aA sA cA nL n0 sl0 (pc, ls, st, hp) := by
  unfold z_jo at h
  split at h
  · rename_i a rr
    split at h
    · rename_i hc
      cases h
      have hq : Jvm.Cond.methodLink (z_own r.1) idx Lib.objectInit ∈ z_gt ∧ Jvm.Cond.instanceMethod Lib.objectInit ∈ z_gt ∧ Jvm.Cond.code Lib.objectInit ⟨#[0xb1]⟩ 1 none ∈ z_gt := by
        unfold z_ckI at hck
        split at hck
        · rename_i he
          cases he
          split at hck
          · simp at hck
          · cases hck
        · rename_i p1 p2 p3 he
          cases he
          simp only [Bool.and_eq_true, decide_eq_true_eq] at hck
          exact ⟨z_at_mem hck.2.1, z_at_mem hck.2.2.1, z_at_mem hck.2.2.2⟩
        · rename_i he; cases he
        · rename_i he; cases he
        · rename_i he; cases he
        · rename_i he; cases he
        · cases hck
      intro lsM H locs hl hI
      refine W.objInit F.1 F.2.1 F.2.2.2.2.1 (F.2.2.2.2.2.1 _ hq.1) (F.2.2.2.2.2.1 _ hq.2.1) (F.2.2.2.2.2.1 _ hq.2.2) rfl (by rw [F.2.2.2.1, hnL]; exact hl.1) rfl hdg (by omega) ?_ (k lsM H locs hl hI)
      have h8 : 2 * (F0 m pc lsM ((Value.ref a :: rr).map (z_V (z_ad aA sA)))).monitorRoom + ((rr.map (z_V (z_ad aA sA))).map fun v => v.category).sum ≤ 8 := lv_room (by rw [z_cat_map]; exact hc.2)
      show 2 * (F0 m pc lsM ((Value.ref a :: rr).map (z_V (z_ad aA sA)))).monitorRoom + ((rr.map (z_V (z_ad aA sA))).map fun v => v.category).sum + 12 ≤ R.locals
      omega
    · cases h
  · cases h
theorem z_s_copy (F : z_F sc D b0 sA cA r p l s m args meth c) (hnL : r.2.2.2.2.1 = nL) {idx : Nat} {ax : List Nat} {d : Nat} (hd1 : d ≤ R.frames) (hd2 : 46 * d ≤ R.locals) (hdg : decode r.2.2.2.1 pc = .ok (.invokestatic idx, 3)) (hck : z_ckI 1 r.1 idx (7 :: ax) = true) (h : z_jc d pc ls st hp = some C) (k : z_K p l e R s m args below meth c Q D b0 aA sA cA nL n0 sl0 C) : z_K p l e R s m args below meth c Q D b0 aA sA cA nL n0 sl0 (pc, ls, st, hp) := by
  unfold z_jc at h
  split at h
  · rename_i hc8
    unfold z_cpy at h
    split at h
    · rename_i n dp a sp b rr
      split at h
      · rename_i t0 n0' f t1 n1 g hcb hca
        split at h
        · rename_i hc
          obtain ⟨rfl, rfl, h1, h2, h3, h4, h5⟩ := hc
          cases h
          have hq : Jvm.Cond.methodLink (z_own r.1) idx arraycopyName ∈ z_gt ∧ Jvm.Cond.native arraycopyName ∈ z_gt ∧ Jvm.Cond.static arraycopyName ∈ z_gt ∧ Jvm.Cond.initialized "java/lang/System" ∈ z_gt := by
            unfold z_ckI at hck
            split at hck
            · rename_i he
              cases he
              split at hck
              · simp at hck
              · cases hck
            · rename_i he; cases he
            · rename_i p1 p2 p3 p4 he
              cases he
              simp only [Bool.and_eq_true, decide_eq_true_eq] at hck
              exact ⟨z_at_mem hck.2.1, z_at_mem hck.2.2.1, z_at_mem hck.2.2.2.1, z_at_mem hck.2.2.2.2⟩
            · rename_i he; cases he
            · rename_i he; cases he
            · rename_i he; cases he
            · cases hck
          intro lsM H locs hl hI
          have hrr : z_cat rr ≤ 8 := by
            have := hc8.2
            unfold z_cat at this ⊢
            simp only [List.map_cons, List.sum_cons] at this
            omega
          refine va_copyi F.1 F.2.1 (by rw [F.2.2.2.1, hnL]; exact hl.1.symm) F.2.2.2.2.1 (F.2.2.2.2.2.1 _ hq.1) (F.2.2.2.2.2.1 _ hq.2.1) (F.2.2.2.2.2.1 _ hq.2.2.1) (F.2.2.2.2.2.1 _ hq.2.2.2) F.2.2.2.2.2.2.2.2.2.2.1 hI.1 hI.2.1 (z_S_self hI.2.2.1) b a 0 0 (z_W_at hcb) (z_W_at hca) rfl rfl rfl h1 h2 h3 h4 h5 (fun _ _ => rfl) (by omega) ?_ hdg (fun H1 locs1 hP1 hD1 hS1 => z_bound fun hb => z_kw k hl (z_wr (e1 := .inl (0, n1, .inl (va_cpy f g sp.toNatClampNeg dp.toNatClampNeg n.toNatClampNeg))) hI hP1 hD1 hS1 hb))
          have hw : nativeFrameWords "java/lang/System" "arraycopy" 5 + 11 ≤ 30 := by decide
          have hz := z_cat_map (z_ad aA sA) rr
          omega
        · cases h
      · cases h
    · cases h
  · cases h
end ZP4
