/-! The shift of a step, and of a run. -/
section ZSH2
section
variable {b : Nat} {ac : Nat × Nat} {pre post : List va_E} {hp : z_H} {sc : Nat × (Nat → Int32)} {d nL pc : Nat} {ax : List Nat} {ls : z_Ls} {st st' : List Value} {C : z_C}
theorem s_mka_len (h : z_mka ax pc ls st hp = some C) : C.2.2.2.1.length = hp.1.length + 1 := by
  unfold z_mka at h
  split at h
  · split at h
    · cases h; show (hp.1 ++ [_]).length = _; rw [List.length_append]; rfl
    · cases h
  · cases h
theorem s_mko_len (h : z_mko ax pc ls st hp = some C) : C.2.2.2.1.length = hp.1.length + 1 := by
  unfold z_mko at h
  split at h
  · split at h
    · cases h; show (hp.1 ++ [_]).length = _; rw [List.length_append]; rfl
    · cases h
  · cases h
theorem s_loc {i : Instr} (hb : pre.length = b) (hl : b + C.2.2.2.1.length ≤ 999) (hpo : post = [] ∨ C.2.2.2.1.length = hp.1.length) (h : z_loc sc d nL i ax pc ls st hp = some C) : z_loc sc d nL i ax pc (s_L b ls) (st.map (s_V b)) (s_h b ac pre post hp) = some (s_C b ac pre post C) := by
  have hm := (z_loc_mn h).2.2.1
  have hl0 : b + hp.1.length ≤ 999 := by omega
  have hl9 : hp.1.length ≤ 999 := by omega
  cases i
  case iconst n => exact by cases h; rfl
  case bipush n => exact by cases h; rfl
  case sipush n => exact by cases h; rfl
  case lconst n => exact by cases h; rfl
  case dconst n =>
    have h2 : (if n = 0 then some _ else none) = some C := h
    show (if n = 0 then some _ else none) = _
    split at h2
    · rename_i h0; rw [if_pos h0]; cases h2; rfl
    · cases h2
  case fconst n =>
    have h2 : (if n = 0 then some _ else if n = 1 then some _ else none) = some C := h
    show (if n = 0 then some _ else if n = 1 then some _ else none) = _
    split at h2
    · rename_i h0; rw [if_pos h0]; cases h2; rfl
    · rename_i h0
      rw [if_neg h0]
      split at h2
      · rename_i h1; rw [if_pos h1]; cases h2; rfl
      · cases h2
  case ldc n => exact s_mk h (fun _ q => s_ldc q)
  case iload_n n => exact s_mk h (fun _ q => s_ldI q)
  case iload n => exact s_mk h (fun _ q => s_ldI q)
  case aload_n n => exact s_mk h (fun _ q => s_ldA q)
  case aload n => exact s_mk h (fun _ q => s_ldA q)
  case fload n => exact s_mk h (fun _ q => s_ldF q)
  case dload n => exact s_mk h (fun _ q => s_ldD q)
  case istore_n n => exact s_sI h
  case istore n => exact s_sI h
  case astore_n n => exact s_sA h
  case astore n => exact s_sA h
  case fstore n => exact s_sF h
  case dstore n => exact s_sD h
  case iinc n q => exact s_inc h
  case iadd => exact s_mk h (fun _ q => s_i2 (fun _ _ _ e => by cases e; rfl) q)
  case isub => exact s_mk h (fun _ q => s_i2 (fun _ _ _ e => by cases e; rfl) q)
  case imul => exact s_mk h (fun _ q => s_i2 (fun _ _ _ e => by cases e; rfl) q)
  case iand => exact s_mk h (fun _ q => s_i2 (fun _ _ _ e => by cases e; rfl) q)
  case ishr => exact s_mk h (fun _ q => s_i2 (fun _ _ _ e => by cases e; rfl) q)
  case ixor => exact s_mk h (fun _ q => s_i2 (fun _ _ _ e => by cases e; rfl) q)
  case idiv => exact s_mk h (fun _ q => s_i2 (fun x y v e => by
    have e2 : (if y = 0 then none else some _) = some v := e
    split at e2 <;> cases e2; rfl) q)
  case irem => exact s_mk h (fun _ q => s_i2 (fun x y v e => by
    have e2 : (if y = 0 then none else some _) = some v := e
    split at e2 <;> cases e2; rfl) q)
  case ineg => exact s_mk h (fun _ q => s_i1 (fun _ _ e => by cases e; rfl) q)
  case i2c => exact s_mk h (fun _ q => s_i1 (fun _ _ e => by cases e; rfl) q)
  case i2l => exact s_mk h (fun _ q => s_i1 (fun _ _ e => by cases e; rfl) q)
  case i2d => exact s_mk h (fun _ q => s_i1 (fun _ _ e => by cases e; rfl) q)
  case i2f => exact s_mk h (fun _ q => s_i1 (fun _ _ e => by cases e; rfl) q)
  case f2d =>
    unfold z_loc at h
    dsimp only at h
    split at h
    · split at h
      · rename_i hc
        cases h
        exact if_pos hc
      · cases h
    · cases h
  case ddiv =>
    unfold z_loc at h
    dsimp only at h
    split at h
    · split at h
      · rename_i hc
        cases h
        exact if_pos hc
      · cases h
    · cases h
  case fdiv =>
    unfold z_loc at h
    dsimp only at h
    split at h
    · split at h
      · rename_i hc
        cases h
        exact if_pos hc
      · cases h
    · cases h
  case lcmp =>
    unfold z_loc at h
    dsimp only at h
    split at h
    · cases h; rfl
    · cases h
  case dcmp n =>
    unfold z_loc at h
    dsimp only at h
    split at h
    · cases h; rfl
    · cases h
  case fcmp n =>
    unfold z_loc at h
    dsimp only at h
    split at h
    · cases h; rfl
    · cases h
  case dup => exact s_mk h (fun _ q => s_dup q)
  case dup2 => exact s_mk h (fun _ q => s_dup2 q)
  case pop => exact s_mk h (fun _ q => s_pop q)
  case ifCond n q => exact s_ifc h
  case if_icmp n q => exact s_icm h
  case goto n =>
    have h2 : z_gto pc n (z_cut ax ls) st hp = some C := h
    show z_gto pc n (z_cut ax (s_L b ls)) (st.map (s_V b)) (s_h b ac pre post hp) = _
    rw [s_cut]
    exact s_gto h2
  case ifnull n => exact s_ifn (off := n) h
  case tableswitch a b1 c1 d1 => exact s_tsw h
  case lookupswitch a b1 => exact s_lsw h
  case getfield n => exact s_mk h (fun _ q => s_gf hb hl9 q)
  case putfield n => exact s_pf hb hl9 h
  case iaload => exact s_mk h (fun _ q => s_ald hb hl0 q)
  case caload => exact s_mk h (fun _ q => s_ald hb hl0 q)
  case baload => exact s_mk h (fun _ q => s_ald hb hl0 q)
  case iastore => exact s_ast hb hl9 h
  case castore => exact s_ast hb hl9 h
  case bastore => exact s_ast hb hl9 h
  case aaload => exact s_mk h (fun _ q => s_qald hb hl9 q)
  case aastore => exact s_qast hb hl9 h
  case arraylength => exact s_mk h (fun _ q => s_lenS hb hl0 q)
  case newarray n =>
    have h2 : z_mka ax _ ls st hp = some C := h
    have h3 := s_mka_len h2
    exact s_mka hb hl (hpo.resolve_right (by omega)) h2
  case anewarray n =>
    have h2 : z_mka ax _ ls st hp = some C := h
    have h3 := s_mka_len h2
    exact s_mka hb hl (hpo.resolve_right (by omega)) h2
  case new n =>
    have h2 : z_mko ax pc ls st hp = some C := h
    have h3 := s_mko_len h2
    exact s_mko hb hl (hpo.resolve_right (by omega)) h2
  case invokespecial n => exact s_jdk hb hl9 h
  case invokestatic n => exact s_jdk hb hl9 h
  case invokevirtual n => exact s_jdk hb hl9 h
  all_goals (cases h)
theorem s_fin {ret : Option FieldType} {i : Instr} {v : Option Value} (h : z_fin ret i st = some v) : z_fin ret i (st.map (s_V b)) = some (v.map (s_V b)) := by
  unfold z_fin at h
  split at h
  · split at h
    · split at h
      · rename_i hn
        cases h
        exact if_pos hn
      · cases h
    · cases h
  · split at h
    · cases h; rfl
    · cases h
  · split at h
    · cases h; rfl
    · cases h
  · split at h
    · cases h; rfl
    · cases h
  · split at h
    · cases h; rfl
    · cases h
  · cases h
theorem s_thr {r : z_Rec} {i : Instr} {E : Nat} {hp' : z_H} (h : z_thr r d pc i ax st hp = some (E, hp')) : z_thr r d pc i ax (st.map (s_V b)) (s_h b ac pre post hp) = some (E, s_h b ac pre post hp') := by
  obtain ⟨-, rfl, -, -, rfl, -⟩ := z_thr_eq h
  unfold z_thr at h ⊢
  split at h
  · rename_i e0
    generalize hb : (Nat.ble 100 e0 && (Nat.blt e0 106 && (Nat.beq r.1 9 && (r.2.2.2.2.2.2.1.isEmpty && (([] : List Value).isEmpty && (Nat.ble 6 d && (decide (i = .new (z_xl (e0 - 100)).1) && (z_isI r.2.2.2.2.2.2.2.2 (pc + 3) .dup 1 && (z_isI r.2.2.2.2.2.2.2.2 (pc + 4) (.invokespecial (z_xl (e0 - 100)).2) 3 && z_isI r.2.2.2.2.2.2.2.2 (pc + 7) .athrow 1))))))))) = bb at h
    show (bif (Nat.ble 100 e0 && (Nat.blt e0 106 && (Nat.beq r.1 9 && (r.2.2.2.2.2.2.1.isEmpty && (([] : List Value).isEmpty && (Nat.ble 6 d && (decide (i = .new (z_xl (e0 - 100)).1) && (z_isI r.2.2.2.2.2.2.2.2 (pc + 3) .dup 1 && (z_isI r.2.2.2.2.2.2.2.2 (pc + 4) (.invokespecial (z_xl (e0 - 100)).2) 3 && z_isI r.2.2.2.2.2.2.2.2 (pc + 7) .athrow 1))))))))) then some (e0 - 100, ((s_h b ac pre post hp).1, (s_h b ac pre post hp).2.1 + 1, (s_h b ac pre post hp).2.2 + 6)) else none) = _
    rw [hb]
    cases bb with
    | false => cases h
    | true =>
      cases h
      show some (e0 - 100, (pre ++ (hp.1.map (s_E b) ++ post), hp.2.1 + ac.1 + 1, hp.2.2 + ac.2 + 6)) = some (e0 - 100, (pre ++ (hp.1.map (s_E b) ++ post), hp.2.1 + 1 + ac.1, hp.2.2 + 6 + ac.2))
      rw [Nat.add_right_comm hp.2.1, Nat.add_right_comm hp.2.2]
  · cases h
theorem s_args {kd n : Nat} {as rr : List Value} (h : z_args kd n st = some (as, rr)) : z_args kd n (st.map (s_V b)) = some (as.map (s_V b), rr.map (s_V b)) := by
  obtain ⟨hn, hcase⟩ := z_args_eq h
  have ht : ((st.map (s_V b)).take n).reverse = (st.take n).reverse.map (s_V b) := by rw [List.map_reverse, List.map_take]
  have hdr : (st.map (s_V b)).drop n = (st.drop n).map (s_V b) := List.map_drop.symm
  unfold z_args
  rw [List.length_map, Nat.ble_eq_true_of_le hn, ht, hdr]
  dsimp only [cond_true]
  rcases hcase with ⟨hk, bb, rfl, hd⟩ | ⟨hk, rfl, rfl⟩
  · rw [hd]
    rcases hk with rfl | rfl | rfl <;> rfl
  · split
    · exact absurd (Or.inl rfl) hk
    · exact absurd (Or.inr (Or.inl rfl)) hk
    · exact absurd (Or.inr (Or.inr rfl)) hk
    · rfl
theorem s_rcv {kd c : Nat} {as : List Value} (hb : pre.length = b) (hl : hp.1.length ≤ 999) (h : z_rcv kd c as hp = true) : z_rcv kd c (as.map (s_V b)) (s_h b ac pre post hp) = true := by
  unfold z_rcv at h ⊢
  split at h
  · split at h
    · rename_i a r
      split at h
      · rename_i c' fs hc
        show (match (s_h b ac pre post hp).1[s_r b a]? with
          | some (.inr (c', _)) => Nat.beq c' c
          | _ => false) = true
        rw [s_at hb hl hc]
        exact h
      · cases h
    · cases h
  · rfl
end
theorem s_lvargs {b : Nat} {as : List Value} : lv_args 0 (as.map (s_V b)) = s_L b (lv_args 0 as) := z_lvargs _ _ _
theorem s_lgsl {b : Nat} {as : List Value} : (lg_sl (as.map (s_V b))).length = (lg_sl as).length := z_lgsl _ _
/-- A RUN STAYS A RUN behind other rows and ahead of others; rows are made at the end alone -/
theorem s_ex {sc : Nat × (Nat → Int32)} : ∀ (f d k pc : Nat) (ls : z_Ls) (st : List Value) (hp : z_H) (res : z_R) (hp' : z_H), z_ex sc f d k pc ls st hp = some (res, hp') → hp.1.length ≤ hp'.1.length ∧ ∀ (b : Nat) (ac : Nat × Nat) (pre post : List va_E), pre.length = b → b + hp'.1.length ≤ 999 → (post = [] ∨ hp'.1.length = hp.1.length) → z_ex sc f d k pc (s_L b ls) (st.map (s_V b)) (s_h b ac pre post hp) = some (s_R b res, s_h b ac pre post hp') := by
  intro f
  induction f with
  | zero => intro d k pc ls st hp res hp' h; cases h
  | succ f ih =>
    intro d k pc ls st hp res hp' h
    unfold z_ex at h
    split at h
    · cases h
    rename_i r hr
    split at h
    · cases h
    rename_i i len ax hfd
    cases hlk : z_lok i len with
    | false => rw [hlk] at h; cases h
    | true =>
    rw [hlk] at h
    dsimp only [cond_true] at h
    split at h
    · rename_i hk
      split at h
      · rename_i C hC
        obtain ⟨m1, W1⟩ := ih _ _ _ _ _ _ _ _ h
        have hm := (z_loc_mn hC).2.2.1
        refine ⟨Nat.le_trans hm m1, fun b ac pre post hb hl hpo => ?_⟩
        conv => lhs; unfold z_ex
        rw [hr]
        dsimp only
        rw [hfd]
        dsimp only
        rw [hlk]
        dsimp only [cond_true]
        rw [hk]
        rw [s_loc hb (by omega) (hpo.imp_right (fun q => by omega)) hC]
        exact W1 b ac pre post hb hl (hpo.imp_right (fun q => by omega))
      · cases h
    · rename_i hk
      split at h
      · rename_i v hv
        cases h
        refine ⟨Nat.le_refl _, fun b ac pre post hb hl hpo => ?_⟩
        conv => lhs; unfold z_ex
        rw [hr]
        dsimp only
        rw [hfd]
        dsimp only
        rw [hlk]
        dsimp only [cond_true]
        rw [hk]
        rw [s_fin hv]
        rfl
      · cases h
    · rename_i hk
      split at h
      · rename_i x hx
        cases h
        obtain ⟨E, hp2⟩ := x
        obtain ⟨-, e2, -⟩ := z_thr_eq hx
        refine ⟨by rw [e2]; exact Nat.le_refl _, fun b ac pre post hb hl hpo => ?_⟩
        conv => lhs; unfold z_ex
        rw [hr]
        dsimp only
        rw [hfd]
        dsimp only
        rw [hlk]
        dsimp only [cond_true]
        rw [hk]
        rw [s_thr hx]
        rfl
      · cases h
    · rename_i hk0 hk1 hk2
      split at h
      · rename_i kd k2 n tl
        split at h
        · rename_i r2 as rr hr2 ha
          cases hc : (Nat.ble 1 d && (Nat.ble (lg_sl as).length r2.2.2.2.2.1 && (Nat.ble r2.2.2.2.2.1 20 && (Nat.ble (z_cat rr) 8 && (z_rcv kd r2.1 as hp && (Nat.beq kd 5 || r2.2.2.2.2.2.2.1.isEmpty)))))) with
          | false => rw [hc] at h; cases h
          | true =>
            rw [hc] at h
            dsimp only [cond_true] at h
            have hcs : ∀ (b : Nat) (ac : Nat × Nat) (pre post : List va_E), pre.length = b → hp.1.length ≤ 999 → (Nat.ble 1 d && (Nat.ble (lg_sl (as.map (s_V b))).length r2.2.2.2.2.1 && (Nat.ble r2.2.2.2.2.1 20 && (Nat.ble (z_cat (rr.map (s_V b))) 8 && (z_rcv kd r2.1 (as.map (s_V b)) (s_h b ac pre post hp) && (Nat.beq kd 5 || r2.2.2.2.2.2.2.1.isEmpty)))))) = true := fun b ac pre post hb hl => by
              simp only [Bool.and_eq_true] at hc
              obtain ⟨c1, c2, c3, c4, c5, c6⟩ := hc
              rw [s_lgsl, s_cat, c1, c2, c3, c4, s_rcv hb hl c5, c6]
              rfl
            split at h
            · rename_i v hp1 hcal
              cases hck : z_cok hp hp1 ls rr v with
              | false => rw [hck] at h; cases h
              | true =>
                rw [hck] at h
                dsimp only [cond_true] at h
                obtain ⟨m1, W1⟩ := ih _ _ _ _ _ _ _ _ hcal
                obtain ⟨m2, W2⟩ := ih _ _ _ _ _ _ _ _ h
                refine ⟨Nat.le_trans m1 m2, fun b ac pre post hb hl hpo => ?_⟩
                have hw := W1 b ac pre post hb (by omega) (hpo.imp_right (fun q => by omega))
                rw [← s_lvargs] at hw
                conv => lhs; unfold z_ex
                rw [hr]
                dsimp only
                rw [hfd]
                dsimp only
                rw [hlk]
                dsimp only [cond_true]
                split
                · rename_i q; exact absurd q hk0
                · rename_i q; exact absurd q hk1
                · rename_i q; exact absurd q hk2
                simp only [hr2, s_args ha, hcs b ac pre post hb (by omega), cond_true]
                rw [show (([] : List Value).map (s_V b)) = [] from rfl] at hw
                rw [hw]
                show (bif z_cok (s_h b ac pre post hp) (s_h b ac pre post hp1) (s_L b ls) (rr.map (s_V b)) (v.map (s_V b)) then _ else none) = _
                rw [s_cok hb (by omega) hck]
                have h2 := W2 b ac pre post hb hl (hpo.imp_right (fun q => by omega))
                rw [show (v.toList ++ rr).map (s_V b) = (v.map (s_V b)).toList ++ rr.map (s_V b) by rw [List.map_append]; cases v <;> rfl] at h2
                exact h2
            · rename_i E hp1 hcal
              obtain ⟨m1, W1⟩ := ih _ _ _ _ _ _ _ _ hcal
              cases hkd : Nat.ble kd 1 with
              | false => rw [hkd] at h; cases h
              | true =>
                rw [hkd] at h
                dsimp only [cond_true] at h
                split at h
                · rename_i hhd
                  cases h
                  refine ⟨m1, fun b ac pre post hb hl hpo => ?_⟩
                  have hw := W1 b ac pre post hb hl hpo
                  rw [← s_lvargs] at hw
                  conv => lhs; unfold z_ex
                  rw [hr]
                  dsimp only
                  rw [hfd]
                  dsimp only
                  rw [hlk]
                  dsimp only [cond_true]
                  split
                  · rename_i q; exact absurd q hk0
                  · rename_i q; exact absurd q hk1
                  · rename_i q; exact absurd q hk2
                  simp only [hr2, s_args ha, hcs b ac pre post hb (by omega), cond_true]
                  rw [show (([] : List Value).map (s_V b)) = [] from rfl] at hw
                  rw [hw]
                  show (bif Nat.ble kd 1 then _ else none) = _
                  rw [hkd]
                  dsimp only [cond_true]
                  rw [hhd]
                  rfl
                · rename_i h0 hhd
                  split at h
                  · rename_i j mm ax2 hf2
                    split at h
                    · rename_i x hx
                      cases hbx : (z_lok j mm && (Nat.blt x r.2.2.2.2.1 && z_cok hp hp1 (z_rm ls x) [] none)) with
                      | false => rw [hbx] at h; cases h
                      | true =>
                        rw [hbx] at h
                        dsimp only [cond_true] at h
                        obtain ⟨m2, W2⟩ := ih _ _ _ _ _ _ _ _ h
                        refine ⟨Nat.le_trans m1 m2, fun b ac pre post hb hl hpo => ?_⟩
                        have hw := W1 b ac pre post hb (by omega) (hpo.imp_right (fun q => by omega))
                        rw [← s_lvargs] at hw
                        conv => lhs; unfold z_ex
                        rw [hr]
                        dsimp only
                        rw [hfd]
                        dsimp only
                        rw [hlk]
                        dsimp only [cond_true]
                        split
                        · rename_i q; exact absurd q hk0
                        · rename_i q; exact absurd q hk1
                        · rename_i q; exact absurd q hk2
                        simp only [hr2, s_args ha, hcs b ac pre post hb (by omega), cond_true]
                        rw [show (([] : List Value).map (s_V b)) = [] from rfl] at hw
                        rw [hw]
                        show (bif Nat.ble kd 1 then _ else none) = _
                        rw [hkd]
                        dsimp only [cond_true]
                        rw [hhd]
                        dsimp only
                        rw [hf2]
                        dsimp only
                        rw [hx]
                        simp only [Bool.and_eq_true] at hbx
                        obtain ⟨x1, x2, x3⟩ := hbx
                        have x4 := s_cok (b := b) (ac := ac) (pre := pre) (post := post) (hp := hp) hb (by omega) x3
                        dsimp only
                        rw [s_rm, x1, x2, show z_cok (s_h b ac pre post hp) (s_h b ac pre post hp1) (z_L (s_r b) (z_rm ls x)) [] none = true from x4]
                        exact W2 b ac pre post hb hl (hpo.imp_right (fun q => by omega))
                    · cases h
                  · cases h
                · cases h
            · cases h
        · cases h
      · cases h
end ZSH2
