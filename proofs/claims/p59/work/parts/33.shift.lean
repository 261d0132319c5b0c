/-! A run of the interpreter stays a run where its rows stand behind other rows, and others behind them. -/
section ZSHF
def s_r (b a : Nat) : Nat := if a < 1000 then a + b else a
abbrev s_V (b : Nat) : Value → Value := z_V (s_r b)
abbrev s_E (b : Nat) : va_E → va_E := z_E (s_r b) id
abbrev s_L (b : Nat) : z_Ls → z_Ls := z_L (s_r b)
def s_h (b : Nat) (pre post : List va_E) (hp : z_H) : z_H := (pre ++ (hp.1.map (s_E b) ++ post), hp.2)
def s_C (b : Nat) (pre post : List va_E) (C : z_C) : z_C := (C.1, s_L b C.2.1, C.2.2.1.map (s_V b), s_h b pre post C.2.2.2)
def s_R (b : Nat) : z_R → z_R
  | .inl v => .inl (v.map (s_V b))
  | .inr E => .inr E
theorem s_get {ad : Nat → Nat} {i : Nat} : ∀ {ls : z_Ls}, z_get (z_L ad ls) i = (z_get ls i).map (z_V ad) := by
  intro ls
  induction ls with
  | nil => rfl
  | cons q l ih =>
    show z_get ((q.1, z_V ad q.2) :: z_L ad l) i = _
    unfold z_get
    cases Nat.beq q.1 i with
    | true => rfl
    | false => exact ih
theorem s_ins {ad : Nat → Nat} {i : Nat} {v : Value} : ∀ {l : z_Ls}, z_ins (i, z_V ad v) (z_L ad l) = z_L ad (z_ins (i, v) l) := by
  intro l
  induction l with
  | nil => rfl
  | cons q l ih =>
    show z_ins (i, z_V ad v) ((q.1, z_V ad q.2) :: z_L ad l) = z_L ad (z_ins (i, v) (q :: l))
    unfold z_ins
    cases Nat.ble i q.1 with
    | true => rfl
    | false =>
      show (q.1, z_V ad q.2) :: z_ins (i, z_V ad v) (z_L ad l) = (q.1, z_V ad q.2) :: z_L ad (z_ins (i, v) l)
      rw [ih]
theorem s_st1 {ad : Nat → Nat} {i : Nat} {v : Value} {ls : z_Ls} : z_st1 (z_L ad ls) i (z_V ad v) = z_L ad (z_st1 ls i v) := by
  unfold z_st1
  rw [z_L_filter _ _ _ (fun q => by simp only [z_V_cat]), s_ins]
theorem s_st2 {ad : Nat → Nat} {i : Nat} {v : Value} {ls : z_Ls} : z_st2 (z_L ad ls) i (z_V ad v) = z_L ad (z_st2 ls i v) := by
  unfold z_st2
  rw [z_L_filter _ _ _ (fun q => by simp only [z_V_cat]), s_ins]
theorem s_rm {ad : Nat → Nat} {i : Nat} {ls : z_Ls} : z_rm (z_L ad ls) i = z_L ad (z_rm ls i) := by
  unfold z_rm
  rw [z_L_filter _ _ _ (fun q => by simp only [z_V_cat])]
theorem s_cut {ad : Nat → Nat} {ax : List Nat} {ls : z_Ls} : z_cut ax (z_L ad ls) = z_L ad (z_cut ax ls) := by
  unfold z_cut
  split
  · exact z_L_filter _ _ _ (fun _ => rfl)
  · rfl
theorem s_cat {ad : Nat → Nat} {st : List Value} : z_cat (st.map (z_V ad)) = z_cat st := z_cat_map ad st
section
variable {b : Nat} {pre post : List va_E} {hp : z_H}
theorem s_len : (s_h b pre post hp).1.length = pre.length + (hp.1.length + post.length) := by
  unfold s_h; simp only [List.length_append, List.length_map]
theorem s_at (hb : pre.length = b) (hl : hp.1.length ≤ 999) {a : Nat} {e : va_E} (h : hp.1[a]? = some e) : (s_h b pre post hp).1[s_r b a]? = some (s_E b e) := by
  have ha := (List.getElem?_eq_some_iff.mp h).1
  have h1 : s_r b a = b + a := by unfold s_r; rw [if_pos (by omega)]; omega
  unfold s_h
  dsimp only
  rw [h1, List.getElem?_append_right (by omega), show b + a - pre.length = a by omega, List.getElem?_append_left (by rw [List.length_map]; exact ha), List.getElem?_map, h]
  rfl
theorem s_set (hb : pre.length = b) (hl : hp.1.length ≤ 999) {a : Nat} {e : va_E} (ha : a < hp.1.length) : s_h b pre post (hp.1.set a e, hp.2) = ((s_h b pre post hp).1.set (s_r b a) (s_E b e), hp.2) := by
  have h1 : s_r b a = b + a := by unfold s_r; rw [if_pos (by omega)]; omega
  unfold s_h
  dsimp only
  rw [h1, List.set_append_right _ _ (by omega), show b + a - pre.length = a by omega, List.set_append_left _ _ (by rw [List.length_map]; exact ha), List.map_set]
theorem s_hg {sc : Nat × (Nat → Int32)} (hb : pre.length = b) (hl : b + hp.1.length ≤ 999) {a : Nat} {e : va_E} (h : z_hg sc hp a = some e) : z_hg sc (s_h b pre post hp) (s_r b a) = some (s_E b e) := by
  unfold z_hg at h ⊢
  cases hq : Nat.beq a 2000 with
  | true =>
    rw [hq] at h
    have h2 := Nat.eq_of_beq_eq_true hq
    subst h2
    cases h
    rfl
  | false =>
    rw [hq] at h
    have h3 : hp.1[a]? = some e := h
    have ha := (List.getElem?_eq_some_iff.mp h3).1
    have h1 : s_r b a = b + a := by unfold s_r; rw [if_pos (by omega)]; omega
    have h4 : Nat.beq (s_r b a) 2000 = false := by
      cases hx : Nat.beq (s_r b a) 2000 with
      | false => rfl
      | true =>
        have := Nat.eq_of_beq_eq_true hx
        omega
    rw [h4]
    exact s_at hb (by omega) h3
theorem s_vwf {n m : Nat} (hn : n ≤ 999) (hm : b + n ≤ m) {v : Value} (h : z_vwf n v = true) : z_vwf m (s_V b v) = true := by
  cases v <;> first | rfl | skip
  rename_i k
  have h1 := z_vwf_k h
  show (Nat.blt (s_r b k) m || Nat.ble 1000 (s_r b k)) = true
  rw [Bool.or_eq_true]
  unfold s_r
  by_cases hk : k < 1000
  · rw [if_pos hk]
    have : k < n := by omega
    exact Or.inl (Nat.ble_eq_true_of_le (by show k + b + 1 ≤ m; omega))
  · rw [if_neg hk]
    exact Or.inr (Nat.ble_eq_true_of_le (by omega))
theorem s_wfb {n m : Nat} (hn : n ≤ 999) (hm : b + n ≤ m) {ls : z_Ls} {st : List Value} (h : z_wfb n ls st = true) : z_wfb m (s_L b ls) (st.map (s_V b)) = true := by
  unfold z_wfb at h ⊢
  rw [Bool.and_eq_true] at h ⊢
  refine ⟨List.all_eq_true.mpr (fun q hq => ?_), List.all_eq_true.mpr (fun v hv => ?_)⟩
  · obtain ⟨x, hx, rfl⟩ := List.mem_map.mp hq
    exact s_vwf hn hm (List.all_eq_true.mp h.1 x hx)
  · obtain ⟨x, hx, rfl⟩ := List.mem_map.mp hv
    exact s_vwf hn hm (List.all_eq_true.mp h.2 x hx)
theorem s_cok {hp' : z_H} (hb : pre.length = b) (hl : hp.1.length ≤ 999) {ls : z_Ls} {rr : List Value} {v : Option Value} (h : z_cok hp hp' ls rr v = true) : z_cok (s_h b pre post hp) (s_h b pre post hp') (s_L b ls) (rr.map (s_V b)) (v.map (s_V b)) = true := by
  unfold z_cok at h ⊢
  rw [Bool.or_eq_true, Bool.and_eq_true] at h ⊢
  rcases h with ⟨h1, h2⟩ | h1
  · refine Or.inl ⟨?_, ?_⟩
    · rw [s_len, s_len, Nat.eq_of_beq_eq_true h1]; exact Nat.beq_refl _
    · cases v with
      | none => rfl
      | some w => cases w <;> first | rfl | cases h2
  · exact Or.inr (s_wfb hl (by rw [s_len]; omega) h1)
end
/-! The steps. -/
section
variable {b : Nat} {pre post : List va_E} {hp : z_H} {sc : Nat × (Nat → Int32)} {d nL pc : Nat} {ax : List Nat} {ls : z_Ls} {st st' : List Value} {C : z_C}
theorem s_mk {pc' : Nat} {o o' : Option (List Value)} (h : z_mk pc' ls hp o = some C) (ho : ∀ st', o = some st' → o' = some (st'.map (s_V b))) : z_mk pc' (s_L b ls) (s_h b pre post hp) o' = some (s_C b pre post C) := by
  obtain ⟨st', h1, rfl⟩ := z_mk_eq h
  rw [ho st' h1]
  rfl
theorem s_i1 {f : Int32 → Option Value} (hf : ∀ x v, f x = some v → s_V b v = v) (h : z_i1 f st = some st') : z_i1 f (st.map (s_V b)) = some (st'.map (s_V b)) := by
  unfold z_i1 at h
  split at h
  · split at h
    · rename_i x r v hv
      cases h
      show z_i1 f (.int x :: r.map (s_V b)) = some (s_V b v :: r.map (s_V b))
      unfold z_i1
      dsimp only
      rw [hv, hf x v hv]
    · cases h
  · cases h
theorem s_i2 {f : Int32 → Int32 → Option Value} (hf : ∀ x y v, f x y = some v → s_V b v = v) (h : z_i2 f st = some st') : z_i2 f (st.map (s_V b)) = some (st'.map (s_V b)) := by
  unfold z_i2 at h
  split at h
  · split at h
    · rename_i y x r v hv
      cases h
      show z_i2 f (.int y :: .int x :: r.map (s_V b)) = some (s_V b v :: r.map (s_V b))
      unfold z_i2
      dsimp only
      rw [hv, hf x y v hv]
    · cases h
  · cases h
theorem s_ldI {i : Nat} (h : z_ldI ls i st = some st') : z_ldI (s_L b ls) i (st.map (s_V b)) = some (st'.map (s_V b)) := by
  obtain ⟨x, h1, rfl⟩ := z_ldI_eq h
  unfold z_ldI
  rw [s_get, h1]
  rfl
theorem s_ldA {i : Nat} (h : z_ldA ls i st = some st') : z_ldA (s_L b ls) i (st.map (s_V b)) = some (st'.map (s_V b)) := by
  obtain ⟨x, h1, rfl⟩ := z_ldA_eq h
  unfold z_ldA
  rw [s_get, h1]
  rfl
theorem s_ldF {i : Nat} (h : z_ldF ls i st = some st') : z_ldF (s_L b ls) i (st.map (s_V b)) = some (st'.map (s_V b)) := by
  obtain ⟨x, h1, rfl⟩ := z_ldF_eq h
  unfold z_ldF
  rw [s_get, h1]
  rfl
theorem s_ldD {i : Nat} (h : z_ldD ls i st = some st') : z_ldD (s_L b ls) i (st.map (s_V b)) = some (st'.map (s_V b)) := by
  obtain ⟨x, h1, rfl⟩ := z_ldD_eq h
  unfold z_ldD
  rw [s_get, h1]
  rfl
theorem s_sI {pc' i : Nat} (h : z_sI nL pc' ls i st hp = some C) : z_sI nL pc' (s_L b ls) i (st.map (s_V b)) (s_h b pre post hp) = some (s_C b pre post C) := by
  obtain ⟨x, rr, rfl, h1, rfl⟩ := z_sI_eq h
  show z_sI nL pc' (s_L b ls) i (.int x :: rr.map (s_V b)) (s_h b pre post hp) = _
  unfold z_sI
  dsimp only
  rw [if_pos h1]
  show some (pc', z_st1 (s_L b ls) i (s_V b (.int x)), _, _) = some (pc', s_L b (z_st1 ls i (.int x)), _, _)
  rw [s_st1]
theorem s_sA {pc' i : Nat} (h : z_sA nL pc' ls i st hp = some C) : z_sA nL pc' (s_L b ls) i (st.map (s_V b)) (s_h b pre post hp) = some (s_C b pre post C) := by
  obtain ⟨x, rr, rfl, h1, rfl⟩ := z_sA_eq h
  show z_sA nL pc' (s_L b ls) i (.ref (s_r b x) :: rr.map (s_V b)) (s_h b pre post hp) = _
  unfold z_sA
  dsimp only
  rw [if_pos h1]
  show some (pc', z_st1 (s_L b ls) i (s_V b (.ref x)), _, _) = some (pc', s_L b (z_st1 ls i (.ref x)), _, _)
  rw [s_st1]
theorem s_sF {pc' i : Nat} (h : z_sF nL pc' ls i st hp = some C) : z_sF nL pc' (s_L b ls) i (st.map (s_V b)) (s_h b pre post hp) = some (s_C b pre post C) := by
  obtain ⟨x, rr, rfl, h1, rfl⟩ := z_sF_eq h
  show z_sF nL pc' (s_L b ls) i (.float x :: rr.map (s_V b)) (s_h b pre post hp) = _
  unfold z_sF
  dsimp only
  rw [if_pos h1]
  show some (pc', z_st1 (s_L b ls) i (s_V b (.float x)), _, _) = some (pc', s_L b (z_st1 ls i (.float x)), _, _)
  rw [s_st1]
theorem s_sD {pc' i : Nat} (h : z_sD nL pc' ls i st hp = some C) : z_sD nL pc' (s_L b ls) i (st.map (s_V b)) (s_h b pre post hp) = some (s_C b pre post C) := by
  obtain ⟨x, rr, rfl, h1, rfl⟩ := z_sD_eq h
  show z_sD nL pc' (s_L b ls) i (.double x :: rr.map (s_V b)) (s_h b pre post hp) = _
  unfold z_sD
  dsimp only
  rw [if_pos h1]
  show some (pc', z_st2 (s_L b ls) i (s_V b (.double x)), _, _) = some (pc', s_L b (z_st2 ls i (.double x)), _, _)
  rw [s_st2]
theorem s_inc {pc' i : Nat} {n : Int} (h : z_inc nL pc' ls i n st hp = some C) : z_inc nL pc' (s_L b ls) i n (st.map (s_V b)) (s_h b pre post hp) = some (s_C b pre post C) := by
  unfold z_inc at h ⊢
  rw [s_get]
  split at h
  · rename_i x hx
    rw [hx]
    split at h
    · rename_i h1
      cases h
      show (if i < nL then some (pc', z_st1 (s_L b ls) i (.int (x + Int32.ofInt n)), st.map (s_V b), s_h b pre post hp) else none) = _
      rw [if_pos h1]
      show some (pc', z_st1 (s_L b ls) i (s_V b (.int (x + Int32.ofInt n))), _, _) = some (pc', s_L b (z_st1 ls i (.int (x + Int32.ofInt n))), _, _)
      rw [s_st1]
    · cases h
  · cases h
theorem s_dup (h : z_dup st = some st') : z_dup (st.map (s_V b)) = some (st'.map (s_V b)) := by
  unfold z_dup at h
  split at h
  · split at h
    · rename_i v r h1
      cases h
      show z_dup (s_V b v :: r.map (s_V b)) = _
      unfold z_dup
      dsimp only
      rw [if_pos (by rw [z_V_cat]; exact h1)]
      rfl
    · cases h
  · cases h
theorem s_dup2 (h : z_dup2 st = some st') : z_dup2 (st.map (s_V b)) = some (st'.map (s_V b)) := by
  unfold z_dup2 at h
  split at h
  · split at h
    · rename_i v w r h1
      cases h
      show z_dup2 (s_V b v :: s_V b w :: r.map (s_V b)) = _
      unfold z_dup2
      dsimp only
      rw [if_pos (by rw [z_V_cat, z_V_cat]; exact h1)]
      rfl
    · cases h
  · cases h
theorem s_pop (h : z_pop st = some st') : z_pop (st.map (s_V b)) = some (st'.map (s_V b)) := by
  unfold z_pop at h
  split at h
  · split at h
    · rename_i v r h1
      cases h
      show z_pop (s_V b v :: r.map (s_V b)) = _
      unfold z_pop
      dsimp only
      rw [if_pos (by rw [z_V_cat]; exact h1)]
    · cases h
  · cases h
theorem s_gto {off : Int} (h : z_gto pc off ls st hp = some C) : z_gto pc off (s_L b ls) (st.map (s_V b)) (s_h b pre post hp) = some (s_C b pre post C) := by
  unfold z_gto at h ⊢
  split at h
  · rename_i t ht
    cases h
    rw [ht]
    rfl
  · cases h
theorem s_ifc {c : ClassFile.Cond} {off : Int} (h : z_ifc c pc off ls st hp = some C) : z_ifc c pc off (s_L b ls) (st.map (s_V b)) (s_h b pre post hp) = some (s_C b pre post C) := by
  unfold z_ifc at h
  split at h
  · rename_i x r
    split at h
    · rename_i t ht
      show z_ifc c pc off (s_L b ls) (.int x :: r.map (s_V b)) (s_h b pre post hp) = _
      unfold z_ifc
      dsimp only
      rw [ht]
      cases hq : z_cmp0 c x <;> rw [hq] at h <;> cases h <;> rfl
    · cases h
  · cases h
theorem s_icm {c : ClassFile.Cond} {off : Int} (h : z_icm c pc off ls st hp = some C) : z_icm c pc off (s_L b ls) (st.map (s_V b)) (s_h b pre post hp) = some (s_C b pre post C) := by
  unfold z_icm at h
  split at h
  · rename_i y x r
    split at h
    · rename_i t ht
      show z_icm c pc off (s_L b ls) (.int y :: .int x :: r.map (s_V b)) (s_h b pre post hp) = _
      unfold z_icm
      dsimp only
      rw [ht]
      cases hq : z_cmp2 c x y <;> rw [hq] at h <;> cases h <;> rfl
    · cases h
  · cases h
theorem s_ifn {off : Int} (h : z_ifn pc off ls st hp = some C) : z_ifn pc off (s_L b ls) (st.map (s_V b)) (s_h b pre post hp) = some (s_C b pre post C) := by
  unfold z_ifn at h
  split at h
  · cases h; rfl
  · cases h
theorem s_tsw {dflt lo hi : Int} {offs : Array Int} (h : z_tsw pc dflt lo hi offs ls st hp = some C) : z_tsw pc dflt lo hi offs (s_L b ls) (st.map (s_V b)) (s_h b pre post hp) = some (s_C b pre post C) := by
  unfold z_tsw at h
  split at h
  · rename_i x r
    show z_tsw pc dflt lo hi offs (s_L b ls) (.int x :: r.map (s_V b)) (s_h b pre post hp) = _
    unfold z_tsw
    dsimp only
    split at h
    · rename_i hc
      rw [if_pos hc]
      exact s_gto h
    · rename_i hc
      rw [if_neg hc]
      split at h
      · rename_i off ho
        rw [ho]
        exact s_gto h
      · cases h
  · cases h
theorem s_lsw {dflt : Int} {ps : Array (Int × Int)} (h : z_lsw pc dflt ps ls st hp = some C) : z_lsw pc dflt ps (s_L b ls) (st.map (s_V b)) (s_h b pre post hp) = some (s_C b pre post C) := by
  unfold z_lsw at h
  split at h
  · rename_i x r
    show z_lsw pc dflt ps (s_L b ls) (.int x :: r.map (s_V b)) (s_h b pre post hp) = _
    unfold z_lsw
    dsimp only
    cases hq : (ps.toList.zip (ps.toList.drop 1)).all (fun (a, next) => a.1 < next.1) with
    | false => rw [hq] at h; cases h
    | true =>
      rw [hq] at h
      exact s_gto h
  · cases h
theorem s_ldc (h : z_ldc ax st = some st') : z_ldc ax (st.map (s_V b)) = some (st'.map (s_V b)) := by
  unfold z_ldc at h
  split at h
  · cases h; rfl
  · rename_i j
    cases h
    show some (Value.ref (1000 + j) :: _) = some (Value.ref (s_r b (1000 + j)) :: _)
    unfold s_r
    rw [if_neg (by omega)]
  · cases h
theorem s_gf (hb : pre.length = b) (hl : hp.1.length ≤ 999) (h : z_gf ax st hp = some st') : z_gf ax (st.map (s_V b)) (s_h b pre post hp) = some (st'.map (s_V b)) := by
  unfold z_gf at h
  split at h
  · rename_i ci j tl a r
    split at h
    · rename_i c fs hc
      split at h
      · rename_i hcc
        split at h
        · rename_i v hv
          cases h
          show z_gf (ci :: j :: tl) (.ref (s_r b a) :: r.map (s_V b)) (s_h b pre post hp) = _
          unfold z_gf
          dsimp only
          rw [s_at hb hl hc]
          show (if c = ci then match (fs.map (s_V b))[j]? with
            | some v => some (v :: r.map (s_V b))
            | none => none
            else none) = _
          rw [if_pos hcc, List.getElem?_map, hv]
          rfl
        · cases h
      · cases h
    · cases h
  · cases h
theorem s_pf (hb : pre.length = b) (hl : hp.1.length ≤ 999) (h : z_pf ax pc ls st hp = some C) : z_pf ax pc (s_L b ls) (st.map (s_V b)) (s_h b pre post hp) = some (s_C b pre post C) := by
  unfold z_pf at h
  split at h
  · rename_i ci j tl v a r
    split at h
    · rename_i c fs hc
      split at h
      · rename_i hcc
        obtain ⟨h1, h2, h3, h4, h5⟩ := hcc
        cases h
        show z_pf (ci :: j :: tl) pc (s_L b ls) (s_V b v :: .ref (s_r b a) :: r.map (s_V b)) (s_h b pre post hp) = _
        unfold z_pf
        dsimp only
        rw [s_at hb hl hc]
        show (if c = ci ∧ j < (fs.map (s_V b)).length ∧ narrow (z_ty ci j) (s_V b v) = s_V b v ∧ fits (z_ty ci j) (s_V b v) = true ∧ z_vwf (s_h b pre post hp).1.length (s_V b v) = true then some (pc + 3, s_L b ls, r.map (s_V b), ((s_h b pre post hp).1.set (s_r b a) (.inr (c, (fs.map (s_V b)).set j (s_V b v))), (s_h b pre post hp).2)) else none) = _
        rw [if_pos ⟨h1, by rw [List.length_map]; exact h2, z_narrow_V h3, z_fits_V h4, s_vwf hl (by rw [s_len]; omega) h5⟩]
        show _ = some (pc + 3, s_L b ls, r.map (s_V b), s_h b pre post (hp.1.set a (.inr (c, fs.set j v)), hp.2))
        rw [s_set hb hl (List.getElem?_eq_some_iff.mp hc).1]
        have hset : s_E b (.inr (c, fs.set j v)) = .inr (c, (fs.map (s_V b)).set j (s_V b v)) := by
          show Sum.inr (c, (fs.set j v).map (s_V b)) = _
          rw [List.map_set]
        rw [hset]
        rfl
      · cases h
    · cases h
  · cases h
end
end ZSHF
