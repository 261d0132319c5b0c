/-! A run of the interpreter stays a run where its rows stand behind other rows, and others behind them. -/
section ZSHF
def s_r (b a : Nat) : Nat := if a < 1000 then a + b else a
abbrev s_V (b : Nat) : Value → Value := z_V (s_r b)
abbrev s_E (b : Nat) : va_E → va_E := z_E (s_r b) id
abbrev s_L (b : Nat) : z_Ls → z_Ls := z_L (s_r b)
def s_h (b : Nat) (ac : Nat × Nat) (pre post : List va_E) (hp : z_H) : z_H := (pre ++ (hp.1.map (s_E b) ++ post), hp.2.1 + ac.1, hp.2.2 + ac.2)
def s_C (b : Nat) (ac : Nat × Nat) (pre post : List va_E) (C : z_C) : z_C := (C.1, s_L b C.2.1, C.2.2.1.map (s_V b), s_h b ac pre post C.2.2.2)
def s_R (b : Nat) : z_R → z_R
  | .inl v => .inl (v.map (s_V b))
  | .inr E => .inr E
theorem s_get {ad : Nat → Nat} {i : Nat} : ∀ {ls : z_Ls}, z_get (z_L ad ls) i = (z_get ls i).map (z_V ad) := by
  intro ls
  induction ls with
  | nil => rfl
  | cons q l ih =>
    show z_get ((q.1, z_V ad q.2) :: z_L ad l) i = _
    unfold z_get
    cases Nat.beq q.1 i with
    | true => rfl
    | false => exact ih
theorem s_ins {ad : Nat → Nat} {i : Nat} {v : Value} : ∀ {l : z_Ls}, z_ins (i, z_V ad v) (z_L ad l) = z_L ad (z_ins (i, v) l) := by
  intro l
  induction l with
  | nil => rfl
  | cons q l ih =>
    show z_ins (i, z_V ad v) ((q.1, z_V ad q.2) :: z_L ad l) = z_L ad (z_ins (i, v) (q :: l))
    unfold z_ins
    cases Nat.ble i q.1 with
    | true => rfl
    | false =>
      show (q.1, z_V ad q.2) :: z_ins (i, z_V ad v) (z_L ad l) = (q.1, z_V ad q.2) :: z_L ad (z_ins (i, v) l)
      rw [ih]
theorem s_st1 {ad : Nat → Nat} {i : Nat} {v : Value} {ls : z_Ls} : z_st1 (z_L ad ls) i (z_V ad v) = z_L ad (z_st1 ls i v) := by
  unfold z_st1
  rw [z_L_filter _ _ _ (fun q => by simp only [z_V_cat]), s_ins]
theorem s_st2 {ad : Nat → Nat} {i : Nat} {v : Value} {ls : z_Ls} : z_st2 (z_L ad ls) i (z_V ad v) = z_L ad (z_st2 ls i v) := by
  unfold z_st2
  rw [z_L_filter _ _ _ (fun q => by simp only [z_V_cat]), s_ins]
theorem s_rm {ad : Nat → Nat} {i : Nat} {ls : z_Ls} : z_rm (z_L ad ls) i = z_L ad (z_rm ls i) := by
  unfold z_rm
  rw [z_L_filter _ _ _ (fun q => by simp only [z_V_cat])]
theorem s_cut {ad : Nat → Nat} {ax : List Nat} {ls : z_Ls} : z_cut ax (z_L ad ls) = z_L ad (z_cut ax ls) := by
  unfold z_cut
  split
  · exact z_L_filter _ _ _ (fun _ => rfl)
  · rfl
theorem s_cat {ad : Nat → Nat} {st : List Value} : z_cat (st.map (z_V ad)) = z_cat st := z_cat_map ad st
section
variable {b : Nat} {ac : Nat × Nat} {pre post : List va_E} {hp : z_H}
theorem s_len : (s_h b ac pre post hp).1.length = pre.length + (hp.1.length + post.length) := by
  unfold s_h; simp only [List.length_append, List.length_map]
theorem s_at (hb : pre.length = b) (hl : hp.1.length ≤ 999) {a : Nat} {e : va_E} (h : hp.1[a]? = some e) : (s_h b ac pre post hp).1[s_r b a]? = some (s_E b e) := by
  have ha := (List.getElem?_eq_some_iff.mp h).1
  have h1 : s_r b a = b + a := by unfold s_r; rw [if_pos (by omega)]; omega
  unfold s_h
  dsimp only
  rw [h1, List.getElem?_append_right (by omega), show b + a - pre.length = a by omega, List.getElem?_append_left (by rw [List.length_map]; exact ha), List.getElem?_map, h]
  rfl
theorem s_set (hb : pre.length = b) (hl : hp.1.length ≤ 999) {a : Nat} {e : va_E} (ha : a < hp.1.length) : s_h b ac pre post (hp.1.set a e, hp.2) = ((s_h b ac pre post hp).1.set (s_r b a) (s_E b e), (s_h b ac pre post hp).2) := by
  have h1 : s_r b a = b + a := by unfold s_r; rw [if_pos (by omega)]; omega
  unfold s_h
  dsimp only
  rw [h1, List.set_append_right _ _ (by omega), show b + a - pre.length = a by omega, List.set_append_left _ _ (by rw [List.length_map]; exact ha), List.map_set]
theorem s_hg {sc : Nat × (Nat → Int32)} (hb : pre.length = b) (hl : b + hp.1.length ≤ 999) {a : Nat} {e : va_E} (h : z_hg sc hp a = some e) : z_hg sc (s_h b ac pre post hp) (s_r b a) = some (s_E b e) := by
  unfold z_hg at h ⊢
  cases hq : Nat.beq a 2000 with
  | true =>
    rw [hq] at h
    have h2 := Nat.eq_of_beq_eq_true hq
    subst h2
    cases h
    rfl
  | false =>
    rw [hq] at h
    have h3 : hp.1[a]? = some e := h
    have ha := (List.getElem?_eq_some_iff.mp h3).1
    have h1 : s_r b a = b + a := by unfold s_r; rw [if_pos (by omega)]; omega
    have h4 : Nat.beq (s_r b a) 2000 = false := by
      cases hx : Nat.beq (s_r b a) 2000 with
      | false => rfl
      | true =>
        have := Nat.eq_of_beq_eq_true hx
        omega
    rw [h4]
    exact s_at hb (by omega) h3
theorem s_ar {k n b m : Nat} (h8 : k < n) (hm : b + n ≤ m) : k + b + 1 ≤ m := by omega
theorem s_vwf {n m : Nat} (hn : n ≤ 999) (hm : b + n ≤ m) {v : Value} (h : z_vwf n v = true) : z_vwf m (s_V b v) = true := by
  cases v <;> first | rfl | skip
  rename_i k
  have h1 := z_vwf_k h
  show (Nat.blt (s_r b k) m || Nat.ble 1000 (s_r b k)) = true
  rw [Bool.or_eq_true]
  unfold s_r
  by_cases hk : k < 1000
  · rw [if_pos hk]
    have h8 : k < n := by
      rcases h1 with h1 | h1
      · exact h1
      · exact absurd hk (Nat.not_lt.mpr h1)
    exact Or.inl (Nat.ble_eq_true_of_le (s_ar h8 hm))
  · rw [if_neg hk]
    exact Or.inr (Nat.ble_eq_true_of_le (Nat.le_of_not_lt hk))
theorem s_wfb {n m : Nat} (hn : n ≤ 999) (hm : b + n ≤ m) {ls : z_Ls} {st : List Value} (h : z_wfb n ls st = true) : z_wfb m (s_L b ls) (st.map (s_V b)) = true := by
  unfold z_wfb at h ⊢
  rw [Bool.and_eq_true] at h ⊢
  refine ⟨List.all_eq_true.mpr (fun q hq => ?_), List.all_eq_true.mpr (fun v hv => ?_)⟩
  · obtain ⟨x, hx, rfl⟩ := List.mem_map.mp hq
    exact s_vwf hn hm (List.all_eq_true.mp h.1 x hx)
  · obtain ⟨x, hx, rfl⟩ := List.mem_map.mp hv
    exact s_vwf hn hm (List.all_eq_true.mp h.2 x hx)
theorem s_cok {hp' : z_H} (hb : pre.length = b) (hl : hp.1.length ≤ 999) {ls : z_Ls} {rr : List Value} {v : Option Value} (h : z_cok hp hp' ls rr v = true) : z_cok (s_h b ac pre post hp) (s_h b ac pre post hp') (s_L b ls) (rr.map (s_V b)) (v.map (s_V b)) = true := by
  unfold z_cok at h ⊢
  rw [Bool.or_eq_true, Bool.and_eq_true] at h ⊢
  rcases h with ⟨h1, h2⟩ | h1
  · refine Or.inl ⟨?_, ?_⟩
    · rw [s_len, s_len, Nat.eq_of_beq_eq_true h1]; exact Nat.beq_refl _
    · cases v with
      | none => rfl
      | some w => cases w <;> first | rfl | cases h2
  · exact Or.inr (s_wfb hl (by rw [s_len]; omega) h1)
end
/-! The steps. -/
section
variable {b : Nat} {ac : Nat × Nat} {pre post : List va_E} {hp : z_H} {sc : Nat × (Nat → Int32)} {d nL pc : Nat} {ax : List Nat} {ls : z_Ls} {st st' : List Value} {C : z_C}
theorem s_mk {pc' : Nat} {o o' : Option (List Value)} (h : z_mk pc' ls hp o = some C) (ho : ∀ st', o = some st' → o' = some (st'.map (s_V b))) : z_mk pc' (s_L b ls) (s_h b ac pre post hp) o' = some (s_C b ac pre post C) := by
  obtain ⟨st', h1, rfl⟩ := z_mk_eq h
  rw [ho st' h1]
  rfl
theorem s_i1 {f : Int32 → Option Value} (hf : ∀ x v, f x = some v → s_V b v = v) (h : z_i1 f st = some st') : z_i1 f (st.map (s_V b)) = some (st'.map (s_V b)) := by
  unfold z_i1 at h
  split at h
  · split at h
    · rename_i x r _ v hv
      cases h
      show z_i1 f (.int x :: r.map (s_V b)) = some (s_V b v :: r.map (s_V b))
      unfold z_i1
      dsimp only
      rw [hv, hf x v hv]
    · cases h
  · cases h
theorem s_i2 {f : Int32 → Int32 → Option Value} (hf : ∀ x y v, f x y = some v → s_V b v = v) (h : z_i2 f st = some st') : z_i2 f (st.map (s_V b)) = some (st'.map (s_V b)) := by
  unfold z_i2 at h
  split at h
  · split at h
    · rename_i y x r _ v hv
      cases h
      show z_i2 f (.int y :: .int x :: r.map (s_V b)) = some (s_V b v :: r.map (s_V b))
      unfold z_i2
      dsimp only
      rw [hv, hf x y v hv]
    · cases h
  · cases h
theorem s_ldI {i : Nat} (h : z_ldI ls i st = some st') : z_ldI (s_L b ls) i (st.map (s_V b)) = some (st'.map (s_V b)) := by
  obtain ⟨x, h1, rfl⟩ := z_ldI_eq h
  unfold z_ldI
  rw [s_get, h1]
  rfl
theorem s_ldA {i : Nat} (h : z_ldA ls i st = some st') : z_ldA (s_L b ls) i (st.map (s_V b)) = some (st'.map (s_V b)) := by
  obtain ⟨x, h1, rfl⟩ := z_ldA_eq h
  unfold z_ldA
  rw [s_get, h1]
  rfl
theorem s_ldF {i : Nat} (h : z_ldF ls i st = some st') : z_ldF (s_L b ls) i (st.map (s_V b)) = some (st'.map (s_V b)) := by
  obtain ⟨x, h1, rfl⟩ := z_ldF_eq h
  unfold z_ldF
  rw [s_get, h1]
  rfl
theorem s_ldD {i : Nat} (h : z_ldD ls i st = some st') : z_ldD (s_L b ls) i (st.map (s_V b)) = some (st'.map (s_V b)) := by
  obtain ⟨x, h1, rfl⟩ := z_ldD_eq h
  unfold z_ldD
  rw [s_get, h1]
  rfl
theorem s_sI {pc' i : Nat} (h : z_sI nL pc' ls i st hp = some C) : z_sI nL pc' (s_L b ls) i (st.map (s_V b)) (s_h b ac pre post hp) = some (s_C b ac pre post C) := by
  obtain ⟨x, rr, rfl, h1, rfl⟩ := z_sI_eq h
  show z_sI nL pc' (s_L b ls) i (.int x :: rr.map (s_V b)) (s_h b ac pre post hp) = _
  unfold z_sI
  dsimp only
  rw [if_pos h1]
  show some (pc', z_st1 (s_L b ls) i (s_V b (.int x)), _, _) = some (pc', s_L b (z_st1 ls i (.int x)), _, _)
  rw [s_st1]
theorem s_sA {pc' i : Nat} (h : z_sA nL pc' ls i st hp = some C) : z_sA nL pc' (s_L b ls) i (st.map (s_V b)) (s_h b ac pre post hp) = some (s_C b ac pre post C) := by
  obtain ⟨x, rr, rfl, h1, rfl⟩ := z_sA_eq h
  show z_sA nL pc' (s_L b ls) i (.ref (s_r b x) :: rr.map (s_V b)) (s_h b ac pre post hp) = _
  unfold z_sA
  dsimp only
  rw [if_pos h1]
  show some (pc', z_st1 (s_L b ls) i (s_V b (.ref x)), _, _) = some (pc', s_L b (z_st1 ls i (.ref x)), _, _)
  rw [s_st1]
theorem s_sF {pc' i : Nat} (h : z_sF nL pc' ls i st hp = some C) : z_sF nL pc' (s_L b ls) i (st.map (s_V b)) (s_h b ac pre post hp) = some (s_C b ac pre post C) := by
  obtain ⟨x, rr, rfl, h1, rfl⟩ := z_sF_eq h
  show z_sF nL pc' (s_L b ls) i (.float x :: rr.map (s_V b)) (s_h b ac pre post hp) = _
  unfold z_sF
  dsimp only
  rw [if_pos h1]
  show some (pc', z_st1 (s_L b ls) i (s_V b (.float x)), _, _) = some (pc', s_L b (z_st1 ls i (.float x)), _, _)
  rw [s_st1]
theorem s_sD {pc' i : Nat} (h : z_sD nL pc' ls i st hp = some C) : z_sD nL pc' (s_L b ls) i (st.map (s_V b)) (s_h b ac pre post hp) = some (s_C b ac pre post C) := by
  obtain ⟨x, rr, rfl, h1, rfl⟩ := z_sD_eq h
  show z_sD nL pc' (s_L b ls) i (.double x :: rr.map (s_V b)) (s_h b ac pre post hp) = _
  unfold z_sD
  dsimp only
  rw [if_pos h1]
  show some (pc', z_st2 (s_L b ls) i (s_V b (.double x)), _, _) = some (pc', s_L b (z_st2 ls i (.double x)), _, _)
  rw [s_st2]
theorem s_inc {pc' i : Nat} {n : Int} (h : z_inc nL pc' ls i n st hp = some C) : z_inc nL pc' (s_L b ls) i n (st.map (s_V b)) (s_h b ac pre post hp) = some (s_C b ac pre post C) := by
  unfold z_inc at h ⊢
  rw [s_get]
  split at h
  · rename_i x hx
    rw [hx]
    split at h
    · rename_i h1
      cases h
      show (if i < nL then some (pc', z_st1 (s_L b ls) i (.int (x + Int32.ofInt n)), st.map (s_V b), s_h b ac pre post hp) else none) = _
      rw [if_pos h1]
      show some (pc', z_st1 (s_L b ls) i (s_V b (.int (x + Int32.ofInt n))), _, _) = some (pc', s_L b (z_st1 ls i (.int (x + Int32.ofInt n))), _, _)
      rw [s_st1]
    · cases h
  · cases h
theorem s_dup (h : z_dup st = some st') : z_dup (st.map (s_V b)) = some (st'.map (s_V b)) := by
  unfold z_dup at h
  split at h
  · split at h
    · rename_i v r h1
      cases h
      show z_dup (s_V b v :: r.map (s_V b)) = _
      unfold z_dup
      dsimp only
      rw [if_pos (by rw [z_V_cat]; exact h1)]
      rfl
    · cases h
  · cases h
theorem s_dup2 (h : z_dup2 st = some st') : z_dup2 (st.map (s_V b)) = some (st'.map (s_V b)) := by
  unfold z_dup2 at h
  split at h
  · split at h
    · rename_i v w r h1
      cases h
      show z_dup2 (s_V b v :: s_V b w :: r.map (s_V b)) = _
      unfold z_dup2
      dsimp only
      rw [if_pos (by rw [z_V_cat, z_V_cat]; exact h1)]
      rfl
    · cases h
  · cases h
theorem s_pop (h : z_pop st = some st') : z_pop (st.map (s_V b)) = some (st'.map (s_V b)) := by
  unfold z_pop at h
  split at h
  · split at h
    · rename_i v r h1
      have h2 := Option.some.inj h
      rw [← h2]
      show z_pop (s_V b v :: r.map (s_V b)) = _
      unfold z_pop
      dsimp only
      rw [if_pos (by rw [z_V_cat]; exact h1)]
    · cases h
  · cases h
theorem s_gto {off : Int} (h : z_gto pc off ls st hp = some C) : z_gto pc off (s_L b ls) (st.map (s_V b)) (s_h b ac pre post hp) = some (s_C b ac pre post C) := by
  unfold z_gto at h ⊢
  split at h
  · rename_i t ht
    cases h
    rfl
  · cases h
theorem s_ifc {c : ClassFile.Cond} {off : Int} (h : z_ifc c pc off ls st hp = some C) : z_ifc c pc off (s_L b ls) (st.map (s_V b)) (s_h b ac pre post hp) = some (s_C b ac pre post C) := by
  unfold z_ifc at h
  split at h
  · rename_i x r
    split at h
    · rename_i t ht
      show z_ifc c pc off (s_L b ls) (.int x :: r.map (s_V b)) (s_h b ac pre post hp) = _
      unfold z_ifc
      dsimp only
      rw [ht]
      cases hq : z_cmp0 c x <;> rw [hq] at h <;> cases h <;> rfl
    · cases h
  · cases h
theorem s_icm {c : ClassFile.Cond} {off : Int} (h : z_icm c pc off ls st hp = some C) : z_icm c pc off (s_L b ls) (st.map (s_V b)) (s_h b ac pre post hp) = some (s_C b ac pre post C) := by
  unfold z_icm at h
  split at h
  · rename_i y x r
    split at h
    · rename_i t ht
      show z_icm c pc off (s_L b ls) (.int y :: .int x :: r.map (s_V b)) (s_h b ac pre post hp) = _
      unfold z_icm
      dsimp only
      rw [ht]
      cases hq : z_cmp2 c x y <;> rw [hq] at h <;> cases h <;> rfl
    · cases h
  · cases h
theorem s_ifn {off : Int} (h : z_ifn pc off ls st hp = some C) : z_ifn pc off (s_L b ls) (st.map (s_V b)) (s_h b ac pre post hp) = some (s_C b ac pre post C) := by
  unfold z_ifn at h
  split at h
  · cases h; rfl
  · cases h
theorem s_tsw {dflt lo hi : Int} {offs : Array Int} (h : z_tsw pc dflt lo hi offs ls st hp = some C) : z_tsw pc dflt lo hi offs (s_L b ls) (st.map (s_V b)) (s_h b ac pre post hp) = some (s_C b ac pre post C) := by
  unfold z_tsw at h
  split at h
  · rename_i x r
    show z_tsw pc dflt lo hi offs (s_L b ls) (.int x :: r.map (s_V b)) (s_h b ac pre post hp) = _
    unfold z_tsw
    dsimp only
    split at h
    · rename_i hc
      rw [if_pos hc]
      exact s_gto h
    · rename_i hc
      rw [if_neg hc]
      split at h
      · exact s_gto h
      · cases h
  · cases h
theorem s_lsw {dflt : Int} {ps : Array (Int × Int)} (h : z_lsw pc dflt ps ls st hp = some C) : z_lsw pc dflt ps (s_L b ls) (st.map (s_V b)) (s_h b ac pre post hp) = some (s_C b ac pre post C) := by
  unfold z_lsw at h
  split at h
  · rename_i x r
    show z_lsw pc dflt ps (s_L b ls) (.int x :: r.map (s_V b)) (s_h b ac pre post hp) = _
    unfold z_lsw
    dsimp only
    cases hq : (ps.toList.zip (ps.toList.drop 1)).all (fun (a, next) => a.1 < next.1) with
    | false => rw [hq] at h; cases h
    | true =>
      rw [hq] at h
      exact s_gto h
  · cases h
theorem s_ldc (h : z_ldc ax st = some st') : z_ldc ax (st.map (s_V b)) = some (st'.map (s_V b)) := by
  unfold z_ldc at h
  split at h
  · cases h; rfl
  · rename_i j
    cases h
    show some (Value.ref (1000 + j) :: _) = some (Value.ref (s_r b (1000 + j)) :: _)
    unfold s_r
    rw [if_neg (by omega)]
  · cases h
theorem s_gf (hb : pre.length = b) (hl : hp.1.length ≤ 999) (h : z_gf ax st hp = some st') : z_gf ax (st.map (s_V b)) (s_h b ac pre post hp) = some (st'.map (s_V b)) := by
  unfold z_gf at h
  split at h
  · rename_i ci j tl a r
    split at h
    · rename_i c fs hc
      split at h
      · rename_i hcc
        split at h
        · rename_i v hv
          cases h
          show z_gf (ci :: j :: tl) (.ref (s_r b a) :: r.map (s_V b)) (s_h b ac pre post hp) = _
          unfold z_gf
          dsimp only
          rw [s_at hb hl hc]
          show (if c = ci then match (fs.map (s_V b))[j]? with
            | some v => some (v :: r.map (s_V b))
            | none => none
            else none) = _
          rw [if_pos hcc, List.getElem?_map, hv]
          rfl
        · cases h
      · cases h
    · cases h
  · cases h
theorem s_pf (hb : pre.length = b) (hl : hp.1.length ≤ 999) (h : z_pf ax pc ls st hp = some C) : z_pf ax pc (s_L b ls) (st.map (s_V b)) (s_h b ac pre post hp) = some (s_C b ac pre post C) := by
  unfold z_pf at h
  split at h
  · rename_i ci j tl v a r
    split at h
    · rename_i c fs hc
      split at h
      · rename_i hcc
        obtain ⟨h1, h2, h3, h4, h5⟩ := hcc
        cases h
        show z_pf (ci :: j :: tl) pc (s_L b ls) (s_V b v :: .ref (s_r b a) :: r.map (s_V b)) (s_h b ac pre post hp) = _
        unfold z_pf
        dsimp only
        rw [s_at hb hl hc]
        show (if c = ci ∧ j < (fs.map (s_V b)).length ∧ narrow (z_ty ci j) (s_V b v) = s_V b v ∧ fits (z_ty ci j) (s_V b v) = true ∧ z_vwf (s_h b ac pre post hp).1.length (s_V b v) = true then some (pc + 3, s_L b ls, r.map (s_V b), ((s_h b ac pre post hp).1.set (s_r b a) (.inr (c, (fs.map (s_V b)).set j (s_V b v))), (s_h b ac pre post hp).2)) else none) = _
        rw [if_pos ⟨h1, by rw [List.length_map]; exact h2, z_narrow_V h3, z_fits_V h4, s_vwf hl (by rw [s_len]; omega) h5⟩]
        show _ = some (pc + 3, s_L b ls, r.map (s_V b), s_h b ac pre post (hp.1.set a (.inr (c, fs.set j v)), hp.2))
        rw [s_set hb hl (List.getElem?_eq_some_iff.mp hc).1]
        have hset : s_E b (.inr (c, fs.set j v)) = .inr (c, (fs.map (s_V b)).set j (s_V b v)) := by
          show Sum.inr (c, (fs.set j v).map (s_V b)) = _
          rw [List.map_set]
        rw [hset]
        skip
      · cases h
    · cases h
  · cases h
/-- an int array's cell is the same wherever it stands -/
theorem s_ald {t : Nat} (hb : pre.length = b) (hl : b + hp.1.length ≤ 999) (h : z_ald sc t st hp = some st') : z_ald sc t (st.map (s_V b)) (s_h b ac pre post hp) = some (st'.map (s_V b)) := by
  unfold z_ald at h
  split at h
  · rename_i i a r
    split at h
    · rename_i t0 n f hc
      show z_ald sc t (.int i :: .ref (s_r b a) :: r.map (s_V b)) (s_h b ac pre post hp) = _
      unfold z_ald
      dsimp only
      rw [s_hg hb hl hc]
      show (bif Nat.beq t0 t && z_inb i n then some (.int (f i.toNatClampNeg) :: r.map (s_V b)) else none) = _
      cases hq : Nat.beq t0 t && z_inb i n with
      | false => rw [hq] at h; cases h
      | true => rw [hq] at h; cases h; rfl
    · cases h
  · cases h
theorem s_ast {t : Nat} {g : Int32 → Int32} (hb : pre.length = b) (hl : hp.1.length ≤ 999) (h : z_ast t g pc ls st hp = some C) : z_ast t g pc (s_L b ls) (st.map (s_V b)) (s_h b ac pre post hp) = some (s_C b ac pre post C) := by
  unfold z_ast at h
  split at h
  · rename_i x i a r
    split at h
    · rename_i t0 n f hc
      show z_ast t g pc (s_L b ls) (.int x :: .int i :: .ref (s_r b a) :: r.map (s_V b)) (s_h b ac pre post hp) = _
      unfold z_ast
      dsimp only
      rw [s_at hb hl hc]
      show (bif Nat.beq t0 t && z_inb i n then some (pc + 1, s_L b ls, r.map (s_V b), ((s_h b ac pre post hp).1.set (s_r b a) (.inl (t0, n, .inl (upd f i.toNatClampNeg (g x)))), (s_h b ac pre post hp).2)) else none) = _
      cases hq : Nat.beq t0 t && z_inb i n with
      | false => rw [hq] at h; cases h
      | true =>
        rw [hq] at h
        cases h
        show _ = some (pc + 1, s_L b ls, r.map (s_V b), s_h b ac pre post (hp.1.set a _, hp.2))
        rw [s_set hb hl (List.getElem?_eq_some_iff.mp hc).1]
        rfl
    · cases h
  · cases h
theorem s_lald (hb : pre.length = b) (hl : hp.1.length ≤ 999) (h : z_lald st hp = some st') : z_lald (st.map (s_V b)) (s_h b ac pre post hp) = some (st'.map (s_V b)) := by
  unfold z_lald at h
  split at h
  · rename_i i a r
    split at h
    · rename_i t0 n f hc
      show z_lald (.int i :: .ref (s_r b a) :: r.map (s_V b)) (s_h b ac pre post hp) = _
      unfold z_lald
      dsimp only
      rw [s_at hb hl hc]
      show (bif Nat.beq t0 3 && z_inb i n then some (.long (f i.toNatClampNeg) :: r.map (s_V b)) else none) = _
      cases hq : Nat.beq t0 3 && z_inb i n with
      | false => rw [hq] at h; cases h
      | true => rw [hq] at h; cases h; rfl
    · cases h
  · cases h
theorem s_last (hb : pre.length = b) (hl : hp.1.length ≤ 999) (h : z_last pc ls st hp = some C) : z_last pc (s_L b ls) (st.map (s_V b)) (s_h b ac pre post hp) = some (s_C b ac pre post C) := by
  unfold z_last at h
  split at h
  · rename_i x i a r
    split at h
    · rename_i t0 n f hc
      show z_last pc (s_L b ls) (.long x :: .int i :: .ref (s_r b a) :: r.map (s_V b)) (s_h b ac pre post hp) = _
      unfold z_last
      dsimp only
      rw [s_at hb hl hc]
      show (bif Nat.beq t0 3 && z_inb i n then some (pc + 1, s_L b ls, r.map (s_V b), ((s_h b ac pre post hp).1.set (s_r b a) (.inl (t0, n, .inr (.inl (vp_updL f i.toNatClampNeg x)))), (s_h b ac pre post hp).2)) else none) = _
      cases hq : Nat.beq t0 3 && z_inb i n with
      | false => rw [hq] at h; cases h
      | true =>
        rw [hq] at h
        cases h
        show _ = some (pc + 1, s_L b ls, r.map (s_V b), s_h b ac pre post (hp.1.set a _, hp.2))
        rw [s_set hb hl (List.getElem?_eq_some_iff.mp hc).1]
        rfl
    · cases h
  · cases h
theorem s_dald (hb : pre.length = b) (hl : hp.1.length ≤ 999) (h : z_dald st hp = some st') : z_dald (st.map (s_V b)) (s_h b ac pre post hp) = some (st'.map (s_V b)) := by
  unfold z_dald at h
  split at h
  · rename_i i a r
    split at h
    · rename_i t0 n f hc
      show z_dald (.int i :: .ref (s_r b a) :: r.map (s_V b)) (s_h b ac pre post hp) = _
      unfold z_dald
      dsimp only
      rw [s_at hb hl hc]
      show (bif Nat.beq t0 4 && z_inb i n then some (.double (f i.toNatClampNeg) :: r.map (s_V b)) else none) = _
      cases hq : Nat.beq t0 4 && z_inb i n with
      | false => rw [hq] at h; cases h
      | true => rw [hq] at h; cases h; rfl
    · cases h
  · cases h
theorem s_dast (hb : pre.length = b) (hl : hp.1.length ≤ 999) (h : z_dast pc ls st hp = some C) : z_dast pc (s_L b ls) (st.map (s_V b)) (s_h b ac pre post hp) = some (s_C b ac pre post C) := by
  unfold z_dast at h
  split at h
  · rename_i x i a r
    split at h
    · rename_i t0 n f hc
      show z_dast pc (s_L b ls) (.double x :: .int i :: .ref (s_r b a) :: r.map (s_V b)) (s_h b ac pre post hp) = _
      unfold z_dast
      dsimp only
      rw [s_at hb hl hc]
      show (bif Nat.beq t0 4 && z_inb i n then some (pc + 1, s_L b ls, r.map (s_V b), ((s_h b ac pre post hp).1.set (s_r b a) (.inl (t0, n, .inr (.inr (.inr (.inl (vf_upd f i.toNatClampNeg x)))))), (s_h b ac pre post hp).2)) else none) = _
      cases hq : Nat.beq t0 4 && z_inb i n with
      | false => rw [hq] at h; cases h
      | true =>
        rw [hq] at h
        cases h
        show _ = some (pc + 1, s_L b ls, r.map (s_V b), s_h b ac pre post (hp.1.set a _, hp.2))
        rw [s_set hb hl (List.getElem?_eq_some_iff.mp hc).1]
        rfl
    · cases h
  · cases h
theorem s_qald (hb : pre.length = b) (hl : hp.1.length ≤ 999) (h : z_qald st hp = some st') : z_qald (st.map (s_V b)) (s_h b ac pre post hp) = some (st'.map (s_V b)) := by
  unfold z_qald at h
  split at h
  · rename_i i a r
    split at h
    · rename_i t0 n f hc
      show z_qald (.int i :: .ref (s_r b a) :: r.map (s_V b)) (s_h b ac pre post hp) = _
      unfold z_qald
      dsimp only
      rw [s_at hb hl hc]
      show (bif Nat.beq t0 5 && z_inb i n then some (va_rf ((f i.toNatClampNeg).map (s_r b)) :: r.map (s_V b)) else none) = _
      cases hq : Nat.beq t0 5 && z_inb i n with
      | false => rw [hq] at h; cases h
      | true =>
        rw [hq] at h
        cases h
        show some _ = some (s_V b (va_rf (f i.toNatClampNeg)) :: _)
        cases f i.toNatClampNeg <;> rfl
    · cases h
  · cases h
theorem s_qast (hb : pre.length = b) (hl : hp.1.length ≤ 999) (h : z_qast pc ls st hp = some C) : z_qast pc (s_L b ls) (st.map (s_V b)) (s_h b ac pre post hp) = some (s_C b ac pre post C) := by
  unfold z_qast at h
  split at h
  · rename_i v i a r
    split at h
    · rename_i t0 n f c0 fs hc hcv
      show z_qast pc (s_L b ls) (.ref (s_r b v) :: .int i :: .ref (s_r b a) :: r.map (s_V b)) (s_h b ac pre post hp) = _
      unfold z_qast
      dsimp only
      rw [s_at hb hl hc, s_at hb hl hcv]
      show (bif Nat.beq t0 5 && (Nat.beq c0 7 && z_inb i n) then some (pc + 1, s_L b ls, r.map (s_V b), ((s_h b ac pre post hp).1.set (s_r b a) (.inl (t0, n, .inr (.inr (.inr (.inr (va_up (fun j => (f j).map (s_r b)) i.toNatClampNeg (some (s_r b v)))))))), (s_h b ac pre post hp).2)) else none) = _
      cases hq : Nat.beq t0 5 && (Nat.beq c0 7 && z_inb i n) with
      | false => rw [hq] at h; cases h
      | true =>
        rw [hq] at h
        cases h
        show _ = some (pc + 1, s_L b ls, r.map (s_V b), s_h b ac pre post (hp.1.set a _, hp.2))
        rw [s_set hb hl (List.getElem?_eq_some_iff.mp hc).1]
        have he : s_E b (.inl (t0, n, .inr (.inr (.inr (.inr (va_up f i.toNatClampNeg (some v))))))) = .inl (t0, n, .inr (.inr (.inr (.inr (va_up (fun j => (f j).map (s_r b)) i.toNatClampNeg (some (s_r b v))))))) := by
          show Sum.inl (t0, n, Sum.inr (Sum.inr (Sum.inr (Sum.inr (fun j => (va_up f i.toNatClampNeg (some v) j).map (s_r b)))))) = _
          have : (fun j => (va_up f i.toNatClampNeg (some v) j).map (s_r b)) = va_up (fun j => (f j).map (s_r b)) i.toNatClampNeg (some (s_r b v)) := by
            funext j
            unfold va_up
            by_cases hj : j = i.toNatClampNeg
            · rw [if_pos hj, if_pos hj]; rfl
            · rw [if_neg hj, if_neg hj]
          rw [this]
        rw [he]
        rfl
    · cases h
  · cases h
theorem s_alen {ad : Nat → Nat} {x : vp_A} : (z_A ad x).1 = x.1 := z_A_len ad x
theorem s_lenS (hb : pre.length = b) (hl : b + hp.1.length ≤ 999) (h : z_len sc st hp = some st') : z_len sc (st.map (s_V b)) (s_h b ac pre post hp) = some (st'.map (s_V b)) := by
  unfold z_len at h
  split at h
  · rename_i a r
    split at h
    · rename_i t0 x hc
      show z_len sc (.ref (s_r b a) :: r.map (s_V b)) (s_h b ac pre post hp) = _
      unfold z_len
      dsimp only
      rw [s_hg hb hl hc]
      show (bif Nat.blt t0 6 then some (.int (Int32.ofNat (z_A (s_r b) x).1) :: r.map (s_V b)) else none) = _
      rw [s_alen]
      cases hq : Nat.blt t0 6 with
      | false => rw [hq] at h; cases h
      | true => rw [hq] at h; cases h; rfl
    · cases h
  · cases h
theorem s_new {t n : Nat} : s_E b (z_new t n) = z_new t n := by
  unfold z_new
  split <;> rfl
theorem s_app {e : va_E} {j sl : Nat} : s_h b ac pre [] (hp.1 ++ [e], j, sl) = ((s_h b ac pre [] hp).1 ++ [s_E b e], j + ac.1, sl + ac.2) := by
  unfold s_h
  dsimp only
  rw [List.map_append, List.append_nil, List.append_nil, List.append_assoc]
  rfl
theorem s_new_r (hb : pre.length = b) (hl : hp.1.length ≤ 999) : s_r b hp.1.length = (s_h b ac pre [] hp).1.length := by
  rw [s_len]
  unfold s_r
  rw [if_pos (by omega)]
  show hp.1.length + b = pre.length + (hp.1.length + 0)
  omega
theorem s_mka (hb : pre.length = b) (hl : b + C.2.2.2.1.length ≤ 999) (hpo : post = []) (h : z_mka ax pc ls st hp = some C) : z_mka ax pc (s_L b ls) (st.map (s_V b)) (s_h b ac pre post hp) = some (s_C b ac pre post C) := by
  subst hpo
  unfold z_mka at h
  split at h
  · rename_i t tl n r
    split at h
    · rename_i hc
      obtain ⟨h1, h2, h3, h4, h5⟩ := hc
      cases h
      have hl2 : b + (hp.1.length + 1) ≤ 999 := by
        have h6 : b + (hp.1 ++ [z_new t n.toNatClampNeg]).length ≤ 999 := hl
        rw [List.length_append] at h6
        exact h6
      show z_mka (t :: tl) pc (s_L b ls) (.int n :: r.map (s_V b)) (s_h b ac pre [] hp) = _
      unfold z_mka
      dsimp only
      rw [if_pos ⟨h1, h2, s_wfb (b := b) (by omega) (by rw [s_len]; omega) h3, by rw [s_len]; show pre.length + (hp.1.length + 0) < 999; omega, h5⟩]
      show _ = some (pc, s_L b ls, .ref (s_r b hp.1.length) :: r.map (s_V b), s_h b ac pre [] (hp.1 ++ [z_new t n.toNatClampNeg], hp.2.1, hp.2.2 + n.toNatClampNeg))
      rw [s_app, s_new, s_new_r (ac := ac) hb (by omega), Nat.add_right_comm hp.2.2]
      rfl
    · cases h
  · cases h
theorem s_dfo {N ci : Nat} : s_E b (.inr (ci, (List.range N).map (fun j => z_def (z_ty ci j)))) = .inr (ci, (List.range N).map (fun j => z_def (z_ty ci j))) := by
  show Sum.inr (ci, ((List.range N).map (fun j => z_def (z_ty ci j))).map (s_V b)) = _
  rw [List.map_map]
  have : (s_V b ∘ fun j => z_def (z_ty ci j)) = (fun j => z_def (z_ty ci j)) := by
    funext j
    exact z_def_V _ _
  rw [this]
theorem s_mko (hb : pre.length = b) (hl : b + C.2.2.2.1.length ≤ 999) (hpo : post = []) (h : z_mko ax pc ls st hp = some C) : z_mko ax pc (s_L b ls) (st.map (s_V b)) (s_h b ac pre post hp) = some (s_C b ac pre post C) := by
  subst hpo
  unfold z_mko at h
  split at h
  · rename_i ci N tl
    split at h
    · rename_i hc
      obtain ⟨h1, h2⟩ := hc
      cases h
      have hl2 : b + (hp.1.length + 1) ≤ 999 := by
        have h6 : b + (hp.1 ++ [Sum.inr (ci, (List.range N).map (fun j => z_def (z_ty ci j)))]).length ≤ 999 := hl
        rw [List.length_append] at h6
        exact h6
      unfold z_mko
      dsimp only
      rw [if_pos ⟨s_wfb (b := b) (by omega) (by rw [s_len]; omega) h1, by rw [s_len]; show pre.length + (hp.1.length + 0) < 999; omega⟩]
      show _ = some (pc + 3, s_L b ls, .ref (s_r b hp.1.length) :: st.map (s_V b), s_h b ac pre [] (hp.1 ++ [.inr (ci, (List.range N).map (fun j => z_def (z_ty ci j)))], hp.2.1, hp.2.2 + N))
      rw [s_app, s_dfo, s_new_r (ac := ac) hb (by omega), Nat.add_right_comm hp.2.2]
      rfl
    · cases h
  · cases h
theorem s_cpy (hb : pre.length = b) (hl : hp.1.length ≤ 999) (h : z_cpy pc ls st hp = some C) : z_cpy pc (s_L b ls) (st.map (s_V b)) (s_h b ac pre post hp) = some (s_C b ac pre post C) := by
  unfold z_cpy at h
  split at h
  · rename_i n dp a sp bb r
    split at h
    · rename_i t0 n0 f t1 n1 g hc1 hc2
      split at h
      · rename_i hcc
        cases h
        show z_cpy pc (s_L b ls) (.int n :: .int dp :: .ref (s_r b a) :: .int sp :: .ref (s_r b bb) :: r.map (s_V b)) (s_h b ac pre post hp) = _
        unfold z_cpy
        dsimp only
        rw [s_at hb hl hc1, s_at hb hl hc2]
        show (if t0 = 0 ∧ t1 = 0 ∧ ¬ sp < 0 ∧ ¬ dp < 0 ∧ ¬ n < 0 ∧ sp.toNatClampNeg + n.toNatClampNeg ≤ n0 ∧ dp.toNatClampNeg + n.toNatClampNeg ≤ n1 then some (pc + 3, s_L b ls, r.map (s_V b), ((s_h b ac pre post hp).1.set (s_r b a) (.inl (t1, n1, .inl (va_cpy f g sp.toNatClampNeg dp.toNatClampNeg n.toNatClampNeg))), (s_h b ac pre post hp).2)) else none) = _
        rw [if_pos hcc]
        show _ = some (pc + 3, s_L b ls, r.map (s_V b), s_h b ac pre post (hp.1.set a _, hp.2))
        rw [s_set hb hl (List.getElem?_eq_some_iff.mp hc2).1]
        rfl
      · cases h
    · cases h
  · cases h
theorem s_str {a : Nat} (h : Nat.ble 1000 a = true) : s_r b a = a := by
  have := Nat.le_of_ble_eq_true h
  unfold s_r
  rw [if_neg (by omega)]
theorem s_slen (h : z_slen st = some st') : z_slen (st.map (s_V b)) = some (st'.map (s_V b)) := by
  unfold z_slen at h
  split at h
  · rename_i a r
    cases hq : Nat.ble 1000 a && Nat.blt a 1021 with
    | false => rw [hq] at h; cases h
    | true =>
      rw [hq] at h
      cases h
      show z_slen (.ref (s_r b a) :: r.map (s_V b)) = _
      rw [Bool.and_eq_true] at hq
      rw [s_str hq.1]
      unfold z_slen
      dsimp only
      rw [hq.1, hq.2]
      rfl
  · cases h
theorem s_sch (h : z_sch st = some st') : z_sch (st.map (s_V b)) = some (st'.map (s_V b)) := by
  unfold z_sch at h
  split at h
  · rename_i i a r
    cases hq : Nat.ble 1000 a && Nat.blt a 1021 && z_inb i (z_str (a - 1000)).length with
    | false => rw [hq] at h; cases h
    | true =>
      rw [hq] at h
      cases h
      show z_sch (.int i :: .ref (s_r b a) :: r.map (s_V b)) = _
      rw [Bool.and_eq_true, Bool.and_eq_true] at hq
      rw [s_str hq.1.1]
      unfold z_sch
      dsimp only
      rw [hq.1.1, hq.1.2, hq.2]
      rfl
  · cases h
theorem s_jdk (hb : pre.length = b) (hl : hp.1.length ≤ 999) (h : z_jdk ax d pc ls st hp = some C) : z_jdk ax d pc (s_L b ls) (st.map (s_V b)) (s_h b ac pre post hp) = some (s_C b ac pre post C) := by
  unfold z_jdk at h ⊢
  split at h
  · unfold z_jo at h
    split at h
    · rename_i a r
      split at h
      · rename_i hc
        cases h
        show z_jo d pc (s_L b ls) (.ref (s_r b a) :: r.map (s_V b)) (s_h b ac pre post hp) = _
        unfold z_jo
        dsimp only
        rw [if_pos ⟨hc.1, by rw [s_cat]; exact hc.2⟩]
        rfl
      · cases h
    · cases h
  · unfold z_jc at h
    split at h
    · rename_i hc
      show z_jc d pc (s_L b ls) (st.map (s_V b)) (s_h b ac pre post hp) = _
      unfold z_jc
      rw [if_pos ⟨hc.1, by rw [s_cat]; exact hc.2⟩]
      exact s_cpy hb hl h
    · cases h
  · unfold z_jl at h
    split at h
    · rename_i hc
      show z_jl d pc (s_L b ls) (st.map (s_V b)) (s_h b ac pre post hp) = _
      unfold z_jl
      rw [if_pos ⟨hc.1, by rw [s_cat]; exact hc.2⟩]
      exact s_mk h (fun _ q => s_slen q)
    · cases h
  · unfold z_jx at h
    split at h
    · rename_i hc
      show z_jx d pc (s_L b ls) (st.map (s_V b)) (s_h b ac pre post hp) = _
      unfold z_jx
      rw [if_pos ⟨hc.1, by rw [s_cat]; exact hc.2⟩]
      exact s_mk h (fun _ q => s_sch q)
    · cases h
  · cases h
end
end ZSHF
