/-! The law's own body: four objects side by side, and what a step of the body does to them. -/
section ZLAW
theorem z_jdk_d {ax : List Nat} {d d' pc : Nat} {ls : z_Ls} {st : List Value} {hp : z_H} {C : z_C} (hd : d ≤ d') (h : z_jdk ax d pc ls st hp = some C) : z_jdk ax d' pc ls st hp = some C := by
  unfold z_jdk at h ⊢
  split at h
  · unfold z_jo at h ⊢
    split at h
    · split at h
      · rename_i hc
        rw [if_pos ⟨Nat.le_trans hc.1 hd, hc.2⟩]
        exact h
      · cases h
    · cases h
  · unfold z_jc at h ⊢
    split at h
    · rename_i hc
      rw [if_pos ⟨Nat.le_trans hc.1 hd, hc.2⟩]
      exact h
    · cases h
  · unfold z_jl at h ⊢
    split at h
    · rename_i hc
      rw [if_pos ⟨Nat.le_trans hc.1 hd, hc.2⟩]
      exact h
    · cases h
  · unfold z_jx at h ⊢
    split at h
    · rename_i hc
      rw [if_pos ⟨Nat.le_trans hc.1 hd, hc.2⟩]
      exact h
    · cases h
  · cases h
theorem z_loc_d {sc : Nat × (Nat → Int32)} {d d' nL pc : Nat} {i : Instr} {ax : List Nat} {ls : z_Ls} {st : List Value} {hp : z_H} {C : z_C} (hd : d ≤ d') (h : z_loc sc d nL i ax pc ls st hp = some C) : z_loc sc d' nL i ax pc ls st hp = some C := by
  cases i
  case invokespecial n => exact z_jdk_d hd h
  case invokestatic n => exact z_jdk_d hd h
  case invokevirtual n => exact z_jdk_d hd h
  all_goals exact h
theorem z_thr_d {r : z_Rec} {d d' pc : Nat} {i : Instr} {ax : List Nat} {st : List Value} {hp : z_H} {x : Nat × z_H} (hd : d ≤ d') (h : z_thr r d pc i ax st hp = some x) : z_thr r d' pc i ax st hp = some x := by
  obtain ⟨E, hp'⟩ := x
  have h6 := (z_thr_eq h).2.2.2.2.2.1
  unfold z_thr at h ⊢
  split at h
  · have e1 : Nat.ble 6 d' = Nat.ble 6 d := by rw [Nat.ble_eq.mpr h6, Nat.ble_eq.mpr (Nat.le_trans h6 hd)]
    rw [e1]
    exact h
  · cases h
/-- more depth does no harm -/
theorem z_ex_d {sc : Nat × (Nat → Int32)} : ∀ (f d d' k pc : Nat) (ls : z_Ls) (st : List Value) (hp : z_H) (x : z_R × z_H), d ≤ d' → z_ex sc f d k pc ls st hp = some x → z_ex sc f d' k pc ls st hp = some x := by
  intro f
  induction f with
  | zero => intro d d' k pc ls st hp x hd h; cases h
  | succ f ih =>
    intro d d' k pc ls st hp x hd h
    unfold z_ex at h ⊢
    cases hr : z_rec k with
    | none => rw [hr] at h; cases h
    | some r =>
    rw [hr] at h
    dsimp only at h ⊢
    cases hfd : z_find r.2.2.2.2.2.2.2.2 pc with
    | none => rw [hfd] at h; cases h
    | some q =>
    obtain ⟨i, len, ax⟩ := q
    rw [hfd] at h
    dsimp only at h ⊢
    cases hlk : z_lok i len with
    | false => rw [hlk] at h; cases h
    | true =>
    rw [hlk] at h
    dsimp only [cond_true] at h ⊢
    split at h
    · split at h
      · rename_i C hC
        rw [z_loc_d hd hC]
        exact ih _ _ _ _ _ _ _ _ hd h
      · cases h
    · exact h
    · split at h
      · rename_i y hy
        rw [z_thr_d hd hy]
        exact h
      · cases h
    · rename_i hk0 hk1 hk2
      split at h
      · rename_i kd k2 n tl
        split at h
        · rename_i r2 as rr hr2 has
          cases hc : Nat.ble 1 d && (Nat.ble (lg_sl as).length r2.2.2.2.2.1 && (Nat.ble r2.2.2.2.2.1 20 && (Nat.ble (z_cat rr) 8 && (z_rcv kd r2.1 as hp && (Nat.beq kd 5 || r2.2.2.2.2.2.2.1.isEmpty))))) with
          | false => rw [hc] at h; cases h
          | true =>
            rw [hc] at h
            dsimp only [cond_true] at h
            have hc2 : (Nat.ble 1 d' && (Nat.ble (lg_sl as).length r2.2.2.2.2.1 && (Nat.ble r2.2.2.2.2.1 20 && (Nat.ble (z_cat rr) 8 && (z_rcv kd r2.1 as hp && (Nat.beq kd 5 || r2.2.2.2.2.2.2.1.isEmpty)))))) = true := by
              rw [Bool.and_eq_true] at hc
              rw [Nat.ble_eq.mpr (Nat.le_trans (Nat.ble_eq.mp hc.1) hd), hc.2]
              rfl
            rw [hc2]
            dsimp only [cond_true]
            cases hcal : z_ex sc f (d - 1) k2 0 (lv_args 0 as) [] hp with
            | none => rw [hcal] at h; cases h
            | some y =>
              rw [ih _ _ _ _ _ _ _ _ (Nat.sub_le_sub_right hd 1) hcal]
              rw [hcal] at h
              obtain ⟨res, hp1⟩ := y
              cases res with
              | inl v =>
                dsimp only at h ⊢
                cases hck : z_cok hp hp1 ls rr v with
                | false => rw [hck] at h; cases h
                | true =>
                  rw [hck] at h
                  exact ih _ _ _ _ _ _ _ _ hd h
              | inr E =>
                dsimp only at h ⊢
                cases hkd : Nat.ble kd 1 with
                | false => rw [hkd] at h; cases h
                | true =>
                  rw [hkd] at h
                  dsimp only [cond_true] at h ⊢
                  split at h
                  · exact h
                  · rename_i h0 hhd
                    split at h
                    · rename_i j mm ax2 hf2
                      split at h
                      · rename_i x2 hx2
                        cases hbx : (z_lok j mm && (Nat.blt x2 r.2.2.2.2.1 && z_cok hp hp1 (z_rm ls x2) [] none)) with
                        | false => rw [hbx] at h; cases h
                        | true =>
                          rw [hbx] at h
                          exact ih _ _ _ _ _ _ _ _ hd h
                      · cases h
                    · cases h
                  · cases h
        · cases h
      · cases h
/-- an object's rows at b -/
noncomputable def sb (b : Nat) (μ : z_Mem) : List va_E := (z_bl μ).map (s_E b)
theorem sb_len {b : Nat} {μ : z_Mem} : (sb b μ).length = 241 := by unfold sb; rw [List.length_map, z_bl_len, z_shl_len]
theorem s_r0 {a : Nat} : s_r 0 a = a := by unfold s_r; split <;> rfl
theorem s_V0 {v : Value} : s_V 0 v = v := by
  cases v <;> first | rfl | skip
  show Value.ref _ = Value.ref _
  rw [s_r0]
theorem s_E0 {e : va_E} : s_E 0 e = e := by
  have hr : s_r 0 = id := by funext a; exact s_r0
  have hv : s_V 0 = id := by funext v; exact s_V0
  rcases e with ⟨t, m, f | f | f | f | f⟩ | o
  · rfl
  · rfl
  · rfl
  · rfl
  · show Sum.inl (t, m, Sum.inr (Sum.inr (Sum.inr (Sum.inr (fun j => (f j).map (s_r 0)))))) = _
    rw [hr]
    have : (fun j => (f j).map id) = f := by funext j; exact congrFun Option.map_id (f j)
    rw [this]
  · show Sum.inr (o.1, o.2.map (s_V 0)) = _
    rw [hv, List.map_id]
theorem sb0 {μ : z_Mem} : sb 0 μ = z_bl μ := by
  unfold sb
  have : s_E 0 = id := by funext e; exact s_E0
  rw [this, List.map_id]
theorem sbx_at {b : Nat} {μ : z_Mem} {pre post : List va_E} (hb : pre.length = b) (hb2 : b ≤ 723) : ∃ fs, (pre ++ (sb b μ ++ post))[b]? = some (.inr (9, fs)) := by
  have h1 : z_ci 0 9 = true := by decide +kernel
  obtain ⟨fs, h2⟩ := z_ci_eq h1
  have h3 : (z_bl μ ++ [])[0]? = some (z_bc (μ 0) (.inr (.inl (9, fs)))) := z_bl_get h2
  have h4 := s_at (b := b) (ac := (0, 0)) (pre := pre) (post := post) (hp := (z_bl μ ++ [], 0, 0)) hb (by show (z_bl μ ++ []).length ≤ 999; rw [List.append_nil, z_bl_len, z_shl_len]; decide) h3
  have h5 : s_r b 0 = b := by unfold s_r; rw [if_pos (by decide)]; exact Nat.zero_add b
  rw [h5] at h4
  have h6 : (s_h b (0, 0) pre post (z_bl μ ++ [], 0, 0)).1 = pre ++ (sb b μ ++ post) := by
    unfold s_h sb
    dsimp only
    rw [List.append_nil]
  rw [h6] at h4
  exact ⟨_, h4⟩
theorem sb_run {sc : Nat × (Nat → Int32)} {E D k b : Nat} {ls : z_Ls} {μ μ1 : z_Mem} {v : Option Value} (h : Ro sc E D k 0 ls [] μ (.inl v) μ1) {pre : List va_E} (post : List va_E) (hb : pre.length = b) (hb2 : b ≤ 723) (j sl : Nat) : ∃ f0 e, e ≤ E ∧ ∀ f d, f0 ≤ f → D ≤ d → z_ex sc f d k 0 (s_L b ls) [] (pre ++ (sb b μ ++ post), j, sl) = some (.inl (v.map (s_V b)), (pre ++ (sb b μ1 ++ post), j + e, sl + 6 * e)) := by
  obtain ⟨f0, e, he, hf⟩ := h [] j sl
  refine ⟨f0, e, he, fun f d h1 h2 => ?_⟩
  have h3 := (s_ex _ _ _ _ _ _ _ _ _ (hf f d h1 h2)).2 b (0, 0) pre post hb (by
    show b + (z_bl μ1 ++ []).length ≤ 999
    rw [List.append_nil, z_bl_len, z_shl_len]; omega) (Or.inr (by
    show (z_bl μ1 ++ []).length = (z_bl μ ++ []).length
    rw [List.append_nil, List.append_nil, z_bl_len, z_bl_len]))
  have e1 : ∀ (m : z_Mem) (a c : Nat), s_h b (0, 0) pre post (z_hp m [] a c) = (pre ++ (sb b m ++ post), a, c) := fun m a c => by
    unfold s_h z_hp sb
    dsimp only
    rw [List.append_nil]
    rfl
  rw [e1, e1] at h3
  exact h3
theorem z_ctor {sc : Nat × (Nat → Int32)} {f d : Nat} (hf : 400 ≤ f) (hd : 20 ≤ d) : z_ex sc f d 74 0 [(0, .ref 0)] [] z_o0 = some z_I0 := z_ex_d _ _ _ _ _ _ _ _ _ hd (z_exg_ok sc _ _ _ _ _ _ _ _ z_I0_is f hf)
theorem z_isn_eq {r : z_R} (h : z_isn r = true) : r = .inl none := by
  unfold z_isn at h
  split at h
  · rfl
  · cases h
theorem z_I0_1 : z_I0.1 = .inl none := z_isn_eq z_I0_R
theorem z_pe {α β : Type} {p : α × β} : some p = some (p.1, p.2) := by cases p; rfl
theorem z_ctorS {sc : Nat × (Nat → Int32)} {f d j sl : Nat} {cs : List va_E} (hf : 400 ≤ f) (hd : 20 ≤ d) (hl : cs.length ≤ 723) : z_ex sc f d 74 0 [(0, .ref cs.length)] [] (cs ++ [.inr (9, (List.range 10).map (fun j => z_def (z_ty 9 j)))], j, sl + 10) = some (.inl none, (cs ++ sb cs.length z_mu0, j, sl + z_I0.2.2.2)) := by
  have h := (s_ex (sc := sc) _ _ _ _ _ _ _ _ _ ((z_ctor (sc := sc) hf hd).trans z_pe)).2 cs.length (j, sl) cs [] rfl (by
    rw [z_I0_heap, z_bl_len, z_shl_len]; omega) (Or.inl rfl)
  have e1 : s_h cs.length (j, sl) cs [] z_o0 = (cs ++ [.inr (9, (List.range 10).map (fun j => z_def (z_ty 9 j)))], j, sl + 10) := by
    unfold s_h z_o0
    dsimp only
    rw [List.map_cons, List.map_nil, s_dfo, Nat.zero_add, Nat.add_comm]
    rfl
  have e2 : s_h cs.length (j, sl) cs [] z_I0.2 = (cs ++ sb cs.length z_mu0, j, sl + z_I0.2.2.2) := by
    unfold s_h sb
    rw [z_I0_heap, z_I0_j1, List.append_nil, Nat.zero_add, Nat.add_comm]
  have e3 : s_L cs.length [(0, .ref 0)] = [(0, .ref cs.length)] := by
    show [(0, Value.ref (s_r cs.length 0))] = _
    have : s_r cs.length 0 = cs.length := by unfold s_r; rw [if_pos (by decide)]; exact Nat.zero_add _
    rw [this]
  rw [e1, e2, e3, z_I0_1] at h
  exact h
/-- new, dup, the constructor's call -/
theorem z_newrun {sc : Nat × (Nat → Int32)} {k pc nL idx idx2 p1 p2 p3 q1 q2 q3 q4 q5 : Nat} {ls : z_Ls} {st : List Value} {cs : List va_E} {j sl : Nat} (h1 : z_pt k pc = some (nL, .new idx, [9, 10, p1, p2, p3])) (h2 : z_pt k (pc + 3) = some (nL, .dup, [])) (h3 : z_pt k (pc + 4) = some (nL, .invokespecial idx2, [3, 74, 0, q1, q2, q3, q4, q5])) (hl : cs.length ≤ 723) (hw : z_wfb cs.length ls st = true) (hcat : Nat.ble (z_cat st) 7 = true) : ∀ f d, 400 ≤ f → 21 ≤ d → z_ex sc (f + 3) d k pc ls st (cs, j, sl) = z_ex sc f d k (pc + 7) ls (.ref cs.length :: st) (cs ++ sb cs.length z_mu0, j, sl + z_I0.2.2.2) := by
  intro f d hf hd
  obtain ⟨r, len, hrr, hf1, hl1, rfl⟩ := z_pt_eq h1
  obtain ⟨r', len2, hrr2, hf2, hl2, -⟩ := z_pt_eq h2
  cases Option.some.inj (hrr2.symm.trans hrr)
  obtain ⟨r', len3, hrr3, hf3, hl3, -⟩ := z_pt_eq h3
  cases Option.some.inj (hrr3.symm.trans hrr)
  rw [z_ex_loc (C := (pc + 3, ls, .ref cs.length :: st, (cs ++ [.inr (9, (List.range 10).map (fun j => z_def (z_ty 9 j)))], j, sl + 10))) hrr hf1 hl1 rfl (by
    show z_mko [9, 10, p1, p2, p3] pc ls st (cs, j, sl) = _
    unfold z_mko
    dsimp only
    rw [if_pos ⟨hw, by omega⟩])]
  dsimp only
  rw [z_ex_loc (C := (pc + 4, ls, .ref cs.length :: .ref cs.length :: st, (cs ++ [.inr (9, (List.range 10).map (fun j => z_def (z_ty 9 j)))], j, sl + 10))) hrr hf2 hl2 rfl rfl]
  dsimp only
  conv => lhs; unfold z_ex
  rw [hrr]
  dsimp only
  rw [hf3]
  dsimp only
  rw [hl3]
  have hk3 : z_kd (.invokespecial idx2) [3, 74, 0, q1, q2, q3, q4, q5] = 3 := rfl
  have hargs : z_args 3 0 (.ref cs.length :: .ref cs.length :: st) = some ([.ref cs.length], .ref cs.length :: st) := rfl
  rw [hk3]
  dsimp only [cond_true]
  have hr2 : z_r3 3 74 = some (9, 3, true) := by decide +kernel
  unfold z_r3 at hr2
  split at hr2
  · rename_i r2 hrk
    have h4 := Option.some.inj hr2
    have e1 : r2.1 = 9 := congrArg (fun q => q.1) h4
    have e2 : r2.2.2.2.2.1 = 3 := congrArg (fun q => q.2.1) h4
    have e3 : (Nat.ble r2.2.2.2.2.1 20 && (Nat.beq 3 5 || r2.2.2.2.2.2.2.1.isEmpty)) = true := congrArg (fun q => q.2.2) h4
    rw [Bool.and_eq_true] at e3
    rw [hrk, hargs]
    dsimp only
    have hcat2 : Nat.ble (z_cat (.ref cs.length :: st)) 8 = true := by
      have h9 := Nat.le_of_ble_eq_true hcat
      have h10 : z_cat (.ref cs.length :: st) = 1 + z_cat st := by unfold z_cat; rw [List.map_cons, List.sum_cons]; rfl
      rw [h10]
      exact Nat.ble_eq_true_of_le (by omega)
    rw [Nat.ble_eq.mpr (show 1 ≤ d by omega), show Nat.ble (lg_sl [.ref cs.length]).length r2.2.2.2.2.1 = true by rw [e2]; rfl, e3.1, hcat2, e3.2, show z_rcv 3 r2.1 [.ref cs.length] (cs ++ [.inr (9, (List.range 10).map (fun j => z_def (z_ty 9 j)))], j, sl + 10) = true from rfl]
    simp only [Bool.and_self, cond_true]
    rw [show lv_args 0 [Value.ref cs.length] = [(0, .ref cs.length)] from rfl, z_ctorS hf (by omega) hl]
    dsimp only
    have hck : z_cok (cs ++ [.inr (9, (List.range 10).map (fun j => z_def (z_ty 9 j)))], j, sl + 10) (cs ++ sb cs.length z_mu0, j, sl + z_I0.2.2.2) ls (.ref cs.length :: st) none = true := by
      unfold z_cok
      rw [Bool.or_eq_true]
      refine Or.inr ?_
      show z_wfb (cs ++ [_]).length ls (.ref cs.length :: st) = true
      rw [List.length_append]
      unfold z_wfb at hw ⊢
      rw [Bool.and_eq_true] at hw ⊢
      refine ⟨List.all_eq_true.mpr (fun q hq => z_vwf_up (Nat.le_add_right _ _) (List.all_eq_true.mp hw.1 q hq)), ?_⟩
      rw [List.all_cons, Bool.and_eq_true]
      refine ⟨?_, List.all_eq_true.mpr (fun q hq => z_vwf_up (Nat.le_add_right _ _) (List.all_eq_true.mp hw.2 q hq))⟩
      show (Nat.blt cs.length (cs.length + 1) || Nat.ble 1000 cs.length) = true
      rw [Bool.or_eq_true]
      exact Or.inl (Nat.ble_eq_true_of_le (Nat.le_refl _))
    rw [hck]
    rfl
  · cases hr2
/-- from this point of the law's body it comes to its end with 1 -/
def Lw (sc : Nat × (Nat → Int32)) (E S pc : Nat) (ls : z_Ls) (st : List Value) (cs : List va_E) : Prop :=
  ∀ (j sl : Nat), ∃ (f0 : Nat) (hp' : z_H), hp'.1.length ≤ 964 ∧ hp'.2.1 ≤ j + E ∧ hp'.2.2 ≤ sl + S ∧ ∀ (f : Nat), f0 ≤ f → z_ex sc f 100 155 pc ls st (cs, j, sl) = some (.inl (some (.int 1)), hp')
section
variable {sc0 : Nat × (Nat → Int32)} {E S pc nL : Nat} {ls ls' : z_Ls} {st st' : List Value} {i : Instr} {ax : List Nat} {cs cs' : List va_E}
theorem Lw_up {E' S' : Nat} (hE : E ≤ E') (hS : S ≤ S') (h : Lw sc0 E S pc ls st cs) : Lw sc0 E' S' pc ls st cs := fun j sl => by
  obtain ⟨f0, hp', h1, h2, h3, h4⟩ := h j sl
  exact ⟨f0, hp', h1, by omega, by omega, h4⟩
theorem L_pure {pc' : Nat} (hp : z_pt 155 pc = some (nL, i, ax)) (hk : z_kd i ax = 0) (h : ∀ (sc : Nat × (Nat → Int32)) (d : Nat) (hp : z_H), z_loc sc d nL i ax pc ls st hp = some (pc', ls', st', hp)) (kk : Lw sc0 E S pc' ls' st' cs) : Lw sc0 E S pc ls st cs := fun j sl => by
  obtain ⟨r, len, hr, hf, hl, rfl⟩ := z_pt_eq hp
  obtain ⟨f0, hp', h1, h2, h3, h4⟩ := kk j sl
  refine ⟨f0 + 1, hp', h1, h2, h3, fun f hf2 => ?_⟩
  obtain ⟨f, rfl⟩ : ∃ f', f = f' + 1 := ⟨f - 1, by omega⟩
  rw [z_ex_loc hr hf hl hk (h sc0 100 (cs, j, sl))]
  exact h4 f (by omega)
theorem L_end (hp : z_pt 155 pc = some (nL, .ireturn, ax)) (hl : cs.length ≤ 964) : Lw sc0 E S pc ls [.int 1] cs := fun j sl => by
  obtain ⟨r, len, hr, hf, hlk, rfl⟩ := z_pt_eq hp
  refine ⟨1, (cs, j, sl), hl, Nat.le_add_right _ _, Nat.le_add_right _ _, fun f h1 => ?_⟩
  obtain ⟨f, rfl⟩ : ∃ f', f = f' + 1 := ⟨f - 1, by omega⟩
  refine z_ex_fin hr hf hlk rfl ?_
  have hrt : z_rt 155 = some (some .boolean) := by decide +kernel
  unfold z_rt at hrt
  rw [hr] at hrt
  have : r.2.2.2.2.2.1 = some .boolean := Option.some.inj hrt
  rw [this]
  rfl
/-- a call on the object at b -/
theorem L_call {kd k2 n c2 nl2 E1 b : Nat} {as0 as rr : List Value} {D2 : Nat} {v : Option Value} {q1 q2 q3 q4 q5 : Nat} {pre post : List va_E} {μ μ1 : z_Mem} (hp : z_pt 155 pc = some (nL, i, [kd, k2, n, q1, q2, q3, q4, q5])) (hk : z_kd i [kd, k2, n, q1, q2, q3, q4, q5] = 3) (h2 : z_r3 kd k2 = some (c2, nl2, true)) (ha : z_args kd n st = some (as, rr)) (has : as = as0.map (s_V b)) (hb : (Nat.ble (lg_sl as).length nl2 && Nat.ble (z_cat rr) 8) = true) (hrc : Nat.beq kd 0 = false ∨ (c2 = 9 ∧ ∃ rest, as = .ref b :: rest)) (hr : Ro sc0 E1 D2 k2 0 (lv_args 0 as0) [] μ (.inl v) μ1) (hd : D2 + 1 ≤ 100) (hbl : pre.length = b) (hb2 : b ≤ 723) (hv : z_rvi v = true) (kk : Lw sc0 E S (pc + 3) ls (v.toList ++ rr) (pre ++ (sb b μ1 ++ post))) : Lw sc0 (E1 + E) (6 * E1 + S) pc ls st (pre ++ (sb b μ ++ post)) := fun j sl => by
  obtain ⟨r, len, hrr, hf, hl, rfl⟩ := z_pt_eq hp
  obtain ⟨f1, e, he, hf1⟩ := sb_run hr post hbl hb2 j sl
  obtain ⟨f0, hp', g1, g2, g3, g4⟩ := kk (j + e) (sl + 6 * e)
  refine ⟨f0 + f1 + 1, hp', g1, by omega, by omega, fun f hf2 => ?_⟩
  obtain ⟨f, rfl⟩ : ∃ f', f = f' + 1 := ⟨f - 1, by omega⟩
  rw [← s_lvargs, ← has] at hf1
  have hvm : v.map (s_V b) = v := by
    cases v with
    | none => rfl
    | some w => cases w <;> first | rfl | cases hv
  rw [hvm] at hf1
  unfold z_r3 at h2
  split at h2
  · rename_i r2 hr2
    have h4 := Option.some.inj h2
    have e1 : r2.1 = c2 := congrArg (fun q => q.1) h4
    have e2 : r2.2.2.2.2.1 = nl2 := congrArg (fun q => q.2.1) h4
    have e3 : (Nat.ble r2.2.2.2.2.1 20 && (Nat.beq kd 5 || r2.2.2.2.2.2.2.1.isEmpty)) = true := congrArg (fun q => q.2.2) h4
    rw [Bool.and_eq_true] at e3 hb
    have hrcv : z_rcv kd r2.1 as (pre ++ (sb b μ ++ post), j, sl) = true := by
      unfold z_rcv
      split
      · rcases hrc with h | ⟨rfl, rest, rfl⟩
        · cases h
        · obtain ⟨fs, hfs⟩ := sbx_at (μ := μ) (post := post) hbl hb2
          dsimp only
          rw [hfs, e1]
          rfl
      · rfl
    conv => lhs; unfold z_ex
    rw [hrr]
    dsimp only
    rw [hf]
    dsimp only
    rw [hl, hk]
    dsimp only [cond_true]
    rw [hr2, ha]
    dsimp only
    rw [e2, hb.1, ← e2, e3.1, hb.2, hrcv, e3.2, hf1 f (100 - 1) (by omega) (by omega)]
    simp only [Bool.and_self, cond_true]
    have hck : z_cok (pre ++ (sb b μ ++ post), j, sl) (pre ++ (sb b μ1 ++ post), j + e, sl + 6 * e) ls rr v = true := by
      unfold z_cok
      rw [Bool.or_eq_true, Bool.and_eq_true]
      refine Or.inl ⟨?_, hv⟩
      show Nat.beq (pre ++ (sb b μ1 ++ post)).length (pre ++ (sb b μ ++ post)).length = true
      rw [List.length_append, List.length_append, List.length_append, List.length_append, sb_len, sb_len]
      exact Nat.beq_refl _
    have e9 : Nat.ble 1 100 = true := rfl
    rw [e9, hck]
    exact g4 f (by omega)
  · cases h2
theorem L_new {idx idx2 p1 p2 p3 q1 q2 q3 q4 q5 b : Nat} (h1 : z_pt 155 pc = some (nL, .new idx, [9, 10, p1, p2, p3])) (h2 : z_pt 155 (pc + 3) = some (nL, .dup, [])) (h3 : z_pt 155 (pc + 4) = some (nL, .invokespecial idx2, [3, 74, 0, q1, q2, q3, q4, q5])) (hb : cs.length = b) (hb2 : b ≤ 723) (hw : z_wfb b ls st = true) (hcat : Nat.ble (z_cat st) 7 = true) (kk : Lw sc0 E S (pc + 7) ls (.ref b :: st) (cs ++ sb b z_mu0)) : Lw sc0 E (5000 + S) pc ls st cs := fun j sl => by
  subst hb
  obtain ⟨f0, hp', g1, g2, g3, g4⟩ := kk j (sl + z_I0.2.2.2)
  have hj2 := z_I0_j2
  refine ⟨f0 + 403, hp', g1, g2, by omega, fun f hf2 => ?_⟩
  obtain ⟨f, rfl⟩ : ∃ f', f = f' + 3 := ⟨f - 3, by omega⟩
  rw [z_newrun h1 h2 h3 hb2 hw hcat f 100 (by omega) (by decide)]
  exact g4 f (by omega)
theorem L_if {c : ClassFile.Cond} {off : Int} {t : Nat} {x : Int32} (hp : z_pt 155 pc = some (nL, .ifCond c off, ax)) (ht : z_tgt pc off = some t) (kt : z_cmp0 c x = true → Lw sc0 E S t ls st cs) (kf : z_cmp0 c x = false → Lw sc0 E S (pc + 3) ls st cs) : Lw sc0 E S pc ls (.int x :: st) cs := by
  cases hx : z_cmp0 c x with
  | true => exact L_pure hp rfl (fun sc d hp => by show z_ifc c pc off ls (.int x :: st) hp = _; unfold z_ifc; dsimp only; rw [ht]; dsimp only; rw [hx]; rfl) (kt hx)
  | false => exact L_pure hp rfl (fun sc d hp => by show z_ifc c pc off ls (.int x :: st) hp = _; unfold z_ifc; dsimp only; rw [ht]; dsimp only; rw [hx]; rfl) (kf hx)
theorem L_icm {c : ClassFile.Cond} {off : Int} {t : Nat} {x y : Int32} (hp : z_pt 155 pc = some (nL, .if_icmp c off, ax)) (ht : z_tgt pc off = some t) (kt : z_cmp2 c x y = true → Lw sc0 E S t ls st cs) (kf : z_cmp2 c x y = false → Lw sc0 E S (pc + 3) ls st cs) : Lw sc0 E S pc ls (.int y :: .int x :: st) cs := by
  cases hx : z_cmp2 c x y with
  | true => exact L_pure hp rfl (fun sc d hp => by show z_icm c pc off ls (.int y :: .int x :: st) hp = _; unfold z_icm; dsimp only; rw [ht]; dsimp only; rw [hx]; rfl) (kt hx)
  | false => exact L_pure hp rfl (fun sc d hp => by show z_icm c pc off ls (.int y :: .int x :: st) hp = _; unfold z_icm; dsimp only; rw [ht]; dsimp only; rw [hx]; rfl) (kf hx)
theorem L_ifeq {off : Int} {t : Nat} {x : Int32} (hp : z_pt 155 pc = some (nL, .ifCond .eq off, ax)) (ht : z_tgt pc off = some t) (kt : x = 0 → Lw sc0 E S t ls st cs) (kf : ¬ x = 0 → Lw sc0 E S (pc + 3) ls st cs) : Lw sc0 E S pc ls (.int x :: st) cs :=
  L_if hp ht (fun h => kt (of_decide_eq_true h)) (fun h => kf (of_decide_eq_false h))
theorem L_ifne {off : Int} {t : Nat} {x : Int32} (hp : z_pt 155 pc = some (nL, .ifCond .ne off, ax)) (ht : z_tgt pc off = some t) (kt : ¬ x = 0 → Lw sc0 E S t ls st cs) (kf : x = 0 → Lw sc0 E S (pc + 3) ls st cs) : Lw sc0 E S pc ls (.int x :: st) cs :=
  L_if hp ht (fun h => kt (of_decide_eq_true h)) (fun h => kf (Decidable.not_not.mp (of_decide_eq_false h)))
theorem L_iflt {off : Int} {t : Nat} {x : Int32} (hp : z_pt 155 pc = some (nL, .ifCond .lt off, ax)) (ht : z_tgt pc off = some t) (kt : x < 0 → Lw sc0 E S t ls st cs) (kf : ¬ x < 0 → Lw sc0 E S (pc + 3) ls st cs) : Lw sc0 E S pc ls (.int x :: st) cs :=
  L_if hp ht (fun h => kt (of_decide_eq_true h)) (fun h => kf (of_decide_eq_false h))
theorem L_ifge {off : Int} {t : Nat} {x : Int32} (hp : z_pt 155 pc = some (nL, .ifCond .ge off, ax)) (ht : z_tgt pc off = some t) (kt : 0 ≤ x → Lw sc0 E S t ls st cs) (kf : ¬ 0 ≤ x → Lw sc0 E S (pc + 3) ls st cs) : Lw sc0 E S pc ls (.int x :: st) cs :=
  L_if hp ht (fun h => kt (of_decide_eq_true h)) (fun h => kf (of_decide_eq_false h))
theorem L_ifgt {off : Int} {t : Nat} {x : Int32} (hp : z_pt 155 pc = some (nL, .ifCond .gt off, ax)) (ht : z_tgt pc off = some t) (kt : 0 < x → Lw sc0 E S t ls st cs) (kf : ¬ 0 < x → Lw sc0 E S (pc + 3) ls st cs) : Lw sc0 E S pc ls (.int x :: st) cs :=
  L_if hp ht (fun h => kt (of_decide_eq_true h)) (fun h => kf (of_decide_eq_false h))
theorem L_ifle {off : Int} {t : Nat} {x : Int32} (hp : z_pt 155 pc = some (nL, .ifCond .le off, ax)) (ht : z_tgt pc off = some t) (kt : x ≤ 0 → Lw sc0 E S t ls st cs) (kf : ¬ x ≤ 0 → Lw sc0 E S (pc + 3) ls st cs) : Lw sc0 E S pc ls (.int x :: st) cs :=
  L_if hp ht (fun h => kt (of_decide_eq_true h)) (fun h => kf (of_decide_eq_false h))
theorem L_icmeq {off : Int} {t : Nat} {x y : Int32} (hp : z_pt 155 pc = some (nL, .if_icmp .eq off, ax)) (ht : z_tgt pc off = some t) (kt : x = y → Lw sc0 E S t ls st cs) (kf : ¬ x = y → Lw sc0 E S (pc + 3) ls st cs) : Lw sc0 E S pc ls (.int y :: .int x :: st) cs :=
  L_icm hp ht (fun h => kt (of_decide_eq_true h)) (fun h => kf (of_decide_eq_false h))
theorem L_icmne {off : Int} {t : Nat} {x y : Int32} (hp : z_pt 155 pc = some (nL, .if_icmp .ne off, ax)) (ht : z_tgt pc off = some t) (kt : ¬ x = y → Lw sc0 E S t ls st cs) (kf : x = y → Lw sc0 E S (pc + 3) ls st cs) : Lw sc0 E S pc ls (.int y :: .int x :: st) cs :=
  L_icm hp ht (fun h => kt (of_decide_eq_true h)) (fun h => kf (Decidable.not_not.mp (of_decide_eq_false h)))
theorem L_icmlt {off : Int} {t : Nat} {x y : Int32} (hp : z_pt 155 pc = some (nL, .if_icmp .lt off, ax)) (ht : z_tgt pc off = some t) (kt : x < y → Lw sc0 E S t ls st cs) (kf : ¬ x < y → Lw sc0 E S (pc + 3) ls st cs) : Lw sc0 E S pc ls (.int y :: .int x :: st) cs :=
  L_icm hp ht (fun h => kt (of_decide_eq_true h)) (fun h => kf (of_decide_eq_false h))
theorem L_icmge {off : Int} {t : Nat} {x y : Int32} (hp : z_pt 155 pc = some (nL, .if_icmp .ge off, ax)) (ht : z_tgt pc off = some t) (kt : y ≤ x → Lw sc0 E S t ls st cs) (kf : ¬ y ≤ x → Lw sc0 E S (pc + 3) ls st cs) : Lw sc0 E S pc ls (.int y :: .int x :: st) cs :=
  L_icm hp ht (fun h => kt (of_decide_eq_true h)) (fun h => kf (of_decide_eq_false h))
theorem L_icmgt {off : Int} {t : Nat} {x y : Int32} (hp : z_pt 155 pc = some (nL, .if_icmp .gt off, ax)) (ht : z_tgt pc off = some t) (kt : y < x → Lw sc0 E S t ls st cs) (kf : ¬ y < x → Lw sc0 E S (pc + 3) ls st cs) : Lw sc0 E S pc ls (.int y :: .int x :: st) cs :=
  L_icm hp ht (fun h => kt (of_decide_eq_true h)) (fun h => kf (of_decide_eq_false h))
theorem L_icmle {off : Int} {t : Nat} {x y : Int32} (hp : z_pt 155 pc = some (nL, .if_icmp .le off, ax)) (ht : z_tgt pc off = some t) (kt : x ≤ y → Lw sc0 E S t ls st cs) (kf : ¬ x ≤ y → Lw sc0 E S (pc + 3) ls st cs) : Lw sc0 E S pc ls (.int y :: .int x :: st) cs :=
  L_icm hp ht (fun h => kt (of_decide_eq_true h)) (fun h => kf (of_decide_eq_false h))
theorem L_div {x y : Int32} (hp : z_pt 155 pc = some (nL, .idiv, ax)) (hy : ¬ y = 0) (kk : Lw sc0 E S (pc + 1) ls (.int (x / y) :: st) cs) : Lw sc0 E S pc ls (.int y :: .int x :: st) cs :=
  L_pure hp rfl (fun sc d hp => by show z_mk (pc + 1) ls hp (z_i2 _ (.int y :: .int x :: st)) = _; unfold z_i2; dsimp only; rw [if_neg hy]; rfl) kk
theorem L_rem {x y : Int32} (hp : z_pt 155 pc = some (nL, .irem, ax)) (hy : ¬ y = 0) (kk : Lw sc0 E S (pc + 1) ls (.int (x - x / y * y) :: st) cs) : Lw sc0 E S pc ls (.int y :: .int x :: st) cs :=
  L_pure hp rfl (fun sc d hp => by show z_mk (pc + 1) ls hp (z_i2 _ (.int y :: .int x :: st)) = _; unfold z_i2; dsimp only; rw [if_neg hy]; rfl) kk
theorem L_const {pc' : Nat} {v : Int32} (h : z_ptc 155 pc = some (pc', v)) (kk : Lw sc0 E S pc' ls (.int v :: st) cs) : Lw sc0 E S pc ls st cs := by
  unfold z_ptc at h
  split at h
  · rename_i nL i ax hp
    split at h
    · cases h; exact L_pure hp rfl (fun _ _ _ => rfl) kk
    · cases h; exact L_pure hp rfl (fun _ _ _ => rfl) kk
    · cases h; exact L_pure hp rfl (fun _ _ _ => rfl) kk
    · split at h
      · cases h; exact L_pure hp rfl (fun _ _ _ => rfl) kk
      · cases h
    · cases h
  · cases h
theorem L_inc {q pc' : Nat} {n : Int} {c x : Int32} (hp : z_pt 155 pc = some (nL, .iinc q n, ax)) (hi : q < nL ∧ Int32.ofInt n = c ∧ pc' = pc + 3) (hx : z_get ls q = some (.int x)) (hl : z_st1 ls q (.int (x + c)) = ls') (kk : Lw sc0 E S pc' ls' st cs) : Lw sc0 E S pc ls st cs := by
  obtain ⟨h1, rfl, rfl⟩ := hi
  subst hl
  refine L_pure hp rfl (fun sc d hp => ?_) kk
  show z_inc nL (pc + 3) ls q n st hp = _
  unfold z_inc
  rw [hx]
  dsimp only
  rw [if_pos h1]
theorem L_at (kk : Lw sc0 E S pc ls st cs) : Lw sc0 E S pc ls st cs := kk
theorem L_at2 (kk : Lw sc0 E S pc ls st cs) : Lw sc0 E S pc ls st cs := kk
/-- build, behind cs -/
theorem z_buildrun {μ : z_Mem} (hL : sc0.1 ≤ 260) (hm : pB (z_S sc0) z_mu0 = some μ) (j sl : Nat) : ∃ f0 e, e ≤ 200 ∧ ∀ f d, f0 ≤ f → 40 ≤ d → z_ex sc0 f d 152 0 [(0, .ref 2000)] [] ([], j, sl) = some (.inl (some (.ref 0)), (z_bl μ, j + e, sl + z_I0.2.2.2 + 6 * e)) := by
  obtain ⟨f1, e, he, h1⟩ := pB_run hL hm [] j (sl + z_I0.2.2.2)
  refine ⟨f1 + 404, e, he, fun f d hf hd => ?_⟩
  obtain ⟨f, rfl⟩ : ∃ f', f = f' + 3 + 1 - 1 := ⟨f - 3, by omega⟩
  have e0 : f + 3 + 1 - 1 = f + 3 := by omega
  rw [e0, z_newrun (cs := []) (show z_pt 152 0 = some (6, .new 18, [9, 10, 1027, 1028, 1001]) by decide +kernel) (show z_pt 152 3 = some (6, .dup, []) by decide +kernel) (show z_pt 152 4 = some (6, .invokespecial 23, [3, 74, 0, 1029, 1030, 0, 1001, 1031]) by decide +kernel) (by decide) rfl rfl f d (by omega) (by omega)]
  obtain ⟨g, rfl⟩ : ∃ g, f = g + 1 := ⟨f - 1, by omega⟩
  obtain ⟨r, len, hrr, hf7, hl7, -⟩ := z_pt_eq (show z_pt 152 7 = some (6, .astore_n 1, []) by decide +kernel)
  have hnL : r.2.2.2.2.1 = 6 := (z_pt_eq (show z_pt 152 7 = some (6, .astore_n 1, []) by decide +kernel)).choose_spec.choose_spec.2.2.2 ▸ (by
    have := (z_pt_eq (show z_pt 152 7 = some (6, .astore_n 1, []) by decide +kernel)).choose_spec.choose_spec.1
    rw [Option.some.inj (hrr.symm.trans this)])
  rw [z_ex_loc (C := (8, [(0, .ref 2000), (1, .ref 0)], [], ([] ++ sb 0 z_mu0, j, sl + z_I0.2.2.2))) hrr hf7 hl7 rfl (by rw [hnL]; rfl)]
  have h2 := h1 g d (by omega) hd
  have e1 : ([] ++ sb 0 z_mu0, j, sl + z_I0.2.2.2) = z_hp z_mu0 [] j (sl + z_I0.2.2.2) := by
    unfold z_hp
    rw [List.nil_append, sb0, List.append_nil]
  dsimp only
  rw [e1, h2]
  unfold z_hp
  rw [List.append_nil]
theorem L_build {rr : List Value} {b idx p1 p2 p3 p4 p5 : Nat} {μ : z_Mem} (hL : sc0.1 ≤ 260) (hp : z_pt 155 pc = some (nL, .invokestatic idx, [1, 152, 1, p1, p2, p3, p4, p5])) (hst : st = .ref 2000 :: rr) (hm : pB (z_S sc0) z_mu0 = some μ) (hb : cs.length = b) (hb2 : b ≤ 723) (hw : z_wfb b ls rr = true) (hcat : Nat.ble (z_cat rr) 8 = true) (kk : Lw sc0 E S (pc + 3) ls (.ref b :: rr) (cs ++ sb b μ)) : Lw sc0 (200 + E) (6200 + S) pc ls st cs := fun j sl => by
  subst hb
  subst hst
  obtain ⟨r, len, hrr, hf, hl, rfl⟩ := z_pt_eq hp
  have hj2 := z_I0_j2
  obtain ⟨f1, e, he, h1⟩ := z_buildrun hL hm 0 0
  obtain ⟨f0, hp', g1, g2, g3, g4⟩ := kk (j + e) (sl + (z_I0.2.2.2 + 6 * e))
  refine ⟨f0 + f1 + 1, hp', g1, by omega, by omega, fun f hf2 => ?_⟩
  obtain ⟨f, rfl⟩ : ∃ f', f = f' + 1 := ⟨f - 1, by omega⟩
  have h2 := (s_ex _ _ _ _ _ _ _ _ _ (h1 f 99 (by omega) (by decide))).2 cs.length (j, sl) cs [] rfl (by
    show cs.length + (z_bl μ).length ≤ 999
    rw [z_bl_len, z_shl_len]; omega) (Or.inl rfl)
  have e1 : s_h cs.length (j, sl) cs [] ([], 0, 0) = (cs, j, sl) := by
    unfold s_h
    dsimp only
    rw [List.map_nil, List.nil_append, List.append_nil, Nat.zero_add, Nat.zero_add]
  have e2 : s_h cs.length (j, sl) cs [] (z_bl μ, 0 + e, 0 + z_I0.2.2.2 + 6 * e) = (cs ++ sb cs.length μ, j + e, sl + (z_I0.2.2.2 + 6 * e)) := by
    unfold s_h sb
    dsimp only
    rw [List.append_nil]
    have a1 : 0 + e + j = j + e := by omega
    have a2 : 0 + z_I0.2.2.2 + 6 * e + sl = sl + (z_I0.2.2.2 + 6 * e) := by omega
    rw [a1, a2]
  have e3 : s_r cs.length 0 = cs.length := by unfold s_r; rw [if_pos (by decide)]; exact Nat.zero_add _
  have e4 : s_R cs.length (.inl (some (.ref 0))) = .inl (some (.ref cs.length)) := by
    show Sum.inl (some (Value.ref (s_r cs.length 0))) = _
    rw [e3]
  rw [e1, e2, e4] at h2
  have h3 : z_ex sc0 f 99 152 0 [(0, .ref 2000)] [] (cs, j, sl) = some (.inl (some (.ref cs.length)), (cs ++ sb cs.length μ, j + e, sl + (z_I0.2.2.2 + 6 * e))) := h2
  have hr2 : z_r3 1 152 = some (11, 6, true) := by decide +kernel
  unfold z_r3 at hr2
  split at hr2
  · rename_i r2 hrk
    have h4 := Option.some.inj hr2
    have e5 : r2.2.2.2.2.1 = 6 := congrArg (fun q => q.2.1) h4
    have e6 : (Nat.ble r2.2.2.2.2.1 20 && (Nat.beq 1 5 || r2.2.2.2.2.2.2.1.isEmpty)) = true := congrArg (fun q => q.2.2) h4
    rw [Bool.and_eq_true] at e6
    conv => lhs; unfold z_ex
    rw [hrr]
    dsimp only
    rw [hf]
    dsimp only
    rw [hl]
    have hk3 : z_kd (.invokestatic idx) [1, 152, 1, p1, p2, p3, p4, p5] = 3 := rfl
    have hargs : z_args 1 1 (.ref 2000 :: rr) = some ([.ref 2000], rr) := rfl
    rw [hk3]
    dsimp only [cond_true]
    rw [hrk, hargs]
    dsimp only
    rw [show Nat.ble 1 100 = true from rfl, show Nat.ble (lg_sl [.ref 2000]).length r2.2.2.2.2.1 = true by rw [e5]; rfl, e6.1, hcat, e6.2, show z_rcv 1 r2.1 [.ref 2000] (cs, j, sl) = true from rfl]
    simp only [Bool.and_self, cond_true]
    rw [show lv_args 0 [Value.ref 2000] = [(0, .ref 2000)] from rfl, show (100 : Nat) - 1 = 99 from rfl, h3]
    dsimp only
    have hck : z_cok (cs, j, sl) (cs ++ sb cs.length μ, j + e, sl + (z_I0.2.2.2 + 6 * e)) ls rr (some (.ref cs.length)) = true := by
      unfold z_cok
      rw [Bool.or_eq_true]
      exact Or.inr hw
    rw [hck]
    exact g4 f (by omega)
  · cases hr2
end
end ZLAW
