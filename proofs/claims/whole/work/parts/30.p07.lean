section ZP7
def pm_doMesh  (μ : z_Mem) (i1 : Int32) (i2 : Int32) : Option (Int32 × z_Mem) := (pm_areGears μ i1 i2).bind fun q1 => if q1 = 0 then if ((z_u μ 241 12 1) 241 12) = 0 then (pm_isMesh (z_u μ 241 12 1) i1 i2).bind fun q5 => if q5 = 0 then some (0, (z_u μ 241 12 1)) else some (1, (z_u μ 241 12 1)) else some (0, (z_u μ 241 12 1)) else if ((z_u μ 241 12 0) 241 12) = 0 then (pm_isMesh (z_u μ 241 12 0) i1 i2).bind fun q9 => if q9 = 0 then some (0, (z_u μ 241 12 0)) else some (1, (z_u μ 241 12 0)) else some (0, (z_u μ 241 12 0))
theorem pm_doMesh_run  {μ : z_Mem} {i1 : Int32} {i2 : Int32}  {r : (Int32 × z_Mem)} (h : pm_doMesh μ i1 i2 = some r) : Rn 3 194 0 [(0, .ref 241), (1, .int i1), (2, .int i2)] [] μ (.inl (some (.int r.1))) r.2 := by
  unfold pm_doMesh at h
  refine R_pure (pc := 0) (pc' := 1) (st' := [.ref 241]) (show z_pt 194 0 = some (3, .aload_n 0, []) by decide +kernel) rfl (fun _ _ _ => rfl) ?_
  refine R_pure (pc := 1) (pc' := 2) (st' := [.ref 241, .ref 241]) (show z_pt 194 1 = some (3, .aload_n 0, []) by decide +kernel) rfl (fun _ _ _ => rfl) ?_
  refine R_pure (pc := 2) (pc' := 3) (st' := [.int i1, .ref 241, .ref 241]) (show z_pt 194 2 = some (3, .iload_n 1, []) by decide +kernel) rfl (fun _ _ _ => rfl) ?_
  refine R_pure (pc := 3) (pc' := 4) (st' := [.int i2, .int i1, .ref 241, .ref 241]) (show z_pt 194 3 = some (3, .iload_n 2, []) by decide +kernel) rfl (fun _ _ _ => rfl) ?_
  obtain ⟨q1, e2, h⟩ := z_bs h
  refine R_call (pc := 4) (rr := [.ref 241]) (show z_pt 194 4 = some (3, .invokevirtual 91, [0, 170, 2, 6215, 6217, 40, 1012, 6218]) by decide +kernel) rfl (show z_r2 170 = some (10, 3, true) by decide +kernel) rfl rfl (Or.inr ⟨_, _, rfl, (by decide +kernel)⟩) (pm_areGears_run  e2) (by omega) ?_
  refine R_at2 (pc := 7) (st := [.int q1, .ref 241]) ?_
  refine R_ifeq (pc := 7) (t := 14) (show z_pt 194 7 = some (3, .ifCond .eq 7, []) by decide +kernel) (by decide) (fun c3 => ?_) (fun c3 => ?_)
  · rw [if_pos c3] at h
    refine R_const (pc := 14) (pc' := 15) (v := 1) (show z_ptc 194 14 = some (15, 1) by decide +kernel) ?_
    refine R_putI (pc := 15) (a := 241) (show z_pt 194 15 = some (3, .putfield 45, [10, 12, 6130]) by decide +kernel) (by decide +kernel) ⟨rfl, rfl⟩ ?_
    refine R_at (pc := 18) ?_
    refine R_pure (pc := 18) (pc' := 19) (st' := [.ref 241]) (show z_pt 194 18 = some (3, .aload_n 0, []) by decide +kernel) rfl (fun _ _ _ => rfl) ?_
    refine R_getI (pc := 19) (a := 241) (show z_pt 194 19 = some (3, .getfield 45, [10, 12, 6130]) by decide +kernel) (by decide +kernel) ?_
    refine R_at (pc := 22) ?_
    refine R_ifne (pc := 22) (t := 38) (show z_pt 194 22 = some (3, .ifCond .ne 16, []) by decide +kernel) (by decide) (fun c4 => ?_) (fun c4 => ?_)
    · rw [if_neg c4] at h
      refine R_const (pc := 38) (pc' := 39) (v := 0) (show z_ptc 194 38 = some (39, 0) by decide +kernel) ?_
      cases h
      exact R_retZ (show z_pt 194 39 = some (3, .ireturn, []) by decide +kernel) (t := .boolean) (by decide +kernel) (by decide)
    · rw [if_pos c4] at h
      refine R_pure (pc := 25) (pc' := 26) (st' := [.ref 241]) (show z_pt 194 25 = some (3, .aload_n 0, []) by decide +kernel) rfl (fun _ _ _ => rfl) ?_
      refine R_pure (pc := 26) (pc' := 27) (st' := [.int i1, .ref 241]) (show z_pt 194 26 = some (3, .iload_n 1, []) by decide +kernel) rfl (fun _ _ _ => rfl) ?_
      refine R_pure (pc := 27) (pc' := 28) (st' := [.int i2, .int i1, .ref 241]) (show z_pt 194 27 = some (3, .iload_n 2, []) by decide +kernel) rfl (fun _ _ _ => rfl) ?_
      obtain ⟨q5, e6, h⟩ := z_bs h
      refine R_call (pc := 28) (rr := []) (show z_pt 194 28 = some (3, .invokevirtual 67, [0, 173, 2, 6231, 6233, 44, 1012, 6234]) by decide +kernel) rfl (show z_r2 173 = some (10, 3, true) by decide +kernel) rfl rfl (Or.inr ⟨_, _, rfl, (by decide +kernel)⟩) (pm_isMesh_run  e6) (by omega) ?_
      refine R_at2 (pc := 31) (st := [.int q5]) ?_
      refine R_ifeq (pc := 31) (t := 38) (show z_pt 194 31 = some (3, .ifCond .eq 7, []) by decide +kernel) (by decide) (fun c7 => ?_) (fun c7 => ?_)
      · rw [if_pos c7] at h
        refine R_const (pc := 38) (pc' := 39) (v := 0) (show z_ptc 194 38 = some (39, 0) by decide +kernel) ?_
        cases h
        exact R_retZ (show z_pt 194 39 = some (3, .ireturn, []) by decide +kernel) (t := .boolean) (by decide +kernel) (by decide)
      · rw [if_neg c7] at h
        refine R_const (pc := 34) (pc' := 35) (v := 1) (show z_ptc 194 34 = some (35, 1) by decide +kernel) ?_
        refine R_pure (pc := 35) (pc' := 39) (show z_pt 194 35 = some (3, .goto 4, []) by decide +kernel) rfl (fun _ _ _ => rfl) ?_
        cases h
        exact R_retZ (show z_pt 194 39 = some (3, .ireturn, []) by decide +kernel) (t := .boolean) (by decide +kernel) (by decide)
  · rw [if_neg c3] at h
    refine R_const (pc := 10) (pc' := 11) (v := 0) (show z_ptc 194 10 = some (11, 0) by decide +kernel) ?_
    refine R_pure (pc := 11) (pc' := 15) (show z_pt 194 11 = some (3, .goto 4, []) by decide +kernel) rfl (fun _ _ _ => rfl) ?_
    refine R_putI (pc := 15) (a := 241) (show z_pt 194 15 = some (3, .putfield 45, [10, 12, 6130]) by decide +kernel) (by decide +kernel) ⟨rfl, rfl⟩ ?_
    refine R_at (pc := 18) ?_
    refine R_pure (pc := 18) (pc' := 19) (st' := [.ref 241]) (show z_pt 194 18 = some (3, .aload_n 0, []) by decide +kernel) rfl (fun _ _ _ => rfl) ?_
    refine R_getI (pc := 19) (a := 241) (show z_pt 194 19 = some (3, .getfield 45, [10, 12, 6130]) by decide +kernel) (by decide +kernel) ?_
    refine R_at (pc := 22) ?_
    refine R_ifne (pc := 22) (t := 38) (show z_pt 194 22 = some (3, .ifCond .ne 16, []) by decide +kernel) (by decide) (fun c8 => ?_) (fun c8 => ?_)
    · rw [if_neg c8] at h
      refine R_const (pc := 38) (pc' := 39) (v := 0) (show z_ptc 194 38 = some (39, 0) by decide +kernel) ?_
      cases h
      exact R_retZ (show z_pt 194 39 = some (3, .ireturn, []) by decide +kernel) (t := .boolean) (by decide +kernel) (by decide)
    · rw [if_pos c8] at h
      refine R_pure (pc := 25) (pc' := 26) (st' := [.ref 241]) (show z_pt 194 25 = some (3, .aload_n 0, []) by decide +kernel) rfl (fun _ _ _ => rfl) ?_
      refine R_pure (pc := 26) (pc' := 27) (st' := [.int i1, .ref 241]) (show z_pt 194 26 = some (3, .iload_n 1, []) by decide +kernel) rfl (fun _ _ _ => rfl) ?_
      refine R_pure (pc := 27) (pc' := 28) (st' := [.int i2, .int i1, .ref 241]) (show z_pt 194 27 = some (3, .iload_n 2, []) by decide +kernel) rfl (fun _ _ _ => rfl) ?_
      obtain ⟨q9, e10, h⟩ := z_bs h
      refine R_call (pc := 28) (rr := []) (show z_pt 194 28 = some (3, .invokevirtual 67, [0, 173, 2, 6231, 6233, 44, 1012, 6234]) by decide +kernel) rfl (show z_r2 173 = some (10, 3, true) by decide +kernel) rfl rfl (Or.inr ⟨_, _, rfl, (by decide +kernel)⟩) (pm_isMesh_run  e10) (by omega) ?_
      refine R_at2 (pc := 31) (st := [.int q9]) ?_
      refine R_ifeq (pc := 31) (t := 38) (show z_pt 194 31 = some (3, .ifCond .eq 7, []) by decide +kernel) (by decide) (fun c11 => ?_) (fun c11 => ?_)
      · rw [if_pos c11] at h
        refine R_const (pc := 38) (pc' := 39) (v := 0) (show z_ptc 194 38 = some (39, 0) by decide +kernel) ?_
        cases h
        exact R_retZ (show z_pt 194 39 = some (3, .ireturn, []) by decide +kernel) (t := .boolean) (by decide +kernel) (by decide)
      · rw [if_neg c11] at h
        refine R_const (pc := 34) (pc' := 35) (v := 1) (show z_ptc 194 34 = some (35, 1) by decide +kernel) ?_
        refine R_pure (pc := 35) (pc' := 39) (show z_pt 194 35 = some (3, .goto 4, []) by decide +kernel) rfl (fun _ _ _ => rfl) ?_
        cases h
        exact R_retZ (show z_pt 194 39 = some (3, .ireturn, []) by decide +kernel) (t := .boolean) (by decide +kernel) (by decide)
def pm_whyNoMesh  (μ : z_Mem) (i1 : Int32) (i2 : Int32) : Option Int32 := (pm_areGears μ i1 i2).bind fun q1 => if q1 = 0 then some 1 else (pm_isMesh μ i1 i2).bind fun q4 => if q4 = 0 then some 2 else some 0
theorem pm_whyNoMesh_run  {μ : z_Mem} {i1 : Int32} {i2 : Int32}  {r : Int32} (h : pm_whyNoMesh μ i1 i2 = some r) : Rn 3 195 0 [(0, .ref 241), (1, .int i1), (2, .int i2)] [] μ (.inl (some (.int r))) μ := by
  unfold pm_whyNoMesh at h
  refine R_pure (pc := 0) (pc' := 1) (st' := [.ref 241]) (show z_pt 195 0 = some (3, .aload_n 0, []) by decide +kernel) rfl (fun _ _ _ => rfl) ?_
  refine R_pure (pc := 1) (pc' := 2) (st' := [.int i1, .ref 241]) (show z_pt 195 1 = some (3, .iload_n 1, []) by decide +kernel) rfl (fun _ _ _ => rfl) ?_
  refine R_pure (pc := 2) (pc' := 3) (st' := [.int i2, .int i1, .ref 241]) (show z_pt 195 2 = some (3, .iload_n 2, []) by decide +kernel) rfl (fun _ _ _ => rfl) ?_
  obtain ⟨q1, e2, h⟩ := z_bs h
  refine R_call (pc := 3) (rr := []) (show z_pt 195 3 = some (3, .invokevirtual 91, [0, 170, 2, 6215, 6217, 40, 1012, 6218]) by decide +kernel) rfl (show z_r2 170 = some (10, 3, true) by decide +kernel) rfl rfl (Or.inr ⟨_, _, rfl, (by decide +kernel)⟩) (pm_areGears_run  e2) (by omega) ?_
  refine R_at2 (pc := 6) (st := [.int q1]) ?_
  refine R_ifne (pc := 6) (t := 13) (show z_pt 195 6 = some (3, .ifCond .ne 7, []) by decide +kernel) (by decide) (fun c3 => ?_) (fun c3 => ?_)
  · rw [if_neg c3] at h
    refine R_pure (pc := 13) (pc' := 14) (st' := [.ref 241]) (show z_pt 195 13 = some (3, .aload_n 0, []) by decide +kernel) rfl (fun _ _ _ => rfl) ?_
    refine R_pure (pc := 14) (pc' := 15) (st' := [.int i1, .ref 241]) (show z_pt 195 14 = some (3, .iload_n 1, []) by decide +kernel) rfl (fun _ _ _ => rfl) ?_
    refine R_pure (pc := 15) (pc' := 16) (st' := [.int i2, .int i1, .ref 241]) (show z_pt 195 15 = some (3, .iload_n 2, []) by decide +kernel) rfl (fun _ _ _ => rfl) ?_
    obtain ⟨q4, e5, h⟩ := z_bs h
    refine R_call (pc := 16) (rr := []) (show z_pt 195 16 = some (3, .invokevirtual 67, [0, 173, 2, 6231, 6233, 44, 1012, 6234]) by decide +kernel) rfl (show z_r2 173 = some (10, 3, true) by decide +kernel) rfl rfl (Or.inr ⟨_, _, rfl, (by decide +kernel)⟩) (pm_isMesh_run  e5) (by omega) ?_
    refine R_at2 (pc := 19) (st := [.int q4]) ?_
    refine R_ifeq (pc := 19) (t := 26) (show z_pt 195 19 = some (3, .ifCond .eq 7, []) by decide +kernel) (by decide) (fun c6 => ?_) (fun c6 => ?_)
    · rw [if_pos c6] at h
      refine R_const (pc := 26) (pc' := 27) (v := 2) (show z_ptc 195 26 = some (27, 2) by decide +kernel) ?_
      cases h
      exact R_retI (show z_pt 195 27 = some (3, .ireturn, []) by decide +kernel) (by decide +kernel)
    · rw [if_neg c6] at h
      refine R_const (pc := 22) (pc' := 23) (v := 0) (show z_ptc 195 22 = some (23, 0) by decide +kernel) ?_
      refine R_pure (pc := 23) (pc' := 27) (show z_pt 195 23 = some (3, .goto 4, []) by decide +kernel) rfl (fun _ _ _ => rfl) ?_
      cases h
      exact R_retI (show z_pt 195 27 = some (3, .ireturn, []) by decide +kernel) (by decide +kernel)
  · rw [if_pos c3] at h
    refine R_const (pc := 9) (pc' := 10) (v := 1) (show z_ptc 195 9 = some (10, 1) by decide +kernel) ?_
    refine R_pure (pc := 10) (pc' := 27) (show z_pt 195 10 = some (3, .goto 17, []) by decide +kernel) rfl (fun _ _ _ => rfl) ?_
    cases h
    exact R_retI (show z_pt 195 27 = some (3, .ireturn, []) by decide +kernel) (by decide +kernel)
def pm_slack  (μ : z_Mem) (i1 : Int32) (i2 : Int32) : Option (Int32 × z_Mem) := (pm_whyNoMesh μ i1 i2).bind fun q1 => if q1 ≤ 0 then (pm_slackOf μ i1 i2).bind fun q4 => (pm_done μ q4).bind fun q6 => some (q6.1, q6.2) else (pm_fails μ q1).bind fun q8 => some (q8.1, q8.2)
theorem pm_slack_run  {μ : z_Mem} {i1 : Int32} {i2 : Int32}  {r : (Int32 × z_Mem)} (h : pm_slack μ i1 i2 = some r) : Rn 4 196 0 [(0, .ref 241), (1, .int i1), (2, .int i2)] [] μ (.inl (some (.int r.1))) r.2 := by
  unfold pm_slack at h
  refine R_pure (pc := 0) (pc' := 1) (st' := [.ref 241]) (show z_pt 196 0 = some (4, .aload_n 0, []) by decide +kernel) rfl (fun _ _ _ => rfl) ?_
  refine R_pure (pc := 1) (pc' := 2) (st' := [.int i1, .ref 241]) (show z_pt 196 1 = some (4, .iload_n 1, []) by decide +kernel) rfl (fun _ _ _ => rfl) ?_
  refine R_pure (pc := 2) (pc' := 3) (st' := [.int i2, .int i1, .ref 241]) (show z_pt 196 2 = some (4, .iload_n 2, []) by decide +kernel) rfl (fun _ _ _ => rfl) ?_
  obtain ⟨q1, e2, h⟩ := z_bs h
  refine R_call (pc := 3) (rr := []) (show z_pt 196 3 = some (4, .invokevirtual 132, [0, 195, 2, 7068, 7070, 53, 1012, 7071]) by decide +kernel) rfl (show z_r2 195 = some (10, 3, true) by decide +kernel) rfl rfl (Or.inr ⟨_, _, rfl, (by decide +kernel)⟩) (pm_whyNoMesh_run  e2) (by omega) ?_
  refine R_at2 (pc := 6) (st := [.int q1]) ?_
  refine R_pure (pc := 6) (pc' := 7) (ls' := [(0, .ref 241), (1, .int i1), (2, .int i2), (3, .int q1)]) (st' := []) (show z_pt 196 6 = some (4, .istore_n 3, []) by decide +kernel) rfl (fun _ _ _ => rfl) ?_
  refine R_pure (pc := 7) (pc' := 8) (st' := [.int q1]) (show z_pt 196 7 = some (4, .iload_n 3, []) by decide +kernel) rfl (fun _ _ _ => rfl) ?_
  refine R_ifle (pc := 8) (t := 19) (show z_pt 196 8 = some (4, .ifCond .le 11, []) by decide +kernel) (by decide) (fun c3 => ?_) (fun c3 => ?_)
  · rw [if_pos c3] at h
    refine R_pure (pc := 19) (pc' := 20) (st' := [.ref 241]) (show z_pt 196 19 = some (4, .aload_n 0, []) by decide +kernel) rfl (fun _ _ _ => rfl) ?_
    refine R_pure (pc := 20) (pc' := 21) (st' := [.ref 241, .ref 241]) (show z_pt 196 20 = some (4, .aload_n 0, []) by decide +kernel) rfl (fun _ _ _ => rfl) ?_
    refine R_pure (pc := 21) (pc' := 22) (st' := [.int i1, .ref 241, .ref 241]) (show z_pt 196 21 = some (4, .iload_n 1, []) by decide +kernel) rfl (fun _ _ _ => rfl) ?_
    refine R_pure (pc := 22) (pc' := 23) (st' := [.int i2, .int i1, .ref 241, .ref 241]) (show z_pt 196 22 = some (4, .iload_n 2, []) by decide +kernel) rfl (fun _ _ _ => rfl) ?_
    obtain ⟨q4, e5, h⟩ := z_bs h
    refine R_call (pc := 23) (rr := [.ref 241]) (show z_pt 196 23 = some (4, .invokevirtual 114, [0, 174, 2, 7036, 7038, 51, 1012, 7039]) by decide +kernel) rfl (show z_r2 174 = some (10, 3, true) by decide +kernel) rfl rfl (Or.inr ⟨_, _, rfl, (by decide +kernel)⟩) (pm_slackOf_run  e5) (by omega) ?_
    refine R_at2 (pc := 26) (st := [.int q4, .ref 241]) ?_
    obtain ⟨q6, e7, h⟩ := z_bs h
    refine R_call (pc := 26) (rr := []) (show z_pt 196 26 = some (4, .invokevirtual 79, [0, 164, 1, 6199, 6201, 37, 1012, 6202]) by decide +kernel) rfl (show z_r2 164 = some (10, 2, true) by decide +kernel) rfl rfl (Or.inr ⟨_, _, rfl, (by decide +kernel)⟩) (pm_done_run  e7) (by omega) ?_
    refine R_at2 (pc := 29) (st := [.int q6.1]) ?_
    cases h
    exact R_retI (show z_pt 196 29 = some (4, .ireturn, []) by decide +kernel) (by decide +kernel)
  · rw [if_neg c3] at h
    refine R_pure (pc := 11) (pc' := 12) (st' := [.ref 241]) (show z_pt 196 11 = some (4, .aload_n 0, []) by decide +kernel) rfl (fun _ _ _ => rfl) ?_
    refine R_pure (pc := 12) (pc' := 13) (st' := [.int q1, .ref 241]) (show z_pt 196 12 = some (4, .iload_n 3, []) by decide +kernel) rfl (fun _ _ _ => rfl) ?_
    obtain ⟨q8, e9, h⟩ := z_bs h
    refine R_call (pc := 13) (rr := []) (show z_pt 196 13 = some (4, .invokevirtual 75, [0, 165, 1, 6195, 6197, 36, 1012, 6198]) by decide +kernel) rfl (show z_r2 165 = some (10, 2, true) by decide +kernel) rfl rfl (Or.inr ⟨_, _, rfl, (by decide +kernel)⟩) (pm_fails_run  e9) (by omega) ?_
    refine R_at2 (pc := 16) (st := [.int q8.1]) ?_
    refine R_pure (pc := 16) (pc' := 29) (show z_pt 196 16 = some (4, .goto 13, []) by decide +kernel) rfl (fun _ _ _ => rfl) ?_
    cases h
    exact R_retI (show z_pt 196 29 = some (4, .ireturn, []) by decide +kernel) (by decide +kernel)
def pm_gap  (μ : z_Mem) (i1 : Int32) (i2 : Int32) : Option (Int32 × z_Mem) := (pm_whyNoMesh μ i1 i2).bind fun q1 => if q1 ≤ 0 then (pm_gapOf μ i1 i2).bind fun q4 => (pm_done μ q4).bind fun q6 => some (q6.1, q6.2) else (pm_fails μ q1).bind fun q8 => some (q8.1, q8.2)
theorem pm_gap_run  {μ : z_Mem} {i1 : Int32} {i2 : Int32}  {r : (Int32 × z_Mem)} (h : pm_gap μ i1 i2 = some r) : Rn 4 197 0 [(0, .ref 241), (1, .int i1), (2, .int i2)] [] μ (.inl (some (.int r.1))) r.2 := by
  unfold pm_gap at h
  refine R_pure (pc := 0) (pc' := 1) (st' := [.ref 241]) (show z_pt 197 0 = some (4, .aload_n 0, []) by decide +kernel) rfl (fun _ _ _ => rfl) ?_
  refine R_pure (pc := 1) (pc' := 2) (st' := [.int i1, .ref 241]) (show z_pt 197 1 = some (4, .iload_n 1, []) by decide +kernel) rfl (fun _ _ _ => rfl) ?_
  refine R_pure (pc := 2) (pc' := 3) (st' := [.int i2, .int i1, .ref 241]) (show z_pt 197 2 = some (4, .iload_n 2, []) by decide +kernel) rfl (fun _ _ _ => rfl) ?_
  obtain ⟨q1, e2, h⟩ := z_bs h
  refine R_call (pc := 3) (rr := []) (show z_pt 197 3 = some (4, .invokevirtual 132, [0, 195, 2, 7068, 7070, 53, 1012, 7071]) by decide +kernel) rfl (show z_r2 195 = some (10, 3, true) by decide +kernel) rfl rfl (Or.inr ⟨_, _, rfl, (by decide +kernel)⟩) (pm_whyNoMesh_run  e2) (by omega) ?_
  refine R_at2 (pc := 6) (st := [.int q1]) ?_
  refine R_pure (pc := 6) (pc' := 7) (ls' := [(0, .ref 241), (1, .int i1), (2, .int i2), (3, .int q1)]) (st' := []) (show z_pt 197 6 = some (4, .istore_n 3, []) by decide +kernel) rfl (fun _ _ _ => rfl) ?_
  refine R_pure (pc := 7) (pc' := 8) (st' := [.int q1]) (show z_pt 197 7 = some (4, .iload_n 3, []) by decide +kernel) rfl (fun _ _ _ => rfl) ?_
  refine R_ifle (pc := 8) (t := 19) (show z_pt 197 8 = some (4, .ifCond .le 11, []) by decide +kernel) (by decide) (fun c3 => ?_) (fun c3 => ?_)
  · rw [if_pos c3] at h
    refine R_pure (pc := 19) (pc' := 20) (st' := [.ref 241]) (show z_pt 197 19 = some (4, .aload_n 0, []) by decide +kernel) rfl (fun _ _ _ => rfl) ?_
    refine R_pure (pc := 20) (pc' := 21) (st' := [.ref 241, .ref 241]) (show z_pt 197 20 = some (4, .aload_n 0, []) by decide +kernel) rfl (fun _ _ _ => rfl) ?_
    refine R_pure (pc := 21) (pc' := 22) (st' := [.int i1, .ref 241, .ref 241]) (show z_pt 197 21 = some (4, .iload_n 1, []) by decide +kernel) rfl (fun _ _ _ => rfl) ?_
    refine R_pure (pc := 22) (pc' := 23) (st' := [.int i2, .int i1, .ref 241, .ref 241]) (show z_pt 197 22 = some (4, .iload_n 2, []) by decide +kernel) rfl (fun _ _ _ => rfl) ?_
    obtain ⟨q4, e5, h⟩ := z_bs h
    refine R_call (pc := 23) (rr := [.ref 241]) (show z_pt 197 23 = some (4, .invokevirtual 105, [0, 175, 2, 7010, 7012, 47, 1012, 7013]) by decide +kernel) rfl (show z_r2 175 = some (10, 3, true) by decide +kernel) rfl rfl (Or.inr ⟨_, _, rfl, (by decide +kernel)⟩) (pm_gapOf_run  e5) (by omega) ?_
    refine R_at2 (pc := 26) (st := [.int q4, .ref 241]) ?_
    obtain ⟨q6, e7, h⟩ := z_bs h
    refine R_call (pc := 26) (rr := []) (show z_pt 197 26 = some (4, .invokevirtual 79, [0, 164, 1, 6199, 6201, 37, 1012, 6202]) by decide +kernel) rfl (show z_r2 164 = some (10, 2, true) by decide +kernel) rfl rfl (Or.inr ⟨_, _, rfl, (by decide +kernel)⟩) (pm_done_run  e7) (by omega) ?_
    refine R_at2 (pc := 29) (st := [.int q6.1]) ?_
    cases h
    exact R_retI (show z_pt 197 29 = some (4, .ireturn, []) by decide +kernel) (by decide +kernel)
  · rw [if_neg c3] at h
    refine R_pure (pc := 11) (pc' := 12) (st' := [.ref 241]) (show z_pt 197 11 = some (4, .aload_n 0, []) by decide +kernel) rfl (fun _ _ _ => rfl) ?_
    refine R_pure (pc := 12) (pc' := 13) (st' := [.int q1, .ref 241]) (show z_pt 197 12 = some (4, .iload_n 3, []) by decide +kernel) rfl (fun _ _ _ => rfl) ?_
    obtain ⟨q8, e9, h⟩ := z_bs h
    refine R_call (pc := 13) (rr := []) (show z_pt 197 13 = some (4, .invokevirtual 75, [0, 165, 1, 6195, 6197, 36, 1012, 6198]) by decide +kernel) rfl (show z_r2 165 = some (10, 2, true) by decide +kernel) rfl rfl (Or.inr ⟨_, _, rfl, (by decide +kernel)⟩) (pm_fails_run  e9) (by omega) ?_
    refine R_at2 (pc := 16) (st := [.int q8.1]) ?_
    refine R_pure (pc := 16) (pc' := 29) (show z_pt 197 16 = some (4, .goto 13, []) by decide +kernel) rfl (fun _ _ _ => rfl) ?_
    cases h
    exact R_retI (show z_pt 197 29 = some (4, .ireturn, []) by decide +kernel) (by decide +kernel)
def pm_areConnected  (μ : z_Mem) (i1 : Int32) (i2 : Int32) : Option (Int32 × z_Mem) := (pm_areGears μ i1 i2).bind fun q1 => if q1 = 0 then if ((z_u μ 241 12 1) 241 12) = 0 then (pm_isConnected (z_u μ 241 12 1) i1 i2).bind fun q5 => if q5.1 = 0 then some (0, q5.2) else some (1, q5.2) else some (0, (z_u μ 241 12 1)) else if ((z_u μ 241 12 0) 241 12) = 0 then (pm_isConnected (z_u μ 241 12 0) i1 i2).bind fun q9 => if q9.1 = 0 then some (0, q9.2) else some (1, q9.2) else some (0, (z_u μ 241 12 0))
theorem pm_areConnected_run  {μ : z_Mem} {i1 : Int32} {i2 : Int32}  {r : (Int32 × z_Mem)} (h : pm_areConnected μ i1 i2 = some r) : Rn 4 198 0 [(0, .ref 241), (1, .int i1), (2, .int i2)] [] μ (.inl (some (.int r.1))) r.2 := by
  unfold pm_areConnected at h
  refine R_pure (pc := 0) (pc' := 1) (st' := [.ref 241]) (show z_pt 198 0 = some (3, .aload_n 0, []) by decide +kernel) rfl (fun _ _ _ => rfl) ?_
  refine R_pure (pc := 1) (pc' := 2) (st' := [.ref 241, .ref 241]) (show z_pt 198 1 = some (3, .aload_n 0, []) by decide +kernel) rfl (fun _ _ _ => rfl) ?_
  refine R_pure (pc := 2) (pc' := 3) (st' := [.int i1, .ref 241, .ref 241]) (show z_pt 198 2 = some (3, .iload_n 1, []) by decide +kernel) rfl (fun _ _ _ => rfl) ?_
  refine R_pure (pc := 3) (pc' := 4) (st' := [.int i2, .int i1, .ref 241, .ref 241]) (show z_pt 198 3 = some (3, .iload_n 2, []) by decide +kernel) rfl (fun _ _ _ => rfl) ?_
  obtain ⟨q1, e2, h⟩ := z_bs h
  refine R_call (pc := 4) (rr := [.ref 241]) (show z_pt 198 4 = some (3, .invokevirtual 91, [0, 170, 2, 6215, 6217, 40, 1012, 6218]) by decide +kernel) rfl (show z_r2 170 = some (10, 3, true) by decide +kernel) rfl rfl (Or.inr ⟨_, _, rfl, (by decide +kernel)⟩) (pm_areGears_run  e2) (by omega) ?_
  refine R_at2 (pc := 7) (st := [.int q1, .ref 241]) ?_
  refine R_ifeq (pc := 7) (t := 14) (show z_pt 198 7 = some (3, .ifCond .eq 7, []) by decide +kernel) (by decide) (fun c3 => ?_) (fun c3 => ?_)
  · rw [if_pos c3] at h
    refine R_const (pc := 14) (pc' := 15) (v := 1) (show z_ptc 198 14 = some (15, 1) by decide +kernel) ?_
    refine R_putI (pc := 15) (a := 241) (show z_pt 198 15 = some (3, .putfield 45, [10, 12, 6130]) by decide +kernel) (by decide +kernel) ⟨rfl, rfl⟩ ?_
    refine R_at (pc := 18) ?_
    refine R_pure (pc := 18) (pc' := 19) (st' := [.ref 241]) (show z_pt 198 18 = some (3, .aload_n 0, []) by decide +kernel) rfl (fun _ _ _ => rfl) ?_
    refine R_getI (pc := 19) (a := 241) (show z_pt 198 19 = some (3, .getfield 45, [10, 12, 6130]) by decide +kernel) (by decide +kernel) ?_
    refine R_at (pc := 22) ?_
    refine R_ifne (pc := 22) (t := 38) (show z_pt 198 22 = some (3, .ifCond .ne 16, []) by decide +kernel) (by decide) (fun c4 => ?_) (fun c4 => ?_)
    · rw [if_neg c4] at h
      refine R_const (pc := 38) (pc' := 39) (v := 0) (show z_ptc 198 38 = some (39, 0) by decide +kernel) ?_
      cases h
      exact R_retZ (show z_pt 198 39 = some (3, .ireturn, []) by decide +kernel) (t := .boolean) (by decide +kernel) (by decide)
    · rw [if_pos c4] at h
      refine R_pure (pc := 25) (pc' := 26) (st' := [.ref 241]) (show z_pt 198 25 = some (3, .aload_n 0, []) by decide +kernel) rfl (fun _ _ _ => rfl) ?_
      refine R_pure (pc := 26) (pc' := 27) (st' := [.int i1, .ref 241]) (show z_pt 198 26 = some (3, .iload_n 1, []) by decide +kernel) rfl (fun _ _ _ => rfl) ?_
      refine R_pure (pc := 27) (pc' := 28) (st' := [.int i2, .int i1, .ref 241]) (show z_pt 198 27 = some (3, .iload_n 2, []) by decide +kernel) rfl (fun _ _ _ => rfl) ?_
      obtain ⟨q5, e6, h⟩ := z_bs h
      refine R_call (pc := 28) (rr := []) (show z_pt 198 28 = some (3, .invokevirtual 94, [0, 178, 2, 6223, 6225, 42, 1012, 6226]) by decide +kernel) rfl (show z_r2 178 = some (10, 3, true) by decide +kernel) rfl rfl (Or.inr ⟨_, _, rfl, (by decide +kernel)⟩) (pm_isConnected_run  e6) (by omega) ?_
      refine R_at2 (pc := 31) (st := [.int q5.1]) ?_
      refine R_ifeq (pc := 31) (t := 38) (show z_pt 198 31 = some (3, .ifCond .eq 7, []) by decide +kernel) (by decide) (fun c7 => ?_) (fun c7 => ?_)
      · rw [if_pos c7] at h
        refine R_const (pc := 38) (pc' := 39) (v := 0) (show z_ptc 198 38 = some (39, 0) by decide +kernel) ?_
        cases h
        exact R_retZ (show z_pt 198 39 = some (3, .ireturn, []) by decide +kernel) (t := .boolean) (by decide +kernel) (by decide)
      · rw [if_neg c7] at h
        refine R_const (pc := 34) (pc' := 35) (v := 1) (show z_ptc 198 34 = some (35, 1) by decide +kernel) ?_
        refine R_pure (pc := 35) (pc' := 39) (show z_pt 198 35 = some (3, .goto 4, []) by decide +kernel) rfl (fun _ _ _ => rfl) ?_
        cases h
        exact R_retZ (show z_pt 198 39 = some (3, .ireturn, []) by decide +kernel) (t := .boolean) (by decide +kernel) (by decide)
  · rw [if_neg c3] at h
    refine R_const (pc := 10) (pc' := 11) (v := 0) (show z_ptc 198 10 = some (11, 0) by decide +kernel) ?_
    refine R_pure (pc := 11) (pc' := 15) (show z_pt 198 11 = some (3, .goto 4, []) by decide +kernel) rfl (fun _ _ _ => rfl) ?_
    refine R_putI (pc := 15) (a := 241) (show z_pt 198 15 = some (3, .putfield 45, [10, 12, 6130]) by decide +kernel) (by decide +kernel) ⟨rfl, rfl⟩ ?_
    refine R_at (pc := 18) ?_
    refine R_pure (pc := 18) (pc' := 19) (st' := [.ref 241]) (show z_pt 198 18 = some (3, .aload_n 0, []) by decide +kernel) rfl (fun _ _ _ => rfl) ?_
    refine R_getI (pc := 19) (a := 241) (show z_pt 198 19 = some (3, .getfield 45, [10, 12, 6130]) by decide +kernel) (by decide +kernel) ?_
    refine R_at (pc := 22) ?_
    refine R_ifne (pc := 22) (t := 38) (show z_pt 198 22 = some (3, .ifCond .ne 16, []) by decide +kernel) (by decide) (fun c8 => ?_) (fun c8 => ?_)
    · rw [if_neg c8] at h
      refine R_const (pc := 38) (pc' := 39) (v := 0) (show z_ptc 198 38 = some (39, 0) by decide +kernel) ?_
      cases h
      exact R_retZ (show z_pt 198 39 = some (3, .ireturn, []) by decide +kernel) (t := .boolean) (by decide +kernel) (by decide)
    · rw [if_pos c8] at h
      refine R_pure (pc := 25) (pc' := 26) (st' := [.ref 241]) (show z_pt 198 25 = some (3, .aload_n 0, []) by decide +kernel) rfl (fun _ _ _ => rfl) ?_
      refine R_pure (pc := 26) (pc' := 27) (st' := [.int i1, .ref 241]) (show z_pt 198 26 = some (3, .iload_n 1, []) by decide +kernel) rfl (fun _ _ _ => rfl) ?_
      refine R_pure (pc := 27) (pc' := 28) (st' := [.int i2, .int i1, .ref 241]) (show z_pt 198 27 = some (3, .iload_n 2, []) by decide +kernel) rfl (fun _ _ _ => rfl) ?_
      obtain ⟨q9, e10, h⟩ := z_bs h
      refine R_call (pc := 28) (rr := []) (show z_pt 198 28 = some (3, .invokevirtual 94, [0, 178, 2, 6223, 6225, 42, 1012, 6226]) by decide +kernel) rfl (show z_r2 178 = some (10, 3, true) by decide +kernel) rfl rfl (Or.inr ⟨_, _, rfl, (by decide +kernel)⟩) (pm_isConnected_run  e10) (by omega) ?_
      refine R_at2 (pc := 31) (st := [.int q9.1]) ?_
      refine R_ifeq (pc := 31) (t := 38) (show z_pt 198 31 = some (3, .ifCond .eq 7, []) by decide +kernel) (by decide) (fun c11 => ?_) (fun c11 => ?_)
      · rw [if_pos c11] at h
        refine R_const (pc := 38) (pc' := 39) (v := 0) (show z_ptc 198 38 = some (39, 0) by decide +kernel) ?_
        cases h
        exact R_retZ (show z_pt 198 39 = some (3, .ireturn, []) by decide +kernel) (t := .boolean) (by decide +kernel) (by decide)
      · rw [if_neg c11] at h
        refine R_const (pc := 34) (pc' := 35) (v := 1) (show z_ptc 198 34 = some (35, 1) by decide +kernel) ?_
        refine R_pure (pc := 35) (pc' := 39) (show z_pt 198 35 = some (3, .goto 4, []) by decide +kernel) rfl (fun _ _ _ => rfl) ?_
        cases h
        exact R_retZ (show z_pt 198 39 = some (3, .ireturn, []) by decide +kernel) (t := .boolean) (by decide +kernel) (by decide)
def pm_trainSize_L23_B (R : Int32 → Int32 → Option (Int32 × z_Mem))  (μ : z_Mem) (f1 : Int32) (K : Int32 → Int32 → Option (Int32 × z_Mem)) (a2 : Int32) (a3 : Int32) : Option (Int32 × z_Mem) := if (μ 242 0) ≤ a3 then K a2 a3 else (z_rd μ 249 10 a3).bind fun v7 => if v7 = (-1) then R (a2 + 0) (a3 + 1) else R (a2 + 1) (a3 + 1)
def pm_trainSize_L23 : Nat → z_Mem → Int32 → (Int32 → Int32 → Option (Int32 × z_Mem)) → Int32 → Int32 → Option (Int32 × z_Mem)
  | 0 => fun _ _ _ _ _ => none
  | n + 1 => fun μ f1 K a2 a3 => pm_trainSize_L23_B (pm_trainSize_L23 n μ f1 K) μ f1 K a2 a3
theorem pm_trainSize_L23_run  (μ : z_Mem) (f1 : Int32) (K : Int32 → Int32 → Option (Int32 × z_Mem))  (D : Nat) (hD : 3 ≤ D) (hK : ∀ (a2 a3 : Int32) (r : (Int32 × z_Mem)), K a2 a3 = some r → Rn D 199 57 [(0, .ref 241), (1, .int f1), (2, .int a2), (3, .int a3)] [] μ (.inl (some (.int r.1))) r.2) : ∀ (n : Nat) (a2 : Int32) (a3 : Int32) (r : (Int32 × z_Mem)), pm_trainSize_L23 n μ f1 K a2 a3 = some r → Rn D 199 23 [(0, .ref 241), (1, .int f1), (2, .int a2), (3, .int a3)] [] μ (.inl (some (.int r.1))) r.2 := by
  intro n
  induction n with
  | zero => intro a2 a3 r h; cases h
  | succ n ih =>
    intro a2 a3 r h
    have h : pm_trainSize_L23_B (pm_trainSize_L23 n μ f1 K) μ f1 K a2 a3 = some r := h
    unfold pm_trainSize_L23_B at h
    refine R_pure (pc := 23) (pc' := 24) (st' := [.int a3]) (show z_pt 199 23 = some (4, .iload_n 3, []) by decide +kernel) rfl (fun _ _ _ => rfl) ?_
    refine R_pure (pc := 24) (pc' := 25) (st' := [.ref 241, .int a3]) (show z_pt 199 24 = some (4, .aload_n 0, []) by decide +kernel) rfl (fun _ _ _ => rfl) ?_
    refine R_getR (pc := 25) (a := 241) (b := 242) (show z_pt 199 25 = some (4, .getfield 7, [10, 0, 6118]) by decide +kernel) (by decide +kernel) ?_
    refine R_at (pc := 28) ?_
    refine R_const (pc := 28) (pc' := 29) (v := 0) (show z_ptc 199 28 = some (29, 0) by decide +kernel) ?_
    refine R_ialdK (pc := 29) (a := 242) (n := 331) (jn := 0) (show z_pt 199 29 = some (4, .iaload, []) by decide +kernel) (show z_ar 242 0 331 = true by decide +kernel) (by decide) (by decide) ?_
    refine R_at (pc := 30) ?_
    refine R_icmge (pc := 30) (t := 57) (show z_pt 199 30 = some (4, .if_icmp .ge 27, []) by decide +kernel) (by decide) (fun c6 => ?_) (fun c6 => ?_)
    · rw [if_pos c6] at h
      exact hK _ _  _ h
    · rw [if_neg c6] at h
      refine R_pure (pc := 33) (pc' := 34) (st' := [.int a2]) (show z_pt 199 33 = some (4, .iload_n 2, []) by decide +kernel) rfl (fun _ _ _ => rfl) ?_
      refine R_pure (pc := 34) (pc' := 35) (st' := [.ref 241, .int a2]) (show z_pt 199 34 = some (4, .aload_n 0, []) by decide +kernel) rfl (fun _ _ _ => rfl) ?_
      refine R_getR (pc := 35) (a := 241) (b := 249) (show z_pt 199 35 = some (4, .getfield 39, [10, 14, 6132]) by decide +kernel) (by decide +kernel) ?_
      refine R_at (pc := 38) ?_
      refine R_pure (pc := 38) (pc' := 39) (st' := [.int a3, .ref 249, .int a2]) (show z_pt 199 38 = some (4, .iload_n 3, []) by decide +kernel) rfl (fun _ _ _ => rfl) ?_
      obtain ⟨v7, e8, h⟩ := z_bs h
      refine R_ialdR (pc := 39) (a := 249) (n := 10) (show z_pt 199 39 = some (4, .iaload, []) by decide +kernel) (show z_ar 249 0 10 = true by decide +kernel) e8 ?_
      refine R_at (pc := 40) ?_
      refine R_const (pc := 40) (pc' := 41) (v := (-1)) (show z_ptc 199 40 = some (41, (-1)) by decide +kernel) ?_
      refine R_icmeq (pc := 41) (t := 48) (show z_pt 199 41 = some (4, .if_icmp .eq 7, []) by decide +kernel) (by decide) (fun c9 => ?_) (fun c9 => ?_)
      · rw [if_pos c9] at h
        refine R_const (pc := 48) (pc' := 49) (v := 0) (show z_ptc 199 48 = some (49, 0) by decide +kernel) ?_
        refine R_pure (pc := 49) (pc' := 50) (st' := [.int (a2 + 0)]) (show z_pt 199 49 = some (4, .iadd, []) by decide +kernel) rfl (fun _ _ _ => rfl) ?_
        refine R_pure (pc := 50) (pc' := 51) (ls' := [(0, .ref 241), (1, .int f1), (2, .int (a2 + 0)), (3, .int a3)]) (st' := []) (show z_pt 199 50 = some (4, .istore_n 2, []) by decide +kernel) rfl (fun _ _ _ => rfl) ?_
        refine R_inc (pc := 51) (pc' := 54) (ls' := [(0, .ref 241), (1, .int f1), (2, .int (a2 + 0)), (3, .int (a3 + 1))]) (c := 1) (show z_pt 199 51 = some (4, .iinc 3 1, []) by decide +kernel) (by decide) rfl rfl ?_
        refine R_pure (pc := 54) (pc' := 23) (ls' := [(0, .ref 241), (1, .int f1), (2, .int (a2 + 0)), (3, .int (a3 + 1))]) (st' := []) (show z_pt 199 54 = some (4, .goto (-31), [4]) by decide +kernel) rfl (fun _ _ _ => rfl) ?_
        exact ih _ _ _  h
      · rw [if_neg c9] at h
        refine R_const (pc := 44) (pc' := 45) (v := 1) (show z_ptc 199 44 = some (45, 1) by decide +kernel) ?_
        refine R_pure (pc := 45) (pc' := 49) (show z_pt 199 45 = some (4, .goto 4, []) by decide +kernel) rfl (fun _ _ _ => rfl) ?_
        refine R_pure (pc := 49) (pc' := 50) (st' := [.int (a2 + 1)]) (show z_pt 199 49 = some (4, .iadd, []) by decide +kernel) rfl (fun _ _ _ => rfl) ?_
        refine R_pure (pc := 50) (pc' := 51) (ls' := [(0, .ref 241), (1, .int f1), (2, .int (a2 + 1)), (3, .int a3)]) (st' := []) (show z_pt 199 50 = some (4, .istore_n 2, []) by decide +kernel) rfl (fun _ _ _ => rfl) ?_
        refine R_inc (pc := 51) (pc' := 54) (ls' := [(0, .ref 241), (1, .int f1), (2, .int (a2 + 1)), (3, .int (a3 + 1))]) (c := 1) (show z_pt 199 51 = some (4, .iinc 3 1, []) by decide +kernel) (by decide) rfl rfl ?_
        refine R_pure (pc := 54) (pc' := 23) (ls' := [(0, .ref 241), (1, .int f1), (2, .int (a2 + 1)), (3, .int (a3 + 1))]) (st' := []) (show z_pt 199 54 = some (4, .goto (-31), [4]) by decide +kernel) rfl (fun _ _ _ => rfl) ?_
        exact ih _ _ _  h
def pm_trainSize  (μ : z_Mem) (i1 : Int32) : Option (Int32 × z_Mem) := (pm_isGear μ i1).bind fun q1 => if q1 = 0 then (pm_fails μ 1).bind fun q14 => some (q14.1, q14.2) else (pm_explores μ i1).bind fun q4 => pm_trainSize_L23 z_fu q4 i1 (fun k10 k11 => (pm_done q4 k10).bind fun q12 => some (q12.1, q12.2)) 0 0
theorem pm_trainSize_run  {μ : z_Mem} {i1 : Int32}  {r : (Int32 × z_Mem)} (h : pm_trainSize μ i1 = some r) : Rn 3 199 0 [(0, .ref 241), (1, .int i1)] [] μ (.inl (some (.int r.1))) r.2 := by
  unfold pm_trainSize at h
  refine R_pure (pc := 0) (pc' := 1) (st' := [.ref 241]) (show z_pt 199 0 = some (4, .aload_n 0, []) by decide +kernel) rfl (fun _ _ _ => rfl) ?_
  refine R_pure (pc := 1) (pc' := 2) (st' := [.int i1, .ref 241]) (show z_pt 199 1 = some (4, .iload_n 1, []) by decide +kernel) rfl (fun _ _ _ => rfl) ?_
  obtain ⟨q1, e2, h⟩ := z_bs h
  refine R_call (pc := 2) (rr := []) (show z_pt 199 2 = some (4, .invokevirtual 59, [0, 169, 1, 6219, 6221, 41, 1012, 6222]) by decide +kernel) rfl (show z_r2 169 = some (10, 2, true) by decide +kernel) rfl rfl (Or.inr ⟨_, _, rfl, (by decide +kernel)⟩) (pm_isGear_run  e2) (by omega) ?_
  refine R_at2 (pc := 5) (st := [.int q1]) ?_
  refine R_ifne (pc := 5) (t := 14) (show z_pt 199 5 = some (4, .ifCond .ne 9, []) by decide +kernel) (by decide) (fun c3 => ?_) (fun c3 => ?_)
  · rw [if_neg c3] at h
    refine R_pure (pc := 14) (pc' := 15) (st' := [.ref 241]) (show z_pt 199 14 = some (4, .aload_n 0, []) by decide +kernel) rfl (fun _ _ _ => rfl) ?_
    refine R_pure (pc := 15) (pc' := 16) (st' := [.int i1, .ref 241]) (show z_pt 199 15 = some (4, .iload_n 1, []) by decide +kernel) rfl (fun _ _ _ => rfl) ?_
    obtain ⟨q4, e5, h⟩ := z_bs h
    refine R_call (pc := 16) (rr := []) (show z_pt 199 16 = some (4, .invokevirtual 71, [0, 177, 1, 6227, 6229, 43, 1012, 6230]) by decide +kernel) rfl (show z_r2 177 = some (10, 6, true) by decide +kernel) rfl rfl (Or.inr ⟨_, _, rfl, (by decide +kernel)⟩) (pm_explores_run  e5) (by omega) ?_
    refine R_at2 (pc := 19) (st := []) ?_
    refine R_const (pc := 19) (pc' := 20) (v := 0) (show z_ptc 199 19 = some (20, 0) by decide +kernel) ?_
    refine R_pure (pc := 20) (pc' := 21) (ls' := [(0, .ref 241), (1, .int i1), (2, .int 0)]) (st' := []) (show z_pt 199 20 = some (4, .istore_n 2, []) by decide +kernel) rfl (fun _ _ _ => rfl) ?_
    refine R_const (pc := 21) (pc' := 22) (v := 0) (show z_ptc 199 21 = some (22, 0) by decide +kernel) ?_
    refine R_pure (pc := 22) (pc' := 23) (ls' := [(0, .ref 241), (1, .int i1), (2, .int 0), (3, .int 0)]) (st' := []) (show z_pt 199 22 = some (4, .istore_n 3, []) by decide +kernel) rfl (fun _ _ _ => rfl) ?_
    refine pm_trainSize_L23_run  _ _ _  _ (by omega) ?_ _ _ _ _ h
    intro k10 k11 r h
    refine R_pure (pc := 57) (pc' := 58) (st' := [.ref 241]) (show z_pt 199 57 = some (4, .aload_n 0, []) by decide +kernel) rfl (fun _ _ _ => rfl) ?_
    refine R_pure (pc := 58) (pc' := 59) (st' := [.int k10, .ref 241]) (show z_pt 199 58 = some (4, .iload_n 2, []) by decide +kernel) rfl (fun _ _ _ => rfl) ?_
    obtain ⟨q12, e13, h⟩ := z_bs h
    refine R_call (pc := 59) (rr := []) (show z_pt 199 59 = some (4, .invokevirtual 79, [0, 164, 1, 6199, 6201, 37, 1012, 6202]) by decide +kernel) rfl (show z_r2 164 = some (10, 2, true) by decide +kernel) rfl rfl (Or.inr ⟨_, _, rfl, (by decide +kernel)⟩) (pm_done_run  e13) (by omega) ?_
    refine R_at2 (pc := 62) (st := [.int q12.1]) ?_
    cases h
    exact R_retI (show z_pt 199 62 = some (4, .ireturn, []) by decide +kernel) (by decide +kernel)
  · rw [if_pos c3] at h
    refine R_pure (pc := 8) (pc' := 9) (st' := [.ref 241]) (show z_pt 199 8 = some (4, .aload_n 0, []) by decide +kernel) rfl (fun _ _ _ => rfl) ?_
    refine R_const (pc := 9) (pc' := 10) (v := 1) (show z_ptc 199 9 = some (10, 1) by decide +kernel) ?_
    obtain ⟨q14, e15, h⟩ := z_bs h
    refine R_call (pc := 10) (rr := []) (show z_pt 199 10 = some (4, .invokevirtual 75, [0, 165, 1, 6195, 6197, 36, 1012, 6198]) by decide +kernel) rfl (show z_r2 165 = some (10, 2, true) by decide +kernel) rfl rfl (Or.inr ⟨_, _, rfl, (by decide +kernel)⟩) (pm_fails_run  e15) (by omega) ?_
    refine R_at2 (pc := 13) (st := [.int q14.1]) ?_
    cases h
    exact R_retI (show z_pt 199 13 = some (4, .ireturn, []) by decide +kernel) (by decide +kernel)
def pm_trainCount_L24_B (R : Int32 → Int32 → Option (Int32 × z_Mem))  (μ : z_Mem) (f1 : Int32) (f2 : Int32) (K : Int32 → Int32 → Option (Int32 × z_Mem)) (a3 : Int32) (a4 : Int32) : Option (Int32 × z_Mem) := if f2 ≤ a4 then K a3 a4 else if a3 = 0 then R 0 (a4 + 1) else (z_rd μ 249 10 a4).bind fun v6 => if v6 = (-1) then R 1 (a4 + 1) else R 0 (a4 + 1)
def pm_trainCount_L24 : Nat → z_Mem → Int32 → Int32 → (Int32 → Int32 → Option (Int32 × z_Mem)) → Int32 → Int32 → Option (Int32 × z_Mem)
  | 0 => fun _ _ _ _ _ _ => none
  | n + 1 => fun μ f1 f2 K a3 a4 => pm_trainCount_L24_B (pm_trainCount_L24 n μ f1 f2 K) μ f1 f2 K a3 a4
theorem pm_trainCount_L24_run  (μ : z_Mem) (f1 : Int32) (f2 : Int32) (K : Int32 → Int32 → Option (Int32 × z_Mem))  (D : Nat) (hD : 3 ≤ D) (hK : ∀ (a3 a4 : Int32) (r : (Int32 × z_Mem)), K a3 a4 = some r → Rn D 200 57 [(0, .ref 241), (1, .int f1), (2, .int f2), (3, .int a3), (4, .int a4)] [] μ (.inl (some (.int r.1))) r.2) : ∀ (n : Nat) (a3 : Int32) (a4 : Int32) (r : (Int32 × z_Mem)), pm_trainCount_L24 n μ f1 f2 K a3 a4 = some r → Rn D 200 24 [(0, .ref 241), (1, .int f1), (2, .int f2), (3, .int a3), (4, .int a4)] [] μ (.inl (some (.int r.1))) r.2 := by
  intro n
  induction n with
  | zero => intro a3 a4 r h; cases h
  | succ n ih =>
    intro a3 a4 r h
    have h : pm_trainCount_L24_B (pm_trainCount_L24 n μ f1 f2 K) μ f1 f2 K a3 a4 = some r := h
    unfold pm_trainCount_L24_B at h
    refine R_pure (pc := 24) (pc' := 26) (st' := [.int a4]) (show z_pt 200 24 = some (5, .iload 4, []) by decide +kernel) rfl (fun _ _ _ => rfl) ?_
    refine R_pure (pc := 26) (pc' := 27) (st' := [.int f2, .int a4]) (show z_pt 200 26 = some (5, .iload_n 2, []) by decide +kernel) rfl (fun _ _ _ => rfl) ?_
    refine R_icmge (pc := 27) (t := 57) (show z_pt 200 27 = some (5, .if_icmp .ge 30, []) by decide +kernel) (by decide) (fun c4 => ?_) (fun c4 => ?_)
    · rw [if_pos c4] at h
      exact hK _ _  _ h
    · rw [if_neg c4] at h
      refine R_pure (pc := 30) (pc' := 31) (st' := [.int a3]) (show z_pt 200 30 = some (5, .iload_n 3, []) by decide +kernel) rfl (fun _ _ _ => rfl) ?_
      refine R_ifeq (pc := 31) (t := 49) (show z_pt 200 31 = some (5, .ifCond .eq 18, []) by decide +kernel) (by decide) (fun c5 => ?_) (fun c5 => ?_)
      · rw [if_pos c5] at h
        refine R_const (pc := 49) (pc' := 50) (v := 0) (show z_ptc 200 49 = some (50, 0) by decide +kernel) ?_
        refine R_pure (pc := 50) (pc' := 51) (ls' := [(0, .ref 241), (1, .int f1), (2, .int f2), (3, .int 0), (4, .int a4)]) (st' := []) (show z_pt 200 50 = some (5, .istore_n 3, []) by decide +kernel) rfl (fun _ _ _ => rfl) ?_
        refine R_inc (pc := 51) (pc' := 54) (ls' := [(0, .ref 241), (1, .int f1), (2, .int f2), (3, .int 0), (4, .int (a4 + 1))]) (c := 1) (show z_pt 200 51 = some (5, .iinc 4 1, []) by decide +kernel) (by decide) rfl rfl ?_
        refine R_pure (pc := 54) (pc' := 24) (ls' := [(0, .ref 241), (1, .int f1), (2, .int f2), (3, .int 0), (4, .int (a4 + 1))]) (st' := []) (show z_pt 200 54 = some (5, .goto (-30), [5]) by decide +kernel) rfl (fun _ _ _ => rfl) ?_
        exact ih _ _ _  h
      · rw [if_neg c5] at h
        refine R_pure (pc := 34) (pc' := 35) (st' := [.ref 241]) (show z_pt 200 34 = some (5, .aload_n 0, []) by decide +kernel) rfl (fun _ _ _ => rfl) ?_
        refine R_getR (pc := 35) (a := 241) (b := 249) (show z_pt 200 35 = some (5, .getfield 39, [10, 14, 6132]) by decide +kernel) (by decide +kernel) ?_
        refine R_at (pc := 38) ?_
        refine R_pure (pc := 38) (pc' := 40) (st' := [.int a4, .ref 249]) (show z_pt 200 38 = some (5, .iload 4, []) by decide +kernel) rfl (fun _ _ _ => rfl) ?_
        obtain ⟨v6, e7, h⟩ := z_bs h
        refine R_ialdR (pc := 40) (a := 249) (n := 10) (show z_pt 200 40 = some (5, .iaload, []) by decide +kernel) (show z_ar 249 0 10 = true by decide +kernel) e7 ?_
        refine R_at (pc := 41) ?_
        refine R_const (pc := 41) (pc' := 42) (v := (-1)) (show z_ptc 200 41 = some (42, (-1)) by decide +kernel) ?_
        refine R_icmne (pc := 42) (t := 49) (show z_pt 200 42 = some (5, .if_icmp .ne 7, []) by decide +kernel) (by decide) (fun c8 => ?_) (fun c8 => ?_)
        · rw [if_neg c8] at h
          refine R_const (pc := 49) (pc' := 50) (v := 0) (show z_ptc 200 49 = some (50, 0) by decide +kernel) ?_
          refine R_pure (pc := 50) (pc' := 51) (ls' := [(0, .ref 241), (1, .int f1), (2, .int f2), (3, .int 0), (4, .int a4)]) (st' := []) (show z_pt 200 50 = some (5, .istore_n 3, []) by decide +kernel) rfl (fun _ _ _ => rfl) ?_
          refine R_inc (pc := 51) (pc' := 54) (ls' := [(0, .ref 241), (1, .int f1), (2, .int f2), (3, .int 0), (4, .int (a4 + 1))]) (c := 1) (show z_pt 200 51 = some (5, .iinc 4 1, []) by decide +kernel) (by decide) rfl rfl ?_
          refine R_pure (pc := 54) (pc' := 24) (ls' := [(0, .ref 241), (1, .int f1), (2, .int f2), (3, .int 0), (4, .int (a4 + 1))]) (st' := []) (show z_pt 200 54 = some (5, .goto (-30), [5]) by decide +kernel) rfl (fun _ _ _ => rfl) ?_
          exact ih _ _ _  h
        · rw [if_pos c8] at h
          refine R_const (pc := 45) (pc' := 46) (v := 1) (show z_ptc 200 45 = some (46, 1) by decide +kernel) ?_
          refine R_pure (pc := 46) (pc' := 50) (show z_pt 200 46 = some (5, .goto 4, []) by decide +kernel) rfl (fun _ _ _ => rfl) ?_
          refine R_pure (pc := 50) (pc' := 51) (ls' := [(0, .ref 241), (1, .int f1), (2, .int f2), (3, .int 1), (4, .int a4)]) (st' := []) (show z_pt 200 50 = some (5, .istore_n 3, []) by decide +kernel) rfl (fun _ _ _ => rfl) ?_
          refine R_inc (pc := 51) (pc' := 54) (ls' := [(0, .ref 241), (1, .int f1), (2, .int f2), (3, .int 1), (4, .int (a4 + 1))]) (c := 1) (show z_pt 200 51 = some (5, .iinc 4 1, []) by decide +kernel) (by decide) rfl rfl ?_
          refine R_pure (pc := 54) (pc' := 24) (ls' := [(0, .ref 241), (1, .int f1), (2, .int f2), (3, .int 1), (4, .int (a4 + 1))]) (st' := []) (show z_pt 200 54 = some (5, .goto (-30), [5]) by decide +kernel) rfl (fun _ _ _ => rfl) ?_
          exact ih _ _ _  h
def pm_trainCount_L4_B (R : z_Mem → Int32 → Int32 → Option (Int32 × z_Mem))   (K : z_Mem → Int32 → Int32 → Option (Int32 × z_Mem)) (μ : z_Mem) (a1 : Int32) (a2 : Int32) : Option (Int32 × z_Mem) := if (μ 242 0) ≤ a2 then K μ a1 a2 else (pm_explores μ a2).bind fun q2 => pm_trainCount_L24 z_fu q2 a1 a2 (fun k9 k10 => if k9 = 0 then R q2 (a1 + 0) (a2 + 1) else R q2 (a1 + 1) (a2 + 1)) 1 0
def pm_trainCount_L4 : Nat → (z_Mem → Int32 → Int32 → Option (Int32 × z_Mem)) → z_Mem → Int32 → Int32 → Option (Int32 × z_Mem)
  | 0 => fun _ _ _ _ => none
  | n + 1 => fun K μ a1 a2 => pm_trainCount_L4_B (pm_trainCount_L4 n K) K μ a1 a2
theorem pm_trainCount_L4_run   (K : z_Mem → Int32 → Int32 → Option (Int32 × z_Mem))  (D : Nat) (hD : 3 ≤ D) (hK : ∀ (μ : z_Mem) (a1 a2 : Int32) (r : (Int32 × z_Mem)), K μ a1 a2 = some r → Rn D 200 75 [(0, .ref 241), (1, .int a1), (2, .int a2)] [] μ (.inl (some (.int r.1))) r.2) : ∀ (n : Nat) (μ : z_Mem) (a1 : Int32) (a2 : Int32) (r : (Int32 × z_Mem)), pm_trainCount_L4 n K μ a1 a2 = some r → Rn D 200 4 [(0, .ref 241), (1, .int a1), (2, .int a2)] [] μ (.inl (some (.int r.1))) r.2 := by
  intro n
  induction n with
  | zero => intro μ a1 a2 r h; cases h
  | succ n ih =>
    intro μ a1 a2 r h
    have h : pm_trainCount_L4_B (pm_trainCount_L4 n K) K μ a1 a2 = some r := h
    unfold pm_trainCount_L4_B at h
    refine R_pure (pc := 4) (pc' := 5) (st' := [.int a2]) (show z_pt 200 4 = some (5, .iload_n 2, []) by decide +kernel) rfl (fun _ _ _ => rfl) ?_
    refine R_pure (pc := 5) (pc' := 6) (st' := [.ref 241, .int a2]) (show z_pt 200 5 = some (5, .aload_n 0, []) by decide +kernel) rfl (fun _ _ _ => rfl) ?_
    refine R_getR (pc := 6) (a := 241) (b := 242) (show z_pt 200 6 = some (5, .getfield 7, [10, 0, 6118]) by decide +kernel) (by decide +kernel) ?_
    refine R_at (pc := 9) ?_
    refine R_const (pc := 9) (pc' := 10) (v := 0) (show z_ptc 200 9 = some (10, 0) by decide +kernel) ?_
    refine R_ialdK (pc := 10) (a := 242) (n := 331) (jn := 0) (show z_pt 200 10 = some (5, .iaload, []) by decide +kernel) (show z_ar 242 0 331 = true by decide +kernel) (by decide) (by decide) ?_
    refine R_at (pc := 11) ?_
    refine R_icmge (pc := 11) (t := 75) (show z_pt 200 11 = some (5, .if_icmp .ge 64, []) by decide +kernel) (by decide) (fun c1 => ?_) (fun c1 => ?_)
    · rw [if_pos c1] at h
      exact hK _ _ _  _ h
    · rw [if_neg c1] at h
      refine R_pure (pc := 14) (pc' := 15) (st' := [.ref 241]) (show z_pt 200 14 = some (5, .aload_n 0, []) by decide +kernel) rfl (fun _ _ _ => rfl) ?_
      refine R_pure (pc := 15) (pc' := 16) (st' := [.int a2, .ref 241]) (show z_pt 200 15 = some (5, .iload_n 2, []) by decide +kernel) rfl (fun _ _ _ => rfl) ?_
      obtain ⟨q2, e3, h⟩ := z_bs h
      refine R_call (pc := 16) (rr := []) (show z_pt 200 16 = some (5, .invokevirtual 71, [0, 177, 1, 6227, 6229, 43, 1012, 6230]) by decide +kernel) rfl (show z_r2 177 = some (10, 6, true) by decide +kernel) rfl rfl (Or.inr ⟨_, _, rfl, (by decide +kernel)⟩) (pm_explores_run  e3) (by omega) ?_
      refine R_at2 (pc := 19) (st := []) ?_
      refine R_const (pc := 19) (pc' := 20) (v := 1) (show z_ptc 200 19 = some (20, 1) by decide +kernel) ?_
      refine R_pure (pc := 20) (pc' := 21) (ls' := [(0, .ref 241), (1, .int a1), (2, .int a2), (3, .int 1)]) (st' := []) (show z_pt 200 20 = some (5, .istore_n 3, []) by decide +kernel) rfl (fun _ _ _ => rfl) ?_
      refine R_const (pc := 21) (pc' := 22) (v := 0) (show z_ptc 200 21 = some (22, 0) by decide +kernel) ?_
      refine R_pure (pc := 22) (pc' := 24) (ls' := [(0, .ref 241), (1, .int a1), (2, .int a2), (3, .int 1), (4, .int 0)]) (st' := []) (show z_pt 200 22 = some (5, .istore 4, []) by decide +kernel) rfl (fun _ _ _ => rfl) ?_
      refine pm_trainCount_L24_run  _ _ _ _  _ (by omega) ?_ _ _ _ _ h
      intro k9 k10 r h
      refine R_pure (pc := 57) (pc' := 58) (st' := [.int a1]) (show z_pt 200 57 = some (5, .iload_n 1, []) by decide +kernel) rfl (fun _ _ _ => rfl) ?_
      refine R_pure (pc := 58) (pc' := 59) (st' := [.int k9, .int a1]) (show z_pt 200 58 = some (5, .iload_n 3, []) by decide +kernel) rfl (fun _ _ _ => rfl) ?_
      refine R_ifeq (pc := 59) (t := 66) (show z_pt 200 59 = some (5, .ifCond .eq 7, []) by decide +kernel) (by decide) (fun c11 => ?_) (fun c11 => ?_)
      · rw [if_pos c11] at h
        refine R_const (pc := 66) (pc' := 67) (v := 0) (show z_ptc 200 66 = some (67, 0) by decide +kernel) ?_
        refine R_pure (pc := 67) (pc' := 68) (st' := [.int (a1 + 0)]) (show z_pt 200 67 = some (5, .iadd, []) by decide +kernel) rfl (fun _ _ _ => rfl) ?_
        refine R_pure (pc := 68) (pc' := 69) (ls' := [(0, .ref 241), (1, .int (a1 + 0)), (2, .int a2), (3, .int k9), (4, .int k10)]) (st' := []) (show z_pt 200 68 = some (5, .istore_n 1, []) by decide +kernel) rfl (fun _ _ _ => rfl) ?_
        refine R_inc (pc := 69) (pc' := 72) (ls' := [(0, .ref 241), (1, .int (a1 + 0)), (2, .int (a2 + 1)), (3, .int k9), (4, .int k10)]) (c := 1) (show z_pt 200 69 = some (5, .iinc 2 1, []) by decide +kernel) (by decide) rfl rfl ?_
        refine R_pure (pc := 72) (pc' := 4) (ls' := [(0, .ref 241), (1, .int (a1 + 0)), (2, .int (a2 + 1))]) (st' := []) (show z_pt 200 72 = some (5, .goto (-68), [3]) by decide +kernel) rfl (fun _ _ _ => rfl) ?_
        exact ih _ _ _ _  h
      · rw [if_neg c11] at h
        refine R_const (pc := 62) (pc' := 63) (v := 1) (show z_ptc 200 62 = some (63, 1) by decide +kernel) ?_
        refine R_pure (pc := 63) (pc' := 67) (show z_pt 200 63 = some (5, .goto 4, []) by decide +kernel) rfl (fun _ _ _ => rfl) ?_
        refine R_pure (pc := 67) (pc' := 68) (st' := [.int (a1 + 1)]) (show z_pt 200 67 = some (5, .iadd, []) by decide +kernel) rfl (fun _ _ _ => rfl) ?_
        refine R_pure (pc := 68) (pc' := 69) (ls' := [(0, .ref 241), (1, .int (a1 + 1)), (2, .int a2), (3, .int k9), (4, .int k10)]) (st' := []) (show z_pt 200 68 = some (5, .istore_n 1, []) by decide +kernel) rfl (fun _ _ _ => rfl) ?_
        refine R_inc (pc := 69) (pc' := 72) (ls' := [(0, .ref 241), (1, .int (a1 + 1)), (2, .int (a2 + 1)), (3, .int k9), (4, .int k10)]) (c := 1) (show z_pt 200 69 = some (5, .iinc 2 1, []) by decide +kernel) (by decide) rfl rfl ?_
        refine R_pure (pc := 72) (pc' := 4) (ls' := [(0, .ref 241), (1, .int (a1 + 1)), (2, .int (a2 + 1))]) (st' := []) (show z_pt 200 72 = some (5, .goto (-68), [3]) by decide +kernel) rfl (fun _ _ _ => rfl) ?_
        exact ih _ _ _ _  h
def pm_trainCount  (μ : z_Mem)  : Option (Int32 × z_Mem) := pm_trainCount_L4 z_fu (fun M14 k12 k13 => (pm_done M14 k12).bind fun q15 => some (q15.1, q15.2)) μ 0 0
theorem pm_trainCount_run  {μ : z_Mem}   {r : (Int32 × z_Mem)} (h : pm_trainCount μ = some r) : Rn 3 200 0 [(0, .ref 241)] [] μ (.inl (some (.int r.1))) r.2 := by
  unfold pm_trainCount at h
  refine R_const (pc := 0) (pc' := 1) (v := 0) (show z_ptc 200 0 = some (1, 0) by decide +kernel) ?_
  refine R_pure (pc := 1) (pc' := 2) (ls' := [(0, .ref 241), (1, .int 0)]) (st' := []) (show z_pt 200 1 = some (5, .istore_n 1, []) by decide +kernel) rfl (fun _ _ _ => rfl) ?_
  refine R_const (pc := 2) (pc' := 3) (v := 0) (show z_ptc 200 2 = some (3, 0) by decide +kernel) ?_
  refine R_pure (pc := 3) (pc' := 4) (ls' := [(0, .ref 241), (1, .int 0), (2, .int 0)]) (st' := []) (show z_pt 200 3 = some (5, .istore_n 2, []) by decide +kernel) rfl (fun _ _ _ => rfl) ?_
  refine pm_trainCount_L4_run   _  _ (by omega) ?_ _ _ _ _ _ h
  intro M14 k12 k13 r h
  refine R_pure (pc := 75) (pc' := 76) (st' := [.ref 241]) (show z_pt 200 75 = some (5, .aload_n 0, []) by decide +kernel) rfl (fun _ _ _ => rfl) ?_
  refine R_pure (pc := 76) (pc' := 77) (st' := [.int k12, .ref 241]) (show z_pt 200 76 = some (5, .iload_n 1, []) by decide +kernel) rfl (fun _ _ _ => rfl) ?_
  obtain ⟨q15, e16, h⟩ := z_bs h
  refine R_call (pc := 77) (rr := []) (show z_pt 200 77 = some (5, .invokevirtual 79, [0, 164, 1, 6199, 6201, 37, 1012, 6202]) by decide +kernel) rfl (show z_r2 164 = some (10, 2, true) by decide +kernel) rfl rfl (Or.inr ⟨_, _, rfl, (by decide +kernel)⟩) (pm_done_run  e16) (by omega) ?_
  refine R_at2 (pc := 80) (st := [.int q15.1]) ?_
  cases h
  exact R_retI (show z_pt 200 80 = some (5, .ireturn, []) by decide +kernel) (by decide +kernel)
def pm_trainCountByUnions  (μ : z_Mem)  : Option (Int32 × z_Mem) := (pm_trainCount μ).bind fun q1 => some (q1.1, q1.2)
theorem pm_trainCountByUnions_run  {μ : z_Mem}   {r : (Int32 × z_Mem)} (h : pm_trainCountByUnions μ = some r) : Rn 4 201 0 [(0, .ref 241)] [] μ (.inl (some (.int r.1))) r.2 := by
  unfold pm_trainCountByUnions at h
  refine R_pure (pc := 0) (pc' := 1) (st' := [.ref 241]) (show z_pt 201 0 = some (1, .aload_n 0, []) by decide +kernel) rfl (fun _ _ _ => rfl) ?_
  obtain ⟨q1, e2, h⟩ := z_bs h
  refine R_call (pc := 1) (rr := []) (show z_pt 201 1 = some (1, .invokevirtual 135, [0, 200, 0, 7092, 7085, 7086, 1012, 7087]) by decide +kernel) rfl (show z_r2 200 = some (10, 5, true) by decide +kernel) rfl rfl (Or.inr ⟨_, _, rfl, (by decide +kernel)⟩) (pm_trainCount_run  e2) (by omega) ?_
  refine R_at2 (pc := 4) (st := [.int q1.1]) ?_
  cases h
  exact R_retI (show z_pt 201 4 = some (1, .ireturn, []) by decide +kernel) (by decide +kernel)
def pm_turnedTeeth  (μ : z_Mem)  : Option (Int32 × z_Mem) := (pm_done μ (μ 242 6)).bind fun q1 => some (q1.1, q1.2)
theorem pm_turnedTeeth_run  {μ : z_Mem}   {r : (Int32 × z_Mem)} (h : pm_turnedTeeth μ = some r) : Rn 1 202 0 [(0, .ref 241)] [] μ (.inl (some (.int r.1))) r.2 := by
  unfold pm_turnedTeeth at h
  refine R_pure (pc := 0) (pc' := 1) (st' := [.ref 241]) (show z_pt 202 0 = some (1, .aload_n 0, []) by decide +kernel) rfl (fun _ _ _ => rfl) ?_
  refine R_pure (pc := 1) (pc' := 2) (st' := [.ref 241, .ref 241]) (show z_pt 202 1 = some (1, .aload_n 0, []) by decide +kernel) rfl (fun _ _ _ => rfl) ?_
  refine R_getR (pc := 2) (a := 241) (b := 242) (show z_pt 202 2 = some (1, .getfield 7, [10, 0, 6118]) by decide +kernel) (by decide +kernel) ?_
  refine R_at (pc := 5) ?_
  refine R_const (pc := 5) (pc' := 7) (v := 6) (show z_ptc 202 5 = some (7, 6) by decide +kernel) ?_
  refine R_ialdK (pc := 7) (a := 242) (n := 331) (jn := 6) (show z_pt 202 7 = some (1, .iaload, []) by decide +kernel) (show z_ar 242 0 331 = true by decide +kernel) (by decide) (by decide) ?_
  refine R_at (pc := 8) ?_
  obtain ⟨q1, e2, h⟩ := z_bs h
  refine R_call (pc := 8) (rr := []) (show z_pt 202 8 = some (1, .invokevirtual 79, [0, 164, 1, 6199, 6201, 37, 1012, 6202]) by decide +kernel) rfl (show z_r2 164 = some (10, 2, true) by decide +kernel) rfl rfl (Or.inr ⟨_, _, rfl, (by decide +kernel)⟩) (pm_done_run  e2) (by omega) ?_
  refine R_at2 (pc := 11) (st := [.int q1.1]) ?_
  cases h
  exact R_retI (show z_pt 202 11 = some (1, .ireturn, []) by decide +kernel) (by decide +kernel)
def pm_whyNoChain  (μ : z_Mem) (i1 : Int32) (i2 : Int32) : Option (Int32 × z_Mem) := (pm_areGears μ i1 i2).bind fun q1 => if q1 = 0 then some (1, μ) else (pm_isConnected μ i1 i2).bind fun q4 => if q4.1 = 0 then some (2, q4.2) else some (0, q4.2)
theorem pm_whyNoChain_run  {μ : z_Mem} {i1 : Int32} {i2 : Int32}  {r : (Int32 × z_Mem)} (h : pm_whyNoChain μ i1 i2 = some r) : Rn 4 203 0 [(0, .ref 241), (1, .int i1), (2, .int i2)] [] μ (.inl (some (.int r.1))) r.2 := by
  unfold pm_whyNoChain at h
  refine R_pure (pc := 0) (pc' := 1) (st' := [.ref 241]) (show z_pt 203 0 = some (3, .aload_n 0, []) by decide +kernel) rfl (fun _ _ _ => rfl) ?_
  refine R_pure (pc := 1) (pc' := 2) (st' := [.int i1, .ref 241]) (show z_pt 203 1 = some (3, .iload_n 1, []) by decide +kernel) rfl (fun _ _ _ => rfl) ?_
  refine R_pure (pc := 2) (pc' := 3) (st' := [.int i2, .int i1, .ref 241]) (show z_pt 203 2 = some (3, .iload_n 2, []) by decide +kernel) rfl (fun _ _ _ => rfl) ?_
  obtain ⟨q1, e2, h⟩ := z_bs h
  refine R_call (pc := 3) (rr := []) (show z_pt 203 3 = some (3, .invokevirtual 91, [0, 170, 2, 6215, 6217, 40, 1012, 6218]) by decide +kernel) rfl (show z_r2 170 = some (10, 3, true) by decide +kernel) rfl rfl (Or.inr ⟨_, _, rfl, (by decide +kernel)⟩) (pm_areGears_run  e2) (by omega) ?_
  refine R_at2 (pc := 6) (st := [.int q1]) ?_
  refine R_ifne (pc := 6) (t := 13) (show z_pt 203 6 = some (3, .ifCond .ne 7, []) by decide +kernel) (by decide) (fun c3 => ?_) (fun c3 => ?_)
  · rw [if_neg c3] at h
    refine R_pure (pc := 13) (pc' := 14) (st' := [.ref 241]) (show z_pt 203 13 = some (3, .aload_n 0, []) by decide +kernel) rfl (fun _ _ _ => rfl) ?_
    refine R_pure (pc := 14) (pc' := 15) (st' := [.int i1, .ref 241]) (show z_pt 203 14 = some (3, .iload_n 1, []) by decide +kernel) rfl (fun _ _ _ => rfl) ?_
    refine R_pure (pc := 15) (pc' := 16) (st' := [.int i2, .int i1, .ref 241]) (show z_pt 203 15 = some (3, .iload_n 2, []) by decide +kernel) rfl (fun _ _ _ => rfl) ?_
    obtain ⟨q4, e5, h⟩ := z_bs h
    refine R_call (pc := 16) (rr := []) (show z_pt 203 16 = some (3, .invokevirtual 94, [0, 178, 2, 6223, 6225, 42, 1012, 6226]) by decide +kernel) rfl (show z_r2 178 = some (10, 3, true) by decide +kernel) rfl rfl (Or.inr ⟨_, _, rfl, (by decide +kernel)⟩) (pm_isConnected_run  e5) (by omega) ?_
    refine R_at2 (pc := 19) (st := [.int q4.1]) ?_
    refine R_ifeq (pc := 19) (t := 26) (show z_pt 203 19 = some (3, .ifCond .eq 7, []) by decide +kernel) (by decide) (fun c6 => ?_) (fun c6 => ?_)
    · rw [if_pos c6] at h
      refine R_const (pc := 26) (pc' := 27) (v := 2) (show z_ptc 203 26 = some (27, 2) by decide +kernel) ?_
      cases h
      exact R_retI (show z_pt 203 27 = some (3, .ireturn, []) by decide +kernel) (by decide +kernel)
    · rw [if_neg c6] at h
      refine R_const (pc := 22) (pc' := 23) (v := 0) (show z_ptc 203 22 = some (23, 0) by decide +kernel) ?_
      refine R_pure (pc := 23) (pc' := 27) (show z_pt 203 23 = some (3, .goto 4, []) by decide +kernel) rfl (fun _ _ _ => rfl) ?_
      cases h
      exact R_retI (show z_pt 203 27 = some (3, .ireturn, []) by decide +kernel) (by decide +kernel)
  · rw [if_pos c3] at h
    refine R_const (pc := 9) (pc' := 10) (v := 1) (show z_ptc 203 9 = some (10, 1) by decide +kernel) ?_
    refine R_pure (pc := 10) (pc' := 27) (show z_pt 203 10 = some (3, .goto 17, []) by decide +kernel) rfl (fun _ _ _ => rfl) ?_
    cases h
    exact R_retI (show z_pt 203 27 = some (3, .ireturn, []) by decide +kernel) (by decide +kernel)
def pm_divisor_L4_B (R : Int32 → Int32 → Option Int32)  (μ : z_Mem) (f0 : Int32) (f1 : Int32) (K : Int32 → Int32 → Option Int32) (a2 : Int32) (a3 : Int32) : Option Int32 := if a3 ≤ 0 then K a2 a3 else if a3 = 0 then none else R a3 (a2 - a2 / a3 * a3)
def pm_divisor_L4 : Nat → z_Mem → Int32 → Int32 → (Int32 → Int32 → Option Int32) → Int32 → Int32 → Option Int32
  | 0 => fun _ _ _ _ _ _ => none
  | n + 1 => fun μ f0 f1 K a2 a3 => pm_divisor_L4_B (pm_divisor_L4 n μ f0 f1 K) μ f0 f1 K a2 a3
theorem pm_divisor_L4_run  (μ : z_Mem) (f0 : Int32) (f1 : Int32) (K : Int32 → Int32 → Option Int32)  (D : Nat) (hD : 0 ≤ D) (hK : ∀ (a2 a3 : Int32) (r : Int32), K a2 a3 = some r → Rn D 204 21 [(0, .int f0), (1, .int f1), (2, .int a2), (3, .int a3)] [] μ (.inl (some (.int r))) μ) : ∀ (n : Nat) (a2 : Int32) (a3 : Int32) (r : Int32), pm_divisor_L4 n μ f0 f1 K a2 a3 = some r → Rn D 204 4 [(0, .int f0), (1, .int f1), (2, .int a2), (3, .int a3)] [] μ (.inl (some (.int r))) μ := by
  intro n
  induction n with
  | zero => intro a2 a3 r h; cases h
  | succ n ih =>
    intro a2 a3 r h
    have h : pm_divisor_L4_B (pm_divisor_L4 n μ f0 f1 K) μ f0 f1 K a2 a3 = some r := h
    unfold pm_divisor_L4_B at h
    refine R_pure (pc := 4) (pc' := 5) (st' := [.int a3]) (show z_pt 204 4 = some (5, .iload_n 3, []) by decide +kernel) rfl (fun _ _ _ => rfl) ?_
    refine R_ifle (pc := 5) (t := 21) (show z_pt 204 5 = some (5, .ifCond .le 16, []) by decide +kernel) (by decide) (fun c1 => ?_) (fun c1 => ?_)
    · rw [if_pos c1] at h
      exact hK _ _  _ h
    · rw [if_neg c1] at h
      refine R_pure (pc := 8) (pc' := 9) (st' := [.int a2]) (show z_pt 204 8 = some (5, .iload_n 2, []) by decide +kernel) rfl (fun _ _ _ => rfl) ?_
      refine R_pure (pc := 9) (pc' := 10) (st' := [.int a3, .int a2]) (show z_pt 204 9 = some (5, .iload_n 3, []) by decide +kernel) rfl (fun _ _ _ => rfl) ?_
      obtain ⟨g2, h⟩ := z_ng h
      refine R_rem (x := a2) (y := a3) (show z_pt 204 10 = some (5, .irem, []) by decide +kernel) g2 ?_
      refine R_pure (pc := 11) (pc' := 13) (ls' := [(0, .int f0), (1, .int f1), (2, .int a2), (3, .int a3), (4, .int (a2 - a2 / a3 * a3))]) (st' := []) (show z_pt 204 11 = some (5, .istore 4, []) by decide +kernel) rfl (fun _ _ _ => rfl) ?_
      refine R_pure (pc := 13) (pc' := 14) (st' := [.int a3]) (show z_pt 204 13 = some (5, .iload_n 3, []) by decide +kernel) rfl (fun _ _ _ => rfl) ?_
      refine R_pure (pc := 14) (pc' := 15) (ls' := [(0, .int f0), (1, .int f1), (2, .int a3), (3, .int a3), (4, .int (a2 - a2 / a3 * a3))]) (st' := []) (show z_pt 204 14 = some (5, .istore_n 2, []) by decide +kernel) rfl (fun _ _ _ => rfl) ?_
      refine R_pure (pc := 15) (pc' := 17) (st' := [.int (a2 - a2 / a3 * a3)]) (show z_pt 204 15 = some (5, .iload 4, []) by decide +kernel) rfl (fun _ _ _ => rfl) ?_
      refine R_pure (pc := 17) (pc' := 18) (ls' := [(0, .int f0), (1, .int f1), (2, .int a3), (3, .int (a2 - a2 / a3 * a3)), (4, .int (a2 - a2 / a3 * a3))]) (st' := []) (show z_pt 204 17 = some (5, .istore_n 3, []) by decide +kernel) rfl (fun _ _ _ => rfl) ?_
      refine R_pure (pc := 18) (pc' := 4) (ls' := [(0, .int f0), (1, .int f1), (2, .int a3), (3, .int (a2 - a2 / a3 * a3))]) (st' := []) (show z_pt 204 18 = some (5, .goto (-14), [4]) by decide +kernel) rfl (fun _ _ _ => rfl) ?_
      exact ih _ _ _  h
def pm_divisor  (μ : z_Mem) (i0 : Int32) (i1 : Int32) : Option Int32 := pm_divisor_L4 z_fu μ i0 i1 (fun k3 k4 => some k3) i0 i1
theorem pm_divisor_run  {μ : z_Mem} {i0 : Int32} {i1 : Int32}  {r : Int32} (h : pm_divisor μ i0 i1 = some r) : Rn 0 204 0 [(0, .int i0), (1, .int i1)] [] μ (.inl (some (.int r))) μ := by
  unfold pm_divisor at h
  refine R_pure (pc := 0) (pc' := 1) (st' := [.int i0]) (show z_pt 204 0 = some (5, .iload_n 0, []) by decide +kernel) rfl (fun _ _ _ => rfl) ?_
  refine R_pure (pc := 1) (pc' := 2) (ls' := [(0, .int i0), (1, .int i1), (2, .int i0)]) (st' := []) (show z_pt 204 1 = some (5, .istore_n 2, []) by decide +kernel) rfl (fun _ _ _ => rfl) ?_
  refine R_pure (pc := 2) (pc' := 3) (st' := [.int i1]) (show z_pt 204 2 = some (5, .iload_n 1, []) by decide +kernel) rfl (fun _ _ _ => rfl) ?_
  refine R_pure (pc := 3) (pc' := 4) (ls' := [(0, .int i0), (1, .int i1), (2, .int i0), (3, .int i1)]) (st' := []) (show z_pt 204 3 = some (5, .istore_n 3, []) by decide +kernel) rfl (fun _ _ _ => rfl) ?_
  refine pm_divisor_L4_run  _ _ _ _  _ (by omega) ?_ _ _ _ _ h
  intro k3 k4 r h
  refine R_pure (pc := 21) (pc' := 22) (st' := [.int k3]) (show z_pt 204 21 = some (5, .iload_n 2, []) by decide +kernel) rfl (fun _ _ _ => rfl) ?_
  cases h
  exact R_retI (show z_pt 204 22 = some (5, .ireturn, []) by decide +kernel) (by decide +kernel)
def pm_length_L4_B (R : Int32 → Int32 → Option Int32)  (μ : z_Mem) (f1 : Int32) (K : Int32 → Int32 → Option Int32) (a2 : Int32) (a3 : Int32) : Option Int32 := (z_rd μ 249 10 a3).bind fun v1 => if v1 = a3 then K a2 a3 else (z_rd μ 249 10 a3).bind fun v4 => R (a2 + 1) v4
def pm_length_L4 : Nat → z_Mem → Int32 → (Int32 → Int32 → Option Int32) → Int32 → Int32 → Option Int32
  | 0 => fun _ _ _ _ _ => none
  | n + 1 => fun μ f1 K a2 a3 => pm_length_L4_B (pm_length_L4 n μ f1 K) μ f1 K a2 a3
theorem pm_length_L4_run  (μ : z_Mem) (f1 : Int32) (K : Int32 → Int32 → Option Int32)  (D : Nat) (hD : 0 ≤ D) (hK : ∀ (a2 a3 : Int32) (r : Int32), K a2 a3 = some r → Rn D 205 27 [(0, .ref 241), (1, .int f1), (2, .int a2), (3, .int a3)] [] μ (.inl (some (.int r))) μ) : ∀ (n : Nat) (a2 : Int32) (a3 : Int32) (r : Int32), pm_length_L4 n μ f1 K a2 a3 = some r → Rn D 205 4 [(0, .ref 241), (1, .int f1), (2, .int a2), (3, .int a3)] [] μ (.inl (some (.int r))) μ := by
  intro n
  induction n with
  | zero => intro a2 a3 r h; cases h
  | succ n ih =>
    intro a2 a3 r h
    have h : pm_length_L4_B (pm_length_L4 n μ f1 K) μ f1 K a2 a3 = some r := h
    unfold pm_length_L4_B at h
    refine R_pure (pc := 4) (pc' := 5) (st' := [.ref 241]) (show z_pt 205 4 = some (4, .aload_n 0, []) by decide +kernel) rfl (fun _ _ _ => rfl) ?_
    refine R_getR (pc := 5) (a := 241) (b := 249) (show z_pt 205 5 = some (4, .getfield 39, [10, 14, 6132]) by decide +kernel) (by decide +kernel) ?_
    refine R_at (pc := 8) ?_
    refine R_pure (pc := 8) (pc' := 9) (st' := [.int a3, .ref 249]) (show z_pt 205 8 = some (4, .iload_n 3, []) by decide +kernel) rfl (fun _ _ _ => rfl) ?_
    obtain ⟨v1, e2, h⟩ := z_bs h
    refine R_ialdR (pc := 9) (a := 249) (n := 10) (show z_pt 205 9 = some (4, .iaload, []) by decide +kernel) (show z_ar 249 0 10 = true by decide +kernel) e2 ?_
    refine R_at (pc := 10) ?_
    refine R_pure (pc := 10) (pc' := 11) (st' := [.int a3, .int v1]) (show z_pt 205 10 = some (4, .iload_n 3, []) by decide +kernel) rfl (fun _ _ _ => rfl) ?_
    refine R_icmeq (pc := 11) (t := 27) (show z_pt 205 11 = some (4, .if_icmp .eq 16, []) by decide +kernel) (by decide) (fun c3 => ?_) (fun c3 => ?_)
    · rw [if_pos c3] at h
      exact hK _ _  _ h
    · rw [if_neg c3] at h
      refine R_inc (pc := 14) (pc' := 17) (ls' := [(0, .ref 241), (1, .int f1), (2, .int (a2 + 1)), (3, .int a3)]) (c := 1) (show z_pt 205 14 = some (4, .iinc 2 1, []) by decide +kernel) (by decide) rfl rfl ?_
      refine R_pure (pc := 17) (pc' := 18) (st' := [.ref 241]) (show z_pt 205 17 = some (4, .aload_n 0, []) by decide +kernel) rfl (fun _ _ _ => rfl) ?_
      refine R_getR (pc := 18) (a := 241) (b := 249) (show z_pt 205 18 = some (4, .getfield 39, [10, 14, 6132]) by decide +kernel) (by decide +kernel) ?_
      refine R_at (pc := 21) ?_
      refine R_pure (pc := 21) (pc' := 22) (st' := [.int a3, .ref 249]) (show z_pt 205 21 = some (4, .iload_n 3, []) by decide +kernel) rfl (fun _ _ _ => rfl) ?_
      obtain ⟨v4, e5, h⟩ := z_bs h
      refine R_ialdR (pc := 22) (a := 249) (n := 10) (show z_pt 205 22 = some (4, .iaload, []) by decide +kernel) (show z_ar 249 0 10 = true by decide +kernel) e5 ?_
      refine R_at (pc := 23) ?_
      refine R_pure (pc := 23) (pc' := 24) (ls' := [(0, .ref 241), (1, .int f1), (2, .int (a2 + 1)), (3, .int v4)]) (st' := []) (show z_pt 205 23 = some (4, .istore_n 3, []) by decide +kernel) rfl (fun _ _ _ => rfl) ?_
      refine R_pure (pc := 24) (pc' := 4) (ls' := [(0, .ref 241), (1, .int f1), (2, .int (a2 + 1)), (3, .int v4)]) (st' := []) (show z_pt 205 24 = some (4, .goto (-20), [4]) by decide +kernel) rfl (fun _ _ _ => rfl) ?_
      exact ih _ _ _  h
def pm_length  (μ : z_Mem) (i1 : Int32) : Option Int32 := pm_length_L4 z_fu μ i1 (fun k6 k7 => some k6) 0 i1
theorem pm_length_run  {μ : z_Mem} {i1 : Int32}  {r : Int32} (h : pm_length μ i1 = some r) : Rn 0 205 0 [(0, .ref 241), (1, .int i1)] [] μ (.inl (some (.int r))) μ := by
  unfold pm_length at h
  refine R_const (pc := 0) (pc' := 1) (v := 0) (show z_ptc 205 0 = some (1, 0) by decide +kernel) ?_
  refine R_pure (pc := 1) (pc' := 2) (ls' := [(0, .ref 241), (1, .int i1), (2, .int 0)]) (st' := []) (show z_pt 205 1 = some (4, .istore_n 2, []) by decide +kernel) rfl (fun _ _ _ => rfl) ?_
  refine R_pure (pc := 2) (pc' := 3) (st' := [.int i1]) (show z_pt 205 2 = some (4, .iload_n 1, []) by decide +kernel) rfl (fun _ _ _ => rfl) ?_
  refine R_pure (pc := 3) (pc' := 4) (ls' := [(0, .ref 241), (1, .int i1), (2, .int 0), (3, .int i1)]) (st' := []) (show z_pt 205 3 = some (4, .istore_n 3, []) by decide +kernel) rfl (fun _ _ _ => rfl) ?_
  refine pm_length_L4_run  _ _ _  _ (by omega) ?_ _ _ _ _ h
  intro k6 k7 r h
  refine R_pure (pc := 27) (pc' := 28) (st' := [.int k6]) (show z_pt 205 27 = some (4, .iload_n 2, []) by decide +kernel) rfl (fun _ _ _ => rfl) ?_
  cases h
  exact R_retI (show z_pt 205 28 = some (4, .ireturn, []) by decide +kernel) (by decide +kernel)
def pm_ratioNumerator  (μ : z_Mem) (i1 : Int32) (i2 : Int32) : Option (Int32 × z_Mem) := (pm_whyNoChain μ i1 i2).bind fun q1 => if q1.1 ≤ 0 then (z_rd q1.2 242 331 (7 + i1)).bind fun v4 => (z_rd q1.2 242 331 (7 + i1)).bind fun v6 => (z_rd q1.2 242 331 (7 + i2)).bind fun v8 => (pm_divisor q1.2 v6 v8).bind fun q10 => if q10 = 0 then none else (pm_length q1.2 i2).bind fun q13 => if (q13 - q13 / 2 * 2) = 1 then (pm_done q1.2 (-(v4 / q10))).bind fun q18 => some (q18.1, q18.2) else (pm_done q1.2 (v4 / q10)).bind fun q16 => some (q16.1, q16.2) else (pm_fails q1.2 q1.1).bind fun q20 => some (q20.1, q20.2)
theorem pm_ratioNumerator_run  {μ : z_Mem} {i1 : Int32} {i2 : Int32}  {r : (Int32 × z_Mem)} (h : pm_ratioNumerator μ i1 i2 = some r) : Rn 5 206 0 [(0, .ref 241), (1, .int i1), (2, .int i2)] [] μ (.inl (some (.int r.1))) r.2 := by
  unfold pm_ratioNumerator at h
  refine R_pure (pc := 0) (pc' := 1) (st' := [.ref 241]) (show z_pt 206 0 = some (5, .aload_n 0, []) by decide +kernel) rfl (fun _ _ _ => rfl) ?_
  refine R_pure (pc := 1) (pc' := 2) (st' := [.int i1, .ref 241]) (show z_pt 206 1 = some (5, .iload_n 1, []) by decide +kernel) rfl (fun _ _ _ => rfl) ?_
  refine R_pure (pc := 2) (pc' := 3) (st' := [.int i2, .int i1, .ref 241]) (show z_pt 206 2 = some (5, .iload_n 2, []) by decide +kernel) rfl (fun _ _ _ => rfl) ?_
  obtain ⟨q1, e2, h⟩ := z_bs h
  refine R_call (pc := 3) (rr := []) (show z_pt 206 3 = some (5, .invokevirtual 138, [0, 203, 2, 7101, 7103, 54, 1012, 7104]) by decide +kernel) rfl (show z_r2 203 = some (10, 3, true) by decide +kernel) rfl rfl (Or.inr ⟨_, _, rfl, (by decide +kernel)⟩) (pm_whyNoChain_run  e2) (by omega) ?_
  refine R_at2 (pc := 6) (st := [.int q1.1]) ?_
  refine R_pure (pc := 6) (pc' := 7) (ls' := [(0, .ref 241), (1, .int i1), (2, .int i2), (3, .int q1.1)]) (st' := []) (show z_pt 206 6 = some (5, .istore_n 3, []) by decide +kernel) rfl (fun _ _ _ => rfl) ?_
  refine R_pure (pc := 7) (pc' := 8) (st' := [.int q1.1]) (show z_pt 206 7 = some (5, .iload_n 3, []) by decide +kernel) rfl (fun _ _ _ => rfl) ?_
  refine R_ifle (pc := 8) (t := 17) (show z_pt 206 8 = some (5, .ifCond .le 9, []) by decide +kernel) (by decide) (fun c3 => ?_) (fun c3 => ?_)
  · rw [if_pos c3] at h
    refine R_pure (pc := 17) (pc' := 18) (st' := [.ref 241]) (show z_pt 206 17 = some (5, .aload_n 0, []) by decide +kernel) rfl (fun _ _ _ => rfl) ?_
    refine R_getR (pc := 18) (a := 241) (b := 242) (show z_pt 206 18 = some (5, .getfield 7, [10, 0, 6118]) by decide +kernel) (by decide +kernel) ?_
    refine R_at (pc := 21) ?_
    refine R_const (pc := 21) (pc' := 23) (v := 7) (show z_ptc 206 21 = some (23, 7) by decide +kernel) ?_
    refine R_pure (pc := 23) (pc' := 24) (st' := [.int i1, .int 7, .ref 242]) (show z_pt 206 23 = some (5, .iload_n 1, []) by decide +kernel) rfl (fun _ _ _ => rfl) ?_
    refine R_pure (pc := 24) (pc' := 25) (st' := [.int (7 + i1), .ref 242]) (show z_pt 206 24 = some (5, .iadd, []) by decide +kernel) rfl (fun _ _ _ => rfl) ?_
    obtain ⟨v4, e5, h⟩ := z_bs h
    refine R_ialdR (pc := 25) (a := 242) (n := 331) (show z_pt 206 25 = some (5, .iaload, []) by decide +kernel) (show z_ar 242 0 331 = true by decide +kernel) e5 ?_
    refine R_at (pc := 26) ?_
    refine R_pure (pc := 26) (pc' := 27) (st' := [.ref 241, .int v4]) (show z_pt 206 26 = some (5, .aload_n 0, []) by decide +kernel) rfl (fun _ _ _ => rfl) ?_
    refine R_getR (pc := 27) (a := 241) (b := 242) (show z_pt 206 27 = some (5, .getfield 7, [10, 0, 6118]) by decide +kernel) (by decide +kernel) ?_
    refine R_at (pc := 30) ?_
    refine R_const (pc := 30) (pc' := 32) (v := 7) (show z_ptc 206 30 = some (32, 7) by decide +kernel) ?_
    refine R_pure (pc := 32) (pc' := 33) (st' := [.int i1, .int 7, .ref 242, .int v4]) (show z_pt 206 32 = some (5, .iload_n 1, []) by decide +kernel) rfl (fun _ _ _ => rfl) ?_
    refine R_pure (pc := 33) (pc' := 34) (st' := [.int (7 + i1), .ref 242, .int v4]) (show z_pt 206 33 = some (5, .iadd, []) by decide +kernel) rfl (fun _ _ _ => rfl) ?_
    obtain ⟨v6, e7, h⟩ := z_bs h
    refine R_ialdR (pc := 34) (a := 242) (n := 331) (show z_pt 206 34 = some (5, .iaload, []) by decide +kernel) (show z_ar 242 0 331 = true by decide +kernel) e7 ?_
    refine R_at (pc := 35) ?_
    refine R_pure (pc := 35) (pc' := 36) (st' := [.ref 241, .int v6, .int v4]) (show z_pt 206 35 = some (5, .aload_n 0, []) by decide +kernel) rfl (fun _ _ _ => rfl) ?_
    refine R_getR (pc := 36) (a := 241) (b := 242) (show z_pt 206 36 = some (5, .getfield 7, [10, 0, 6118]) by decide +kernel) (by decide +kernel) ?_
    refine R_at (pc := 39) ?_
    refine R_const (pc := 39) (pc' := 41) (v := 7) (show z_ptc 206 39 = some (41, 7) by decide +kernel) ?_
    refine R_pure (pc := 41) (pc' := 42) (st' := [.int i2, .int 7, .ref 242, .int v6, .int v4]) (show z_pt 206 41 = some (5, .iload_n 2, []) by decide +kernel) rfl (fun _ _ _ => rfl) ?_
    refine R_pure (pc := 42) (pc' := 43) (st' := [.int (7 + i2), .ref 242, .int v6, .int v4]) (show z_pt 206 42 = some (5, .iadd, []) by decide +kernel) rfl (fun _ _ _ => rfl) ?_
    obtain ⟨v8, e9, h⟩ := z_bs h
    refine R_ialdR (pc := 43) (a := 242) (n := 331) (show z_pt 206 43 = some (5, .iaload, []) by decide +kernel) (show z_ar 242 0 331 = true by decide +kernel) e9 ?_
    refine R_at (pc := 44) ?_
    obtain ⟨q10, e11, h⟩ := z_bs h
    refine R_call (pc := 44) (rr := [.int v4]) (show z_pt 206 44 = some (5, .invokestatic 141, [1, 204, 2, 7105, 7106, 0, 1012, 7107]) by decide +kernel) rfl (show z_r2 204 = some (10, 5, true) by decide +kernel) rfl rfl (Or.inl (by decide)) (pm_divisor_run  e11) (by omega) ?_
    refine R_at2 (pc := 47) (st := [.int q10, .int v4]) ?_
    obtain ⟨g12, h⟩ := z_ng h
    refine R_div (x := v4) (y := q10) (show z_pt 206 47 = some (5, .idiv, []) by decide +kernel) g12 ?_
    refine R_pure (pc := 48) (pc' := 50) (ls' := [(0, .ref 241), (1, .int i1), (2, .int i2), (3, .int q1.1), (4, .int (v4 / q10))]) (st' := []) (show z_pt 206 48 = some (5, .istore 4, []) by decide +kernel) rfl (fun _ _ _ => rfl) ?_
    refine R_pure (pc := 50) (pc' := 51) (st' := [.ref 241]) (show z_pt 206 50 = some (5, .aload_n 0, []) by decide +kernel) rfl (fun _ _ _ => rfl) ?_
    refine R_pure (pc := 51) (pc' := 52) (st' := [.ref 241, .ref 241]) (show z_pt 206 51 = some (5, .aload_n 0, []) by decide +kernel) rfl (fun _ _ _ => rfl) ?_
    refine R_pure (pc := 52) (pc' := 53) (st' := [.int i2, .ref 241, .ref 241]) (show z_pt 206 52 = some (5, .iload_n 2, []) by decide +kernel) rfl (fun _ _ _ => rfl) ?_
    obtain ⟨q13, e14, h⟩ := z_bs h
    refine R_call (pc := 53) (rr := [.ref 241]) (show z_pt 206 53 = some (5, .invokevirtual 144, [0, 205, 1, 7108, 7110, 55, 1012, 7111]) by decide +kernel) rfl (show z_r2 205 = some (10, 4, true) by decide +kernel) rfl rfl (Or.inr ⟨_, _, rfl, (by decide +kernel)⟩) (pm_length_run  e14) (by omega) ?_
    refine R_at2 (pc := 56) (st := [.int q13, .ref 241]) ?_
    refine R_const (pc := 56) (pc' := 57) (v := 2) (show z_ptc 206 56 = some (57, 2) by decide +kernel) ?_
    refine R_rem (x := q13) (y := 2) (show z_pt 206 57 = some (5, .irem, []) by decide +kernel) (by decide) ?_
    refine R_const (pc := 58) (pc' := 59) (v := 1) (show z_ptc 206 58 = some (59, 1) by decide +kernel) ?_
    refine R_icmne (pc := 59) (t := 68) (show z_pt 206 59 = some (5, .if_icmp .ne 9, []) by decide +kernel) (by decide) (fun c15 => ?_) (fun c15 => ?_)
    · rw [if_neg c15] at h
      refine R_pure (pc := 68) (pc' := 70) (st' := [.int (v4 / q10), .ref 241]) (show z_pt 206 68 = some (5, .iload 4, []) by decide +kernel) rfl (fun _ _ _ => rfl) ?_
      obtain ⟨q16, e17, h⟩ := z_bs h
      refine R_call (pc := 70) (rr := []) (show z_pt 206 70 = some (5, .invokevirtual 79, [0, 164, 1, 6199, 6201, 37, 1012, 6202]) by decide +kernel) rfl (show z_r2 164 = some (10, 2, true) by decide +kernel) rfl rfl (Or.inr ⟨_, _, rfl, (by decide +kernel)⟩) (pm_done_run  e17) (by omega) ?_
      refine R_at2 (pc := 73) (st := [.int q16.1]) ?_
      cases h
      exact R_retI (show z_pt 206 73 = some (5, .ireturn, []) by decide +kernel) (by decide +kernel)
    · rw [if_pos c15] at h
      refine R_pure (pc := 62) (pc' := 64) (st' := [.int (v4 / q10), .ref 241]) (show z_pt 206 62 = some (5, .iload 4, []) by decide +kernel) rfl (fun _ _ _ => rfl) ?_
      refine R_pure (pc := 64) (pc' := 65) (st' := [.int (-(v4 / q10)), .ref 241]) (show z_pt 206 64 = some (5, .ineg, []) by decide +kernel) rfl (fun _ _ _ => rfl) ?_
      refine R_pure (pc := 65) (pc' := 70) (show z_pt 206 65 = some (5, .goto 5, []) by decide +kernel) rfl (fun _ _ _ => rfl) ?_
      obtain ⟨q18, e19, h⟩ := z_bs h
      refine R_call (pc := 70) (rr := []) (show z_pt 206 70 = some (5, .invokevirtual 79, [0, 164, 1, 6199, 6201, 37, 1012, 6202]) by decide +kernel) rfl (show z_r2 164 = some (10, 2, true) by decide +kernel) rfl rfl (Or.inr ⟨_, _, rfl, (by decide +kernel)⟩) (pm_done_run  e19) (by omega) ?_
      refine R_at2 (pc := 73) (st := [.int q18.1]) ?_
      cases h
      exact R_retI (show z_pt 206 73 = some (5, .ireturn, []) by decide +kernel) (by decide +kernel)
  · rw [if_neg c3] at h
    refine R_pure (pc := 11) (pc' := 12) (st' := [.ref 241]) (show z_pt 206 11 = some (5, .aload_n 0, []) by decide +kernel) rfl (fun _ _ _ => rfl) ?_
    refine R_pure (pc := 12) (pc' := 13) (st' := [.int q1.1, .ref 241]) (show z_pt 206 12 = some (5, .iload_n 3, []) by decide +kernel) rfl (fun _ _ _ => rfl) ?_
    obtain ⟨q20, e21, h⟩ := z_bs h
    refine R_call (pc := 13) (rr := []) (show z_pt 206 13 = some (5, .invokevirtual 75, [0, 165, 1, 6195, 6197, 36, 1012, 6198]) by decide +kernel) rfl (show z_r2 165 = some (10, 2, true) by decide +kernel) rfl rfl (Or.inr ⟨_, _, rfl, (by decide +kernel)⟩) (pm_fails_run  e21) (by omega) ?_
    refine R_at2 (pc := 16) (st := [.int q20.1]) ?_
    cases h
    exact R_retI (show z_pt 206 16 = some (5, .ireturn, []) by decide +kernel) (by decide +kernel)
def pm_ratioDenominator  (μ : z_Mem) (i1 : Int32) (i2 : Int32) : Option (Int32 × z_Mem) := (pm_whyNoChain μ i1 i2).bind fun q1 => if q1.1 ≤ 0 then (z_rd q1.2 242 331 (7 + i2)).bind fun v4 => (z_rd q1.2 242 331 (7 + i1)).bind fun v6 => (z_rd q1.2 242 331 (7 + i2)).bind fun v8 => (pm_divisor q1.2 v6 v8).bind fun q10 => if q10 = 0 then none else (pm_done q1.2 (v4 / q10)).bind fun q13 => some (q13.1, q13.2) else (pm_fails q1.2 q1.1).bind fun q15 => some (q15.1, q15.2)
theorem pm_ratioDenominator_run  {μ : z_Mem} {i1 : Int32} {i2 : Int32}  {r : (Int32 × z_Mem)} (h : pm_ratioDenominator μ i1 i2 = some r) : Rn 5 207 0 [(0, .ref 241), (1, .int i1), (2, .int i2)] [] μ (.inl (some (.int r.1))) r.2 := by
  unfold pm_ratioDenominator at h
  refine R_pure (pc := 0) (pc' := 1) (st' := [.ref 241]) (show z_pt 207 0 = some (4, .aload_n 0, []) by decide +kernel) rfl (fun _ _ _ => rfl) ?_
  refine R_pure (pc := 1) (pc' := 2) (st' := [.int i1, .ref 241]) (show z_pt 207 1 = some (4, .iload_n 1, []) by decide +kernel) rfl (fun _ _ _ => rfl) ?_
  refine R_pure (pc := 2) (pc' := 3) (st' := [.int i2, .int i1, .ref 241]) (show z_pt 207 2 = some (4, .iload_n 2, []) by decide +kernel) rfl (fun _ _ _ => rfl) ?_
  obtain ⟨q1, e2, h⟩ := z_bs h
  refine R_call (pc := 3) (rr := []) (show z_pt 207 3 = some (4, .invokevirtual 138, [0, 203, 2, 7101, 7103, 54, 1012, 7104]) by decide +kernel) rfl (show z_r2 203 = some (10, 3, true) by decide +kernel) rfl rfl (Or.inr ⟨_, _, rfl, (by decide +kernel)⟩) (pm_whyNoChain_run  e2) (by omega) ?_
  refine R_at2 (pc := 6) (st := [.int q1.1]) ?_
  refine R_pure (pc := 6) (pc' := 7) (ls' := [(0, .ref 241), (1, .int i1), (2, .int i2), (3, .int q1.1)]) (st' := []) (show z_pt 207 6 = some (4, .istore_n 3, []) by decide +kernel) rfl (fun _ _ _ => rfl) ?_
  refine R_pure (pc := 7) (pc' := 8) (st' := [.int q1.1]) (show z_pt 207 7 = some (4, .iload_n 3, []) by decide +kernel) rfl (fun _ _ _ => rfl) ?_
  refine R_ifle (pc := 8) (t := 19) (show z_pt 207 8 = some (4, .ifCond .le 11, []) by decide +kernel) (by decide) (fun c3 => ?_) (fun c3 => ?_)
  · rw [if_pos c3] at h
    refine R_pure (pc := 19) (pc' := 20) (st' := [.ref 241]) (show z_pt 207 19 = some (4, .aload_n 0, []) by decide +kernel) rfl (fun _ _ _ => rfl) ?_
    refine R_pure (pc := 20) (pc' := 21) (st' := [.ref 241, .ref 241]) (show z_pt 207 20 = some (4, .aload_n 0, []) by decide +kernel) rfl (fun _ _ _ => rfl) ?_
    refine R_getR (pc := 21) (a := 241) (b := 242) (show z_pt 207 21 = some (4, .getfield 7, [10, 0, 6118]) by decide +kernel) (by decide +kernel) ?_
    refine R_at (pc := 24) ?_
    refine R_const (pc := 24) (pc' := 26) (v := 7) (show z_ptc 207 24 = some (26, 7) by decide +kernel) ?_
    refine R_pure (pc := 26) (pc' := 27) (st' := [.int i2, .int 7, .ref 242, .ref 241]) (show z_pt 207 26 = some (4, .iload_n 2, []) by decide +kernel) rfl (fun _ _ _ => rfl) ?_
    refine R_pure (pc := 27) (pc' := 28) (st' := [.int (7 + i2), .ref 242, .ref 241]) (show z_pt 207 27 = some (4, .iadd, []) by decide +kernel) rfl (fun _ _ _ => rfl) ?_
    obtain ⟨v4, e5, h⟩ := z_bs h
    refine R_ialdR (pc := 28) (a := 242) (n := 331) (show z_pt 207 28 = some (4, .iaload, []) by decide +kernel) (show z_ar 242 0 331 = true by decide +kernel) e5 ?_
    refine R_at (pc := 29) ?_
    refine R_pure (pc := 29) (pc' := 30) (st' := [.ref 241, .int v4, .ref 241]) (show z_pt 207 29 = some (4, .aload_n 0, []) by decide +kernel) rfl (fun _ _ _ => rfl) ?_
    refine R_getR (pc := 30) (a := 241) (b := 242) (show z_pt 207 30 = some (4, .getfield 7, [10, 0, 6118]) by decide +kernel) (by decide +kernel) ?_
    refine R_at (pc := 33) ?_
    refine R_const (pc := 33) (pc' := 35) (v := 7) (show z_ptc 207 33 = some (35, 7) by decide +kernel) ?_
    refine R_pure (pc := 35) (pc' := 36) (st' := [.int i1, .int 7, .ref 242, .int v4, .ref 241]) (show z_pt 207 35 = some (4, .iload_n 1, []) by decide +kernel) rfl (fun _ _ _ => rfl) ?_
    refine R_pure (pc := 36) (pc' := 37) (st' := [.int (7 + i1), .ref 242, .int v4, .ref 241]) (show z_pt 207 36 = some (4, .iadd, []) by decide +kernel) rfl (fun _ _ _ => rfl) ?_
    obtain ⟨v6, e7, h⟩ := z_bs h
    refine R_ialdR (pc := 37) (a := 242) (n := 331) (show z_pt 207 37 = some (4, .iaload, []) by decide +kernel) (show z_ar 242 0 331 = true by decide +kernel) e7 ?_
    refine R_at (pc := 38) ?_
    refine R_pure (pc := 38) (pc' := 39) (st' := [.ref 241, .int v6, .int v4, .ref 241]) (show z_pt 207 38 = some (4, .aload_n 0, []) by decide +kernel) rfl (fun _ _ _ => rfl) ?_
    refine R_getR (pc := 39) (a := 241) (b := 242) (show z_pt 207 39 = some (4, .getfield 7, [10, 0, 6118]) by decide +kernel) (by decide +kernel) ?_
    refine R_at (pc := 42) ?_
    refine R_const (pc := 42) (pc' := 44) (v := 7) (show z_ptc 207 42 = some (44, 7) by decide +kernel) ?_
    refine R_pure (pc := 44) (pc' := 45) (st' := [.int i2, .int 7, .ref 242, .int v6, .int v4, .ref 241]) (show z_pt 207 44 = some (4, .iload_n 2, []) by decide +kernel) rfl (fun _ _ _ => rfl) ?_
    refine R_pure (pc := 45) (pc' := 46) (st' := [.int (7 + i2), .ref 242, .int v6, .int v4, .ref 241]) (show z_pt 207 45 = some (4, .iadd, []) by decide +kernel) rfl (fun _ _ _ => rfl) ?_
    obtain ⟨v8, e9, h⟩ := z_bs h
    refine R_ialdR (pc := 46) (a := 242) (n := 331) (show z_pt 207 46 = some (4, .iaload, []) by decide +kernel) (show z_ar 242 0 331 = true by decide +kernel) e9 ?_
    refine R_at (pc := 47) ?_
    obtain ⟨q10, e11, h⟩ := z_bs h
    refine R_call (pc := 47) (rr := [.int v4, .ref 241]) (show z_pt 207 47 = some (4, .invokestatic 141, [1, 204, 2, 7105, 7106, 0, 1012, 7107]) by decide +kernel) rfl (show z_r2 204 = some (10, 5, true) by decide +kernel) rfl rfl (Or.inl (by decide)) (pm_divisor_run  e11) (by omega) ?_
    refine R_at2 (pc := 50) (st := [.int q10, .int v4, .ref 241]) ?_
    obtain ⟨g12, h⟩ := z_ng h
    refine R_div (x := v4) (y := q10) (show z_pt 207 50 = some (4, .idiv, []) by decide +kernel) g12 ?_
    obtain ⟨q13, e14, h⟩ := z_bs h
    refine R_call (pc := 51) (rr := []) (show z_pt 207 51 = some (4, .invokevirtual 79, [0, 164, 1, 6199, 6201, 37, 1012, 6202]) by decide +kernel) rfl (show z_r2 164 = some (10, 2, true) by decide +kernel) rfl rfl (Or.inr ⟨_, _, rfl, (by decide +kernel)⟩) (pm_done_run  e14) (by omega) ?_
    refine R_at2 (pc := 54) (st := [.int q13.1]) ?_
    cases h
    exact R_retI (show z_pt 207 54 = some (4, .ireturn, []) by decide +kernel) (by decide +kernel)
  · rw [if_neg c3] at h
    refine R_pure (pc := 11) (pc' := 12) (st' := [.ref 241]) (show z_pt 207 11 = some (4, .aload_n 0, []) by decide +kernel) rfl (fun _ _ _ => rfl) ?_
    refine R_pure (pc := 12) (pc' := 13) (st' := [.int q1.1, .ref 241]) (show z_pt 207 12 = some (4, .iload_n 3, []) by decide +kernel) rfl (fun _ _ _ => rfl) ?_
    obtain ⟨q15, e16, h⟩ := z_bs h
    refine R_call (pc := 13) (rr := []) (show z_pt 207 13 = some (4, .invokevirtual 75, [0, 165, 1, 6195, 6197, 36, 1012, 6198]) by decide +kernel) rfl (show z_r2 165 = some (10, 2, true) by decide +kernel) rfl rfl (Or.inr ⟨_, _, rfl, (by decide +kernel)⟩) (pm_fails_run  e16) (by omega) ?_
    refine R_at2 (pc := 16) (st := [.int q15.1]) ?_
    refine R_pure (pc := 16) (pc' := 54) (show z_pt 207 16 = some (4, .goto 38, []) by decide +kernel) rfl (fun _ _ _ => rfl) ?_
    cases h
    exact R_retI (show z_pt 207 54 = some (4, .ireturn, []) by decide +kernel) (by decide +kernel)
def pm_ratioNumeratorByChain  (μ : z_Mem) (i1 : Int32) (i2 : Int32) : Option (Int32 × z_Mem) := (pm_ratioNumerator μ i1 i2).bind fun q1 => some (q1.1, q1.2)
theorem pm_ratioNumeratorByChain_run  {μ : z_Mem} {i1 : Int32} {i2 : Int32}  {r : (Int32 × z_Mem)} (h : pm_ratioNumeratorByChain μ i1 i2 = some r) : Rn 6 208 0 [(0, .ref 241), (1, .int i1), (2, .int i2)] [] μ (.inl (some (.int r.1))) r.2 := by
  unfold pm_ratioNumeratorByChain at h
  refine R_pure (pc := 0) (pc' := 1) (st' := [.ref 241]) (show z_pt 208 0 = some (3, .aload_n 0, []) by decide +kernel) rfl (fun _ _ _ => rfl) ?_
  refine R_pure (pc := 1) (pc' := 2) (st' := [.int i1, .ref 241]) (show z_pt 208 1 = some (3, .iload_n 1, []) by decide +kernel) rfl (fun _ _ _ => rfl) ?_
  refine R_pure (pc := 2) (pc' := 3) (st' := [.int i2, .int i1, .ref 241]) (show z_pt 208 2 = some (3, .iload_n 2, []) by decide +kernel) rfl (fun _ _ _ => rfl) ?_
  obtain ⟨q1, e2, h⟩ := z_bs h
  refine R_call (pc := 3) (rr := []) (show z_pt 208 3 = some (3, .invokevirtual 147, [0, 206, 2, 7120, 7098, 7099, 1012, 7100]) by decide +kernel) rfl (show z_r2 206 = some (10, 5, true) by decide +kernel) rfl rfl (Or.inr ⟨_, _, rfl, (by decide +kernel)⟩) (pm_ratioNumerator_run  e2) (by omega) ?_
  refine R_at2 (pc := 6) (st := [.int q1.1]) ?_
  cases h
  exact R_retI (show z_pt 208 6 = some (3, .ireturn, []) by decide +kernel) (by decide +kernel)
def pm_freePlay_L30_B (R : Int32 → Int32 → Int32 → Option (Int32 × z_Mem))  (μ : z_Mem) (f1 : Int32) (f2 : Int32) (f3 : Int32) (K : Int32 → Int32 → Int32 → Option (Int32 × z_Mem)) (a4 : Int32) (a5 : Int32) (a6 : Int32) : Option (Int32 × z_Mem) := (z_rd μ 249 10 a6).bind fun v6 => if v6 = a6 then K a4 a5 a6 else (z_rd μ 249 10 a6).bind fun v9 => (pm_gapOf μ a6 v9).bind fun q11 => if (a5 - a5 / 2 * 2) = 1 then (z_rd μ 249 10 a6).bind fun v20 => R (a4 + q11) (a5 + (-1)) v20 else (z_rd μ 249 10 a6).bind fun v14 => (pm_slackOf μ a6 v14).bind fun q16 => (z_rd μ 249 10 a6).bind fun v18 => R (a4 + (q16 - q11)) (a5 + (-1)) v18
def pm_freePlay_L30 : Nat → z_Mem → Int32 → Int32 → Int32 → (Int32 → Int32 → Int32 → Option (Int32 × z_Mem)) → Int32 → Int32 → Int32 → Option (Int32 × z_Mem)
  | 0 => fun _ _ _ _ _ _ _ _ => none
  | n + 1 => fun μ f1 f2 f3 K a4 a5 a6 => pm_freePlay_L30_B (pm_freePlay_L30 n μ f1 f2 f3 K) μ f1 f2 f3 K a4 a5 a6
theorem pm_freePlay_L30_run  (μ : z_Mem) (f1 : Int32) (f2 : Int32) (f3 : Int32) (K : Int32 → Int32 → Int32 → Option (Int32 × z_Mem))  (D : Nat) (hD : 5 ≤ D) (hK : ∀ (a4 a5 a6 : Int32) (r : (Int32 × z_Mem)), K a4 a5 a6 = some r → Rn D 209 106 [(0, .ref 241), (1, .int f1), (2, .int f2), (3, .int f3), (4, .int a4), (5, .int a5), (6, .int a6)] [] μ (.inl (some (.int r.1))) r.2) : ∀ (n : Nat) (a4 : Int32) (a5 : Int32) (a6 : Int32) (r : (Int32 × z_Mem)), pm_freePlay_L30 n μ f1 f2 f3 K a4 a5 a6 = some r → Rn D 209 30 [(0, .ref 241), (1, .int f1), (2, .int f2), (3, .int f3), (4, .int a4), (5, .int a5), (6, .int a6)] [] μ (.inl (some (.int r.1))) r.2 := by
  intro n
  induction n with
  | zero => intro a4 a5 a6 r h; cases h
  | succ n ih =>
    intro a4 a5 a6 r h
    have h : pm_freePlay_L30_B (pm_freePlay_L30 n μ f1 f2 f3 K) μ f1 f2 f3 K a4 a5 a6 = some r := h
    unfold pm_freePlay_L30_B at h
    refine R_pure (pc := 30) (pc' := 31) (st' := [.ref 241]) (show z_pt 209 30 = some (8, .aload_n 0, []) by decide +kernel) rfl (fun _ _ _ => rfl) ?_
    refine R_getR (pc := 31) (a := 241) (b := 249) (show z_pt 209 31 = some (8, .getfield 39, [10, 14, 6132]) by decide +kernel) (by decide +kernel) ?_
    refine R_at (pc := 34) ?_
    refine R_pure (pc := 34) (pc' := 36) (st' := [.int a6, .ref 249]) (show z_pt 209 34 = some (8, .iload 6, []) by decide +kernel) rfl (fun _ _ _ => rfl) ?_
    obtain ⟨v6, e7, h⟩ := z_bs h
    refine R_ialdR (pc := 36) (a := 249) (n := 10) (show z_pt 209 36 = some (8, .iaload, []) by decide +kernel) (show z_ar 249 0 10 = true by decide +kernel) e7 ?_
    refine R_at (pc := 37) ?_
    refine R_pure (pc := 37) (pc' := 39) (st' := [.int a6, .int v6]) (show z_pt 209 37 = some (8, .iload 6, []) by decide +kernel) rfl (fun _ _ _ => rfl) ?_
    refine R_icmeq (pc := 39) (t := 106) (show z_pt 209 39 = some (8, .if_icmp .eq 67, []) by decide +kernel) (by decide) (fun c8 => ?_) (fun c8 => ?_)
    · rw [if_pos c8] at h
      exact hK _ _ _  _ h
    · rw [if_neg c8] at h
      refine R_pure (pc := 42) (pc' := 43) (st' := [.ref 241]) (show z_pt 209 42 = some (8, .aload_n 0, []) by decide +kernel) rfl (fun _ _ _ => rfl) ?_
      refine R_pure (pc := 43) (pc' := 45) (st' := [.int a6, .ref 241]) (show z_pt 209 43 = some (8, .iload 6, []) by decide +kernel) rfl (fun _ _ _ => rfl) ?_
      refine R_pure (pc := 45) (pc' := 46) (st' := [.ref 241, .int a6, .ref 241]) (show z_pt 209 45 = some (8, .aload_n 0, []) by decide +kernel) rfl (fun _ _ _ => rfl) ?_
      refine R_getR (pc := 46) (a := 241) (b := 249) (show z_pt 209 46 = some (8, .getfield 39, [10, 14, 6132]) by decide +kernel) (by decide +kernel) ?_
      refine R_at (pc := 49) ?_
      refine R_pure (pc := 49) (pc' := 51) (st' := [.int a6, .ref 249, .int a6, .ref 241]) (show z_pt 209 49 = some (8, .iload 6, []) by decide +kernel) rfl (fun _ _ _ => rfl) ?_
      obtain ⟨v9, e10, h⟩ := z_bs h
      refine R_ialdR (pc := 51) (a := 249) (n := 10) (show z_pt 209 51 = some (8, .iaload, []) by decide +kernel) (show z_ar 249 0 10 = true by decide +kernel) e10 ?_
      refine R_at (pc := 52) ?_
      obtain ⟨q11, e12, h⟩ := z_bs h
      refine R_call (pc := 52) (rr := []) (show z_pt 209 52 = some (8, .invokevirtual 105, [0, 175, 2, 7010, 7012, 47, 1012, 7013]) by decide +kernel) rfl (show z_r2 175 = some (10, 3, true) by decide +kernel) rfl rfl (Or.inr ⟨_, _, rfl, (by decide +kernel)⟩) (pm_gapOf_run  e12) (by omega) ?_
      refine R_at2 (pc := 55) (st := [.int q11]) ?_
      refine R_pure (pc := 55) (pc' := 57) (ls' := [(0, .ref 241), (1, .int f1), (2, .int f2), (3, .int f3), (4, .int a4), (5, .int a5), (6, .int a6), (7, .int q11)]) (st' := []) (show z_pt 209 55 = some (8, .istore 7, []) by decide +kernel) rfl (fun _ _ _ => rfl) ?_
      refine R_pure (pc := 57) (pc' := 59) (st' := [.int a4]) (show z_pt 209 57 = some (8, .iload 4, []) by decide +kernel) rfl (fun _ _ _ => rfl) ?_
      refine R_pure (pc := 59) (pc' := 61) (st' := [.int a5, .int a4]) (show z_pt 209 59 = some (8, .iload 5, []) by decide +kernel) rfl (fun _ _ _ => rfl) ?_
      refine R_const (pc := 61) (pc' := 62) (v := 2) (show z_ptc 209 61 = some (62, 2) by decide +kernel) ?_
      refine R_rem (x := a5) (y := 2) (show z_pt 209 62 = some (8, .irem, []) by decide +kernel) (by decide) ?_
      refine R_const (pc := 63) (pc' := 64) (v := 1) (show z_ptc 209 63 = some (64, 1) by decide +kernel) ?_
      refine R_icmne (pc := 64) (t := 72) (show z_pt 209 64 = some (8, .if_icmp .ne 8, []) by decide +kernel) (by decide) (fun c13 => ?_) (fun c13 => ?_)
      · rw [if_neg c13] at h
        refine R_pure (pc := 72) (pc' := 73) (st' := [.ref 241, .int a4]) (show z_pt 209 72 = some (8, .aload_n 0, []) by decide +kernel) rfl (fun _ _ _ => rfl) ?_
        refine R_pure (pc := 73) (pc' := 75) (st' := [.int a6, .ref 241, .int a4]) (show z_pt 209 73 = some (8, .iload 6, []) by decide +kernel) rfl (fun _ _ _ => rfl) ?_
        refine R_pure (pc := 75) (pc' := 76) (st' := [.ref 241, .int a6, .ref 241, .int a4]) (show z_pt 209 75 = some (8, .aload_n 0, []) by decide +kernel) rfl (fun _ _ _ => rfl) ?_
        refine R_getR (pc := 76) (a := 241) (b := 249) (show z_pt 209 76 = some (8, .getfield 39, [10, 14, 6132]) by decide +kernel) (by decide +kernel) ?_
        refine R_at (pc := 79) ?_
        refine R_pure (pc := 79) (pc' := 81) (st' := [.int a6, .ref 249, .int a6, .ref 241, .int a4]) (show z_pt 209 79 = some (8, .iload 6, []) by decide +kernel) rfl (fun _ _ _ => rfl) ?_
        obtain ⟨v14, e15, h⟩ := z_bs h
        refine R_ialdR (pc := 81) (a := 249) (n := 10) (show z_pt 209 81 = some (8, .iaload, []) by decide +kernel) (show z_ar 249 0 10 = true by decide +kernel) e15 ?_
        refine R_at (pc := 82) ?_
        obtain ⟨q16, e17, h⟩ := z_bs h
        refine R_call (pc := 82) (rr := [.int a4]) (show z_pt 209 82 = some (8, .invokevirtual 114, [0, 174, 2, 7036, 7038, 51, 1012, 7039]) by decide +kernel) rfl (show z_r2 174 = some (10, 3, true) by decide +kernel) rfl rfl (Or.inr ⟨_, _, rfl, (by decide +kernel)⟩) (pm_slackOf_run  e17) (by omega) ?_
        refine R_at2 (pc := 85) (st := [.int q16, .int a4]) ?_
        refine R_pure (pc := 85) (pc' := 87) (st' := [.int q11, .int q16, .int a4]) (show z_pt 209 85 = some (8, .iload 7, []) by decide +kernel) rfl (fun _ _ _ => rfl) ?_
        refine R_pure (pc := 87) (pc' := 88) (st' := [.int (q16 - q11), .int a4]) (show z_pt 209 87 = some (8, .isub, []) by decide +kernel) rfl (fun _ _ _ => rfl) ?_
        refine R_pure (pc := 88) (pc' := 89) (st' := [.int (a4 + (q16 - q11))]) (show z_pt 209 88 = some (8, .iadd, []) by decide +kernel) rfl (fun _ _ _ => rfl) ?_
        refine R_pure (pc := 89) (pc' := 91) (ls' := [(0, .ref 241), (1, .int f1), (2, .int f2), (3, .int f3), (4, .int (a4 + (q16 - q11))), (5, .int a5), (6, .int a6), (7, .int q11)]) (st' := []) (show z_pt 209 89 = some (8, .istore 4, []) by decide +kernel) rfl (fun _ _ _ => rfl) ?_
        refine R_inc (pc := 91) (pc' := 94) (ls' := [(0, .ref 241), (1, .int f1), (2, .int f2), (3, .int f3), (4, .int (a4 + (q16 - q11))), (5, .int (a5 + (-1))), (6, .int a6), (7, .int q11)]) (c := (-1)) (show z_pt 209 91 = some (8, .iinc 5 (-1), []) by decide +kernel) (by decide) rfl rfl ?_
        refine R_pure (pc := 94) (pc' := 95) (st' := [.ref 241]) (show z_pt 209 94 = some (8, .aload_n 0, []) by decide +kernel) rfl (fun _ _ _ => rfl) ?_
        refine R_getR (pc := 95) (a := 241) (b := 249) (show z_pt 209 95 = some (8, .getfield 39, [10, 14, 6132]) by decide +kernel) (by decide +kernel) ?_
        refine R_at (pc := 98) ?_
        refine R_pure (pc := 98) (pc' := 100) (st' := [.int a6, .ref 249]) (show z_pt 209 98 = some (8, .iload 6, []) by decide +kernel) rfl (fun _ _ _ => rfl) ?_
        obtain ⟨v18, e19, h⟩ := z_bs h
        refine R_ialdR (pc := 100) (a := 249) (n := 10) (show z_pt 209 100 = some (8, .iaload, []) by decide +kernel) (show z_ar 249 0 10 = true by decide +kernel) e19 ?_
        refine R_at (pc := 101) ?_
        refine R_pure (pc := 101) (pc' := 103) (ls' := [(0, .ref 241), (1, .int f1), (2, .int f2), (3, .int f3), (4, .int (a4 + (q16 - q11))), (5, .int (a5 + (-1))), (6, .int v18), (7, .int q11)]) (st' := []) (show z_pt 209 101 = some (8, .istore 6, []) by decide +kernel) rfl (fun _ _ _ => rfl) ?_
        refine R_pure (pc := 103) (pc' := 30) (ls' := [(0, .ref 241), (1, .int f1), (2, .int f2), (3, .int f3), (4, .int (a4 + (q16 - q11))), (5, .int (a5 + (-1))), (6, .int v18)]) (st' := []) (show z_pt 209 103 = some (8, .goto (-73), [7]) by decide +kernel) rfl (fun _ _ _ => rfl) ?_
        exact ih _ _ _ _  h
      · rw [if_pos c13] at h
        refine R_pure (pc := 67) (pc' := 69) (st' := [.int q11, .int a4]) (show z_pt 209 67 = some (8, .iload 7, []) by decide +kernel) rfl (fun _ _ _ => rfl) ?_
        refine R_pure (pc := 69) (pc' := 88) (show z_pt 209 69 = some (8, .goto 19, []) by decide +kernel) rfl (fun _ _ _ => rfl) ?_
        refine R_pure (pc := 88) (pc' := 89) (st' := [.int (a4 + q11)]) (show z_pt 209 88 = some (8, .iadd, []) by decide +kernel) rfl (fun _ _ _ => rfl) ?_
        refine R_pure (pc := 89) (pc' := 91) (ls' := [(0, .ref 241), (1, .int f1), (2, .int f2), (3, .int f3), (4, .int (a4 + q11)), (5, .int a5), (6, .int a6), (7, .int q11)]) (st' := []) (show z_pt 209 89 = some (8, .istore 4, []) by decide +kernel) rfl (fun _ _ _ => rfl) ?_
        refine R_inc (pc := 91) (pc' := 94) (ls' := [(0, .ref 241), (1, .int f1), (2, .int f2), (3, .int f3), (4, .int (a4 + q11)), (5, .int (a5 + (-1))), (6, .int a6), (7, .int q11)]) (c := (-1)) (show z_pt 209 91 = some (8, .iinc 5 (-1), []) by decide +kernel) (by decide) rfl rfl ?_
        refine R_pure (pc := 94) (pc' := 95) (st' := [.ref 241]) (show z_pt 209 94 = some (8, .aload_n 0, []) by decide +kernel) rfl (fun _ _ _ => rfl) ?_
        refine R_getR (pc := 95) (a := 241) (b := 249) (show z_pt 209 95 = some (8, .getfield 39, [10, 14, 6132]) by decide +kernel) (by decide +kernel) ?_
        refine R_at (pc := 98) ?_
        refine R_pure (pc := 98) (pc' := 100) (st' := [.int a6, .ref 249]) (show z_pt 209 98 = some (8, .iload 6, []) by decide +kernel) rfl (fun _ _ _ => rfl) ?_
        obtain ⟨v20, e21, h⟩ := z_bs h
        refine R_ialdR (pc := 100) (a := 249) (n := 10) (show z_pt 209 100 = some (8, .iaload, []) by decide +kernel) (show z_ar 249 0 10 = true by decide +kernel) e21 ?_
        refine R_at (pc := 101) ?_
        refine R_pure (pc := 101) (pc' := 103) (ls' := [(0, .ref 241), (1, .int f1), (2, .int f2), (3, .int f3), (4, .int (a4 + q11)), (5, .int (a5 + (-1))), (6, .int v20), (7, .int q11)]) (st' := []) (show z_pt 209 101 = some (8, .istore 6, []) by decide +kernel) rfl (fun _ _ _ => rfl) ?_
        refine R_pure (pc := 103) (pc' := 30) (ls' := [(0, .ref 241), (1, .int f1), (2, .int f2), (3, .int f3), (4, .int (a4 + q11)), (5, .int (a5 + (-1))), (6, .int v20)]) (st' := []) (show z_pt 209 103 = some (8, .goto (-73), [7]) by decide +kernel) rfl (fun _ _ _ => rfl) ?_
        exact ih _ _ _ _  h
def pm_freePlay  (μ : z_Mem) (i1 : Int32) (i2 : Int32) : Option (Int32 × z_Mem) := (pm_whyNoChain μ i1 i2).bind fun q1 => if q1.1 ≤ 0 then (pm_length q1.2 i2).bind fun q4 => pm_freePlay_L30 z_fu q1.2 i1 i2 q1.1 (fun k22 k23 k24 => (pm_done q1.2 k22).bind fun q25 => some (q25.1, q25.2)) 0 q4 i2 else (pm_fails q1.2 q1.1).bind fun q27 => some (q27.1, q27.2)
theorem pm_freePlay_run  {μ : z_Mem} {i1 : Int32} {i2 : Int32}  {r : (Int32 × z_Mem)} (h : pm_freePlay μ i1 i2 = some r) : Rn 5 209 0 [(0, .ref 241), (1, .int i1), (2, .int i2)] [] μ (.inl (some (.int r.1))) r.2 := by
  unfold pm_freePlay at h
  refine R_pure (pc := 0) (pc' := 1) (st' := [.ref 241]) (show z_pt 209 0 = some (8, .aload_n 0, []) by decide +kernel) rfl (fun _ _ _ => rfl) ?_
  refine R_pure (pc := 1) (pc' := 2) (st' := [.int i1, .ref 241]) (show z_pt 209 1 = some (8, .iload_n 1, []) by decide +kernel) rfl (fun _ _ _ => rfl) ?_
  refine R_pure (pc := 2) (pc' := 3) (st' := [.int i2, .int i1, .ref 241]) (show z_pt 209 2 = some (8, .iload_n 2, []) by decide +kernel) rfl (fun _ _ _ => rfl) ?_
  obtain ⟨q1, e2, h⟩ := z_bs h
  refine R_call (pc := 3) (rr := []) (show z_pt 209 3 = some (8, .invokevirtual 138, [0, 203, 2, 7101, 7103, 54, 1012, 7104]) by decide +kernel) rfl (show z_r2 203 = some (10, 3, true) by decide +kernel) rfl rfl (Or.inr ⟨_, _, rfl, (by decide +kernel)⟩) (pm_whyNoChain_run  e2) (by omega) ?_
  refine R_at2 (pc := 6) (st := [.int q1.1]) ?_
  refine R_pure (pc := 6) (pc' := 7) (ls' := [(0, .ref 241), (1, .int i1), (2, .int i2), (3, .int q1.1)]) (st' := []) (show z_pt 209 6 = some (8, .istore_n 3, []) by decide +kernel) rfl (fun _ _ _ => rfl) ?_
  refine R_pure (pc := 7) (pc' := 8) (st' := [.int q1.1]) (show z_pt 209 7 = some (8, .iload_n 3, []) by decide +kernel) rfl (fun _ _ _ => rfl) ?_
  refine R_ifle (pc := 8) (t := 17) (show z_pt 209 8 = some (8, .ifCond .le 9, []) by decide +kernel) (by decide) (fun c3 => ?_) (fun c3 => ?_)
  · rw [if_pos c3] at h
    refine R_const (pc := 17) (pc' := 18) (v := 0) (show z_ptc 209 17 = some (18, 0) by decide +kernel) ?_
    refine R_pure (pc := 18) (pc' := 20) (ls' := [(0, .ref 241), (1, .int i1), (2, .int i2), (3, .int q1.1), (4, .int 0)]) (st' := []) (show z_pt 209 18 = some (8, .istore 4, []) by decide +kernel) rfl (fun _ _ _ => rfl) ?_
    refine R_pure (pc := 20) (pc' := 21) (st' := [.ref 241]) (show z_pt 209 20 = some (8, .aload_n 0, []) by decide +kernel) rfl (fun _ _ _ => rfl) ?_
    refine R_pure (pc := 21) (pc' := 22) (st' := [.int i2, .ref 241]) (show z_pt 209 21 = some (8, .iload_n 2, []) by decide +kernel) rfl (fun _ _ _ => rfl) ?_
    obtain ⟨q4, e5, h⟩ := z_bs h
    refine R_call (pc := 22) (rr := []) (show z_pt 209 22 = some (8, .invokevirtual 144, [0, 205, 1, 7108, 7110, 55, 1012, 7111]) by decide +kernel) rfl (show z_r2 205 = some (10, 4, true) by decide +kernel) rfl rfl (Or.inr ⟨_, _, rfl, (by decide +kernel)⟩) (pm_length_run  e5) (by omega) ?_
    refine R_at2 (pc := 25) (st := [.int q4]) ?_
    refine R_pure (pc := 25) (pc' := 27) (ls' := [(0, .ref 241), (1, .int i1), (2, .int i2), (3, .int q1.1), (4, .int 0), (5, .int q4)]) (st' := []) (show z_pt 209 25 = some (8, .istore 5, []) by decide +kernel) rfl (fun _ _ _ => rfl) ?_
    refine R_pure (pc := 27) (pc' := 28) (st' := [.int i2]) (show z_pt 209 27 = some (8, .iload_n 2, []) by decide +kernel) rfl (fun _ _ _ => rfl) ?_
    refine R_pure (pc := 28) (pc' := 30) (ls' := [(0, .ref 241), (1, .int i1), (2, .int i2), (3, .int q1.1), (4, .int 0), (5, .int q4), (6, .int i2)]) (st' := []) (show z_pt 209 28 = some (8, .istore 6, []) by decide +kernel) rfl (fun _ _ _ => rfl) ?_
    refine pm_freePlay_L30_run  _ _ _ _ _  _ (by omega) ?_ _ _ _ _ _ h
    intro k22 k23 k24 r h
    refine R_pure (pc := 106) (pc' := 107) (st' := [.ref 241]) (show z_pt 209 106 = some (8, .aload_n 0, []) by decide +kernel) rfl (fun _ _ _ => rfl) ?_
    refine R_pure (pc := 107) (pc' := 109) (st' := [.int k22, .ref 241]) (show z_pt 209 107 = some (8, .iload 4, []) by decide +kernel) rfl (fun _ _ _ => rfl) ?_
    obtain ⟨q25, e26, h⟩ := z_bs h
    refine R_call (pc := 109) (rr := []) (show z_pt 209 109 = some (8, .invokevirtual 79, [0, 164, 1, 6199, 6201, 37, 1012, 6202]) by decide +kernel) rfl (show z_r2 164 = some (10, 2, true) by decide +kernel) rfl rfl (Or.inr ⟨_, _, rfl, (by decide +kernel)⟩) (pm_done_run  e26) (by omega) ?_
    refine R_at2 (pc := 112) (st := [.int q25.1]) ?_
    cases h
    exact R_retI (show z_pt 209 112 = some (8, .ireturn, []) by decide +kernel) (by decide +kernel)
  · rw [if_neg c3] at h
    refine R_pure (pc := 11) (pc' := 12) (st' := [.ref 241]) (show z_pt 209 11 = some (8, .aload_n 0, []) by decide +kernel) rfl (fun _ _ _ => rfl) ?_
    refine R_pure (pc := 12) (pc' := 13) (st' := [.int q1.1, .ref 241]) (show z_pt 209 12 = some (8, .iload_n 3, []) by decide +kernel) rfl (fun _ _ _ => rfl) ?_
    obtain ⟨q27, e28, h⟩ := z_bs h
    refine R_call (pc := 13) (rr := []) (show z_pt 209 13 = some (8, .invokevirtual 75, [0, 165, 1, 6195, 6197, 36, 1012, 6198]) by decide +kernel) rfl (show z_r2 165 = some (10, 2, true) by decide +kernel) rfl rfl (Or.inr ⟨_, _, rfl, (by decide +kernel)⟩) (pm_fails_run  e28) (by omega) ?_
    refine R_at2 (pc := 16) (st := [.int q27.1]) ?_
    cases h
    exact R_retI (show z_pt 209 16 = some (8, .ireturn, []) by decide +kernel) (by decide +kernel)
def pm_freePlayByTurning  (μ : z_Mem) (i1 : Int32) (i2 : Int32) : Option (Int32 × z_Mem) := (pm_freePlay μ i1 i2).bind fun q1 => some (q1.1, q1.2)
theorem pm_freePlayByTurning_run  {μ : z_Mem} {i1 : Int32} {i2 : Int32}  {r : (Int32 × z_Mem)} (h : pm_freePlayByTurning μ i1 i2 = some r) : Rn 6 210 0 [(0, .ref 241), (1, .int i1), (2, .int i2)] [] μ (.inl (some (.int r.1))) r.2 := by
  unfold pm_freePlayByTurning at h
  refine R_pure (pc := 0) (pc' := 1) (st' := [.ref 241]) (show z_pt 210 0 = some (3, .aload_n 0, []) by decide +kernel) rfl (fun _ _ _ => rfl) ?_
  refine R_pure (pc := 1) (pc' := 2) (st' := [.int i1, .ref 241]) (show z_pt 210 1 = some (3, .iload_n 1, []) by decide +kernel) rfl (fun _ _ _ => rfl) ?_
  refine R_pure (pc := 2) (pc' := 3) (st' := [.int i2, .int i1, .ref 241]) (show z_pt 210 2 = some (3, .iload_n 2, []) by decide +kernel) rfl (fun _ _ _ => rfl) ?_
  obtain ⟨q1, e2, h⟩ := z_bs h
  refine R_call (pc := 3) (rr := []) (show z_pt 210 3 = some (3, .invokevirtual 150, [0, 209, 2, 7129, 7122, 7123, 1012, 7124]) by decide +kernel) rfl (show z_r2 209 = some (10, 8, true) by decide +kernel) rfl rfl (Or.inr ⟨_, _, rfl, (by decide +kernel)⟩) (pm_freePlay_run  e2) (by omega) ?_
  refine R_at2 (pc := 6) (st := [.int q1.1]) ?_
  cases h
  exact R_retI (show z_pt 210 6 = some (3, .ireturn, []) by decide +kernel) (by decide +kernel)
def pm_addsWheel  (μ : z_Mem) (i1 : Int32) (i2 : Int32) : Option (Int32 × z_Mem) := (pm_isGear μ i1).bind fun q1 => if q1 = 0 then (pm_fails μ 1).bind fun q16 => some (q16.1, q16.2) else (pm_in μ i2 3 12).bind fun q4 => if q4 = 0 then (pm_fails μ 2).bind fun q14 => some (q14.1, q14.2) else if (μ 242 1) = 4 then (pm_fails μ 3).bind fun q12 => some (q12.1, q12.2) else if z_inb (227 + (μ 242 1)) 331 = true then if z_inb (231 + (μ 242 1)) 331 = true then (pm_done (z_u (z_u (z_u μ 242 (227 + (μ 242 1)).toNatClampNeg i1) 242 (231 + (μ 242 1)).toNatClampNeg i2) 242 1 (((z_u (z_u μ 242 (227 + (μ 242 1)).toNatClampNeg i1) 242 (231 + (μ 242 1)).toNatClampNeg i2) 242 1) + 1)) (μ 242 1)).bind fun q10 => some (q10.1, q10.2) else none else none
theorem pm_addsWheel_run  {μ : z_Mem} {i1 : Int32} {i2 : Int32}  {r : (Int32 × z_Mem)} (h : pm_addsWheel μ i1 i2 = some r) : Rn 2 211 0 [(0, .ref 241), (1, .int i1), (2, .int i2)] [] μ (.inl (some (.int r.1))) r.2 := by
  unfold pm_addsWheel at h
  refine R_pure (pc := 0) (pc' := 1) (st' := [.ref 241]) (show z_pt 211 0 = some (4, .aload_n 0, []) by decide +kernel) rfl (fun _ _ _ => rfl) ?_
  refine R_pure (pc := 1) (pc' := 2) (st' := [.int i1, .ref 241]) (show z_pt 211 1 = some (4, .iload_n 1, []) by decide +kernel) rfl (fun _ _ _ => rfl) ?_
  obtain ⟨q1, e2, h⟩ := z_bs h
  refine R_call (pc := 2) (rr := []) (show z_pt 211 2 = some (4, .invokevirtual 59, [0, 169, 1, 6219, 6221, 41, 1012, 6222]) by decide +kernel) rfl (show z_r2 169 = some (10, 2, true) by decide +kernel) rfl rfl (Or.inr ⟨_, _, rfl, (by decide +kernel)⟩) (pm_isGear_run  e2) (by omega) ?_
  refine R_at2 (pc := 5) (st := [.int q1]) ?_
  refine R_ifne (pc := 5) (t := 14) (show z_pt 211 5 = some (4, .ifCond .ne 9, []) by decide +kernel) (by decide) (fun c3 => ?_) (fun c3 => ?_)
  · rw [if_neg c3] at h
    refine R_pure (pc := 14) (pc' := 15) (st' := [.int i2]) (show z_pt 211 14 = some (4, .iload_n 2, []) by decide +kernel) rfl (fun _ _ _ => rfl) ?_
    refine R_const (pc := 15) (pc' := 16) (v := 3) (show z_ptc 211 15 = some (16, 3) by decide +kernel) ?_
    refine R_const (pc := 16) (pc' := 18) (v := 12) (show z_ptc 211 16 = some (18, 12) by decide +kernel) ?_
    obtain ⟨q4, e5, h⟩ := z_bs h
    refine R_call (pc := 18) (rr := []) (show z_pt 211 18 = some (4, .invokestatic 55, [1, 160, 3, 6192, 6193, 0, 1012, 6194]) by decide +kernel) rfl (show z_r2 160 = some (10, 3, true) by decide +kernel) rfl rfl (Or.inl (by decide)) (pm_in_run  e5) (by omega) ?_
    refine R_at2 (pc := 21) (st := [.int q4]) ?_
    refine R_ifne (pc := 21) (t := 30) (show z_pt 211 21 = some (4, .ifCond .ne 9, []) by decide +kernel) (by decide) (fun c6 => ?_) (fun c6 => ?_)
    · rw [if_neg c6] at h
      refine R_pure (pc := 30) (pc' := 31) (st' := [.ref 241]) (show z_pt 211 30 = some (4, .aload_n 0, []) by decide +kernel) rfl (fun _ _ _ => rfl) ?_
      refine R_getR (pc := 31) (a := 241) (b := 242) (show z_pt 211 31 = some (4, .getfield 7, [10, 0, 6118]) by decide +kernel) (by decide +kernel) ?_
      refine R_at (pc := 34) ?_
      refine R_const (pc := 34) (pc' := 35) (v := 1) (show z_ptc 211 34 = some (35, 1) by decide +kernel) ?_
      refine R_ialdK (pc := 35) (a := 242) (n := 331) (jn := 1) (show z_pt 211 35 = some (4, .iaload, []) by decide +kernel) (show z_ar 242 0 331 = true by decide +kernel) (by decide) (by decide) ?_
      refine R_at (pc := 36) ?_
      refine R_pure (pc := 36) (pc' := 37) (ls' := [(0, .ref 241), (1, .int i1), (2, .int i2), (3, .int (μ 242 1))]) (st' := []) (show z_pt 211 36 = some (4, .istore_n 3, []) by decide +kernel) rfl (fun _ _ _ => rfl) ?_
      refine R_pure (pc := 37) (pc' := 38) (st' := [.int (μ 242 1)]) (show z_pt 211 37 = some (4, .iload_n 3, []) by decide +kernel) rfl (fun _ _ _ => rfl) ?_
      refine R_const (pc := 38) (pc' := 39) (v := 4) (show z_ptc 211 38 = some (39, 4) by decide +kernel) ?_
      refine R_icmne (pc := 39) (t := 48) (show z_pt 211 39 = some (4, .if_icmp .ne 9, []) by decide +kernel) (by decide) (fun c7 => ?_) (fun c7 => ?_)
      · rw [if_neg c7] at h
        refine R_pure (pc := 48) (pc' := 49) (st' := [.ref 241]) (show z_pt 211 48 = some (4, .aload_n 0, []) by decide +kernel) rfl (fun _ _ _ => rfl) ?_
        refine R_getR (pc := 49) (a := 241) (b := 242) (show z_pt 211 49 = some (4, .getfield 7, [10, 0, 6118]) by decide +kernel) (by decide +kernel) ?_
        refine R_at (pc := 52) ?_
        refine R_const (pc := 52) (pc' := 55) (v := 227) (show z_ptc 211 52 = some (55, 227) by decide +kernel) ?_
        refine R_pure (pc := 55) (pc' := 56) (st' := [.int (μ 242 1), .int 227, .ref 242]) (show z_pt 211 55 = some (4, .iload_n 3, []) by decide +kernel) rfl (fun _ _ _ => rfl) ?_
        refine R_pure (pc := 56) (pc' := 57) (st' := [.int (227 + (μ 242 1)), .ref 242]) (show z_pt 211 56 = some (4, .iadd, []) by decide +kernel) rfl (fun _ _ _ => rfl) ?_
        refine R_pure (pc := 57) (pc' := 58) (st' := [.int i1, .int (227 + (μ 242 1)), .ref 242]) (show z_pt 211 57 = some (4, .iload_n 1, []) by decide +kernel) rfl (fun _ _ _ => rfl) ?_
        obtain ⟨g8, h⟩ := z_ig h
        refine R_iast (pc := 58) (a := 242) (n := 331) (show z_pt 211 58 = some (4, .iastore, []) by decide +kernel) (show z_ar 242 0 331 = true by decide +kernel) g8 ?_
        refine R_at (pc := 59) ?_
        refine R_pure (pc := 59) (pc' := 60) (st' := [.ref 241]) (show z_pt 211 59 = some (4, .aload_n 0, []) by decide +kernel) rfl (fun _ _ _ => rfl) ?_
        refine R_getR (pc := 60) (a := 241) (b := 242) (show z_pt 211 60 = some (4, .getfield 7, [10, 0, 6118]) by decide +kernel) (by decide +kernel) ?_
        refine R_at (pc := 63) ?_
        refine R_const (pc := 63) (pc' := 66) (v := 231) (show z_ptc 211 63 = some (66, 231) by decide +kernel) ?_
        refine R_pure (pc := 66) (pc' := 67) (st' := [.int (μ 242 1), .int 231, .ref 242]) (show z_pt 211 66 = some (4, .iload_n 3, []) by decide +kernel) rfl (fun _ _ _ => rfl) ?_
        refine R_pure (pc := 67) (pc' := 68) (st' := [.int (231 + (μ 242 1)), .ref 242]) (show z_pt 211 67 = some (4, .iadd, []) by decide +kernel) rfl (fun _ _ _ => rfl) ?_
        refine R_pure (pc := 68) (pc' := 69) (st' := [.int i2, .int (231 + (μ 242 1)), .ref 242]) (show z_pt 211 68 = some (4, .iload_n 2, []) by decide +kernel) rfl (fun _ _ _ => rfl) ?_
        obtain ⟨g9, h⟩ := z_ig h
        refine R_iast (pc := 69) (a := 242) (n := 331) (show z_pt 211 69 = some (4, .iastore, []) by decide +kernel) (show z_ar 242 0 331 = true by decide +kernel) g9 ?_
        refine R_at (pc := 70) ?_
        refine R_pure (pc := 70) (pc' := 71) (st' := [.ref 241]) (show z_pt 211 70 = some (4, .aload_n 0, []) by decide +kernel) rfl (fun _ _ _ => rfl) ?_
        refine R_getR (pc := 71) (a := 241) (b := 242) (show z_pt 211 71 = some (4, .getfield 7, [10, 0, 6118]) by decide +kernel) (by decide +kernel) ?_
        refine R_at (pc := 74) ?_
        refine R_const (pc := 74) (pc' := 75) (v := 1) (show z_ptc 211 74 = some (75, 1) by decide +kernel) ?_
        refine R_pure (pc := 75) (pc' := 76) (st' := [.int 1, .ref 242, .int 1, .ref 242]) (show z_pt 211 75 = some (4, .dup2, []) by decide +kernel) rfl (fun _ _ _ => rfl) ?_
        refine R_ialdK (pc := 76) (a := 242) (n := 331) (jn := 1) (show z_pt 211 76 = some (4, .iaload, []) by decide +kernel) (show z_ar 242 0 331 = true by decide +kernel) (by decide) (by decide) ?_
        refine R_at (pc := 77) ?_
        refine R_const (pc := 77) (pc' := 78) (v := 1) (show z_ptc 211 77 = some (78, 1) by decide +kernel) ?_
        refine R_pure (pc := 78) (pc' := 79) (st' := [.int (((z_u (z_u μ 242 (227 + (μ 242 1)).toNatClampNeg i1) 242 (231 + (μ 242 1)).toNatClampNeg i2) 242 1) + 1), .int 1, .ref 242]) (show z_pt 211 78 = some (4, .iadd, []) by decide +kernel) rfl (fun _ _ _ => rfl) ?_
        refine R_iastK (pc := 79) (a := 242) (n := 331) (jn := 1) (show z_pt 211 79 = some (4, .iastore, []) by decide +kernel) (show z_ar 242 0 331 = true by decide +kernel) (by decide) (by decide) ?_
        refine R_at (pc := 80) ?_
        refine R_pure (pc := 80) (pc' := 81) (st' := [.ref 241]) (show z_pt 211 80 = some (4, .aload_n 0, []) by decide +kernel) rfl (fun _ _ _ => rfl) ?_
        refine R_pure (pc := 81) (pc' := 82) (st' := [.int (μ 242 1), .ref 241]) (show z_pt 211 81 = some (4, .iload_n 3, []) by decide +kernel) rfl (fun _ _ _ => rfl) ?_
        obtain ⟨q10, e11, h⟩ := z_bs h
        refine R_call (pc := 82) (rr := []) (show z_pt 211 82 = some (4, .invokevirtual 79, [0, 164, 1, 6199, 6201, 37, 1012, 6202]) by decide +kernel) rfl (show z_r2 164 = some (10, 2, true) by decide +kernel) rfl rfl (Or.inr ⟨_, _, rfl, (by decide +kernel)⟩) (pm_done_run  e11) (by omega) ?_
        refine R_at2 (pc := 85) (st := [.int q10.1]) ?_
        cases h
        exact R_retI (show z_pt 211 85 = some (4, .ireturn, []) by decide +kernel) (by decide +kernel)
      · rw [if_pos c7] at h
        refine R_pure (pc := 42) (pc' := 43) (st' := [.ref 241]) (show z_pt 211 42 = some (4, .aload_n 0, []) by decide +kernel) rfl (fun _ _ _ => rfl) ?_
        refine R_const (pc := 43) (pc' := 44) (v := 3) (show z_ptc 211 43 = some (44, 3) by decide +kernel) ?_
        obtain ⟨q12, e13, h⟩ := z_bs h
        refine R_call (pc := 44) (rr := []) (show z_pt 211 44 = some (4, .invokevirtual 75, [0, 165, 1, 6195, 6197, 36, 1012, 6198]) by decide +kernel) rfl (show z_r2 165 = some (10, 2, true) by decide +kernel) rfl rfl (Or.inr ⟨_, _, rfl, (by decide +kernel)⟩) (pm_fails_run  e13) (by omega) ?_
        refine R_at2 (pc := 47) (st := [.int q12.1]) ?_
        cases h
        exact R_retI (show z_pt 211 47 = some (4, .ireturn, []) by decide +kernel) (by decide +kernel)
    · rw [if_pos c6] at h
      refine R_pure (pc := 24) (pc' := 25) (st' := [.ref 241]) (show z_pt 211 24 = some (4, .aload_n 0, []) by decide +kernel) rfl (fun _ _ _ => rfl) ?_
      refine R_const (pc := 25) (pc' := 26) (v := 2) (show z_ptc 211 25 = some (26, 2) by decide +kernel) ?_
      obtain ⟨q14, e15, h⟩ := z_bs h
      refine R_call (pc := 26) (rr := []) (show z_pt 211 26 = some (4, .invokevirtual 75, [0, 165, 1, 6195, 6197, 36, 1012, 6198]) by decide +kernel) rfl (show z_r2 165 = some (10, 2, true) by decide +kernel) rfl rfl (Or.inr ⟨_, _, rfl, (by decide +kernel)⟩) (pm_fails_run  e15) (by omega) ?_
      refine R_at2 (pc := 29) (st := [.int q14.1]) ?_
      cases h
      exact R_retI (show z_pt 211 29 = some (4, .ireturn, []) by decide +kernel) (by decide +kernel)
  · rw [if_pos c3] at h
    refine R_pure (pc := 8) (pc' := 9) (st' := [.ref 241]) (show z_pt 211 8 = some (4, .aload_n 0, []) by decide +kernel) rfl (fun _ _ _ => rfl) ?_
    refine R_const (pc := 9) (pc' := 10) (v := 1) (show z_ptc 211 9 = some (10, 1) by decide +kernel) ?_
    obtain ⟨q16, e17, h⟩ := z_bs h
    refine R_call (pc := 10) (rr := []) (show z_pt 211 10 = some (4, .invokevirtual 75, [0, 165, 1, 6195, 6197, 36, 1012, 6198]) by decide +kernel) rfl (show z_r2 165 = some (10, 2, true) by decide +kernel) rfl rfl (Or.inr ⟨_, _, rfl, (by decide +kernel)⟩) (pm_fails_run  e17) (by omega) ?_
    refine R_at2 (pc := 13) (st := [.int q16.1]) ?_
    cases h
    exact R_retI (show z_pt 211 13 = some (4, .ireturn, []) by decide +kernel) (by decide +kernel)
def pm_addWheel  (μ : z_Mem) (i1 : Int32) (i2 : Int32) : Option (Int32 × z_Mem) := (pm_begin μ).bind fun q1 => (pm_addsWheel q1 i1 i2).bind fun q3 => (pm_kept q3.2 q3.1).bind fun q5 => some (q5.1, q5.2)
theorem pm_addWheel_run  {μ : z_Mem} {i1 : Int32} {i2 : Int32}  {r : (Int32 × z_Mem)} (h : pm_addWheel μ i1 i2 = some r) : Rn 3 212 0 [(0, .ref 241), (1, .int i1), (2, .int i2)] [] μ (.inl (some (.int r.1))) r.2 := by
  unfold pm_addWheel at h
  refine R_pure (pc := 0) (pc' := 1) (st' := [.ref 241]) (show z_pt 212 0 = some (3, .aload_n 0, []) by decide +kernel) rfl (fun _ _ _ => rfl) ?_
  obtain ⟨q1, e2, h⟩ := z_bs h
  refine R_call (pc := 1) (rr := []) (show z_pt 212 1 = some (3, .invokevirtual 82, [0, 167, 0, 6181, 6183, 34, 1012, 6184]) by decide +kernel) rfl (show z_r2 167 = some (10, 1, true) by decide +kernel) rfl rfl (Or.inr ⟨_, _, rfl, (by decide +kernel)⟩) (pm_begin_run  e2) (by omega) ?_
  refine R_at2 (pc := 4) (st := []) ?_
  refine R_pure (pc := 4) (pc' := 5) (st' := [.ref 241]) (show z_pt 212 4 = some (3, .aload_n 0, []) by decide +kernel) rfl (fun _ _ _ => rfl) ?_
  refine R_pure (pc := 5) (pc' := 6) (st' := [.ref 241, .ref 241]) (show z_pt 212 5 = some (3, .aload_n 0, []) by decide +kernel) rfl (fun _ _ _ => rfl) ?_
  refine R_pure (pc := 6) (pc' := 7) (st' := [.int i1, .ref 241, .ref 241]) (show z_pt 212 6 = some (3, .iload_n 1, []) by decide +kernel) rfl (fun _ _ _ => rfl) ?_
  refine R_pure (pc := 7) (pc' := 8) (st' := [.int i2, .int i1, .ref 241, .ref 241]) (show z_pt 212 7 = some (3, .iload_n 2, []) by decide +kernel) rfl (fun _ _ _ => rfl) ?_
  obtain ⟨q3, e4, h⟩ := z_bs h
  refine R_call (pc := 8) (rr := [.ref 241]) (show z_pt 212 8 = some (3, .invokevirtual 153, [0, 211, 2, 7134, 7136, 56, 1012, 7137]) by decide +kernel) rfl (show z_r2 211 = some (10, 4, true) by decide +kernel) rfl rfl (Or.inr ⟨_, _, rfl, (by decide +kernel)⟩) (pm_addsWheel_run  e4) (by omega) ?_
  refine R_at2 (pc := 11) (st := [.int q3.1, .ref 241]) ?_
  obtain ⟨q5, e6, h⟩ := z_bs h
  refine R_call (pc := 11) (rr := []) (show z_pt 212 11 = some (3, .invokevirtual 88, [0, 168, 1, 6203, 6205, 38, 1012, 6206]) by decide +kernel) rfl (show z_r2 168 = some (10, 3, true) by decide +kernel) rfl rfl (Or.inr ⟨_, _, rfl, (by decide +kernel)⟩) (pm_kept_run  e6) (by omega) ?_
  refine R_at2 (pc := 14) (st := [.int q5.1]) ?_
  cases h
  exact R_retI (show z_pt 212 14 = some (3, .ireturn, []) by decide +kernel) (by decide +kernel)
def pm_wheelCount  (μ : z_Mem)  : Option (Int32 × z_Mem) := (pm_done μ (μ 242 1)).bind fun q1 => some (q1.1, q1.2)
theorem pm_wheelCount_run  {μ : z_Mem}   {r : (Int32 × z_Mem)} (h : pm_wheelCount μ = some r) : Rn 1 213 0 [(0, .ref 241)] [] μ (.inl (some (.int r.1))) r.2 := by
  unfold pm_wheelCount at h
  refine R_pure (pc := 0) (pc' := 1) (st' := [.ref 241]) (show z_pt 213 0 = some (1, .aload_n 0, []) by decide +kernel) rfl (fun _ _ _ => rfl) ?_
  refine R_pure (pc := 1) (pc' := 2) (st' := [.ref 241, .ref 241]) (show z_pt 213 1 = some (1, .aload_n 0, []) by decide +kernel) rfl (fun _ _ _ => rfl) ?_
  refine R_getR (pc := 2) (a := 241) (b := 242) (show z_pt 213 2 = some (1, .getfield 7, [10, 0, 6118]) by decide +kernel) (by decide +kernel) ?_
  refine R_at (pc := 5) ?_
  refine R_const (pc := 5) (pc' := 6) (v := 1) (show z_ptc 213 5 = some (6, 1) by decide +kernel) ?_
  refine R_ialdK (pc := 6) (a := 242) (n := 331) (jn := 1) (show z_pt 213 6 = some (1, .iaload, []) by decide +kernel) (show z_ar 242 0 331 = true by decide +kernel) (by decide) (by decide) ?_
  refine R_at (pc := 7) ?_
  obtain ⟨q1, e2, h⟩ := z_bs h
  refine R_call (pc := 7) (rr := []) (show z_pt 213 7 = some (1, .invokevirtual 79, [0, 164, 1, 6199, 6201, 37, 1012, 6202]) by decide +kernel) rfl (show z_r2 164 = some (10, 2, true) by decide +kernel) rfl rfl (Or.inr ⟨_, _, rfl, (by decide +kernel)⟩) (pm_done_run  e2) (by omega) ?_
  refine R_at2 (pc := 10) (st := [.int q1.1]) ?_
  cases h
  exact R_retI (show z_pt 213 10 = some (1, .ireturn, []) by decide +kernel) (by decide +kernel)
def pm_gearOf  (μ : z_Mem) (i1 : Int32) : Option (Int32 × z_Mem) := (pm_isWheel μ i1).bind fun q1 => if q1 = 0 then (pm_fails μ 1).bind fun q4 => some (q4.1, q4.2) else (z_rd μ 242 331 (227 + i1)).bind fun v6 => (pm_done μ v6).bind fun q8 => some (q8.1, q8.2)
theorem pm_gearOf_run  {μ : z_Mem} {i1 : Int32}  {r : (Int32 × z_Mem)} (h : pm_gearOf μ i1 = some r) : Rn 2 214 0 [(0, .ref 241), (1, .int i1)] [] μ (.inl (some (.int r.1))) r.2 := by
  unfold pm_gearOf at h
  refine R_pure (pc := 0) (pc' := 1) (st' := [.ref 241]) (show z_pt 214 0 = some (2, .aload_n 0, []) by decide +kernel) rfl (fun _ _ _ => rfl) ?_
  refine R_pure (pc := 1) (pc' := 2) (st' := [.int i1, .ref 241]) (show z_pt 214 1 = some (2, .iload_n 1, []) by decide +kernel) rfl (fun _ _ _ => rfl) ?_
  obtain ⟨q1, e2, h⟩ := z_bs h
  refine R_call (pc := 2) (rr := []) (show z_pt 214 2 = some (2, .invokevirtual 156, [0, 171, 1, 7146, 7148, 57, 1012, 7149]) by decide +kernel) rfl (show z_r2 171 = some (10, 2, true) by decide +kernel) rfl rfl (Or.inr ⟨_, _, rfl, (by decide +kernel)⟩) (pm_isWheel_run  e2) (by omega) ?_
  refine R_at2 (pc := 5) (st := [.int q1]) ?_
  refine R_ifeq (pc := 5) (t := 25) (show z_pt 214 5 = some (2, .ifCond .eq 20, []) by decide +kernel) (by decide) (fun c3 => ?_) (fun c3 => ?_)
  · rw [if_pos c3] at h
    refine R_pure (pc := 25) (pc' := 26) (st' := [.ref 241]) (show z_pt 214 25 = some (2, .aload_n 0, []) by decide +kernel) rfl (fun _ _ _ => rfl) ?_
    refine R_const (pc := 26) (pc' := 27) (v := 1) (show z_ptc 214 26 = some (27, 1) by decide +kernel) ?_
    obtain ⟨q4, e5, h⟩ := z_bs h
    refine R_call (pc := 27) (rr := []) (show z_pt 214 27 = some (2, .invokevirtual 75, [0, 165, 1, 6195, 6197, 36, 1012, 6198]) by decide +kernel) rfl (show z_r2 165 = some (10, 2, true) by decide +kernel) rfl rfl (Or.inr ⟨_, _, rfl, (by decide +kernel)⟩) (pm_fails_run  e5) (by omega) ?_
    refine R_at2 (pc := 30) (st := [.int q4.1]) ?_
    cases h
    exact R_retI (show z_pt 214 30 = some (2, .ireturn, []) by decide +kernel) (by decide +kernel)
  · rw [if_neg c3] at h
    refine R_pure (pc := 8) (pc' := 9) (st' := [.ref 241]) (show z_pt 214 8 = some (2, .aload_n 0, []) by decide +kernel) rfl (fun _ _ _ => rfl) ?_
    refine R_pure (pc := 9) (pc' := 10) (st' := [.ref 241, .ref 241]) (show z_pt 214 9 = some (2, .aload_n 0, []) by decide +kernel) rfl (fun _ _ _ => rfl) ?_
    refine R_getR (pc := 10) (a := 241) (b := 242) (show z_pt 214 10 = some (2, .getfield 7, [10, 0, 6118]) by decide +kernel) (by decide +kernel) ?_
    refine R_at (pc := 13) ?_
    refine R_const (pc := 13) (pc' := 16) (v := 227) (show z_ptc 214 13 = some (16, 227) by decide +kernel) ?_
    refine R_pure (pc := 16) (pc' := 17) (st' := [.int i1, .int 227, .ref 242, .ref 241]) (show z_pt 214 16 = some (2, .iload_n 1, []) by decide +kernel) rfl (fun _ _ _ => rfl) ?_
    refine R_pure (pc := 17) (pc' := 18) (st' := [.int (227 + i1), .ref 242, .ref 241]) (show z_pt 214 17 = some (2, .iadd, []) by decide +kernel) rfl (fun _ _ _ => rfl) ?_
    obtain ⟨v6, e7, h⟩ := z_bs h
    refine R_ialdR (pc := 18) (a := 242) (n := 331) (show z_pt 214 18 = some (2, .iaload, []) by decide +kernel) (show z_ar 242 0 331 = true by decide +kernel) e7 ?_
    refine R_at (pc := 19) ?_
    obtain ⟨q8, e9, h⟩ := z_bs h
    refine R_call (pc := 19) (rr := []) (show z_pt 214 19 = some (2, .invokevirtual 79, [0, 164, 1, 6199, 6201, 37, 1012, 6202]) by decide +kernel) rfl (show z_r2 164 = some (10, 2, true) by decide +kernel) rfl rfl (Or.inr ⟨_, _, rfl, (by decide +kernel)⟩) (pm_done_run  e9) (by omega) ?_
    refine R_at2 (pc := 22) (st := [.int q8.1]) ?_
    refine R_pure (pc := 22) (pc' := 30) (show z_pt 214 22 = some (2, .goto 8, []) by decide +kernel) rfl (fun _ _ _ => rfl) ?_
    cases h
    exact R_retI (show z_pt 214 30 = some (2, .ireturn, []) by decide +kernel) (by decide +kernel)
def pm_pointsTo  (μ : z_Mem) (i1 : Int32) (i2 : Int32) (i3 : Int32) : Option Int32 := (z_rd μ 242 331 (227 + i1)).bind fun v1 => (z_rd μ 242 331 (7 + v1)).bind fun v3 => (z_rd μ 242 331 (227 + i1)).bind fun v5 => (z_rd μ 242 331 (17 + v5)).bind fun v7 => (pm_rest μ (v7 + i3) v3).bind fun q9 => if v3 = 0 then none else (z_rd μ 242 331 (231 + i1)).bind fun v12 => if v12 = 0 then none else some ((((3600 * q9) / v3) + ((3600 * i2) / v12)) - (((3600 * q9) / v3) + ((3600 * i2) / v12)) / 3600 * 3600)
theorem pm_pointsTo_run  {μ : z_Mem} {i1 : Int32} {i2 : Int32} {i3 : Int32}  {r : Int32} (h : pm_pointsTo μ i1 i2 i3 = some r) : Rn 1 215 0 [(0, .ref 241), (1, .int i1), (2, .int i2), (3, .int i3)] [] μ (.inl (some (.int r))) μ := by
  unfold pm_pointsTo at h
  refine R_pure (pc := 0) (pc' := 1) (st' := [.ref 241]) (show z_pt 215 0 = some (6, .aload_n 0, []) by decide +kernel) rfl (fun _ _ _ => rfl) ?_
  refine R_getR (pc := 1) (a := 241) (b := 242) (show z_pt 215 1 = some (6, .getfield 7, [10, 0, 6118]) by decide +kernel) (by decide +kernel) ?_
  refine R_at (pc := 4) ?_
  refine R_const (pc := 4) (pc' := 6) (v := 7) (show z_ptc 215 4 = some (6, 7) by decide +kernel) ?_
  refine R_pure (pc := 6) (pc' := 7) (st' := [.ref 241, .int 7, .ref 242]) (show z_pt 215 6 = some (6, .aload_n 0, []) by decide +kernel) rfl (fun _ _ _ => rfl) ?_
  refine R_getR (pc := 7) (a := 241) (b := 242) (show z_pt 215 7 = some (6, .getfield 7, [10, 0, 6118]) by decide +kernel) (by decide +kernel) ?_
  refine R_at (pc := 10) ?_
  refine R_const (pc := 10) (pc' := 13) (v := 227) (show z_ptc 215 10 = some (13, 227) by decide +kernel) ?_
  refine R_pure (pc := 13) (pc' := 14) (st' := [.int i1, .int 227, .ref 242, .int 7, .ref 242]) (show z_pt 215 13 = some (6, .iload_n 1, []) by decide +kernel) rfl (fun _ _ _ => rfl) ?_
  refine R_pure (pc := 14) (pc' := 15) (st' := [.int (227 + i1), .ref 242, .int 7, .ref 242]) (show z_pt 215 14 = some (6, .iadd, []) by decide +kernel) rfl (fun _ _ _ => rfl) ?_
  obtain ⟨v1, e2, h⟩ := z_bs h
  refine R_ialdR (pc := 15) (a := 242) (n := 331) (show z_pt 215 15 = some (6, .iaload, []) by decide +kernel) (show z_ar 242 0 331 = true by decide +kernel) e2 ?_
  refine R_at (pc := 16) ?_
  refine R_pure (pc := 16) (pc' := 17) (st' := [.int (7 + v1), .ref 242]) (show z_pt 215 16 = some (6, .iadd, []) by decide +kernel) rfl (fun _ _ _ => rfl) ?_
  obtain ⟨v3, e4, h⟩ := z_bs h
  refine R_ialdR (pc := 17) (a := 242) (n := 331) (show z_pt 215 17 = some (6, .iaload, []) by decide +kernel) (show z_ar 242 0 331 = true by decide +kernel) e4 ?_
  refine R_at (pc := 18) ?_
  refine R_pure (pc := 18) (pc' := 20) (ls' := [(0, .ref 241), (1, .int i1), (2, .int i2), (3, .int i3), (4, .int v3)]) (st' := []) (show z_pt 215 18 = some (6, .istore 4, []) by decide +kernel) rfl (fun _ _ _ => rfl) ?_
  refine R_pure (pc := 20) (pc' := 21) (st' := [.ref 241]) (show z_pt 215 20 = some (6, .aload_n 0, []) by decide +kernel) rfl (fun _ _ _ => rfl) ?_
  refine R_getR (pc := 21) (a := 241) (b := 242) (show z_pt 215 21 = some (6, .getfield 7, [10, 0, 6118]) by decide +kernel) (by decide +kernel) ?_
  refine R_at (pc := 24) ?_
  refine R_const (pc := 24) (pc' := 26) (v := 17) (show z_ptc 215 24 = some (26, 17) by decide +kernel) ?_
  refine R_pure (pc := 26) (pc' := 27) (st' := [.ref 241, .int 17, .ref 242]) (show z_pt 215 26 = some (6, .aload_n 0, []) by decide +kernel) rfl (fun _ _ _ => rfl) ?_
  refine R_getR (pc := 27) (a := 241) (b := 242) (show z_pt 215 27 = some (6, .getfield 7, [10, 0, 6118]) by decide +kernel) (by decide +kernel) ?_
  refine R_at (pc := 30) ?_
  refine R_const (pc := 30) (pc' := 33) (v := 227) (show z_ptc 215 30 = some (33, 227) by decide +kernel) ?_
  refine R_pure (pc := 33) (pc' := 34) (st' := [.int i1, .int 227, .ref 242, .int 17, .ref 242]) (show z_pt 215 33 = some (6, .iload_n 1, []) by decide +kernel) rfl (fun _ _ _ => rfl) ?_
  refine R_pure (pc := 34) (pc' := 35) (st' := [.int (227 + i1), .ref 242, .int 17, .ref 242]) (show z_pt 215 34 = some (6, .iadd, []) by decide +kernel) rfl (fun _ _ _ => rfl) ?_
  obtain ⟨v5, e6, h⟩ := z_bs h
  refine R_ialdR (pc := 35) (a := 242) (n := 331) (show z_pt 215 35 = some (6, .iaload, []) by decide +kernel) (show z_ar 242 0 331 = true by decide +kernel) e6 ?_
  refine R_at (pc := 36) ?_
  refine R_pure (pc := 36) (pc' := 37) (st' := [.int (17 + v5), .ref 242]) (show z_pt 215 36 = some (6, .iadd, []) by decide +kernel) rfl (fun _ _ _ => rfl) ?_
  obtain ⟨v7, e8, h⟩ := z_bs h
  refine R_ialdR (pc := 37) (a := 242) (n := 331) (show z_pt 215 37 = some (6, .iaload, []) by decide +kernel) (show z_ar 242 0 331 = true by decide +kernel) e8 ?_
  refine R_at (pc := 38) ?_
  refine R_pure (pc := 38) (pc' := 39) (st' := [.int i3, .int v7]) (show z_pt 215 38 = some (6, .iload_n 3, []) by decide +kernel) rfl (fun _ _ _ => rfl) ?_
  refine R_pure (pc := 39) (pc' := 40) (st' := [.int (v7 + i3)]) (show z_pt 215 39 = some (6, .iadd, []) by decide +kernel) rfl (fun _ _ _ => rfl) ?_
  refine R_pure (pc := 40) (pc' := 42) (st' := [.int v3, .int (v7 + i3)]) (show z_pt 215 40 = some (6, .iload 4, []) by decide +kernel) rfl (fun _ _ _ => rfl) ?_
  obtain ⟨q9, e10, h⟩ := z_bs h
  refine R_call (pc := 42) (rr := []) (show z_pt 215 42 = some (6, .invokestatic 159, [1, 163, 2, 7158, 7159, 0, 1012, 7160]) by decide +kernel) rfl (show z_r2 163 = some (10, 2, true) by decide +kernel) rfl rfl (Or.inl (by decide)) (pm_rest_run  e10) (by omega) ?_
  refine R_at2 (pc := 45) (st := [.int q9]) ?_
  refine R_pure (pc := 45) (pc' := 47) (ls' := [(0, .ref 241), (1, .int i1), (2, .int i2), (3, .int i3), (4, .int v3), (5, .int q9)]) (st' := []) (show z_pt 215 45 = some (6, .istore 5, []) by decide +kernel) rfl (fun _ _ _ => rfl) ?_
  refine R_const (pc := 47) (pc' := 50) (v := 3600) (show z_ptc 215 47 = some (50, 3600) by decide +kernel) ?_
  refine R_pure (pc := 50) (pc' := 52) (st' := [.int q9, .int 3600]) (show z_pt 215 50 = some (6, .iload 5, []) by decide +kernel) rfl (fun _ _ _ => rfl) ?_
  refine R_pure (pc := 52) (pc' := 53) (st' := [.int (3600 * q9)]) (show z_pt 215 52 = some (6, .imul, []) by decide +kernel) rfl (fun _ _ _ => rfl) ?_
  refine R_pure (pc := 53) (pc' := 55) (st' := [.int v3, .int (3600 * q9)]) (show z_pt 215 53 = some (6, .iload 4, []) by decide +kernel) rfl (fun _ _ _ => rfl) ?_
  obtain ⟨g11, h⟩ := z_ng h
  refine R_div (x := (3600 * q9)) (y := v3) (show z_pt 215 55 = some (6, .idiv, []) by decide +kernel) g11 ?_
  refine R_const (pc := 56) (pc' := 59) (v := 3600) (show z_ptc 215 56 = some (59, 3600) by decide +kernel) ?_
  refine R_pure (pc := 59) (pc' := 60) (st' := [.int i2, .int 3600, .int ((3600 * q9) / v3)]) (show z_pt 215 59 = some (6, .iload_n 2, []) by decide +kernel) rfl (fun _ _ _ => rfl) ?_
  refine R_pure (pc := 60) (pc' := 61) (st' := [.int (3600 * i2), .int ((3600 * q9) / v3)]) (show z_pt 215 60 = some (6, .imul, []) by decide +kernel) rfl (fun _ _ _ => rfl) ?_
  refine R_pure (pc := 61) (pc' := 62) (st' := [.ref 241, .int (3600 * i2), .int ((3600 * q9) / v3)]) (show z_pt 215 61 = some (6, .aload_n 0, []) by decide +kernel) rfl (fun _ _ _ => rfl) ?_
  refine R_getR (pc := 62) (a := 241) (b := 242) (show z_pt 215 62 = some (6, .getfield 7, [10, 0, 6118]) by decide +kernel) (by decide +kernel) ?_
  refine R_at (pc := 65) ?_
  refine R_const (pc := 65) (pc' := 68) (v := 231) (show z_ptc 215 65 = some (68, 231) by decide +kernel) ?_
  refine R_pure (pc := 68) (pc' := 69) (st' := [.int i1, .int 231, .ref 242, .int (3600 * i2), .int ((3600 * q9) / v3)]) (show z_pt 215 68 = some (6, .iload_n 1, []) by decide +kernel) rfl (fun _ _ _ => rfl) ?_
  refine R_pure (pc := 69) (pc' := 70) (st' := [.int (231 + i1), .ref 242, .int (3600 * i2), .int ((3600 * q9) / v3)]) (show z_pt 215 69 = some (6, .iadd, []) by decide +kernel) rfl (fun _ _ _ => rfl) ?_
  obtain ⟨v12, e13, h⟩ := z_bs h
  refine R_ialdR (pc := 70) (a := 242) (n := 331) (show z_pt 215 70 = some (6, .iaload, []) by decide +kernel) (show z_ar 242 0 331 = true by decide +kernel) e13 ?_
  refine R_at (pc := 71) ?_
  obtain ⟨g14, h⟩ := z_ng h
  refine R_div (x := (3600 * i2)) (y := v12) (show z_pt 215 71 = some (6, .idiv, []) by decide +kernel) g14 ?_
  refine R_pure (pc := 72) (pc' := 73) (st' := [.int (((3600 * q9) / v3) + ((3600 * i2) / v12))]) (show z_pt 215 72 = some (6, .iadd, []) by decide +kernel) rfl (fun _ _ _ => rfl) ?_
  refine R_const (pc := 73) (pc' := 76) (v := 3600) (show z_ptc 215 73 = some (76, 3600) by decide +kernel) ?_
  refine R_rem (x := (((3600 * q9) / v3) + ((3600 * i2) / v12))) (y := 3600) (show z_pt 215 76 = some (6, .irem, []) by decide +kernel) (by decide) ?_
  cases h
  exact R_retI (show z_pt 215 77 = some (6, .ireturn, []) by decide +kernel) (by decide +kernel)
def pm_spokeDirection  (μ : z_Mem) (i1 : Int32) (i2 : Int32) : Option (Int32 × z_Mem) := (pm_isWheel μ i1).bind fun q1 => if q1 = 0 then (pm_fails μ 1).bind fun q15 => some (q15.1, q15.2) else (z_rd μ 242 331 (231 + i1)).bind fun v4 => (pm_in μ i2 0 (v4 - 1)).bind fun q6 => if q6 = 0 then (pm_fails μ 2).bind fun q9 => some (q9.1, q9.2) else (pm_pointsTo μ i1 i2 0).bind fun q11 => (pm_done μ q11).bind fun q13 => some (q13.1, q13.2)
theorem pm_spokeDirection_run  {μ : z_Mem} {i1 : Int32} {i2 : Int32}  {r : (Int32 × z_Mem)} (h : pm_spokeDirection μ i1 i2 = some r) : Rn 2 216 0 [(0, .ref 241), (1, .int i1), (2, .int i2)] [] μ (.inl (some (.int r.1))) r.2 := by
  unfold pm_spokeDirection at h
  refine R_pure (pc := 0) (pc' := 1) (st' := [.ref 241]) (show z_pt 216 0 = some (3, .aload_n 0, []) by decide +kernel) rfl (fun _ _ _ => rfl) ?_
  refine R_pure (pc := 1) (pc' := 2) (st' := [.int i1, .ref 241]) (show z_pt 216 1 = some (3, .iload_n 1, []) by decide +kernel) rfl (fun _ _ _ => rfl) ?_
  obtain ⟨q1, e2, h⟩ := z_bs h
  refine R_call (pc := 2) (rr := []) (show z_pt 216 2 = some (3, .invokevirtual 156, [0, 171, 1, 7146, 7148, 57, 1012, 7149]) by decide +kernel) rfl (show z_r2 171 = some (10, 2, true) by decide +kernel) rfl rfl (Or.inr ⟨_, _, rfl, (by decide +kernel)⟩) (pm_isWheel_run  e2) (by omega) ?_
  refine R_at2 (pc := 5) (st := [.int q1]) ?_
  refine R_ifne (pc := 5) (t := 14) (show z_pt 216 5 = some (3, .ifCond .ne 9, []) by decide +kernel) (by decide) (fun c3 => ?_) (fun c3 => ?_)
  · rw [if_neg c3] at h
    refine R_pure (pc := 14) (pc' := 15) (st' := [.int i2]) (show z_pt 216 14 = some (3, .iload_n 2, []) by decide +kernel) rfl (fun _ _ _ => rfl) ?_
    refine R_const (pc := 15) (pc' := 16) (v := 0) (show z_ptc 216 15 = some (16, 0) by decide +kernel) ?_
    refine R_pure (pc := 16) (pc' := 17) (st' := [.ref 241, .int 0, .int i2]) (show z_pt 216 16 = some (3, .aload_n 0, []) by decide +kernel) rfl (fun _ _ _ => rfl) ?_
    refine R_getR (pc := 17) (a := 241) (b := 242) (show z_pt 216 17 = some (3, .getfield 7, [10, 0, 6118]) by decide +kernel) (by decide +kernel) ?_
    refine R_at (pc := 20) ?_
    refine R_const (pc := 20) (pc' := 23) (v := 231) (show z_ptc 216 20 = some (23, 231) by decide +kernel) ?_
    refine R_pure (pc := 23) (pc' := 24) (st' := [.int i1, .int 231, .ref 242, .int 0, .int i2]) (show z_pt 216 23 = some (3, .iload_n 1, []) by decide +kernel) rfl (fun _ _ _ => rfl) ?_
    refine R_pure (pc := 24) (pc' := 25) (st' := [.int (231 + i1), .ref 242, .int 0, .int i2]) (show z_pt 216 24 = some (3, .iadd, []) by decide +kernel) rfl (fun _ _ _ => rfl) ?_
    obtain ⟨v4, e5, h⟩ := z_bs h
    refine R_ialdR (pc := 25) (a := 242) (n := 331) (show z_pt 216 25 = some (3, .iaload, []) by decide +kernel) (show z_ar 242 0 331 = true by decide +kernel) e5 ?_
    refine R_at (pc := 26) ?_
    refine R_const (pc := 26) (pc' := 27) (v := 1) (show z_ptc 216 26 = some (27, 1) by decide +kernel) ?_
    refine R_pure (pc := 27) (pc' := 28) (st' := [.int (v4 - 1), .int 0, .int i2]) (show z_pt 216 27 = some (3, .isub, []) by decide +kernel) rfl (fun _ _ _ => rfl) ?_
    obtain ⟨q6, e7, h⟩ := z_bs h
    refine R_call (pc := 28) (rr := []) (show z_pt 216 28 = some (3, .invokestatic 55, [1, 160, 3, 6192, 6193, 0, 1012, 6194]) by decide +kernel) rfl (show z_r2 160 = some (10, 3, true) by decide +kernel) rfl rfl (Or.inl (by decide)) (pm_in_run  e7) (by omega) ?_
    refine R_at2 (pc := 31) (st := [.int q6]) ?_
    refine R_ifeq (pc := 31) (t := 48) (show z_pt 216 31 = some (3, .ifCond .eq 17, []) by decide +kernel) (by decide) (fun c8 => ?_) (fun c8 => ?_)
    · rw [if_pos c8] at h
      refine R_pure (pc := 48) (pc' := 49) (st' := [.ref 241]) (show z_pt 216 48 = some (3, .aload_n 0, []) by decide +kernel) rfl (fun _ _ _ => rfl) ?_
      refine R_const (pc := 49) (pc' := 50) (v := 2) (show z_ptc 216 49 = some (50, 2) by decide +kernel) ?_
      obtain ⟨q9, e10, h⟩ := z_bs h
      refine R_call (pc := 50) (rr := []) (show z_pt 216 50 = some (3, .invokevirtual 75, [0, 165, 1, 6195, 6197, 36, 1012, 6198]) by decide +kernel) rfl (show z_r2 165 = some (10, 2, true) by decide +kernel) rfl rfl (Or.inr ⟨_, _, rfl, (by decide +kernel)⟩) (pm_fails_run  e10) (by omega) ?_
      refine R_at2 (pc := 53) (st := [.int q9.1]) ?_
      cases h
      exact R_retI (show z_pt 216 53 = some (3, .ireturn, []) by decide +kernel) (by decide +kernel)
    · rw [if_neg c8] at h
      refine R_pure (pc := 34) (pc' := 35) (st' := [.ref 241]) (show z_pt 216 34 = some (3, .aload_n 0, []) by decide +kernel) rfl (fun _ _ _ => rfl) ?_
      refine R_pure (pc := 35) (pc' := 36) (st' := [.ref 241, .ref 241]) (show z_pt 216 35 = some (3, .aload_n 0, []) by decide +kernel) rfl (fun _ _ _ => rfl) ?_
      refine R_pure (pc := 36) (pc' := 37) (st' := [.int i1, .ref 241, .ref 241]) (show z_pt 216 36 = some (3, .iload_n 1, []) by decide +kernel) rfl (fun _ _ _ => rfl) ?_
      refine R_pure (pc := 37) (pc' := 38) (st' := [.int i2, .int i1, .ref 241, .ref 241]) (show z_pt 216 37 = some (3, .iload_n 2, []) by decide +kernel) rfl (fun _ _ _ => rfl) ?_
      refine R_const (pc := 38) (pc' := 39) (v := 0) (show z_ptc 216 38 = some (39, 0) by decide +kernel) ?_
      obtain ⟨q11, e12, h⟩ := z_bs h
      refine R_call (pc := 39) (rr := [.ref 241]) (show z_pt 216 39 = some (3, .invokevirtual 162, [0, 215, 3, 7154, 7156, 58, 1012, 7157]) by decide +kernel) rfl (show z_r2 215 = some (10, 6, true) by decide +kernel) rfl rfl (Or.inr ⟨_, _, rfl, (by decide +kernel)⟩) (pm_pointsTo_run  e12) (by omega) ?_
      refine R_at2 (pc := 42) (st := [.int q11, .ref 241]) ?_
      obtain ⟨q13, e14, h⟩ := z_bs h
      refine R_call (pc := 42) (rr := []) (show z_pt 216 42 = some (3, .invokevirtual 79, [0, 164, 1, 6199, 6201, 37, 1012, 6202]) by decide +kernel) rfl (show z_r2 164 = some (10, 2, true) by decide +kernel) rfl rfl (Or.inr ⟨_, _, rfl, (by decide +kernel)⟩) (pm_done_run  e14) (by omega) ?_
      refine R_at2 (pc := 45) (st := [.int q13.1]) ?_
      refine R_pure (pc := 45) (pc' := 53) (show z_pt 216 45 = some (3, .goto 8, []) by decide +kernel) rfl (fun _ _ _ => rfl) ?_
      cases h
      exact R_retI (show z_pt 216 53 = some (3, .ireturn, []) by decide +kernel) (by decide +kernel)
  · rw [if_pos c3] at h
    refine R_pure (pc := 8) (pc' := 9) (st' := [.ref 241]) (show z_pt 216 8 = some (3, .aload_n 0, []) by decide +kernel) rfl (fun _ _ _ => rfl) ?_
    refine R_const (pc := 9) (pc' := 10) (v := 1) (show z_ptc 216 9 = some (10, 1) by decide +kernel) ?_
    obtain ⟨q15, e16, h⟩ := z_bs h
    refine R_call (pc := 10) (rr := []) (show z_pt 216 10 = some (3, .invokevirtual 75, [0, 165, 1, 6195, 6197, 36, 1012, 6198]) by decide +kernel) rfl (show z_r2 165 = some (10, 2, true) by decide +kernel) rfl rfl (Or.inr ⟨_, _, rfl, (by decide +kernel)⟩) (pm_fails_run  e16) (by omega) ?_
    refine R_at2 (pc := 13) (st := [.int q15.1]) ?_
    cases h
    exact R_retI (show z_pt 216 13 = some (3, .ireturn, []) by decide +kernel) (by decide +kernel)
def pm_apart  (μ : z_Mem) (i0 : Int32) (i1 : Int32) : Option Int32 := (pm_size μ (i0 - i1)).bind fun q1 => (pm_less μ q1 (3600 - q1)).bind fun q3 => some q3
theorem pm_apart_run  {μ : z_Mem} {i0 : Int32} {i1 : Int32}  {r : Int32} (h : pm_apart μ i0 i1 = some r) : Rn 1 217 0 [(0, .int i0), (1, .int i1)] [] μ (.inl (some (.int r))) μ := by
  unfold pm_apart at h
  refine R_pure (pc := 0) (pc' := 1) (st' := [.int i0]) (show z_pt 217 0 = some (3, .iload_n 0, []) by decide +kernel) rfl (fun _ _ _ => rfl) ?_
  refine R_pure (pc := 1) (pc' := 2) (st' := [.int i1, .int i0]) (show z_pt 217 1 = some (3, .iload_n 1, []) by decide +kernel) rfl (fun _ _ _ => rfl) ?_
  refine R_pure (pc := 2) (pc' := 3) (st' := [.int (i0 - i1)]) (show z_pt 217 2 = some (3, .isub, []) by decide +kernel) rfl (fun _ _ _ => rfl) ?_
  obtain ⟨q1, e2, h⟩ := z_bs h
  refine R_call (pc := 3) (rr := []) (show z_pt 217 3 = some (3, .invokestatic 117, [1, 161, 1, 7026, 7027, 0, 1012, 7028]) by decide +kernel) rfl (show z_r2 161 = some (10, 1, true) by decide +kernel) rfl rfl (Or.inl (by decide)) (pm_size_run  e2) (by omega) ?_
  refine R_at2 (pc := 6) (st := [.int q1]) ?_
  refine R_pure (pc := 6) (pc' := 7) (ls' := [(0, .int i0), (1, .int i1), (2, .int q1)]) (st' := []) (show z_pt 217 6 = some (3, .istore_n 2, []) by decide +kernel) rfl (fun _ _ _ => rfl) ?_
  refine R_pure (pc := 7) (pc' := 8) (st' := [.int q1]) (show z_pt 217 7 = some (3, .iload_n 2, []) by decide +kernel) rfl (fun _ _ _ => rfl) ?_
  refine R_const (pc := 8) (pc' := 11) (v := 3600) (show z_ptc 217 8 = some (11, 3600) by decide +kernel) ?_
  refine R_pure (pc := 11) (pc' := 12) (st' := [.int q1, .int 3600, .int q1]) (show z_pt 217 11 = some (3, .iload_n 2, []) by decide +kernel) rfl (fun _ _ _ => rfl) ?_
  refine R_pure (pc := 12) (pc' := 13) (st' := [.int (3600 - q1), .int q1]) (show z_pt 217 12 = some (3, .isub, []) by decide +kernel) rfl (fun _ _ _ => rfl) ?_
  obtain ⟨q3, e4, h⟩ := z_bs h
  refine R_call (pc := 13) (rr := []) (show z_pt 217 13 = some (3, .invokestatic 111, [1, 162, 2, 7033, 7034, 0, 1012, 7035]) by decide +kernel) rfl (show z_r2 162 = some (10, 2, true) by decide +kernel) rfl rfl (Or.inl (by decide)) (pm_less_run  e4) (by omega) ?_
  refine R_at2 (pc := 16) (st := [.int q3]) ?_
  cases h
  exact R_retI (show z_pt 217 16 = some (3, .ireturn, []) by decide +kernel) (by decide +kernel)
def pm_placeOf_L2_B (R : Int32 → Option Int32)  (μ : z_Mem) (f1 : Int32) (K : Int32 → Option Int32) (a2 : Int32) : Option Int32 := if (μ 242 2) ≤ a2 then K a2 else (z_rd μ 242 331 (235 + a2)).bind fun v2 => if v2 = f1 then some a2 else R (a2 + 1)
def pm_placeOf_L2 : Nat → z_Mem → Int32 → (Int32 → Option Int32) → Int32 → Option Int32
  | 0 => fun _ _ _ _ => none
  | n + 1 => fun μ f1 K a2 => pm_placeOf_L2_B (pm_placeOf_L2 n μ f1 K) μ f1 K a2
theorem pm_placeOf_L2_run  (μ : z_Mem) (f1 : Int32) (K : Int32 → Option Int32)  (D : Nat) (hD : 0 ≤ D) (hK : ∀ (a2 : Int32) (r : Int32), K a2 = some r → Rn D 218 34 [(0, .ref 241), (1, .int f1), (2, .int a2)] [] μ (.inl (some (.int r))) μ) : ∀ (n : Nat) (a2 : Int32) (r : Int32), pm_placeOf_L2 n μ f1 K a2 = some r → Rn D 218 2 [(0, .ref 241), (1, .int f1), (2, .int a2)] [] μ (.inl (some (.int r))) μ := by
  intro n
  induction n with
  | zero => intro a2 r h; cases h
  | succ n ih =>
    intro a2 r h
    have h : pm_placeOf_L2_B (pm_placeOf_L2 n μ f1 K) μ f1 K a2 = some r := h
    unfold pm_placeOf_L2_B at h
    refine R_pure (pc := 2) (pc' := 3) (st' := [.int a2]) (show z_pt 218 2 = some (3, .iload_n 2, []) by decide +kernel) rfl (fun _ _ _ => rfl) ?_
    refine R_pure (pc := 3) (pc' := 4) (st' := [.ref 241, .int a2]) (show z_pt 218 3 = some (3, .aload_n 0, []) by decide +kernel) rfl (fun _ _ _ => rfl) ?_
    refine R_getR (pc := 4) (a := 241) (b := 242) (show z_pt 218 4 = some (3, .getfield 7, [10, 0, 6118]) by decide +kernel) (by decide +kernel) ?_
    refine R_at (pc := 7) ?_
    refine R_const (pc := 7) (pc' := 8) (v := 2) (show z_ptc 218 7 = some (8, 2) by decide +kernel) ?_
    refine R_ialdK (pc := 8) (a := 242) (n := 331) (jn := 2) (show z_pt 218 8 = some (3, .iaload, []) by decide +kernel) (show z_ar 242 0 331 = true by decide +kernel) (by decide) (by decide) ?_
    refine R_at (pc := 9) ?_
    refine R_icmge (pc := 9) (t := 34) (show z_pt 218 9 = some (3, .if_icmp .ge 25, []) by decide +kernel) (by decide) (fun c1 => ?_) (fun c1 => ?_)
    · rw [if_pos c1] at h
      exact hK _  _ h
    · rw [if_neg c1] at h
      refine R_pure (pc := 12) (pc' := 13) (st' := [.ref 241]) (show z_pt 218 12 = some (3, .aload_n 0, []) by decide +kernel) rfl (fun _ _ _ => rfl) ?_
      refine R_getR (pc := 13) (a := 241) (b := 242) (show z_pt 218 13 = some (3, .getfield 7, [10, 0, 6118]) by decide +kernel) (by decide +kernel) ?_
      refine R_at (pc := 16) ?_
      refine R_const (pc := 16) (pc' := 19) (v := 235) (show z_ptc 218 16 = some (19, 235) by decide +kernel) ?_
      refine R_pure (pc := 19) (pc' := 20) (st' := [.int a2, .int 235, .ref 242]) (show z_pt 218 19 = some (3, .iload_n 2, []) by decide +kernel) rfl (fun _ _ _ => rfl) ?_
      refine R_pure (pc := 20) (pc' := 21) (st' := [.int (235 + a2), .ref 242]) (show z_pt 218 20 = some (3, .iadd, []) by decide +kernel) rfl (fun _ _ _ => rfl) ?_
      obtain ⟨v2, e3, h⟩ := z_bs h
      refine R_ialdR (pc := 21) (a := 242) (n := 331) (show z_pt 218 21 = some (3, .iaload, []) by decide +kernel) (show z_ar 242 0 331 = true by decide +kernel) e3 ?_
      refine R_at (pc := 22) ?_
      refine R_pure (pc := 22) (pc' := 23) (st' := [.int f1, .int v2]) (show z_pt 218 22 = some (3, .iload_n 1, []) by decide +kernel) rfl (fun _ _ _ => rfl) ?_
      refine R_icmne (pc := 23) (t := 28) (show z_pt 218 23 = some (3, .if_icmp .ne 5, []) by decide +kernel) (by decide) (fun c4 => ?_) (fun c4 => ?_)
      · rw [if_neg c4] at h
        refine R_inc (pc := 28) (pc' := 31) (ls' := [(0, .ref 241), (1, .int f1), (2, .int (a2 + 1))]) (c := 1) (show z_pt 218 28 = some (3, .iinc 2 1, []) by decide +kernel) (by decide) rfl rfl ?_
        refine R_pure (pc := 31) (pc' := 2) (ls' := [(0, .ref 241), (1, .int f1), (2, .int (a2 + 1))]) (st' := []) (show z_pt 218 31 = some (3, .goto (-29), [3]) by decide +kernel) rfl (fun _ _ _ => rfl) ?_
        exact ih _ _  h
      · rw [if_pos c4] at h
        refine R_pure (pc := 26) (pc' := 27) (st' := [.int a2]) (show z_pt 218 26 = some (3, .iload_n 2, []) by decide +kernel) rfl (fun _ _ _ => rfl) ?_
        cases h
        exact R_retI (show z_pt 218 27 = some (3, .ireturn, []) by decide +kernel) (by decide +kernel)
def pm_placeOf  (μ : z_Mem) (i1 : Int32) : Option Int32 := pm_placeOf_L2 z_fu μ i1 (fun k5 => some (-1)) 0
theorem pm_placeOf_run  {μ : z_Mem} {i1 : Int32}  {r : Int32} (h : pm_placeOf μ i1 = some r) : Rn 0 218 0 [(0, .ref 241), (1, .int i1)] [] μ (.inl (some (.int r))) μ := by
  unfold pm_placeOf at h
  refine R_const (pc := 0) (pc' := 1) (v := 0) (show z_ptc 218 0 = some (1, 0) by decide +kernel) ?_
  refine R_pure (pc := 1) (pc' := 2) (ls' := [(0, .ref 241), (1, .int i1), (2, .int 0)]) (st' := []) (show z_pt 218 1 = some (3, .istore_n 2, []) by decide +kernel) rfl (fun _ _ _ => rfl) ?_
  refine pm_placeOf_L2_run  _ _ _  _ (by omega) ?_ _ _ _ h
  intro k5 r h
  refine R_const (pc := 34) (pc' := 35) (v := (-1)) (show z_ptc 218 34 = some (35, (-1)) by decide +kernel) ?_
  cases h
  exact R_retI (show z_pt 218 35 = some (3, .ireturn, []) by decide +kernel) (by decide +kernel)
end ZP7
