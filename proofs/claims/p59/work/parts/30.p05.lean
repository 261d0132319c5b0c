section ZP5
def pG_performUpToFailure_L2_B (R : z_Mem → Int32 → Option (Int32 × z_Mem))   (K : z_Mem → Int32 → Option (Int32 × z_Mem)) (μ : z_Mem) (a1 : Int32) : Option (Int32 × z_Mem) := if (μ 34 1) ≤ a1 then K μ a1 else (pG_perform μ a1).bind fun q2 => if 0 ≤ q2.1 then R q2.2 (a1 + 1) else some (a1, q2.2)
def pG_performUpToFailure_L2 : Nat → (z_Mem → Int32 → Option (Int32 × z_Mem)) → z_Mem → Int32 → Option (Int32 × z_Mem)
  | 0 => fun _ _ _ => none
  | n + 1 => fun K μ a1 => pG_performUpToFailure_L2_B (pG_performUpToFailure_L2 n K) K μ a1
theorem pG_performUpToFailure_L2_run   (K : z_Mem → Int32 → Option (Int32 × z_Mem))  (D : Nat) (hD : 18 ≤ D) (hK : ∀ (μ : z_Mem) (a1 : Int32) (r : (Int32 × z_Mem)), K μ a1 = some r → Rn D 137 29 [(0, .ref 0), (1, .int a1)] [] μ (.inl (some (.int r.1))) r.2) : ∀ (n : Nat) (μ : z_Mem) (a1 : Int32) (r : (Int32 × z_Mem)), pG_performUpToFailure_L2 n K μ a1 = some r → Rn D 137 2 [(0, .ref 0), (1, .int a1)] [] μ (.inl (some (.int r.1))) r.2 := by
  intro n
  induction n with
  | zero => intro μ a1 r h; cases h
  | succ n ih =>
    intro μ a1 r h
    have h : pG_performUpToFailure_L2_B (pG_performUpToFailure_L2 n K) K μ a1 = some r := h
    unfold pG_performUpToFailure_L2_B at h
    refine R_pure (pc := 2) (pc' := 3) (st' := [.int a1]) (show z_pt 137 2 = some (2, .iload_n 1, []) by decide +kernel) rfl (fun _ _ _ => rfl) ?_
    refine R_pure (pc := 3) (pc' := 4) (st' := [.ref 0, .int a1]) (show z_pt 137 3 = some (2, .aload_n 0, []) by decide +kernel) rfl (fun _ _ _ => rfl) ?_
    refine R_getR (pc := 4) (a := 0) (b := 34) (show z_pt 137 4 = some (2, .getfield 43, [9, 6, 2043]) by decide +kernel) (by decide +kernel) ?_
    refine R_at (pc := 7) ?_
    refine R_getI (pc := 7) (a := 34) (show z_pt 137 7 = some (2, .getfield 321, [0, 1, 2002]) by decide +kernel) (by decide +kernel) ?_
    refine R_at (pc := 10) ?_
    refine R_icmge (pc := 10) (t := 29) (show z_pt 137 10 = some (2, .if_icmp .ge 19, []) by decide +kernel) (by decide) (fun c1 => ?_) (fun c1 => ?_)
    · rw [if_pos c1] at h
      exact hK _ _  _ h
    · rw [if_neg c1] at h
      refine R_pure (pc := 13) (pc' := 14) (st' := [.ref 0]) (show z_pt 137 13 = some (2, .aload_n 0, []) by decide +kernel) rfl (fun _ _ _ => rfl) ?_
      refine R_pure (pc := 14) (pc' := 15) (st' := [.int a1, .ref 0]) (show z_pt 137 14 = some (2, .iload_n 1, []) by decide +kernel) rfl (fun _ _ _ => rfl) ?_
      obtain ⟨q2, e3, h⟩ := z_bs h
      refine R_call (pc := 15) (rr := []) (show z_pt 137 15 = some (2, .invokevirtual 379, [0, 138, 1, 5031, 5033, 32, 1001, 5034]) by decide +kernel) rfl (show z_r2 138 = some (9, 5, true) by decide +kernel) rfl rfl (Or.inr ⟨_, _, rfl, (by decide +kernel)⟩) (pG_perform_run  e3) (by omega) ?_
      refine R_at2 (pc := 18) (st := [.int q2.1]) ?_
      refine R_ifge (pc := 18) (t := 23) (show z_pt 137 18 = some (2, .ifCond .ge 5, []) by decide +kernel) (by decide) (fun c4 => ?_) (fun c4 => ?_)
      · rw [if_pos c4] at h
        refine R_inc (pc := 23) (pc' := 26) (ls' := [(0, .ref 0), (1, .int (a1 + 1))]) (c := 1) (show z_pt 137 23 = some (2, .iinc 1 1, []) by decide +kernel) (by decide) rfl rfl ?_
        refine R_pure (pc := 26) (pc' := 2) (ls' := [(0, .ref 0), (1, .int (a1 + 1))]) (st' := []) (show z_pt 137 26 = some (2, .goto (-24), [2]) by decide +kernel) rfl (fun _ _ _ => rfl) ?_
        exact ih _ _ _  h
      · rw [if_neg c4] at h
        refine R_pure (pc := 21) (pc' := 22) (st' := [.int a1]) (show z_pt 137 21 = some (2, .iload_n 1, []) by decide +kernel) rfl (fun _ _ _ => rfl) ?_
        cases h
        exact R_retI (show z_pt 137 22 = some (2, .ireturn, []) by decide +kernel) (by decide +kernel)
def pG_performUpToFailure  (μ : z_Mem)  : Option (Int32 × z_Mem) := pG_performUpToFailure_L2 z_fu (fun M6 k5 => some ((M6 34 1), M6)) μ 0
theorem pG_performUpToFailure_run  {μ : z_Mem}   {r : (Int32 × z_Mem)} (h : pG_performUpToFailure μ = some r) : Rn 18 137 0 [(0, .ref 0)] [] μ (.inl (some (.int r.1))) r.2 := by
  unfold pG_performUpToFailure at h
  refine R_const (pc := 0) (pc' := 1) (v := 0) (show z_ptc 137 0 = some (1, 0) by decide +kernel) ?_
  refine R_pure (pc := 1) (pc' := 2) (ls' := [(0, .ref 0), (1, .int 0)]) (st' := []) (show z_pt 137 1 = some (2, .istore_n 1, []) by decide +kernel) rfl (fun _ _ _ => rfl) ?_
  refine pG_performUpToFailure_L2_run   _  _ (by omega) ?_ _ _ _ _ h
  intro M6 k5 r h
  refine R_pure (pc := 29) (pc' := 30) (st' := [.ref 0]) (show z_pt 137 29 = some (2, .aload_n 0, []) by decide +kernel) rfl (fun _ _ _ => rfl) ?_
  refine R_getR (pc := 30) (a := 0) (b := 34) (show z_pt 137 30 = some (2, .getfield 43, [9, 6, 2043]) by decide +kernel) (by decide +kernel) ?_
  refine R_at (pc := 33) ?_
  refine R_getI (pc := 33) (a := 34) (show z_pt 137 33 = some (2, .getfield 321, [0, 1, 2002]) by decide +kernel) (by decide +kernel) ?_
  refine R_at (pc := 36) ?_
  cases h
  exact R_retI (show z_pt 137 36 = some (2, .ireturn, []) by decide +kernel) (by decide +kernel)
def pG_execute  (μ : z_Mem)  : Option ((Int32 ⊕ Nat) × z_Mem) := (pR_readText μ).bind fun q1 => (pS_clear 21 60 q1.2).bind fun q3 => if q1.1 = 0 then some ((.inr 1), (z_u q3 0 8 (q3 34 0))) else (pH_begin q3).bind fun q6 => (pG_performUpToFailure q6).bind fun q8 => if (q8.2 34 1) ≤ q8.1 then (pH_keep q8.2).bind fun q11 => some ((.inl q8.1), q11) else (pH_takeBack q8.2).bind fun q13 => some ((.inr 5), (z_u q13 0 9 q8.1))
theorem pG_execute_run  {μ : z_Mem}   {r : ((Int32 ⊕ Nat) × z_Mem)} (h : pG_execute μ = some r) : Rn 19 119 0 [(0, .ref 0)] [] μ (z_oX r.1) r.2 := by
  unfold pG_execute at h
  refine R_pure (pc := 0) (pc' := 1) (st' := [.ref 0]) (show z_pt 119 0 = some (3, .aload_n 0, []) by decide +kernel) rfl (fun _ _ _ => rfl) ?_
  refine R_getR (pc := 1) (a := 0) (b := 34) (show z_pt 119 1 = some (3, .getfield 43, [9, 6, 2043]) by decide +kernel) (by decide +kernel) ?_
  refine R_at (pc := 4) ?_
  obtain ⟨q1, e2, h⟩ := z_bs h
  refine R_call (pc := 4) (rr := []) (show z_pt 119 4 = some (3, .invokevirtual 311, [0, 1, 0, 4165, 4166, 4167, 1010, 4168]) by decide +kernel) rfl (show z_r2 1 = some (0, 2, true) by decide +kernel) rfl rfl (Or.inr ⟨_, _, rfl, (by decide +kernel)⟩) (pR_readText_run  e2) (by omega) ?_
  refine R_at2 (pc := 7) (st := [.int q1.1]) ?_
  refine R_pure (pc := 7) (pc' := 8) (ls' := [(0, .ref 0), (1, .int q1.1)]) (st' := []) (show z_pt 119 7 = some (3, .istore_n 1, []) by decide +kernel) rfl (fun _ _ _ => rfl) ?_
  refine R_pure (pc := 8) (pc' := 9) (st' := [.ref 0]) (show z_pt 119 8 = some (3, .aload_n 0, []) by decide +kernel) rfl (fun _ _ _ => rfl) ?_
  refine R_getR (pc := 9) (a := 0) (b := 21) (show z_pt 119 9 = some (3, .getfield 34, [9, 4, 2041]) by decide +kernel) (by decide +kernel) ?_
  refine R_at (pc := 12) ?_
  obtain ⟨q3, e4, h⟩ := z_bs h
  refine R_call (pc := 12) (rr := []) (show z_pt 119 12 = some (3, .invokevirtual 288, [0, 54, 0, 5023, 5024, 5025, 1007, 5026]) by decide +kernel) rfl (show z_r2 54 = some (5, 1, true) by decide +kernel) rfl rfl (Or.inr ⟨_, _, rfl, (by decide +kernel)⟩) (pS_clear_run (show zSg 21 60 = true by decide +kernel) e4) (by omega) ?_
  refine R_at2 (pc := 15) (st := []) ?_
  refine R_pure (pc := 15) (pc' := 16) (st' := [.int q1.1]) (show z_pt 119 15 = some (3, .iload_n 1, []) by decide +kernel) rfl (fun _ _ _ => rfl) ?_
  refine R_ifne (pc := 16) (t := 38) (show z_pt 119 16 = some (3, .ifCond .ne 22, []) by decide +kernel) (by decide) (fun c5 => ?_) (fun c5 => ?_)
  · rw [if_neg c5] at h
    refine R_pure (pc := 38) (pc' := 39) (st' := [.ref 0]) (show z_pt 119 38 = some (3, .aload_n 0, []) by decide +kernel) rfl (fun _ _ _ => rfl) ?_
    refine R_getR (pc := 39) (a := 0) (b := 57) (show z_pt 119 39 = some (3, .getfield 53, [9, 2, 2039]) by decide +kernel) (by decide +kernel) ?_
    refine R_at (pc := 42) ?_
    refine R_pure (pc := 42) (pc' := 43) (st' := [.ref 0, .ref 57]) (show z_pt 119 42 = some (3, .aload_n 0, []) by decide +kernel) rfl (fun _ _ _ => rfl) ?_
    refine R_getR (pc := 43) (a := 0) (b := 1) (show z_pt 119 43 = some (3, .getfield 17, [9, 0, 2037]) by decide +kernel) (by decide +kernel) ?_
    refine R_at (pc := 46) ?_
    obtain ⟨q6, e7, h⟩ := z_bs h
    refine R_call (pc := 46) (rr := []) (show z_pt 119 46 = some (3, .invokevirtual 71, [0, 49, 1, 2072, 2073, 2074, 1011, 2075]) by decide +kernel) rfl (show z_r2 49 = some (4, 3, true) by decide +kernel) rfl rfl (Or.inr ⟨_, _, rfl, (by decide +kernel)⟩) (pH_begin_run  e7) (by omega) ?_
    refine R_at2 (pc := 49) (st := []) ?_
    refine R_pure (pc := 49) (pc' := 50) (st' := [.ref 0]) (show z_pt 119 49 = some (3, .aload_n 0, []) by decide +kernel) rfl (fun _ _ _ => rfl) ?_
    obtain ⟨q8, e9, h⟩ := z_bs h
    refine R_call (pc := 50) (rr := []) (show z_pt 119 50 = some (3, .invokevirtual 318, [0, 137, 0, 5027, 5029, 31, 1001, 5030]) by decide +kernel) rfl (show z_r2 137 = some (9, 2, true) by decide +kernel) rfl rfl (Or.inr ⟨_, _, rfl, (by decide +kernel)⟩) (pG_performUpToFailure_run  e9) (by omega) ?_
    refine R_at2 (pc := 53) (st := [.int q8.1]) ?_
    refine R_pure (pc := 53) (pc' := 54) (ls' := [(0, .ref 0), (1, .int q1.1), (2, .int q8.1)]) (st' := []) (show z_pt 119 53 = some (3, .istore_n 2, []) by decide +kernel) rfl (fun _ _ _ => rfl) ?_
    refine R_pure (pc := 54) (pc' := 55) (st' := [.int q8.1]) (show z_pt 119 54 = some (3, .iload_n 2, []) by decide +kernel) rfl (fun _ _ _ => rfl) ?_
    refine R_pure (pc := 55) (pc' := 56) (st' := [.ref 0, .int q8.1]) (show z_pt 119 55 = some (3, .aload_n 0, []) by decide +kernel) rfl (fun _ _ _ => rfl) ?_
    refine R_getR (pc := 56) (a := 0) (b := 34) (show z_pt 119 56 = some (3, .getfield 43, [9, 6, 2043]) by decide +kernel) (by decide +kernel) ?_
    refine R_at (pc := 59) ?_
    refine R_getI (pc := 59) (a := 34) (show z_pt 119 59 = some (3, .getfield 321, [0, 1, 2002]) by decide +kernel) (by decide +kernel) ?_
    refine R_at (pc := 62) ?_
    refine R_icmge (pc := 62) (t := 89) (show z_pt 119 62 = some (3, .if_icmp .ge 27, []) by decide +kernel) (by decide) (fun c10 => ?_) (fun c10 => ?_)
    · rw [if_pos c10] at h
      refine R_pure (pc := 89) (pc' := 90) (st' := [.ref 0]) (show z_pt 119 89 = some (3, .aload_n 0, []) by decide +kernel) rfl (fun _ _ _ => rfl) ?_
      refine R_getR (pc := 90) (a := 0) (b := 57) (show z_pt 119 90 = some (3, .getfield 53, [9, 2, 2039]) by decide +kernel) (by decide +kernel) ?_
      refine R_at (pc := 93) ?_
      obtain ⟨q11, e12, h⟩ := z_bs h
      refine R_call (pc := 93) (rr := []) (show z_pt 119 93 = some (3, .invokevirtual 328, [0, 51, 0, 2230, 2231, 2232, 1011, 2233]) by decide +kernel) rfl (show z_r2 51 = some (4, 1, true) by decide +kernel) rfl rfl (Or.inr ⟨_, _, rfl, (by decide +kernel)⟩) (pH_keep_run  e12) (by omega) ?_
      refine R_at2 (pc := 96) (st := []) ?_
      refine R_pure (pc := 96) (pc' := 97) (st' := [.int q8.1]) (show z_pt 119 96 = some (3, .iload_n 2, []) by decide +kernel) rfl (fun _ _ _ => rfl) ?_
      cases h
      exact R_retI (show z_pt 119 97 = some (3, .ireturn, []) by decide +kernel) (by decide +kernel)
    · rw [if_neg c10] at h
      refine R_pure (pc := 65) (pc' := 66) (st' := [.ref 0]) (show z_pt 119 65 = some (3, .aload_n 0, []) by decide +kernel) rfl (fun _ _ _ => rfl) ?_
      refine R_getR (pc := 66) (a := 0) (b := 57) (show z_pt 119 66 = some (3, .getfield 53, [9, 2, 2039]) by decide +kernel) (by decide +kernel) ?_
      refine R_at (pc := 69) ?_
      refine R_pure (pc := 69) (pc' := 70) (st' := [.ref 0, .ref 57]) (show z_pt 119 69 = some (3, .aload_n 0, []) by decide +kernel) rfl (fun _ _ _ => rfl) ?_
      refine R_getR (pc := 70) (a := 0) (b := 1) (show z_pt 119 70 = some (3, .getfield 17, [9, 0, 2037]) by decide +kernel) (by decide +kernel) ?_
      refine R_at (pc := 73) ?_
      obtain ⟨q13, e14, h⟩ := z_bs h
      refine R_call (pc := 73) (rr := []) (show z_pt 119 73 = some (3, .invokevirtual 322, [0, 50, 1, 5051, 5052, 5053, 1011, 5054]) by decide +kernel) rfl (show z_r2 50 = some (4, 3, true) by decide +kernel) rfl rfl (Or.inr ⟨_, _, rfl, (by decide +kernel)⟩) (pH_takeBack_run  e14) (by omega) ?_
      refine R_at2 (pc := 76) (st := []) ?_
      refine R_pure (pc := 76) (pc' := 77) (st' := [.ref 0]) (show z_pt 119 76 = some (3, .aload_n 0, []) by decide +kernel) rfl (fun _ _ _ => rfl) ?_
      refine R_pure (pc := 77) (pc' := 78) (st' := [.int q8.1, .ref 0]) (show z_pt 119 77 = some (3, .iload_n 2, []) by decide +kernel) rfl (fun _ _ _ => rfl) ?_
      refine R_putI (pc := 78) (a := 0) (show z_pt 119 78 = some (3, .putfield 68, [9, 9, 2046]) by decide +kernel) (by decide +kernel) ⟨rfl, rfl⟩ ?_
      refine R_at (pc := 81) ?_
      cases h
      exact R_thr (show z_thx 119 81 = some 5 by decide +kernel) (by omega)
  · rw [if_pos c5] at h
    refine R_pure (pc := 19) (pc' := 20) (st' := [.ref 0]) (show z_pt 119 19 = some (3, .aload_n 0, []) by decide +kernel) rfl (fun _ _ _ => rfl) ?_
    refine R_pure (pc := 20) (pc' := 21) (st' := [.ref 0, .ref 0]) (show z_pt 119 20 = some (3, .aload_n 0, []) by decide +kernel) rfl (fun _ _ _ => rfl) ?_
    refine R_getR (pc := 21) (a := 0) (b := 34) (show z_pt 119 21 = some (3, .getfield 43, [9, 6, 2043]) by decide +kernel) (by decide +kernel) ?_
    refine R_at (pc := 24) ?_
    refine R_getI (pc := 24) (a := 34) (show z_pt 119 24 = some (3, .getfield 315, [0, 0, 2000]) by decide +kernel) (by decide +kernel) ?_
    refine R_at (pc := 27) ?_
    refine R_putI (pc := 27) (a := 0) (show z_pt 119 27 = some (3, .putfield 64, [9, 8, 2045]) by decide +kernel) (by decide +kernel) ⟨rfl, rfl⟩ ?_
    refine R_at (pc := 30) ?_
    cases h
    exact R_thr (show z_thx 119 30 = some 1 by decide +kernel) (by omega)
def pG_errorPosition  (μ : z_Mem)  : Option (Int32 ⊕ Nat) := if (μ 0 8) = (-1) then some (.inr 3) else some (.inl (μ 0 8))
theorem pG_errorPosition_run  {μ : z_Mem}   {r : (Int32 ⊕ Nat)} (h : pG_errorPosition μ = some r) : Rn 6 120 0 [(0, .ref 0)] [] μ (z_oX r) μ := by
  unfold pG_errorPosition at h
  refine R_pure (pc := 0) (pc' := 1) (st' := [.ref 0]) (show z_pt 120 0 = some (1, .aload_n 0, []) by decide +kernel) rfl (fun _ _ _ => rfl) ?_
  refine R_getI (pc := 1) (a := 0) (show z_pt 120 1 = some (1, .getfield 64, [9, 8, 2045]) by decide +kernel) (by decide +kernel) ?_
  refine R_at (pc := 4) ?_
  refine R_const (pc := 4) (pc' := 5) (v := (-1)) (show z_ptc 120 4 = some (5, (-1)) by decide +kernel) ?_
  refine R_icmne (pc := 5) (t := 16) (show z_pt 120 5 = some (1, .if_icmp .ne 11, []) by decide +kernel) (by decide) (fun c1 => ?_) (fun c1 => ?_)
  · rw [if_neg c1] at h
    refine R_pure (pc := 16) (pc' := 17) (st' := [.ref 0]) (show z_pt 120 16 = some (1, .aload_n 0, []) by decide +kernel) rfl (fun _ _ _ => rfl) ?_
    refine R_getI (pc := 17) (a := 0) (show z_pt 120 17 = some (1, .getfield 64, [9, 8, 2045]) by decide +kernel) (by decide +kernel) ?_
    refine R_at (pc := 20) ?_
    cases h
    exact R_retI (show z_pt 120 20 = some (1, .ireturn, []) by decide +kernel) (by decide +kernel)
  · rw [if_pos c1] at h
    cases h
    exact R_thr (show z_thx 120 8 = some 3 by decide +kernel) (by omega)
def pG_failedCommand  (μ : z_Mem)  : Option (Int32 ⊕ Nat) := if (μ 0 9) = (-1) then some (.inr 3) else some (.inl (μ 0 9))
theorem pG_failedCommand_run  {μ : z_Mem}   {r : (Int32 ⊕ Nat)} (h : pG_failedCommand μ = some r) : Rn 6 121 0 [(0, .ref 0)] [] μ (z_oX r) μ := by
  unfold pG_failedCommand at h
  refine R_pure (pc := 0) (pc' := 1) (st' := [.ref 0]) (show z_pt 121 0 = some (1, .aload_n 0, []) by decide +kernel) rfl (fun _ _ _ => rfl) ?_
  refine R_getI (pc := 1) (a := 0) (show z_pt 121 1 = some (1, .getfield 68, [9, 9, 2046]) by decide +kernel) (by decide +kernel) ?_
  refine R_at (pc := 4) ?_
  refine R_const (pc := 4) (pc' := 5) (v := (-1)) (show z_ptc 121 4 = some (5, (-1)) by decide +kernel) ?_
  refine R_icmne (pc := 5) (t := 16) (show z_pt 121 5 = some (1, .if_icmp .ne 11, []) by decide +kernel) (by decide) (fun c1 => ?_) (fun c1 => ?_)
  · rw [if_neg c1] at h
    refine R_pure (pc := 16) (pc' := 17) (st' := [.ref 0]) (show z_pt 121 16 = some (1, .aload_n 0, []) by decide +kernel) rfl (fun _ _ _ => rfl) ?_
    refine R_getI (pc := 17) (a := 0) (show z_pt 121 17 = some (1, .getfield 68, [9, 9, 2046]) by decide +kernel) (by decide +kernel) ?_
    refine R_at (pc := 20) ?_
    cases h
    exact R_retI (show z_pt 121 20 = some (1, .ireturn, []) by decide +kernel) (by decide +kernel)
  · rw [if_pos c1] at h
    cases h
    exact R_thr (show z_thx 121 8 = some 3 by decide +kernel) (by omega)
def pG_undo  (μ : z_Mem)  : Option ((Int32 ⊕ Nat) × z_Mem) := if (μ 57 0) = 0 then some ((.inr 2), μ) else (pH_undoLatest μ).bind fun q2 => some ((.inl (q2 57 0)), q2)
theorem pG_undo_run  {μ : z_Mem}   {r : ((Int32 ⊕ Nat) × z_Mem)} (h : pG_undo μ = some r) : Rn 6 122 0 [(0, .ref 0)] [] μ (z_oX r.1) r.2 := by
  unfold pG_undo at h
  refine R_pure (pc := 0) (pc' := 1) (st' := [.ref 0]) (show z_pt 122 0 = some (1, .aload_n 0, []) by decide +kernel) rfl (fun _ _ _ => rfl) ?_
  refine R_getR (pc := 1) (a := 0) (b := 57) (show z_pt 122 1 = some (1, .getfield 53, [9, 2, 2039]) by decide +kernel) (by decide +kernel) ?_
  refine R_at (pc := 4) ?_
  refine R_getI (pc := 4) (a := 57) (show z_pt 122 4 = some (1, .getfield 331, [4, 0, 2027]) by decide +kernel) (by decide +kernel) ?_
  refine R_at (pc := 7) ?_
  refine R_ifne (pc := 7) (t := 18) (show z_pt 122 7 = some (1, .ifCond .ne 11, []) by decide +kernel) (by decide) (fun c1 => ?_) (fun c1 => ?_)
  · rw [if_neg c1] at h
    refine R_pure (pc := 18) (pc' := 19) (st' := [.ref 0]) (show z_pt 122 18 = some (1, .aload_n 0, []) by decide +kernel) rfl (fun _ _ _ => rfl) ?_
    refine R_getR (pc := 19) (a := 0) (b := 57) (show z_pt 122 19 = some (1, .getfield 53, [9, 2, 2039]) by decide +kernel) (by decide +kernel) ?_
    refine R_at (pc := 22) ?_
    refine R_pure (pc := 22) (pc' := 23) (st' := [.ref 0, .ref 57]) (show z_pt 122 22 = some (1, .aload_n 0, []) by decide +kernel) rfl (fun _ _ _ => rfl) ?_
    refine R_getR (pc := 23) (a := 0) (b := 1) (show z_pt 122 23 = some (1, .getfield 17, [9, 0, 2037]) by decide +kernel) (by decide +kernel) ?_
    refine R_at (pc := 26) ?_
    obtain ⟨q2, e3, h⟩ := z_bs h
    refine R_call (pc := 26) (rr := []) (show z_pt 122 26 = some (1, .invokevirtual 332, [0, 52, 1, 5079, 5080, 5081, 1011, 5082]) by decide +kernel) rfl (show z_r2 52 = some (4, 2, true) by decide +kernel) rfl rfl (Or.inr ⟨_, _, rfl, (by decide +kernel)⟩) (pH_undoLatest_run  e3) (by omega) ?_
    refine R_at2 (pc := 29) (st := []) ?_
    refine R_pure (pc := 29) (pc' := 30) (st' := [.ref 0]) (show z_pt 122 29 = some (1, .aload_n 0, []) by decide +kernel) rfl (fun _ _ _ => rfl) ?_
    refine R_getR (pc := 30) (a := 0) (b := 57) (show z_pt 122 30 = some (1, .getfield 53, [9, 2, 2039]) by decide +kernel) (by decide +kernel) ?_
    refine R_at (pc := 33) ?_
    refine R_getI (pc := 33) (a := 57) (show z_pt 122 33 = some (1, .getfield 331, [4, 0, 2027]) by decide +kernel) (by decide +kernel) ?_
    refine R_at (pc := 36) ?_
    cases h
    exact R_retI (show z_pt 122 36 = some (1, .ireturn, []) by decide +kernel) (by decide +kernel)
  · rw [if_pos c1] at h
    cases h
    exact R_thr (show z_thx 122 10 = some 2 by decide +kernel) (by omega)
def pG_save  (μ : z_Mem)  : Option (Int32 × z_Mem) := (pA_copyFrom 37 1 μ).bind fun q1 => some (((z_u q1 0 7 1) 2 0), (z_u q1 0 7 1))
theorem pG_save_run  {μ : z_Mem}   {r : (Int32 × z_Mem)} (h : pG_save μ = some r) : Rn 3 123 0 [(0, .ref 0)] [] μ (.inl (some (.int r.1))) r.2 := by
  unfold pG_save at h
  refine R_pure (pc := 0) (pc' := 1) (st' := [.ref 0]) (show z_pt 123 0 = some (1, .aload_n 0, []) by decide +kernel) rfl (fun _ _ _ => rfl) ?_
  refine R_getR (pc := 1) (a := 0) (b := 37) (show z_pt 123 1 = some (1, .getfield 47, [9, 1, 2038]) by decide +kernel) (by decide +kernel) ?_
  refine R_at (pc := 4) ?_
  refine R_pure (pc := 4) (pc' := 5) (st' := [.ref 0, .ref 37]) (show z_pt 123 4 = some (1, .aload_n 0, []) by decide +kernel) rfl (fun _ _ _ => rfl) ?_
  refine R_getR (pc := 5) (a := 0) (b := 1) (show z_pt 123 5 = some (1, .getfield 17, [9, 0, 2037]) by decide +kernel) (by decide +kernel) ?_
  refine R_at (pc := 8) ?_
  obtain ⟨q1, e2, h⟩ := z_bs h
  refine R_call (pc := 8) (rr := []) (show z_pt 123 8 = some (1, .invokevirtual 335, [0, 65, 1, 5088, 2077, 2078, 1002, 2079]) by decide +kernel) rfl (show z_r2 65 = some (7, 2, true) by decide +kernel) rfl rfl (Or.inr ⟨_, _, rfl, (by decide +kernel)⟩) (pA_copyFrom_run (show zSt 37 = true by decide +kernel) (show zSt 1 = true by decide +kernel) e2) (by omega) ?_
  refine R_at2 (pc := 11) (st := []) ?_
  refine R_pure (pc := 11) (pc' := 12) (st' := [.ref 0]) (show z_pt 123 11 = some (1, .aload_n 0, []) by decide +kernel) rfl (fun _ _ _ => rfl) ?_
  refine R_const (pc := 12) (pc' := 13) (v := 1) (show z_ptc 123 12 = some (13, 1) by decide +kernel) ?_
  refine R_putI (pc := 13) (a := 0) (show z_pt 123 13 = some (1, .putfield 60, [9, 7, 2044]) by decide +kernel) (by decide +kernel) (by decide) ?_
  refine R_at (pc := 16) ?_
  refine R_pure (pc := 16) (pc' := 17) (st' := [.ref 0]) (show z_pt 123 16 = some (1, .aload_n 0, []) by decide +kernel) rfl (fun _ _ _ => rfl) ?_
  refine R_getR (pc := 17) (a := 0) (b := 1) (show z_pt 123 17 = some (1, .getfield 17, [9, 0, 2037]) by decide +kernel) (by decide +kernel) ?_
  refine R_at (pc := 20) ?_
  refine R_getR (pc := 20) (a := 1) (b := 2) (show z_pt 123 20 = some (1, .getfield 23, [7, 0, 1172]) by decide +kernel) (by decide +kernel) ?_
  refine R_at (pc := 23) ?_
  refine R_getI (pc := 23) (a := 2) (show z_pt 123 23 = some (1, .getfield 93, [2, 0, 1050]) by decide +kernel) (by decide +kernel) ?_
  refine R_at (pc := 26) ?_
  cases h
  exact R_retI (show z_pt 123 26 = some (1, .ireturn, []) by decide +kernel) (by decide +kernel)
def pG_restore  (μ : z_Mem)  : Option ((Int32 ⊕ Nat) × z_Mem) := if (μ 0 7) = 0 then some ((.inr 2), μ) else (pA_copyFrom 1 37 μ).bind fun q2 => some ((.inl ((z_u q2 57 0 0) 2 0)), (z_u q2 57 0 0))
theorem pG_restore_run  {μ : z_Mem}   {r : ((Int32 ⊕ Nat) × z_Mem)} (h : pG_restore μ = some r) : Rn 6 124 0 [(0, .ref 0)] [] μ (z_oX r.1) r.2 := by
  unfold pG_restore at h
  refine R_pure (pc := 0) (pc' := 1) (st' := [.ref 0]) (show z_pt 124 0 = some (1, .aload_n 0, []) by decide +kernel) rfl (fun _ _ _ => rfl) ?_
  refine R_getI (pc := 1) (a := 0) (show z_pt 124 1 = some (1, .getfield 60, [9, 7, 2044]) by decide +kernel) (by decide +kernel) ?_
  refine R_at (pc := 4) ?_
  refine R_ifne (pc := 4) (t := 15) (show z_pt 124 4 = some (1, .ifCond .ne 11, []) by decide +kernel) (by decide) (fun c1 => ?_) (fun c1 => ?_)
  · rw [if_neg c1] at h
    refine R_pure (pc := 15) (pc' := 16) (st' := [.ref 0]) (show z_pt 124 15 = some (1, .aload_n 0, []) by decide +kernel) rfl (fun _ _ _ => rfl) ?_
    refine R_getR (pc := 16) (a := 0) (b := 1) (show z_pt 124 16 = some (1, .getfield 17, [9, 0, 2037]) by decide +kernel) (by decide +kernel) ?_
    refine R_at (pc := 19) ?_
    refine R_pure (pc := 19) (pc' := 20) (st' := [.ref 0, .ref 1]) (show z_pt 124 19 = some (1, .aload_n 0, []) by decide +kernel) rfl (fun _ _ _ => rfl) ?_
    refine R_getR (pc := 20) (a := 0) (b := 37) (show z_pt 124 20 = some (1, .getfield 47, [9, 1, 2038]) by decide +kernel) (by decide +kernel) ?_
    refine R_at (pc := 23) ?_
    obtain ⟨q2, e3, h⟩ := z_bs h
    refine R_call (pc := 23) (rr := []) (show z_pt 124 23 = some (1, .invokevirtual 335, [0, 65, 1, 5088, 2077, 2078, 1002, 2079]) by decide +kernel) rfl (show z_r2 65 = some (7, 2, true) by decide +kernel) rfl rfl (Or.inr ⟨_, _, rfl, (by decide +kernel)⟩) (pA_copyFrom_run (show zSt 1 = true by decide +kernel) (show zSt 37 = true by decide +kernel) e3) (by omega) ?_
    refine R_at2 (pc := 26) (st := []) ?_
    refine R_pure (pc := 26) (pc' := 27) (st' := [.ref 0]) (show z_pt 124 26 = some (1, .aload_n 0, []) by decide +kernel) rfl (fun _ _ _ => rfl) ?_
    refine R_getR (pc := 27) (a := 0) (b := 57) (show z_pt 124 27 = some (1, .getfield 53, [9, 2, 2039]) by decide +kernel) (by decide +kernel) ?_
    refine R_at (pc := 30) ?_
    refine R_const (pc := 30) (pc' := 31) (v := 0) (show z_ptc 124 30 = some (31, 0) by decide +kernel) ?_
    refine R_putI (pc := 31) (a := 57) (show z_pt 124 31 = some (1, .putfield 331, [4, 0, 2027]) by decide +kernel) (by decide +kernel) ⟨rfl, rfl⟩ ?_
    refine R_at (pc := 34) ?_
    refine R_pure (pc := 34) (pc' := 35) (st' := [.ref 0]) (show z_pt 124 34 = some (1, .aload_n 0, []) by decide +kernel) rfl (fun _ _ _ => rfl) ?_
    refine R_getR (pc := 35) (a := 0) (b := 1) (show z_pt 124 35 = some (1, .getfield 17, [9, 0, 2037]) by decide +kernel) (by decide +kernel) ?_
    refine R_at (pc := 38) ?_
    refine R_getR (pc := 38) (a := 1) (b := 2) (show z_pt 124 38 = some (1, .getfield 23, [7, 0, 1172]) by decide +kernel) (by decide +kernel) ?_
    refine R_at (pc := 41) ?_
    refine R_getI (pc := 41) (a := 2) (show z_pt 124 41 = some (1, .getfield 93, [2, 0, 1050]) by decide +kernel) (by decide +kernel) ?_
    refine R_at (pc := 44) ?_
    cases h
    exact R_retI (show z_pt 124 44 = some (1, .ireturn, []) by decide +kernel) (by decide +kernel)
  · rw [if_pos c1] at h
    cases h
    exact R_thr (show z_thx 124 7 = some 2 by decide +kernel) (by omega)
def pJ_max  (μ : z_Mem) (i0 : Int32) (i1 : Int32) : Option Int32 := if i0 < i1 then some i1 else some i0
theorem pJ_max_run  {μ : z_Mem} {i0 : Int32} {i1 : Int32}  {r : Int32} (h : pJ_max μ i0 i1 = some r) : Rn 0 159 0 [(0, .int i0), (1, .int i1)] [] μ (.inl (some (.int r))) μ := by
  unfold pJ_max at h
  refine R_pure (pc := 0) (pc' := 1) (st' := [.int i0]) (show z_pt 159 0 = some (2, .iload_n 0, []) by decide +kernel) rfl (fun _ _ _ => rfl) ?_
  refine R_pure (pc := 1) (pc' := 2) (st' := [.int i1, .int i0]) (show z_pt 159 1 = some (2, .iload_n 1, []) by decide +kernel) rfl (fun _ _ _ => rfl) ?_
  refine R_icmlt (pc := 2) (t := 9) (show z_pt 159 2 = some (2, .if_icmp .lt 7, []) by decide +kernel) (by decide) (fun c1 => ?_) (fun c1 => ?_)
  · rw [if_pos c1] at h
    refine R_pure (pc := 9) (pc' := 10) (st' := [.int i1]) (show z_pt 159 9 = some (2, .iload_n 1, []) by decide +kernel) rfl (fun _ _ _ => rfl) ?_
    cases h
    exact R_retI (show z_pt 159 10 = some (2, .ireturn, []) by decide +kernel) (by decide +kernel)
  · rw [if_neg c1] at h
    refine R_pure (pc := 5) (pc' := 6) (st' := [.int i0]) (show z_pt 159 5 = some (2, .iload_n 0, []) by decide +kernel) rfl (fun _ _ _ => rfl) ?_
    refine R_pure (pc := 6) (pc' := 10) (show z_pt 159 6 = some (2, .goto 4, []) by decide +kernel) rfl (fun _ _ _ => rfl) ?_
    cases h
    exact R_retI (show z_pt 159 10 = some (2, .ireturn, []) by decide +kernel) (by decide +kernel)
end ZP5
