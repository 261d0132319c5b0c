section ZP4
def pG_freePlay  (μ : z_Mem) (i1 : Int32) (i2 : Int32) : Option ((Int32 ⊕ Nat) × z_Mem) := (pG_needConnected μ i1 i2).bind fun q1 => (match q1.1 with | none => (pW_playOfGaps q1.2 i1 i2).bind fun q5 => some ((.inl q5.1), q5.2) | some E4 => some ((.inr E4), q1.2))
theorem pG_freePlay_run  {μ : z_Mem} {i1 : Int32} {i2 : Int32}  {r : ((Int32 ⊕ Nat) × z_Mem)} (h : pG_freePlay μ i1 i2 = some r) : Rn 16 96 0 [(0, .ref 0), (1, .int i1), (2, .int i2)] [] μ (z_oX r.1) r.2 := by
  unfold pG_freePlay at h
  refine R_pure (pc := 0) (pc' := 1) (st' := [.ref 0]) (show z_pt 96 0 = some (3, .aload_n 0, []) by decide +kernel) rfl (fun _ _ _ => rfl) ?_
  refine R_pure (pc := 1) (pc' := 2) (st' := [.int i1, .ref 0]) (show z_pt 96 1 = some (3, .iload_n 1, []) by decide +kernel) rfl (fun _ _ _ => rfl) ?_
  refine R_pure (pc := 2) (pc' := 3) (st' := [.int i2, .int i1, .ref 0]) (show z_pt 96 2 = some (3, .iload_n 2, []) by decide +kernel) rfl (fun _ _ _ => rfl) ?_
  obtain ⟨q1, e2, h⟩ := z_bs h
  have y7 := pG_needConnected_run  e2
  cases x3h : q1.1 with
  | none =>
    rw [x3h] at h y7
    dsimp only at h
    refine R_call (pc := 3) (rr := []) (show z_pt 96 3 = some (3, .invokevirtual 139, [0, 150, 2, 4032, 4034, 11, 1001, 4035]) by decide +kernel) rfl (show z_r2 150 = some (9, 3, true) by decide +kernel) rfl rfl (Or.inr ⟨_, _, rfl, (by decide +kernel)⟩) y7 (by omega) ?_
    refine R_at2 (pc := 6) (st := []) ?_
    refine R_pure (pc := 6) (pc' := 7) (st' := [.ref 0]) (show z_pt 96 6 = some (3, .aload_n 0, []) by decide +kernel) rfl (fun _ _ _ => rfl) ?_
    refine R_getR (pc := 7) (a := 0) (b := 23) (show z_pt 96 7 = some (3, .getfield 30, [9, 3, 2042]) by decide +kernel) (by decide +kernel) ?_
    refine R_at (pc := 10) ?_
    refine R_pure (pc := 10) (pc' := 11) (st' := [.int i1, .ref 23]) (show z_pt 96 10 = some (3, .iload_n 1, []) by decide +kernel) rfl (fun _ _ _ => rfl) ?_
    refine R_pure (pc := 11) (pc' := 12) (st' := [.int i2, .int i1, .ref 23]) (show z_pt 96 11 = some (3, .iload_n 2, []) by decide +kernel) rfl (fun _ _ _ => rfl) ?_
    obtain ⟨q5, e6, h⟩ := z_bs h
    refine R_call (pc := 12) (rr := []) (show z_pt 96 12 = some (3, .invokevirtual 152, [0, 45, 2, 4063, 2155, 2156, 1009, 2157]) by decide +kernel) rfl (show z_r2 45 = some (3, 7, true) by decide +kernel) rfl rfl (Or.inr ⟨_, _, rfl, (by decide +kernel)⟩) (pW_playOfGaps_run  e6) (by omega) ?_
    refine R_at2 (pc := 15) (st := [.int q5.1]) ?_
    cases h
    exact R_retI (show z_pt 96 15 = some (3, .ireturn, []) by decide +kernel) (by decide +kernel)
  | some E4 =>
    rw [x3h] at h y7
    cases h
    exact R_callX (pc := 3) (rr := []) (show z_pt 96 3 = some (3, .invokevirtual 139, [0, 150, 2, 4032, 4034, 11, 1001, 4035]) by decide +kernel) rfl (show z_r2 150 = some (9, 3, true) by decide +kernel) rfl rfl (Or.inr ⟨_, _, rfl, (by decide +kernel)⟩) y7 (by decide) (by decide +kernel) (by omega)
def pG_freePlayByTurning  (μ : z_Mem) (i1 : Int32) (i2 : Int32) : Option ((Int32 ⊕ Nat) × z_Mem) := (pG_needConnected μ i1 i2).bind fun q1 => (match q1.1 with | none => (pW_playOfTrial q1.2 i1 i2).bind fun q5 => some ((.inl q5.1), q5.2) | some E4 => some ((.inr E4), q1.2))
theorem pG_freePlayByTurning_run  {μ : z_Mem} {i1 : Int32} {i2 : Int32}  {r : ((Int32 ⊕ Nat) × z_Mem)} (h : pG_freePlayByTurning μ i1 i2 = some r) : Rn 17 97 0 [(0, .ref 0), (1, .int i1), (2, .int i2)] [] μ (z_oX r.1) r.2 := by
  unfold pG_freePlayByTurning at h
  refine R_pure (pc := 0) (pc' := 1) (st' := [.ref 0]) (show z_pt 97 0 = some (3, .aload_n 0, []) by decide +kernel) rfl (fun _ _ _ => rfl) ?_
  refine R_pure (pc := 1) (pc' := 2) (st' := [.int i1, .ref 0]) (show z_pt 97 1 = some (3, .iload_n 1, []) by decide +kernel) rfl (fun _ _ _ => rfl) ?_
  refine R_pure (pc := 2) (pc' := 3) (st' := [.int i2, .int i1, .ref 0]) (show z_pt 97 2 = some (3, .iload_n 2, []) by decide +kernel) rfl (fun _ _ _ => rfl) ?_
  obtain ⟨q1, e2, h⟩ := z_bs h
  have y7 := pG_needConnected_run  e2
  cases x3h : q1.1 with
  | none =>
    rw [x3h] at h y7
    dsimp only at h
    refine R_call (pc := 3) (rr := []) (show z_pt 97 3 = some (3, .invokevirtual 139, [0, 150, 2, 4032, 4034, 11, 1001, 4035]) by decide +kernel) rfl (show z_r2 150 = some (9, 3, true) by decide +kernel) rfl rfl (Or.inr ⟨_, _, rfl, (by decide +kernel)⟩) y7 (by omega) ?_
    refine R_at2 (pc := 6) (st := []) ?_
    refine R_pure (pc := 6) (pc' := 7) (st' := [.ref 0]) (show z_pt 97 6 = some (3, .aload_n 0, []) by decide +kernel) rfl (fun _ _ _ => rfl) ?_
    refine R_getR (pc := 7) (a := 0) (b := 23) (show z_pt 97 7 = some (3, .getfield 30, [9, 3, 2042]) by decide +kernel) (by decide +kernel) ?_
    refine R_at (pc := 10) ?_
    refine R_pure (pc := 10) (pc' := 11) (st' := [.int i1, .ref 23]) (show z_pt 97 10 = some (3, .iload_n 1, []) by decide +kernel) rfl (fun _ _ _ => rfl) ?_
    refine R_pure (pc := 11) (pc' := 12) (st' := [.int i2, .int i1, .ref 23]) (show z_pt 97 11 = some (3, .iload_n 2, []) by decide +kernel) rfl (fun _ _ _ => rfl) ?_
    obtain ⟨q5, e6, h⟩ := z_bs h
    refine R_call (pc := 12) (rr := []) (show z_pt 97 12 = some (3, .invokevirtual 155, [0, 46, 2, 4071, 2164, 2165, 1009, 2166]) by decide +kernel) rfl (show z_r2 46 = some (3, 6, true) by decide +kernel) rfl rfl (Or.inr ⟨_, _, rfl, (by decide +kernel)⟩) (pW_playOfTrial_run  e6) (by omega) ?_
    refine R_at2 (pc := 15) (st := [.int q5.1]) ?_
    cases h
    exact R_retI (show z_pt 97 15 = some (3, .ireturn, []) by decide +kernel) (by decide +kernel)
  | some E4 =>
    rw [x3h] at h y7
    cases h
    exact R_callX (pc := 3) (rr := []) (show z_pt 97 3 = some (3, .invokevirtual 139, [0, 150, 2, 4032, 4034, 11, 1001, 4035]) by decide +kernel) rfl (show z_r2 150 = some (9, 3, true) by decide +kernel) rfl rfl (Or.inr ⟨_, _, rfl, (by decide +kernel)⟩) y7 (by decide) (by decide +kernel) (by omega)
def pG_tryWheel  (μ : z_Mem) (i1 : Int32) (i2 : Int32) : Option (Int32 × z_Mem) := (pT_hasGear 2 μ i1).bind fun q1 => if q1 = 0 then some ((-1), μ) else (pG_isWithin μ i2 3 12).bind fun q4 => if q4 = 0 then some ((-2), μ) else if (μ 9 0) < 4 then (pQ_add μ i1 i2).bind fun q8 => some (q8.1, q8.2) else some ((-3), μ)
theorem pG_tryWheel_run  {μ : z_Mem} {i1 : Int32} {i2 : Int32}  {r : (Int32 × z_Mem)} (h : pG_tryWheel μ i1 i2 = some r) : Rn 1 137 0 [(0, .ref 0), (1, .int i1), (2, .int i2)] [] μ (.inl (some (.int r.1))) r.2 := by
  unfold pG_tryWheel at h
  refine R_pure (pc := 0) (pc' := 1) (st' := [.ref 0]) (show z_pt 137 0 = some (3, .aload_n 0, []) by decide +kernel) rfl (fun _ _ _ => rfl) ?_
  refine R_getR (pc := 1) (a := 0) (b := 1) (show z_pt 137 1 = some (3, .getfield 17, [9, 0, 2039]) by decide +kernel) (by decide +kernel) ?_
  refine R_at (pc := 4) ?_
  refine R_getR (pc := 4) (a := 1) (b := 2) (show z_pt 137 4 = some (3, .getfield 23, [7, 0, 1173]) by decide +kernel) (by decide +kernel) ?_
  refine R_at (pc := 7) ?_
  refine R_pure (pc := 7) (pc' := 8) (st' := [.int i1, .ref 2]) (show z_pt 137 7 = some (3, .iload_n 1, []) by decide +kernel) rfl (fun _ _ _ => rfl) ?_
  obtain ⟨q1, e2, h⟩ := z_bs h
  refine R_call (pc := 8) (rr := []) (show z_pt 137 8 = some (3, .invokevirtual 341, [0, 23, 1, 3169, 2094, 2095, 1003, 2096]) by decide +kernel) rfl (show z_r2 23 = some (2, 2, true) by decide +kernel) rfl rfl (Or.inr ⟨_, _, rfl, (by decide +kernel)⟩) (pT_hasGear_run (show zTr 2 = true by decide +kernel) e2) (by omega) ?_
  refine R_at2 (pc := 11) (st := [.int q1]) ?_
  refine R_ifne (pc := 11) (t := 16) (show z_pt 137 11 = some (3, .ifCond .ne 5, []) by decide +kernel) (by decide) (fun c3 => ?_) (fun c3 => ?_)
  · rw [if_neg c3] at h
    refine R_pure (pc := 16) (pc' := 17) (st' := [.int i2]) (show z_pt 137 16 = some (3, .iload_n 2, []) by decide +kernel) rfl (fun _ _ _ => rfl) ?_
    refine R_const (pc := 17) (pc' := 18) (v := 3) (show z_ptc 137 17 = some (18, 3) by decide +kernel) ?_
    refine R_const (pc := 18) (pc' := 20) (v := 12) (show z_ptc 137 18 = some (20, 12) by decide +kernel) ?_
    obtain ⟨q4, e5, h⟩ := z_bs h
    refine R_call (pc := 20) (rr := []) (show z_pt 137 20 = some (3, .invokestatic 239, [1, 156, 3, 2236, 2237, 0, 1001, 2238]) by decide +kernel) rfl (show z_r2 156 = some (9, 3, true) by decide +kernel) rfl rfl (Or.inl (by decide)) (pG_isWithin_run  e5) (by omega) ?_
    refine R_at2 (pc := 23) (st := [.int q4]) ?_
    refine R_ifne (pc := 23) (t := 29) (show z_pt 137 23 = some (3, .ifCond .ne 6, []) by decide +kernel) (by decide) (fun c6 => ?_) (fun c6 => ?_)
    · rw [if_neg c6] at h
      refine R_pure (pc := 29) (pc' := 30) (st' := [.ref 0]) (show z_pt 137 29 = some (3, .aload_n 0, []) by decide +kernel) rfl (fun _ _ _ => rfl) ?_
      refine R_getR (pc := 30) (a := 0) (b := 1) (show z_pt 137 30 = some (3, .getfield 17, [9, 0, 2039]) by decide +kernel) (by decide +kernel) ?_
      refine R_at (pc := 33) ?_
      refine R_getR (pc := 33) (a := 1) (b := 9) (show z_pt 137 33 = some (3, .getfield 161, [7, 1, 1175]) by decide +kernel) (by decide +kernel) ?_
      refine R_at (pc := 36) ?_
      refine R_getI (pc := 36) (a := 9) (show z_pt 137 36 = some (3, .getfield 165, [8, 0, 1103]) by decide +kernel) (by decide +kernel) ?_
      refine R_at (pc := 39) ?_
      refine R_const (pc := 39) (pc' := 40) (v := 4) (show z_ptc 137 39 = some (40, 4) by decide +kernel) ?_
      refine R_icmlt (pc := 40) (t := 48) (show z_pt 137 40 = some (3, .if_icmp .lt 8, []) by decide +kernel) (by decide) (fun c7 => ?_) (fun c7 => ?_)
      · rw [if_pos c7] at h
        refine R_pure (pc := 48) (pc' := 49) (st' := [.ref 0]) (show z_pt 137 48 = some (3, .aload_n 0, []) by decide +kernel) rfl (fun _ _ _ => rfl) ?_
        refine R_getR (pc := 49) (a := 0) (b := 1) (show z_pt 137 49 = some (3, .getfield 17, [9, 0, 2039]) by decide +kernel) (by decide +kernel) ?_
        refine R_at (pc := 52) ?_
        refine R_getR (pc := 52) (a := 1) (b := 9) (show z_pt 137 52 = some (3, .getfield 161, [7, 1, 1175]) by decide +kernel) (by decide +kernel) ?_
        refine R_at (pc := 55) ?_
        refine R_pure (pc := 55) (pc' := 56) (st' := [.int i1, .ref 9]) (show z_pt 137 55 = some (3, .iload_n 1, []) by decide +kernel) rfl (fun _ _ _ => rfl) ?_
        refine R_pure (pc := 56) (pc' := 57) (st' := [.int i2, .int i1, .ref 9]) (show z_pt 137 56 = some (3, .iload_n 2, []) by decide +kernel) rfl (fun _ _ _ => rfl) ?_
        obtain ⟨q8, e9, h⟩ := z_bs h
        refine R_call (pc := 57) (rr := []) (show z_pt 137 57 = some (3, .invokevirtual 354, [0, 75, 2, 4083, 4084, 4085, 1004, 4086]) by decide +kernel) rfl (show z_r2 75 = some (8, 4, true) by decide +kernel) rfl rfl (Or.inr ⟨_, _, rfl, (by decide +kernel)⟩) (pQ_add_run  e9) (by omega) ?_
        refine R_at2 (pc := 60) (st := [.int q8.1]) ?_
        cases h
        exact R_retI (show z_pt 137 60 = some (3, .ireturn, []) by decide +kernel) (by decide +kernel)
      · rw [if_neg c7] at h
        refine R_const (pc := 43) (pc' := 45) (v := (-3)) (show z_ptc 137 43 = some (45, (-3)) by decide +kernel) ?_
        refine R_pure (pc := 45) (pc' := 60) (show z_pt 137 45 = some (3, .goto 15, []) by decide +kernel) rfl (fun _ _ _ => rfl) ?_
        cases h
        exact R_retI (show z_pt 137 60 = some (3, .ireturn, []) by decide +kernel) (by decide +kernel)
    · rw [if_pos c6] at h
      refine R_const (pc := 26) (pc' := 28) (v := (-2)) (show z_ptc 137 26 = some (28, (-2)) by decide +kernel) ?_
      cases h
      exact R_retI (show z_pt 137 28 = some (3, .ireturn, []) by decide +kernel) (by decide +kernel)
  · rw [if_pos c3] at h
    refine R_const (pc := 14) (pc' := 15) (v := (-1)) (show z_ptc 137 14 = some (15, (-1)) by decide +kernel) ?_
    cases h
    exact R_retI (show z_pt 137 15 = some (3, .ireturn, []) by decide +kernel) (by decide +kernel)
def pG_addWheel  (μ : z_Mem) (i1 : Int32) (i2 : Int32) : Option ((Int32 ⊕ Nat) × z_Mem) := (pH_begin μ).bind fun q1 => (pG_tryWheel q1 i1 i2).bind fun q3 => (pG_settled q3.2 q3.1).bind fun q5 => (match q5.1 with | .inl x7 => some ((.inl x7), q5.2) | .inr E8 => some ((.inr E8), q5.2))
theorem pG_addWheel_run  {μ : z_Mem} {i1 : Int32} {i2 : Int32}  {r : ((Int32 ⊕ Nat) × z_Mem)} (h : pG_addWheel μ i1 i2 = some r) : Rn 7 98 0 [(0, .ref 0), (1, .int i1), (2, .int i2)] [] μ (z_oX r.1) r.2 := by
  unfold pG_addWheel at h
  refine R_pure (pc := 0) (pc' := 1) (st' := [.ref 0]) (show z_pt 98 0 = some (3, .aload_n 0, []) by decide +kernel) rfl (fun _ _ _ => rfl) ?_
  refine R_getR (pc := 1) (a := 0) (b := 57) (show z_pt 98 1 = some (3, .getfield 53, [9, 2, 2041]) by decide +kernel) (by decide +kernel) ?_
  refine R_at (pc := 4) ?_
  refine R_pure (pc := 4) (pc' := 5) (st' := [.ref 0, .ref 57]) (show z_pt 98 4 = some (3, .aload_n 0, []) by decide +kernel) rfl (fun _ _ _ => rfl) ?_
  refine R_getR (pc := 5) (a := 0) (b := 1) (show z_pt 98 5 = some (3, .getfield 17, [9, 0, 2039]) by decide +kernel) (by decide +kernel) ?_
  refine R_at (pc := 8) ?_
  obtain ⟨q1, e2, h⟩ := z_bs h
  refine R_call (pc := 8) (rr := []) (show z_pt 98 8 = some (3, .invokevirtual 71, [0, 49, 1, 2227, 2228, 2229, 1011, 2230]) by decide +kernel) rfl (show z_r2 49 = some (4, 3, true) by decide +kernel) rfl rfl (Or.inr ⟨_, _, rfl, (by decide +kernel)⟩) (pH_begin_run  e2) (by omega) ?_
  refine R_at2 (pc := 11) (st := []) ?_
  refine R_pure (pc := 11) (pc' := 12) (st' := [.ref 0]) (show z_pt 98 11 = some (3, .aload_n 0, []) by decide +kernel) rfl (fun _ _ _ => rfl) ?_
  refine R_pure (pc := 12) (pc' := 13) (st' := [.ref 0, .ref 0]) (show z_pt 98 12 = some (3, .aload_n 0, []) by decide +kernel) rfl (fun _ _ _ => rfl) ?_
  refine R_pure (pc := 13) (pc' := 14) (st' := [.int i1, .ref 0, .ref 0]) (show z_pt 98 13 = some (3, .iload_n 1, []) by decide +kernel) rfl (fun _ _ _ => rfl) ?_
  refine R_pure (pc := 14) (pc' := 15) (st' := [.int i2, .int i1, .ref 0, .ref 0]) (show z_pt 98 14 = some (3, .iload_n 2, []) by decide +kernel) rfl (fun _ _ _ => rfl) ?_
  obtain ⟨q3, e4, h⟩ := z_bs h
  refine R_call (pc := 15) (rr := [.ref 0]) (show z_pt 98 15 = some (3, .invokevirtual 158, [0, 137, 2, 4079, 4081, 12, 1001, 4082]) by decide +kernel) rfl (show z_r2 137 = some (9, 3, true) by decide +kernel) rfl rfl (Or.inr ⟨_, _, rfl, (by decide +kernel)⟩) (pG_tryWheel_run  e4) (by omega) ?_
  refine R_at2 (pc := 18) (st := [.int q3.1, .ref 0]) ?_
  obtain ⟨q5, e6, h⟩ := z_bs h
  have y9 := pG_settled_run  e6
  cases x7h : q5.1 with
  | inl x7 =>
    rw [x7h] at h y9
    dsimp only at h
    refine R_call (pc := 18) (rr := []) (show z_pt 98 18 = some (3, .invokevirtual 79, [0, 144, 1, 3003, 3005, 4, 1001, 3006]) by decide +kernel) rfl (show z_r2 144 = some (9, 2, true) by decide +kernel) rfl rfl (Or.inr ⟨_, _, rfl, (by decide +kernel)⟩) y9 (by omega) ?_
    refine R_at2 (pc := 21) (st := [.int x7]) ?_
    cases h
    exact R_retI (show z_pt 98 21 = some (3, .ireturn, []) by decide +kernel) (by decide +kernel)
  | inr E8 =>
    rw [x7h] at h y9
    cases h
    exact R_callX (pc := 18) (rr := []) (show z_pt 98 18 = some (3, .invokevirtual 79, [0, 144, 1, 3003, 3005, 4, 1001, 3006]) by decide +kernel) rfl (show z_r2 144 = some (9, 2, true) by decide +kernel) rfl rfl (Or.inr ⟨_, _, rfl, (by decide +kernel)⟩) y9 (by decide) (by decide +kernel) (by omega)
def pG_wheelCount  (μ : z_Mem)  : Option Int32 := some (μ 9 0)
theorem pG_wheelCount_run  {μ : z_Mem}   {r : Int32} (h : pG_wheelCount μ = some r) : Rn 0 99 0 [(0, .ref 0)] [] μ (.inl (some (.int r))) μ := by
  unfold pG_wheelCount at h
  refine R_pure (pc := 0) (pc' := 1) (st' := [.ref 0]) (show z_pt 99 0 = some (1, .aload_n 0, []) by decide +kernel) rfl (fun _ _ _ => rfl) ?_
  refine R_getR (pc := 1) (a := 0) (b := 1) (show z_pt 99 1 = some (1, .getfield 17, [9, 0, 2039]) by decide +kernel) (by decide +kernel) ?_
  refine R_at (pc := 4) ?_
  refine R_getR (pc := 4) (a := 1) (b := 9) (show z_pt 99 4 = some (1, .getfield 161, [7, 1, 1175]) by decide +kernel) (by decide +kernel) ?_
  refine R_at (pc := 7) ?_
  refine R_getI (pc := 7) (a := 9) (show z_pt 99 7 = some (1, .getfield 165, [8, 0, 1103]) by decide +kernel) (by decide +kernel) ?_
  refine R_at (pc := 10) ?_
  cases h
  exact R_retI (show z_pt 99 10 = some (1, .ireturn, []) by decide +kernel) (by decide +kernel)
def pG_needWheel  (μ : z_Mem) (i1 : Int32) : Option (Option Nat) := (pQ_hasWheel μ i1).bind fun q1 => if q1 = 0 then some (some 0) else some none
theorem pG_needWheel_run  {μ : z_Mem} {i1 : Int32}  {r : (Option Nat)} (h : pG_needWheel μ i1 = some r) : Rn 6 148 0 [(0, .ref 0), (1, .int i1)] [] μ (z_oU r) μ := by
  unfold pG_needWheel at h
  refine R_pure (pc := 0) (pc' := 1) (st' := [.ref 0]) (show z_pt 148 0 = some (2, .aload_n 0, []) by decide +kernel) rfl (fun _ _ _ => rfl) ?_
  refine R_getR (pc := 1) (a := 0) (b := 1) (show z_pt 148 1 = some (2, .getfield 17, [9, 0, 2039]) by decide +kernel) (by decide +kernel) ?_
  refine R_at (pc := 4) ?_
  refine R_getR (pc := 4) (a := 1) (b := 9) (show z_pt 148 4 = some (2, .getfield 161, [7, 1, 1175]) by decide +kernel) (by decide +kernel) ?_
  refine R_at (pc := 7) ?_
  refine R_pure (pc := 7) (pc' := 8) (st' := [.int i1, .ref 9]) (show z_pt 148 7 = some (2, .iload_n 1, []) by decide +kernel) rfl (fun _ _ _ => rfl) ?_
  obtain ⟨q1, e2, h⟩ := z_bs h
  refine R_call (pc := 8) (rr := []) (show z_pt 148 8 = some (2, .invokevirtual 357, [0, 74, 1, 4098, 4099, 4100, 1004, 4101]) by decide +kernel) rfl (show z_r2 74 = some (8, 2, true) by decide +kernel) rfl rfl (Or.inr ⟨_, _, rfl, (by decide +kernel)⟩) (pQ_hasWheel_run  e2) (by omega) ?_
  refine R_at2 (pc := 11) (st := [.int q1]) ?_
  refine R_ifne (pc := 11) (t := 22) (show z_pt 148 11 = some (2, .ifCond .ne 11, []) by decide +kernel) (by decide) (fun c3 => ?_) (fun c3 => ?_)
  · rw [if_neg c3] at h
    cases h
    exact R_retV (show z_pt 148 22 = some (2, .return_, []) by decide +kernel) (by decide +kernel)
  · rw [if_pos c3] at h
    cases h
    exact R_thr (show z_thx 148 14 = some 0 by decide +kernel) (by omega)
def pG_gearOf  (μ : z_Mem) (i1 : Int32) : Option (Int32 ⊕ Nat) := (pG_needWheel μ i1).bind fun q1 => (match q1 with | none => (z_rd μ 10 4 i1).bind fun v5 => some (.inl v5) | some E4 => some (.inr E4))
theorem pG_gearOf_run  {μ : z_Mem} {i1 : Int32}  {r : (Int32 ⊕ Nat)} (h : pG_gearOf μ i1 = some r) : Rn 7 100 0 [(0, .ref 0), (1, .int i1)] [] μ (z_oX r) μ := by
  unfold pG_gearOf at h
  refine R_pure (pc := 0) (pc' := 1) (st' := [.ref 0]) (show z_pt 100 0 = some (2, .aload_n 0, []) by decide +kernel) rfl (fun _ _ _ => rfl) ?_
  refine R_pure (pc := 1) (pc' := 2) (st' := [.int i1, .ref 0]) (show z_pt 100 1 = some (2, .iload_n 1, []) by decide +kernel) rfl (fun _ _ _ => rfl) ?_
  obtain ⟨q1, e2, h⟩ := z_bs h
  have y7 := pG_needWheel_run  e2
  cases x3h : q1 with
  | none =>
    rw [x3h] at h y7
    dsimp only at h
    refine R_call (pc := 2) (rr := []) (show z_pt 100 2 = some (2, .invokevirtual 170, [0, 148, 1, 4094, 4096, 13, 1001, 4097]) by decide +kernel) rfl (show z_r2 148 = some (9, 2, true) by decide +kernel) rfl rfl (Or.inr ⟨_, _, rfl, (by decide +kernel)⟩) y7 (by omega) ?_
    refine R_at2 (pc := 5) (st := []) ?_
    refine R_pure (pc := 5) (pc' := 6) (st' := [.ref 0]) (show z_pt 100 5 = some (2, .aload_n 0, []) by decide +kernel) rfl (fun _ _ _ => rfl) ?_
    refine R_getR (pc := 6) (a := 0) (b := 1) (show z_pt 100 6 = some (2, .getfield 17, [9, 0, 2039]) by decide +kernel) (by decide +kernel) ?_
    refine R_at (pc := 9) ?_
    refine R_getR (pc := 9) (a := 1) (b := 9) (show z_pt 100 9 = some (2, .getfield 161, [7, 1, 1175]) by decide +kernel) (by decide +kernel) ?_
    refine R_at (pc := 12) ?_
    refine R_getR (pc := 12) (a := 9) (b := 10) (show z_pt 100 12 = some (2, .getfield 173, [8, 1, 1106]) by decide +kernel) (by decide +kernel) ?_
    refine R_at (pc := 15) ?_
    refine R_pure (pc := 15) (pc' := 16) (st' := [.int i1, .ref 10]) (show z_pt 100 15 = some (2, .iload_n 1, []) by decide +kernel) rfl (fun _ _ _ => rfl) ?_
    obtain ⟨v5, e6, h⟩ := z_bs h
    refine R_ialdR (pc := 16) (a := 10) (n := 4) (show z_pt 100 16 = some (2, .iaload, []) by decide +kernel) (show z_ar 10 0 4 = true by decide +kernel) e6 ?_
    refine R_at (pc := 17) ?_
    cases h
    exact R_retI (show z_pt 100 17 = some (2, .ireturn, []) by decide +kernel) (by decide +kernel)
  | some E4 =>
    rw [x3h] at h y7
    cases h
    exact R_callX (pc := 2) (rr := []) (show z_pt 100 2 = some (2, .invokevirtual 170, [0, 148, 1, 4094, 4096, 13, 1001, 4097]) by decide +kernel) rfl (show z_r2 148 = some (9, 2, true) by decide +kernel) rfl rfl (Or.inr ⟨_, _, rfl, (by decide +kernel)⟩) y7 (by decide) (by decide +kernel) (by omega)
def pG_spokeDirection  (μ : z_Mem) (i1 : Int32) (i2 : Int32) : Option (Int32 ⊕ Nat) := (pG_needWheel μ i1).bind fun q1 => (match q1 with | none => if i2 < 0 then some (.inr 1) else (z_rd μ 11 4 i1).bind fun v6 => if i2 < v6 then (pA_directionOfSpoke μ i1 i2 0).bind fun q9 => some (.inl q9) else some (.inr 1) | some E4 => some (.inr E4))
theorem pG_spokeDirection_run  {μ : z_Mem} {i1 : Int32} {i2 : Int32}  {r : (Int32 ⊕ Nat)} (h : pG_spokeDirection μ i1 i2 = some r) : Rn 7 101 0 [(0, .ref 0), (1, .int i1), (2, .int i2)] [] μ (z_oX r) μ := by
  unfold pG_spokeDirection at h
  refine R_pure (pc := 0) (pc' := 1) (st' := [.ref 0]) (show z_pt 101 0 = some (3, .aload_n 0, []) by decide +kernel) rfl (fun _ _ _ => rfl) ?_
  refine R_pure (pc := 1) (pc' := 2) (st' := [.int i1, .ref 0]) (show z_pt 101 1 = some (3, .iload_n 1, []) by decide +kernel) rfl (fun _ _ _ => rfl) ?_
  obtain ⟨q1, e2, h⟩ := z_bs h
  have y11 := pG_needWheel_run  e2
  cases x3h : q1 with
  | none =>
    rw [x3h] at h y11
    dsimp only at h
    refine R_call (pc := 2) (rr := []) (show z_pt 101 2 = some (3, .invokevirtual 170, [0, 148, 1, 4094, 4096, 13, 1001, 4097]) by decide +kernel) rfl (show z_r2 148 = some (9, 2, true) by decide +kernel) rfl rfl (Or.inr ⟨_, _, rfl, (by decide +kernel)⟩) y11 (by omega) ?_
    refine R_at2 (pc := 5) (st := []) ?_
    refine R_pure (pc := 5) (pc' := 6) (st' := [.int i2]) (show z_pt 101 5 = some (3, .iload_n 2, []) by decide +kernel) rfl (fun _ _ _ => rfl) ?_
    refine R_iflt (pc := 6) (t := 25) (show z_pt 101 6 = some (3, .ifCond .lt 19, []) by decide +kernel) (by decide) (fun c5 => ?_) (fun c5 => ?_)
    · rw [if_pos c5] at h
      cases h
      exact R_thr (show z_thx 101 25 = some 1 by decide +kernel) (by omega)
    · rw [if_neg c5] at h
      refine R_pure (pc := 9) (pc' := 10) (st' := [.int i2]) (show z_pt 101 9 = some (3, .iload_n 2, []) by decide +kernel) rfl (fun _ _ _ => rfl) ?_
      refine R_pure (pc := 10) (pc' := 11) (st' := [.ref 0, .int i2]) (show z_pt 101 10 = some (3, .aload_n 0, []) by decide +kernel) rfl (fun _ _ _ => rfl) ?_
      refine R_getR (pc := 11) (a := 0) (b := 1) (show z_pt 101 11 = some (3, .getfield 17, [9, 0, 2039]) by decide +kernel) (by decide +kernel) ?_
      refine R_at (pc := 14) ?_
      refine R_getR (pc := 14) (a := 1) (b := 9) (show z_pt 101 14 = some (3, .getfield 161, [7, 1, 1175]) by decide +kernel) (by decide +kernel) ?_
      refine R_at (pc := 17) ?_
      refine R_getR (pc := 17) (a := 9) (b := 11) (show z_pt 101 17 = some (3, .getfield 176, [8, 2, 1109]) by decide +kernel) (by decide +kernel) ?_
      refine R_at (pc := 20) ?_
      refine R_pure (pc := 20) (pc' := 21) (st' := [.int i1, .ref 11, .int i2]) (show z_pt 101 20 = some (3, .iload_n 1, []) by decide +kernel) rfl (fun _ _ _ => rfl) ?_
      obtain ⟨v6, e7, h⟩ := z_bs h
      refine R_ialdR (pc := 21) (a := 11) (n := 4) (show z_pt 101 21 = some (3, .iaload, []) by decide +kernel) (show z_ar 11 0 4 = true by decide +kernel) e7 ?_
      refine R_at (pc := 22) ?_
      refine R_icmlt (pc := 22) (t := 33) (show z_pt 101 22 = some (3, .if_icmp .lt 11, []) by decide +kernel) (by decide) (fun c8 => ?_) (fun c8 => ?_)
      · rw [if_pos c8] at h
        refine R_pure (pc := 33) (pc' := 34) (st' := [.ref 0]) (show z_pt 101 33 = some (3, .aload_n 0, []) by decide +kernel) rfl (fun _ _ _ => rfl) ?_
        refine R_getR (pc := 34) (a := 0) (b := 1) (show z_pt 101 34 = some (3, .getfield 17, [9, 0, 2039]) by decide +kernel) (by decide +kernel) ?_
        refine R_at (pc := 37) ?_
        refine R_pure (pc := 37) (pc' := 38) (st' := [.int i1, .ref 1]) (show z_pt 101 37 = some (3, .iload_n 1, []) by decide +kernel) rfl (fun _ _ _ => rfl) ?_
        refine R_pure (pc := 38) (pc' := 39) (st' := [.int i2, .int i1, .ref 1]) (show z_pt 101 38 = some (3, .iload_n 2, []) by decide +kernel) rfl (fun _ _ _ => rfl) ?_
        refine R_const (pc := 39) (pc' := 40) (v := 0) (show z_ptc 101 39 = some (40, 0) by decide +kernel) ?_
        obtain ⟨q9, e10, h⟩ := z_bs h
        refine R_call (pc := 40) (rr := []) (show z_pt 101 40 = some (3, .invokevirtual 182, [0, 67, 3, 4109, 4110, 4111, 1002, 4112]) by decide +kernel) rfl (show z_r2 67 = some (7, 8, true) by decide +kernel) rfl rfl (Or.inr ⟨_, _, rfl, (by decide +kernel)⟩) (pA_directionOfSpoke_run  e10) (by omega) ?_
        refine R_at2 (pc := 43) (st := [.int q9]) ?_
        cases h
        exact R_retI (show z_pt 101 43 = some (3, .ireturn, []) by decide +kernel) (by decide +kernel)
      · rw [if_neg c8] at h
        cases h
        exact R_thr (show z_thx 101 25 = some 1 by decide +kernel) (by omega)
  | some E4 =>
    rw [x3h] at h y11
    cases h
    exact R_callX (pc := 2) (rr := []) (show z_pt 101 2 = some (3, .invokevirtual 170, [0, 148, 1, 4094, 4096, 13, 1001, 4097]) by decide +kernel) rfl (show z_r2 148 = some (9, 2, true) by decide +kernel) rfl rfl (Or.inr ⟨_, _, rfl, (by decide +kernel)⟩) y11 (by decide) (by decide +kernel) (by omega)
def pG_neededStar  (μ : z_Mem) (i1 : Int32) : Option (Int32 ⊕ Nat) := (pY_placeOf μ i1).bind fun q1 => if q1 = (-1) then some (.inr 3) else some (.inl q1)
theorem pG_neededStar_run  {μ : z_Mem} {i1 : Int32}  {r : (Int32 ⊕ Nat)} (h : pG_neededStar μ i1 = some r) : Rn 6 151 0 [(0, .ref 0), (1, .int i1)] [] μ (z_oX r) μ := by
  unfold pG_neededStar at h
  refine R_pure (pc := 0) (pc' := 1) (st' := [.ref 0]) (show z_pt 151 0 = some (3, .aload_n 0, []) by decide +kernel) rfl (fun _ _ _ => rfl) ?_
  refine R_getR (pc := 1) (a := 0) (b := 1) (show z_pt 151 1 = some (3, .getfield 17, [9, 0, 2039]) by decide +kernel) (by decide +kernel) ?_
  refine R_at (pc := 4) ?_
  refine R_getR (pc := 4) (a := 1) (b := 12) (show z_pt 151 4 = some (3, .getfield 185, [7, 2, 1177]) by decide +kernel) (by decide +kernel) ?_
  refine R_at (pc := 7) ?_
  refine R_pure (pc := 7) (pc' := 8) (st' := [.int i1, .ref 12]) (show z_pt 151 7 = some (3, .iload_n 1, []) by decide +kernel) rfl (fun _ _ _ => rfl) ?_
  obtain ⟨q1, e2, h⟩ := z_bs h
  refine R_call (pc := 8) (rr := []) (show z_pt 151 8 = some (3, .invokevirtual 360, [0, 59, 1, 4127, 4128, 4129, 1005, 4130]) by decide +kernel) rfl (show z_r2 59 = some (6, 3, true) by decide +kernel) rfl rfl (Or.inr ⟨_, _, rfl, (by decide +kernel)⟩) (pY_placeOf_run  e2) (by omega) ?_
  refine R_at2 (pc := 11) (st := [.int q1]) ?_
  refine R_pure (pc := 11) (pc' := 12) (ls' := [(0, .ref 0), (1, .int i1), (2, .int q1)]) (st' := []) (show z_pt 151 11 = some (3, .istore_n 2, []) by decide +kernel) rfl (fun _ _ _ => rfl) ?_
  refine R_pure (pc := 12) (pc' := 13) (st' := [.int q1]) (show z_pt 151 12 = some (3, .iload_n 2, []) by decide +kernel) rfl (fun _ _ _ => rfl) ?_
  refine R_const (pc := 13) (pc' := 14) (v := (-1)) (show z_ptc 151 13 = some (14, (-1)) by decide +kernel) ?_
  refine R_icmne (pc := 14) (t := 25) (show z_pt 151 14 = some (3, .if_icmp .ne 11, []) by decide +kernel) (by decide) (fun c3 => ?_) (fun c3 => ?_)
  · rw [if_neg c3] at h
    refine R_pure (pc := 25) (pc' := 26) (st' := [.int q1]) (show z_pt 151 25 = some (3, .iload_n 2, []) by decide +kernel) rfl (fun _ _ _ => rfl) ?_
    cases h
    exact R_retI (show z_pt 151 26 = some (3, .ireturn, []) by decide +kernel) (by decide +kernel)
  · rw [if_pos c3] at h
    cases h
    exact R_thr (show z_thx 151 17 = some 3 by decide +kernel) (by omega)
def pG_nearestSpoke  (μ : z_Mem) (i1 : Int32) (i2 : Int32) : Option (Int32 ⊕ Nat) := (pG_needWheel μ i1).bind fun q1 => (match q1 with | none => (pG_neededStar μ i2).bind fun q5 => (match q5 with | .inl x7 => (z_rd μ 14 8 x7).bind fun v9 => (pA_closestSpoke μ i1 v9).bind fun q11 => some (.inl q11) | .inr E8 => some (.inr E8)) | some E4 => some (.inr E4))
theorem pG_nearestSpoke_run  {μ : z_Mem} {i1 : Int32} {i2 : Int32}  {r : (Int32 ⊕ Nat)} (h : pG_nearestSpoke μ i1 i2 = some r) : Rn 7 102 0 [(0, .ref 0), (1, .int i1), (2, .int i2)] [] μ (z_oX r) μ := by
  unfold pG_nearestSpoke at h
  refine R_pure (pc := 0) (pc' := 1) (st' := [.ref 0]) (show z_pt 102 0 = some (3, .aload_n 0, []) by decide +kernel) rfl (fun _ _ _ => rfl) ?_
  refine R_pure (pc := 1) (pc' := 2) (st' := [.int i1, .ref 0]) (show z_pt 102 1 = some (3, .iload_n 1, []) by decide +kernel) rfl (fun _ _ _ => rfl) ?_
  obtain ⟨q1, e2, h⟩ := z_bs h
  have y14 := pG_needWheel_run  e2
  cases x3h : q1 with
  | none =>
    rw [x3h] at h y14
    dsimp only at h
    refine R_call (pc := 2) (rr := []) (show z_pt 102 2 = some (3, .invokevirtual 170, [0, 148, 1, 4094, 4096, 13, 1001, 4097]) by decide +kernel) rfl (show z_r2 148 = some (9, 2, true) by decide +kernel) rfl rfl (Or.inr ⟨_, _, rfl, (by decide +kernel)⟩) y14 (by omega) ?_
    refine R_at2 (pc := 5) (st := []) ?_
    refine R_pure (pc := 5) (pc' := 6) (st' := [.ref 0]) (show z_pt 102 5 = some (3, .aload_n 0, []) by decide +kernel) rfl (fun _ _ _ => rfl) ?_
    refine R_getR (pc := 6) (a := 0) (b := 1) (show z_pt 102 6 = some (3, .getfield 17, [9, 0, 2039]) by decide +kernel) (by decide +kernel) ?_
    refine R_at (pc := 9) ?_
    refine R_pure (pc := 9) (pc' := 10) (st' := [.int i1, .ref 1]) (show z_pt 102 9 = some (3, .iload_n 1, []) by decide +kernel) rfl (fun _ _ _ => rfl) ?_
    refine R_pure (pc := 10) (pc' := 11) (st' := [.ref 0, .int i1, .ref 1]) (show z_pt 102 10 = some (3, .aload_n 0, []) by decide +kernel) rfl (fun _ _ _ => rfl) ?_
    refine R_getR (pc := 11) (a := 0) (b := 1) (show z_pt 102 11 = some (3, .getfield 17, [9, 0, 2039]) by decide +kernel) (by decide +kernel) ?_
    refine R_at (pc := 14) ?_
    refine R_getR (pc := 14) (a := 1) (b := 12) (show z_pt 102 14 = some (3, .getfield 185, [7, 2, 1177]) by decide +kernel) (by decide +kernel) ?_
    refine R_at (pc := 17) ?_
    refine R_getR (pc := 17) (a := 12) (b := 14) (show z_pt 102 17 = some (3, .getfield 189, [6, 4, 1132]) by decide +kernel) (by decide +kernel) ?_
    refine R_at (pc := 20) ?_
    refine R_pure (pc := 20) (pc' := 21) (st' := [.ref 0, .ref 14, .int i1, .ref 1]) (show z_pt 102 20 = some (3, .aload_n 0, []) by decide +kernel) rfl (fun _ _ _ => rfl) ?_
    refine R_pure (pc := 21) (pc' := 22) (st' := [.int i2, .ref 0, .ref 14, .int i1, .ref 1]) (show z_pt 102 21 = some (3, .iload_n 2, []) by decide +kernel) rfl (fun _ _ _ => rfl) ?_
    obtain ⟨q5, e6, h⟩ := z_bs h
    have y13 := pG_neededStar_run  e6
    cases x7h : q5 with
    | inl x7 =>
      rw [x7h] at h y13
      dsimp only at h
      refine R_call (pc := 22) (rr := [.ref 14, .int i1, .ref 1]) (show z_pt 102 22 = some (3, .invokevirtual 194, [0, 151, 1, 4123, 4125, 14, 1001, 4126]) by decide +kernel) rfl (show z_r2 151 = some (9, 3, true) by decide +kernel) rfl rfl (Or.inr ⟨_, _, rfl, (by decide +kernel)⟩) y13 (by omega) ?_
      refine R_at2 (pc := 25) (st := [.int x7, .ref 14, .int i1, .ref 1]) ?_
      obtain ⟨v9, e10, h⟩ := z_bs h
      refine R_ialdR (pc := 25) (a := 14) (n := 8) (show z_pt 102 25 = some (3, .iaload, []) by decide +kernel) (show z_ar 14 0 8 = true by decide +kernel) e10 ?_
      refine R_at (pc := 26) ?_
      obtain ⟨q11, e12, h⟩ := z_bs h
      refine R_call (pc := 26) (rr := []) (show z_pt 102 26 = some (3, .invokevirtual 197, [0, 69, 2, 4131, 4132, 4133, 1002, 4134]) by decide +kernel) rfl (show z_r2 69 = some (7, 7, true) by decide +kernel) rfl rfl (Or.inr ⟨_, _, rfl, (by decide +kernel)⟩) (pA_closestSpoke_run  e12) (by omega) ?_
      refine R_at2 (pc := 29) (st := [.int q11]) ?_
      cases h
      exact R_retI (show z_pt 102 29 = some (3, .ireturn, []) by decide +kernel) (by decide +kernel)
    | inr E8 =>
      rw [x7h] at h y13
      cases h
      exact R_callX (pc := 22) (rr := [.ref 14, .int i1, .ref 1]) (show z_pt 102 22 = some (3, .invokevirtual 194, [0, 151, 1, 4123, 4125, 14, 1001, 4126]) by decide +kernel) rfl (show z_r2 151 = some (9, 3, true) by decide +kernel) rfl rfl (Or.inr ⟨_, _, rfl, (by decide +kernel)⟩) y13 (by decide) (by decide +kernel) (by omega)
  | some E4 =>
    rw [x3h] at h y14
    cases h
    exact R_callX (pc := 2) (rr := []) (show z_pt 102 2 = some (3, .invokevirtual 170, [0, 148, 1, 4094, 4096, 13, 1001, 4097]) by decide +kernel) rfl (show z_r2 148 = some (9, 2, true) by decide +kernel) rfl rfl (Or.inr ⟨_, _, rfl, (by decide +kernel)⟩) y14 (by decide) (by decide +kernel) (by omega)
def pG_distanceToStar  (μ : z_Mem) (i1 : Int32) (i2 : Int32) : Option (Int32 ⊕ Nat) := (pG_needWheel μ i1).bind fun q1 => (match q1 with | none => (pG_neededStar μ i2).bind fun q5 => (match q5 with | .inl x7 => (z_rd μ 14 8 x7).bind fun v9 => (pA_leastDistance μ i1 v9 0).bind fun q11 => some (.inl q11) | .inr E8 => some (.inr E8)) | some E4 => some (.inr E4))
theorem pG_distanceToStar_run  {μ : z_Mem} {i1 : Int32} {i2 : Int32}  {r : (Int32 ⊕ Nat)} (h : pG_distanceToStar μ i1 i2 = some r) : Rn 7 103 0 [(0, .ref 0), (1, .int i1), (2, .int i2)] [] μ (z_oX r) μ := by
  unfold pG_distanceToStar at h
  refine R_pure (pc := 0) (pc' := 1) (st' := [.ref 0]) (show z_pt 103 0 = some (3, .aload_n 0, []) by decide +kernel) rfl (fun _ _ _ => rfl) ?_
  refine R_pure (pc := 1) (pc' := 2) (st' := [.int i1, .ref 0]) (show z_pt 103 1 = some (3, .iload_n 1, []) by decide +kernel) rfl (fun _ _ _ => rfl) ?_
  obtain ⟨q1, e2, h⟩ := z_bs h
  have y14 := pG_needWheel_run  e2
  cases x3h : q1 with
  | none =>
    rw [x3h] at h y14
    dsimp only at h
    refine R_call (pc := 2) (rr := []) (show z_pt 103 2 = some (3, .invokevirtual 170, [0, 148, 1, 4094, 4096, 13, 1001, 4097]) by decide +kernel) rfl (show z_r2 148 = some (9, 2, true) by decide +kernel) rfl rfl (Or.inr ⟨_, _, rfl, (by decide +kernel)⟩) y14 (by omega) ?_
    refine R_at2 (pc := 5) (st := []) ?_
    refine R_pure (pc := 5) (pc' := 6) (st' := [.ref 0]) (show z_pt 103 5 = some (3, .aload_n 0, []) by decide +kernel) rfl (fun _ _ _ => rfl) ?_
    refine R_getR (pc := 6) (a := 0) (b := 1) (show z_pt 103 6 = some (3, .getfield 17, [9, 0, 2039]) by decide +kernel) (by decide +kernel) ?_
    refine R_at (pc := 9) ?_
    refine R_pure (pc := 9) (pc' := 10) (st' := [.int i1, .ref 1]) (show z_pt 103 9 = some (3, .iload_n 1, []) by decide +kernel) rfl (fun _ _ _ => rfl) ?_
    refine R_pure (pc := 10) (pc' := 11) (st' := [.ref 0, .int i1, .ref 1]) (show z_pt 103 10 = some (3, .aload_n 0, []) by decide +kernel) rfl (fun _ _ _ => rfl) ?_
    refine R_getR (pc := 11) (a := 0) (b := 1) (show z_pt 103 11 = some (3, .getfield 17, [9, 0, 2039]) by decide +kernel) (by decide +kernel) ?_
    refine R_at (pc := 14) ?_
    refine R_getR (pc := 14) (a := 1) (b := 12) (show z_pt 103 14 = some (3, .getfield 185, [7, 2, 1177]) by decide +kernel) (by decide +kernel) ?_
    refine R_at (pc := 17) ?_
    refine R_getR (pc := 17) (a := 12) (b := 14) (show z_pt 103 17 = some (3, .getfield 189, [6, 4, 1132]) by decide +kernel) (by decide +kernel) ?_
    refine R_at (pc := 20) ?_
    refine R_pure (pc := 20) (pc' := 21) (st' := [.ref 0, .ref 14, .int i1, .ref 1]) (show z_pt 103 20 = some (3, .aload_n 0, []) by decide +kernel) rfl (fun _ _ _ => rfl) ?_
    refine R_pure (pc := 21) (pc' := 22) (st' := [.int i2, .ref 0, .ref 14, .int i1, .ref 1]) (show z_pt 103 21 = some (3, .iload_n 2, []) by decide +kernel) rfl (fun _ _ _ => rfl) ?_
    obtain ⟨q5, e6, h⟩ := z_bs h
    have y13 := pG_neededStar_run  e6
    cases x7h : q5 with
    | inl x7 =>
      rw [x7h] at h y13
      dsimp only at h
      refine R_call (pc := 22) (rr := [.ref 14, .int i1, .ref 1]) (show z_pt 103 22 = some (3, .invokevirtual 194, [0, 151, 1, 4123, 4125, 14, 1001, 4126]) by decide +kernel) rfl (show z_r2 151 = some (9, 3, true) by decide +kernel) rfl rfl (Or.inr ⟨_, _, rfl, (by decide +kernel)⟩) y13 (by omega) ?_
      refine R_at2 (pc := 25) (st := [.int x7, .ref 14, .int i1, .ref 1]) ?_
      obtain ⟨v9, e10, h⟩ := z_bs h
      refine R_ialdR (pc := 25) (a := 14) (n := 8) (show z_pt 103 25 = some (3, .iaload, []) by decide +kernel) (show z_ar 14 0 8 = true by decide +kernel) e10 ?_
      refine R_at (pc := 26) ?_
      refine R_const (pc := 26) (pc' := 27) (v := 0) (show z_ptc 103 26 = some (27, 0) by decide +kernel) ?_
      obtain ⟨q11, e12, h⟩ := z_bs h
      refine R_call (pc := 27) (rr := []) (show z_pt 103 27 = some (3, .invokevirtual 200, [0, 68, 3, 4148, 4149, 4150, 1002, 4151]) by decide +kernel) rfl (show z_r2 68 = some (7, 6, true) by decide +kernel) rfl rfl (Or.inr ⟨_, _, rfl, (by decide +kernel)⟩) (pA_leastDistance_run  e12) (by omega) ?_
      refine R_at2 (pc := 30) (st := [.int q11]) ?_
      cases h
      exact R_retI (show z_pt 103 30 = some (3, .ireturn, []) by decide +kernel) (by decide +kernel)
    | inr E8 =>
      rw [x7h] at h y13
      cases h
      exact R_callX (pc := 22) (rr := [.ref 14, .int i1, .ref 1]) (show z_pt 103 22 = some (3, .invokevirtual 194, [0, 151, 1, 4123, 4125, 14, 1001, 4126]) by decide +kernel) rfl (show z_r2 151 = some (9, 3, true) by decide +kernel) rfl rfl (Or.inr ⟨_, _, rfl, (by decide +kernel)⟩) y13 (by decide) (by decide +kernel) (by omega)
  | some E4 =>
    rw [x3h] at h y14
    cases h
    exact R_callX (pc := 2) (rr := []) (show z_pt 103 2 = some (3, .invokevirtual 170, [0, 148, 1, 4094, 4096, 13, 1001, 4097]) by decide +kernel) rfl (show z_r2 148 = some (9, 2, true) by decide +kernel) rfl rfl (Or.inr ⟨_, _, rfl, (by decide +kernel)⟩) y14 (by decide) (by decide +kernel) (by omega)
def pG_teethToFollow  (μ : z_Mem) (i1 : Int32) (i2 : Int32) : Option (Int32 ⊕ Nat) := (pG_needWheel μ i1).bind fun q1 => (match q1 with | none => (pG_neededStar μ i2).bind fun q5 => (match q5 with | .inl x7 => (z_rd μ 14 8 x7).bind fun v9 => (pA_bestTurn μ i1 v9).bind fun q11 => some (.inl q11) | .inr E8 => some (.inr E8)) | some E4 => some (.inr E4))
theorem pG_teethToFollow_run  {μ : z_Mem} {i1 : Int32} {i2 : Int32}  {r : (Int32 ⊕ Nat)} (h : pG_teethToFollow μ i1 i2 = some r) : Rn 7 104 0 [(0, .ref 0), (1, .int i1), (2, .int i2)] [] μ (z_oX r) μ := by
  unfold pG_teethToFollow at h
  refine R_pure (pc := 0) (pc' := 1) (st' := [.ref 0]) (show z_pt 104 0 = some (3, .aload_n 0, []) by decide +kernel) rfl (fun _ _ _ => rfl) ?_
  refine R_pure (pc := 1) (pc' := 2) (st' := [.int i1, .ref 0]) (show z_pt 104 1 = some (3, .iload_n 1, []) by decide +kernel) rfl (fun _ _ _ => rfl) ?_
  obtain ⟨q1, e2, h⟩ := z_bs h
  have y14 := pG_needWheel_run  e2
  cases x3h : q1 with
  | none =>
    rw [x3h] at h y14
    dsimp only at h
    refine R_call (pc := 2) (rr := []) (show z_pt 104 2 = some (3, .invokevirtual 170, [0, 148, 1, 4094, 4096, 13, 1001, 4097]) by decide +kernel) rfl (show z_r2 148 = some (9, 2, true) by decide +kernel) rfl rfl (Or.inr ⟨_, _, rfl, (by decide +kernel)⟩) y14 (by omega) ?_
    refine R_at2 (pc := 5) (st := []) ?_
    refine R_pure (pc := 5) (pc' := 6) (st' := [.ref 0]) (show z_pt 104 5 = some (3, .aload_n 0, []) by decide +kernel) rfl (fun _ _ _ => rfl) ?_
    refine R_getR (pc := 6) (a := 0) (b := 1) (show z_pt 104 6 = some (3, .getfield 17, [9, 0, 2039]) by decide +kernel) (by decide +kernel) ?_
    refine R_at (pc := 9) ?_
    refine R_pure (pc := 9) (pc' := 10) (st' := [.int i1, .ref 1]) (show z_pt 104 9 = some (3, .iload_n 1, []) by decide +kernel) rfl (fun _ _ _ => rfl) ?_
    refine R_pure (pc := 10) (pc' := 11) (st' := [.ref 0, .int i1, .ref 1]) (show z_pt 104 10 = some (3, .aload_n 0, []) by decide +kernel) rfl (fun _ _ _ => rfl) ?_
    refine R_getR (pc := 11) (a := 0) (b := 1) (show z_pt 104 11 = some (3, .getfield 17, [9, 0, 2039]) by decide +kernel) (by decide +kernel) ?_
    refine R_at (pc := 14) ?_
    refine R_getR (pc := 14) (a := 1) (b := 12) (show z_pt 104 14 = some (3, .getfield 185, [7, 2, 1177]) by decide +kernel) (by decide +kernel) ?_
    refine R_at (pc := 17) ?_
    refine R_getR (pc := 17) (a := 12) (b := 14) (show z_pt 104 17 = some (3, .getfield 189, [6, 4, 1132]) by decide +kernel) (by decide +kernel) ?_
    refine R_at (pc := 20) ?_
    refine R_pure (pc := 20) (pc' := 21) (st' := [.ref 0, .ref 14, .int i1, .ref 1]) (show z_pt 104 20 = some (3, .aload_n 0, []) by decide +kernel) rfl (fun _ _ _ => rfl) ?_
    refine R_pure (pc := 21) (pc' := 22) (st' := [.int i2, .ref 0, .ref 14, .int i1, .ref 1]) (show z_pt 104 21 = some (3, .iload_n 2, []) by decide +kernel) rfl (fun _ _ _ => rfl) ?_
    obtain ⟨q5, e6, h⟩ := z_bs h
    have y13 := pG_neededStar_run  e6
    cases x7h : q5 with
    | inl x7 =>
      rw [x7h] at h y13
      dsimp only at h
      refine R_call (pc := 22) (rr := [.ref 14, .int i1, .ref 1]) (show z_pt 104 22 = some (3, .invokevirtual 194, [0, 151, 1, 4123, 4125, 14, 1001, 4126]) by decide +kernel) rfl (show z_r2 151 = some (9, 3, true) by decide +kernel) rfl rfl (Or.inr ⟨_, _, rfl, (by decide +kernel)⟩) y13 (by omega) ?_
      refine R_at2 (pc := 25) (st := [.int x7, .ref 14, .int i1, .ref 1]) ?_
      obtain ⟨v9, e10, h⟩ := z_bs h
      refine R_ialdR (pc := 25) (a := 14) (n := 8) (show z_pt 104 25 = some (3, .iaload, []) by decide +kernel) (show z_ar 14 0 8 = true by decide +kernel) e10 ?_
      refine R_at (pc := 26) ?_
      obtain ⟨q11, e12, h⟩ := z_bs h
      refine R_call (pc := 26) (rr := []) (show z_pt 104 26 = some (3, .invokevirtual 203, [0, 70, 2, 4160, 4161, 4162, 1002, 4163]) by decide +kernel) rfl (show z_r2 70 = some (7, 8, true) by decide +kernel) rfl rfl (Or.inr ⟨_, _, rfl, (by decide +kernel)⟩) (pA_bestTurn_run  e12) (by omega) ?_
      refine R_at2 (pc := 29) (st := [.int q11]) ?_
      cases h
      exact R_retI (show z_pt 104 29 = some (3, .ireturn, []) by decide +kernel) (by decide +kernel)
    | inr E8 =>
      rw [x7h] at h y13
      cases h
      exact R_callX (pc := 22) (rr := [.ref 14, .int i1, .ref 1]) (show z_pt 104 22 = some (3, .invokevirtual 194, [0, 151, 1, 4123, 4125, 14, 1001, 4126]) by decide +kernel) rfl (show z_r2 151 = some (9, 3, true) by decide +kernel) rfl rfl (Or.inr ⟨_, _, rfl, (by decide +kernel)⟩) y13 (by decide) (by decide +kernel) (by omega)
  | some E4 =>
    rw [x3h] at h y14
    cases h
    exact R_callX (pc := 2) (rr := []) (show z_pt 104 2 = some (3, .invokevirtual 170, [0, 148, 1, 4094, 4096, 13, 1001, 4097]) by decide +kernel) rfl (show z_r2 148 = some (9, 2, true) by decide +kernel) rfl rfl (Or.inr ⟨_, _, rfl, (by decide +kernel)⟩) y14 (by decide) (by decide +kernel) (by omega)
def pG_tryFollow  (μ : z_Mem) (i1 : Int32) (i2 : Int32) : Option (Int32 × z_Mem) := (pQ_hasWheel μ i1).bind fun q1 => if q1 = 0 then some ((-1), μ) else (pY_placeOf μ i2).bind fun q4 => if q4 = (-1) then some ((-4), μ) else (z_rd μ 14 8 q4).bind fun v7 => (pA_bestTurn μ i1 v7).bind fun q9 => if q9 ≤ 0 then (pA_leastDistance μ i1 v7 0).bind fun q12 => some (q12, μ) else (z_rd μ 10 4 i1).bind fun v14 => (pT_turnGear 2 μ v14 q9).bind fun q16 => (pA_leastDistance q16.2 i1 v7 0).bind fun q18 => some (q18, q16.2)
theorem pG_tryFollow_run  {μ : z_Mem} {i1 : Int32} {i2 : Int32}  {r : (Int32 × z_Mem)} (h : pG_tryFollow μ i1 i2 = some r) : Rn 16 138 0 [(0, .ref 0), (1, .int i1), (2, .int i2)] [] μ (.inl (some (.int r.1))) r.2 := by
  unfold pG_tryFollow at h
  refine R_pure (pc := 0) (pc' := 1) (st' := [.ref 0]) (show z_pt 138 0 = some (6, .aload_n 0, []) by decide +kernel) rfl (fun _ _ _ => rfl) ?_
  refine R_getR (pc := 1) (a := 0) (b := 1) (show z_pt 138 1 = some (6, .getfield 17, [9, 0, 2039]) by decide +kernel) (by decide +kernel) ?_
  refine R_at (pc := 4) ?_
  refine R_getR (pc := 4) (a := 1) (b := 9) (show z_pt 138 4 = some (6, .getfield 161, [7, 1, 1175]) by decide +kernel) (by decide +kernel) ?_
  refine R_at (pc := 7) ?_
  refine R_pure (pc := 7) (pc' := 8) (st' := [.int i1, .ref 9]) (show z_pt 138 7 = some (6, .iload_n 1, []) by decide +kernel) rfl (fun _ _ _ => rfl) ?_
  obtain ⟨q1, e2, h⟩ := z_bs h
  refine R_call (pc := 8) (rr := []) (show z_pt 138 8 = some (6, .invokevirtual 357, [0, 74, 1, 4098, 4099, 4100, 1004, 4101]) by decide +kernel) rfl (show z_r2 74 = some (8, 2, true) by decide +kernel) rfl rfl (Or.inr ⟨_, _, rfl, (by decide +kernel)⟩) (pQ_hasWheel_run  e2) (by omega) ?_
  refine R_at2 (pc := 11) (st := [.int q1]) ?_
  refine R_ifne (pc := 11) (t := 16) (show z_pt 138 11 = some (6, .ifCond .ne 5, []) by decide +kernel) (by decide) (fun c3 => ?_) (fun c3 => ?_)
  · rw [if_neg c3] at h
    refine R_pure (pc := 16) (pc' := 17) (st' := [.ref 0]) (show z_pt 138 16 = some (6, .aload_n 0, []) by decide +kernel) rfl (fun _ _ _ => rfl) ?_
    refine R_getR (pc := 17) (a := 0) (b := 1) (show z_pt 138 17 = some (6, .getfield 17, [9, 0, 2039]) by decide +kernel) (by decide +kernel) ?_
    refine R_at (pc := 20) ?_
    refine R_getR (pc := 20) (a := 1) (b := 12) (show z_pt 138 20 = some (6, .getfield 185, [7, 2, 1177]) by decide +kernel) (by decide +kernel) ?_
    refine R_at (pc := 23) ?_
    refine R_pure (pc := 23) (pc' := 24) (st' := [.int i2, .ref 12]) (show z_pt 138 23 = some (6, .iload_n 2, []) by decide +kernel) rfl (fun _ _ _ => rfl) ?_
    obtain ⟨q4, e5, h⟩ := z_bs h
    refine R_call (pc := 24) (rr := []) (show z_pt 138 24 = some (6, .invokevirtual 360, [0, 59, 1, 4127, 4128, 4129, 1005, 4130]) by decide +kernel) rfl (show z_r2 59 = some (6, 3, true) by decide +kernel) rfl rfl (Or.inr ⟨_, _, rfl, (by decide +kernel)⟩) (pY_placeOf_run  e5) (by omega) ?_
    refine R_at2 (pc := 27) (st := [.int q4]) ?_
    refine R_pure (pc := 27) (pc' := 28) (ls' := [(0, .ref 0), (1, .int i1), (2, .int i2), (3, .int q4)]) (st' := []) (show z_pt 138 27 = some (6, .istore_n 3, []) by decide +kernel) rfl (fun _ _ _ => rfl) ?_
    refine R_pure (pc := 28) (pc' := 29) (st' := [.int q4]) (show z_pt 138 28 = some (6, .iload_n 3, []) by decide +kernel) rfl (fun _ _ _ => rfl) ?_
    refine R_const (pc := 29) (pc' := 30) (v := (-1)) (show z_ptc 138 29 = some (30, (-1)) by decide +kernel) ?_
    refine R_icmne (pc := 30) (t := 36) (show z_pt 138 30 = some (6, .if_icmp .ne 6, []) by decide +kernel) (by decide) (fun c6 => ?_) (fun c6 => ?_)
    · rw [if_neg c6] at h
      refine R_pure (pc := 36) (pc' := 37) (st' := [.ref 0]) (show z_pt 138 36 = some (6, .aload_n 0, []) by decide +kernel) rfl (fun _ _ _ => rfl) ?_
      refine R_getR (pc := 37) (a := 0) (b := 1) (show z_pt 138 37 = some (6, .getfield 17, [9, 0, 2039]) by decide +kernel) (by decide +kernel) ?_
      refine R_at (pc := 40) ?_
      refine R_getR (pc := 40) (a := 1) (b := 12) (show z_pt 138 40 = some (6, .getfield 185, [7, 2, 1177]) by decide +kernel) (by decide +kernel) ?_
      refine R_at (pc := 43) ?_
      refine R_getR (pc := 43) (a := 12) (b := 14) (show z_pt 138 43 = some (6, .getfield 189, [6, 4, 1132]) by decide +kernel) (by decide +kernel) ?_
      refine R_at (pc := 46) ?_
      refine R_pure (pc := 46) (pc' := 47) (st' := [.int q4, .ref 14]) (show z_pt 138 46 = some (6, .iload_n 3, []) by decide +kernel) rfl (fun _ _ _ => rfl) ?_
      obtain ⟨v7, e8, h⟩ := z_bs h
      refine R_ialdR (pc := 47) (a := 14) (n := 8) (show z_pt 138 47 = some (6, .iaload, []) by decide +kernel) (show z_ar 14 0 8 = true by decide +kernel) e8 ?_
      refine R_at (pc := 48) ?_
      refine R_pure (pc := 48) (pc' := 50) (ls' := [(0, .ref 0), (1, .int i1), (2, .int i2), (3, .int q4), (4, .int v7)]) (st' := []) (show z_pt 138 48 = some (6, .istore 4, []) by decide +kernel) rfl (fun _ _ _ => rfl) ?_
      refine R_pure (pc := 50) (pc' := 51) (st' := [.ref 0]) (show z_pt 138 50 = some (6, .aload_n 0, []) by decide +kernel) rfl (fun _ _ _ => rfl) ?_
      refine R_getR (pc := 51) (a := 0) (b := 1) (show z_pt 138 51 = some (6, .getfield 17, [9, 0, 2039]) by decide +kernel) (by decide +kernel) ?_
      refine R_at (pc := 54) ?_
      refine R_pure (pc := 54) (pc' := 55) (st' := [.int i1, .ref 1]) (show z_pt 138 54 = some (6, .iload_n 1, []) by decide +kernel) rfl (fun _ _ _ => rfl) ?_
      refine R_pure (pc := 55) (pc' := 57) (st' := [.int v7, .int i1, .ref 1]) (show z_pt 138 55 = some (6, .iload 4, []) by decide +kernel) rfl (fun _ _ _ => rfl) ?_
      obtain ⟨q9, e10, h⟩ := z_bs h
      refine R_call (pc := 57) (rr := []) (show z_pt 138 57 = some (6, .invokevirtual 203, [0, 70, 2, 4160, 4161, 4162, 1002, 4163]) by decide +kernel) rfl (show z_r2 70 = some (7, 8, true) by decide +kernel) rfl rfl (Or.inr ⟨_, _, rfl, (by decide +kernel)⟩) (pA_bestTurn_run  e10) (by omega) ?_
      refine R_at2 (pc := 60) (st := [.int q9]) ?_
      refine R_pure (pc := 60) (pc' := 62) (ls' := [(0, .ref 0), (1, .int i1), (2, .int i2), (3, .int q4), (4, .int v7), (5, .int q9)]) (st' := []) (show z_pt 138 60 = some (6, .istore 5, []) by decide +kernel) rfl (fun _ _ _ => rfl) ?_
      refine R_pure (pc := 62) (pc' := 64) (st' := [.int q9]) (show z_pt 138 62 = some (6, .iload 5, []) by decide +kernel) rfl (fun _ _ _ => rfl) ?_
      refine R_ifle (pc := 64) (t := 92) (show z_pt 138 64 = some (6, .ifCond .le 28, []) by decide +kernel) (by decide) (fun c11 => ?_) (fun c11 => ?_)
      · rw [if_pos c11] at h
        refine R_pure (pc := 92) (pc' := 93) (st' := [.ref 0]) (show z_pt 138 92 = some (6, .aload_n 0, []) by decide +kernel) rfl (fun _ _ _ => rfl) ?_
        refine R_getR (pc := 93) (a := 0) (b := 1) (show z_pt 138 93 = some (6, .getfield 17, [9, 0, 2039]) by decide +kernel) (by decide +kernel) ?_
        refine R_at (pc := 96) ?_
        refine R_pure (pc := 96) (pc' := 97) (st' := [.int i1, .ref 1]) (show z_pt 138 96 = some (6, .iload_n 1, []) by decide +kernel) rfl (fun _ _ _ => rfl) ?_
        refine R_pure (pc := 97) (pc' := 99) (st' := [.int v7, .int i1, .ref 1]) (show z_pt 138 97 = some (6, .iload 4, []) by decide +kernel) rfl (fun _ _ _ => rfl) ?_
        refine R_const (pc := 99) (pc' := 100) (v := 0) (show z_ptc 138 99 = some (100, 0) by decide +kernel) ?_
        obtain ⟨q12, e13, h⟩ := z_bs h
        refine R_call (pc := 100) (rr := []) (show z_pt 138 100 = some (6, .invokevirtual 200, [0, 68, 3, 4148, 4149, 4150, 1002, 4151]) by decide +kernel) rfl (show z_r2 68 = some (7, 6, true) by decide +kernel) rfl rfl (Or.inr ⟨_, _, rfl, (by decide +kernel)⟩) (pA_leastDistance_run  e13) (by omega) ?_
        refine R_at2 (pc := 103) (st := [.int q12]) ?_
        cases h
        exact R_retI (show z_pt 138 103 = some (6, .ireturn, []) by decide +kernel) (by decide +kernel)
      · rw [if_neg c11] at h
        refine R_pure (pc := 67) (pc' := 68) (st' := [.ref 0]) (show z_pt 138 67 = some (6, .aload_n 0, []) by decide +kernel) rfl (fun _ _ _ => rfl) ?_
        refine R_getR (pc := 68) (a := 0) (b := 1) (show z_pt 138 68 = some (6, .getfield 17, [9, 0, 2039]) by decide +kernel) (by decide +kernel) ?_
        refine R_at (pc := 71) ?_
        refine R_getR (pc := 71) (a := 1) (b := 2) (show z_pt 138 71 = some (6, .getfield 23, [7, 0, 1173]) by decide +kernel) (by decide +kernel) ?_
        refine R_at (pc := 74) ?_
        refine R_pure (pc := 74) (pc' := 75) (st' := [.ref 0, .ref 2]) (show z_pt 138 74 = some (6, .aload_n 0, []) by decide +kernel) rfl (fun _ _ _ => rfl) ?_
        refine R_getR (pc := 75) (a := 0) (b := 1) (show z_pt 138 75 = some (6, .getfield 17, [9, 0, 2039]) by decide +kernel) (by decide +kernel) ?_
        refine R_at (pc := 78) ?_
        refine R_getR (pc := 78) (a := 1) (b := 9) (show z_pt 138 78 = some (6, .getfield 161, [7, 1, 1175]) by decide +kernel) (by decide +kernel) ?_
        refine R_at (pc := 81) ?_
        refine R_getR (pc := 81) (a := 9) (b := 10) (show z_pt 138 81 = some (6, .getfield 173, [8, 1, 1106]) by decide +kernel) (by decide +kernel) ?_
        refine R_at (pc := 84) ?_
        refine R_pure (pc := 84) (pc' := 85) (st' := [.int i1, .ref 10, .ref 2]) (show z_pt 138 84 = some (6, .iload_n 1, []) by decide +kernel) rfl (fun _ _ _ => rfl) ?_
        obtain ⟨v14, e15, h⟩ := z_bs h
        refine R_ialdR (pc := 85) (a := 10) (n := 4) (show z_pt 138 85 = some (6, .iaload, []) by decide +kernel) (show z_ar 10 0 4 = true by decide +kernel) e15 ?_
        refine R_at (pc := 86) ?_
        refine R_pure (pc := 86) (pc' := 88) (st' := [.int q9, .int v14, .ref 2]) (show z_pt 138 86 = some (6, .iload 5, []) by decide +kernel) rfl (fun _ _ _ => rfl) ?_
        obtain ⟨q16, e17, h⟩ := z_bs h
        refine R_call (pc := 88) (rr := []) (show z_pt 138 88 = some (6, .invokevirtual 351, [0, 29, 2, 3203, 2175, 2176, 1003, 2177]) by decide +kernel) rfl (show z_r2 29 = some (2, 3, true) by decide +kernel) rfl rfl (Or.inr ⟨_, _, rfl, (by decide +kernel)⟩) (pT_turnGear_run (show zTr 2 = true by decide +kernel) e17) (by omega) ?_
        refine R_at2 (pc := 91) (st := [.int q16.1]) ?_
        refine R_pure (pc := 91) (pc' := 92) (st' := []) (show z_pt 138 91 = some (6, .pop, []) by decide +kernel) rfl (fun _ _ _ => rfl) ?_
        refine R_pure (pc := 92) (pc' := 93) (st' := [.ref 0]) (show z_pt 138 92 = some (6, .aload_n 0, []) by decide +kernel) rfl (fun _ _ _ => rfl) ?_
        refine R_getR (pc := 93) (a := 0) (b := 1) (show z_pt 138 93 = some (6, .getfield 17, [9, 0, 2039]) by decide +kernel) (by decide +kernel) ?_
        refine R_at (pc := 96) ?_
        refine R_pure (pc := 96) (pc' := 97) (st' := [.int i1, .ref 1]) (show z_pt 138 96 = some (6, .iload_n 1, []) by decide +kernel) rfl (fun _ _ _ => rfl) ?_
        refine R_pure (pc := 97) (pc' := 99) (st' := [.int v7, .int i1, .ref 1]) (show z_pt 138 97 = some (6, .iload 4, []) by decide +kernel) rfl (fun _ _ _ => rfl) ?_
        refine R_const (pc := 99) (pc' := 100) (v := 0) (show z_ptc 138 99 = some (100, 0) by decide +kernel) ?_
        obtain ⟨q18, e19, h⟩ := z_bs h
        refine R_call (pc := 100) (rr := []) (show z_pt 138 100 = some (6, .invokevirtual 200, [0, 68, 3, 4148, 4149, 4150, 1002, 4151]) by decide +kernel) rfl (show z_r2 68 = some (7, 6, true) by decide +kernel) rfl rfl (Or.inr ⟨_, _, rfl, (by decide +kernel)⟩) (pA_leastDistance_run  e19) (by omega) ?_
        refine R_at2 (pc := 103) (st := [.int q18]) ?_
        cases h
        exact R_retI (show z_pt 138 103 = some (6, .ireturn, []) by decide +kernel) (by decide +kernel)
    · rw [if_pos c6] at h
      refine R_const (pc := 33) (pc' := 35) (v := (-4)) (show z_ptc 138 33 = some (35, (-4)) by decide +kernel) ?_
      cases h
      exact R_retI (show z_pt 138 35 = some (6, .ireturn, []) by decide +kernel) (by decide +kernel)
  · rw [if_pos c3] at h
    refine R_const (pc := 14) (pc' := 15) (v := (-1)) (show z_ptc 138 14 = some (15, (-1)) by decide +kernel) ?_
    cases h
    exact R_retI (show z_pt 138 15 = some (6, .ireturn, []) by decide +kernel) (by decide +kernel)
def pG_follow  (μ : z_Mem) (i1 : Int32) (i2 : Int32) : Option ((Int32 ⊕ Nat) × z_Mem) := (pH_begin μ).bind fun q1 => (pG_tryFollow q1 i1 i2).bind fun q3 => (pG_settled q3.2 q3.1).bind fun q5 => (match q5.1 with | .inl x7 => some ((.inl x7), q5.2) | .inr E8 => some ((.inr E8), q5.2))
theorem pG_follow_run  {μ : z_Mem} {i1 : Int32} {i2 : Int32}  {r : ((Int32 ⊕ Nat) × z_Mem)} (h : pG_follow μ i1 i2 = some r) : Rn 17 105 0 [(0, .ref 0), (1, .int i1), (2, .int i2)] [] μ (z_oX r.1) r.2 := by
  unfold pG_follow at h
  refine R_pure (pc := 0) (pc' := 1) (st' := [.ref 0]) (show z_pt 105 0 = some (3, .aload_n 0, []) by decide +kernel) rfl (fun _ _ _ => rfl) ?_
  refine R_getR (pc := 1) (a := 0) (b := 57) (show z_pt 105 1 = some (3, .getfield 53, [9, 2, 2041]) by decide +kernel) (by decide +kernel) ?_
  refine R_at (pc := 4) ?_
  refine R_pure (pc := 4) (pc' := 5) (st' := [.ref 0, .ref 57]) (show z_pt 105 4 = some (3, .aload_n 0, []) by decide +kernel) rfl (fun _ _ _ => rfl) ?_
  refine R_getR (pc := 5) (a := 0) (b := 1) (show z_pt 105 5 = some (3, .getfield 17, [9, 0, 2039]) by decide +kernel) (by decide +kernel) ?_
  refine R_at (pc := 8) ?_
  obtain ⟨q1, e2, h⟩ := z_bs h
  refine R_call (pc := 8) (rr := []) (show z_pt 105 8 = some (3, .invokevirtual 71, [0, 49, 1, 2227, 2228, 2229, 1011, 2230]) by decide +kernel) rfl (show z_r2 49 = some (4, 3, true) by decide +kernel) rfl rfl (Or.inr ⟨_, _, rfl, (by decide +kernel)⟩) (pH_begin_run  e2) (by omega) ?_
  refine R_at2 (pc := 11) (st := []) ?_
  refine R_pure (pc := 11) (pc' := 12) (st' := [.ref 0]) (show z_pt 105 11 = some (3, .aload_n 0, []) by decide +kernel) rfl (fun _ _ _ => rfl) ?_
  refine R_pure (pc := 12) (pc' := 13) (st' := [.ref 0, .ref 0]) (show z_pt 105 12 = some (3, .aload_n 0, []) by decide +kernel) rfl (fun _ _ _ => rfl) ?_
  refine R_pure (pc := 13) (pc' := 14) (st' := [.int i1, .ref 0, .ref 0]) (show z_pt 105 13 = some (3, .iload_n 1, []) by decide +kernel) rfl (fun _ _ _ => rfl) ?_
  refine R_pure (pc := 14) (pc' := 15) (st' := [.int i2, .int i1, .ref 0, .ref 0]) (show z_pt 105 14 = some (3, .iload_n 2, []) by decide +kernel) rfl (fun _ _ _ => rfl) ?_
  obtain ⟨q3, e4, h⟩ := z_bs h
  refine R_call (pc := 15) (rr := [.ref 0]) (show z_pt 105 15 = some (3, .invokevirtual 206, [0, 138, 2, 4172, 4174, 15, 1001, 4175]) by decide +kernel) rfl (show z_r2 138 = some (9, 6, true) by decide +kernel) rfl rfl (Or.inr ⟨_, _, rfl, (by decide +kernel)⟩) (pG_tryFollow_run  e4) (by omega) ?_
  refine R_at2 (pc := 18) (st := [.int q3.1, .ref 0]) ?_
  obtain ⟨q5, e6, h⟩ := z_bs h
  have y9 := pG_settled_run  e6
  cases x7h : q5.1 with
  | inl x7 =>
    rw [x7h] at h y9
    dsimp only at h
    refine R_call (pc := 18) (rr := []) (show z_pt 105 18 = some (3, .invokevirtual 79, [0, 144, 1, 3003, 3005, 4, 1001, 3006]) by decide +kernel) rfl (show z_r2 144 = some (9, 2, true) by decide +kernel) rfl rfl (Or.inr ⟨_, _, rfl, (by decide +kernel)⟩) y9 (by omega) ?_
    refine R_at2 (pc := 21) (st := [.int x7]) ?_
    cases h
    exact R_retI (show z_pt 105 21 = some (3, .ireturn, []) by decide +kernel) (by decide +kernel)
  | inr E8 =>
    rw [x7h] at h y9
    cases h
    exact R_callX (pc := 18) (rr := []) (show z_pt 105 18 = some (3, .invokevirtual 79, [0, 144, 1, 3003, 3005, 4, 1001, 3006]) by decide +kernel) rfl (show z_r2 144 = some (9, 2, true) by decide +kernel) rfl rfl (Or.inr ⟨_, _, rfl, (by decide +kernel)⟩) y9 (by decide) (by decide +kernel) (by omega)
def pG_tryStar  (μ : z_Mem) (i1 : Int32) (i2 : Int32) : Option (Int32 × z_Mem) := (pG_isWithin μ i1 0 3599).bind fun q1 => if q1 = 0 then some ((-2), μ) else (pG_isWithin μ i2 (-50) 50).bind fun q4 => if q4 = 0 then some ((-2), μ) else if (μ 12 0) < 8 then (pY_add μ i1 i2).bind fun q8 => some (q8.1, q8.2) else some ((-3), μ)
theorem pG_tryStar_run  {μ : z_Mem} {i1 : Int32} {i2 : Int32}  {r : (Int32 × z_Mem)} (h : pG_tryStar μ i1 i2 = some r) : Rn 1 139 0 [(0, .ref 0), (1, .int i1), (2, .int i2)] [] μ (.inl (some (.int r.1))) r.2 := by
  unfold pG_tryStar at h
  refine R_pure (pc := 0) (pc' := 1) (st' := [.int i1]) (show z_pt 139 0 = some (3, .iload_n 1, []) by decide +kernel) rfl (fun _ _ _ => rfl) ?_
  refine R_const (pc := 1) (pc' := 2) (v := 0) (show z_ptc 139 1 = some (2, 0) by decide +kernel) ?_
  refine R_const (pc := 2) (pc' := 5) (v := 3599) (show z_ptc 139 2 = some (5, 3599) by decide +kernel) ?_
  obtain ⟨q1, e2, h⟩ := z_bs h
  refine R_call (pc := 5) (rr := []) (show z_pt 139 5 = some (3, .invokestatic 239, [1, 156, 3, 2236, 2237, 0, 1001, 2238]) by decide +kernel) rfl (show z_r2 156 = some (9, 3, true) by decide +kernel) rfl rfl (Or.inl (by decide)) (pG_isWithin_run  e2) (by omega) ?_
  refine R_at2 (pc := 8) (st := [.int q1]) ?_
  refine R_ifeq (pc := 8) (t := 22) (show z_pt 139 8 = some (3, .ifCond .eq 14, []) by decide +kernel) (by decide) (fun c3 => ?_) (fun c3 => ?_)
  · rw [if_pos c3] at h
    refine R_const (pc := 22) (pc' := 24) (v := (-2)) (show z_ptc 139 22 = some (24, (-2)) by decide +kernel) ?_
    cases h
    exact R_retI (show z_pt 139 24 = some (3, .ireturn, []) by decide +kernel) (by decide +kernel)
  · rw [if_neg c3] at h
    refine R_pure (pc := 11) (pc' := 12) (st' := [.int i2]) (show z_pt 139 11 = some (3, .iload_n 2, []) by decide +kernel) rfl (fun _ _ _ => rfl) ?_
    refine R_const (pc := 12) (pc' := 14) (v := (-50)) (show z_ptc 139 12 = some (14, (-50)) by decide +kernel) ?_
    refine R_const (pc := 14) (pc' := 16) (v := 50) (show z_ptc 139 14 = some (16, 50) by decide +kernel) ?_
    obtain ⟨q4, e5, h⟩ := z_bs h
    refine R_call (pc := 16) (rr := []) (show z_pt 139 16 = some (3, .invokestatic 239, [1, 156, 3, 2236, 2237, 0, 1001, 2238]) by decide +kernel) rfl (show z_r2 156 = some (9, 3, true) by decide +kernel) rfl rfl (Or.inl (by decide)) (pG_isWithin_run  e5) (by omega) ?_
    refine R_at2 (pc := 19) (st := [.int q4]) ?_
    refine R_ifne (pc := 19) (t := 25) (show z_pt 139 19 = some (3, .ifCond .ne 6, []) by decide +kernel) (by decide) (fun c6 => ?_) (fun c6 => ?_)
    · rw [if_neg c6] at h
      refine R_pure (pc := 25) (pc' := 26) (st' := [.ref 0]) (show z_pt 139 25 = some (3, .aload_n 0, []) by decide +kernel) rfl (fun _ _ _ => rfl) ?_
      refine R_getR (pc := 26) (a := 0) (b := 1) (show z_pt 139 26 = some (3, .getfield 17, [9, 0, 2039]) by decide +kernel) (by decide +kernel) ?_
      refine R_at (pc := 29) ?_
      refine R_getR (pc := 29) (a := 1) (b := 12) (show z_pt 139 29 = some (3, .getfield 185, [7, 2, 1177]) by decide +kernel) (by decide +kernel) ?_
      refine R_at (pc := 32) ?_
      refine R_getI (pc := 32) (a := 12) (show z_pt 139 32 = some (3, .getfield 215, [6, 0, 1125]) by decide +kernel) (by decide +kernel) ?_
      refine R_at (pc := 35) ?_
      refine R_const (pc := 35) (pc' := 37) (v := 8) (show z_ptc 139 35 = some (37, 8) by decide +kernel) ?_
      refine R_icmlt (pc := 37) (t := 45) (show z_pt 139 37 = some (3, .if_icmp .lt 8, []) by decide +kernel) (by decide) (fun c7 => ?_) (fun c7 => ?_)
      · rw [if_pos c7] at h
        refine R_pure (pc := 45) (pc' := 46) (st' := [.ref 0]) (show z_pt 139 45 = some (3, .aload_n 0, []) by decide +kernel) rfl (fun _ _ _ => rfl) ?_
        refine R_getR (pc := 46) (a := 0) (b := 1) (show z_pt 139 46 = some (3, .getfield 17, [9, 0, 2039]) by decide +kernel) (by decide +kernel) ?_
        refine R_at (pc := 49) ?_
        refine R_getR (pc := 49) (a := 1) (b := 12) (show z_pt 139 49 = some (3, .getfield 185, [7, 2, 1177]) by decide +kernel) (by decide +kernel) ?_
        refine R_at (pc := 52) ?_
        refine R_pure (pc := 52) (pc' := 53) (st' := [.int i1, .ref 12]) (show z_pt 139 52 = some (3, .iload_n 1, []) by decide +kernel) rfl (fun _ _ _ => rfl) ?_
        refine R_pure (pc := 53) (pc' := 54) (st' := [.int i2, .int i1, .ref 12]) (show z_pt 139 53 = some (3, .iload_n 2, []) by decide +kernel) rfl (fun _ _ _ => rfl) ?_
        obtain ⟨q8, e9, h⟩ := z_bs h
        refine R_call (pc := 54) (rr := []) (show z_pt 139 54 = some (3, .invokevirtual 362, [0, 60, 2, 4187, 4188, 4189, 1005, 4190]) by decide +kernel) rfl (show z_r2 60 = some (6, 4, true) by decide +kernel) rfl rfl (Or.inr ⟨_, _, rfl, (by decide +kernel)⟩) (pY_add_run  e9) (by omega) ?_
        refine R_at2 (pc := 57) (st := [.int q8.1]) ?_
        cases h
        exact R_retI (show z_pt 139 57 = some (3, .ireturn, []) by decide +kernel) (by decide +kernel)
      · rw [if_neg c7] at h
        refine R_const (pc := 40) (pc' := 42) (v := (-3)) (show z_ptc 139 40 = some (42, (-3)) by decide +kernel) ?_
        refine R_pure (pc := 42) (pc' := 57) (show z_pt 139 42 = some (3, .goto 15, []) by decide +kernel) rfl (fun _ _ _ => rfl) ?_
        cases h
        exact R_retI (show z_pt 139 57 = some (3, .ireturn, []) by decide +kernel) (by decide +kernel)
    · rw [if_pos c6] at h
      refine R_const (pc := 22) (pc' := 24) (v := (-2)) (show z_ptc 139 22 = some (24, (-2)) by decide +kernel) ?_
      cases h
      exact R_retI (show z_pt 139 24 = some (3, .ireturn, []) by decide +kernel) (by decide +kernel)
def pG_addStar  (μ : z_Mem) (i1 : Int32) (i2 : Int32) : Option ((Int32 ⊕ Nat) × z_Mem) := (pH_begin μ).bind fun q1 => (pG_tryStar q1 i1 i2).bind fun q3 => (pG_settled q3.2 q3.1).bind fun q5 => (match q5.1 with | .inl x7 => some ((.inl x7), q5.2) | .inr E8 => some ((.inr E8), q5.2))
theorem pG_addStar_run  {μ : z_Mem} {i1 : Int32} {i2 : Int32}  {r : ((Int32 ⊕ Nat) × z_Mem)} (h : pG_addStar μ i1 i2 = some r) : Rn 7 106 0 [(0, .ref 0), (1, .int i1), (2, .int i2)] [] μ (z_oX r.1) r.2 := by
  unfold pG_addStar at h
  refine R_pure (pc := 0) (pc' := 1) (st' := [.ref 0]) (show z_pt 106 0 = some (3, .aload_n 0, []) by decide +kernel) rfl (fun _ _ _ => rfl) ?_
  refine R_getR (pc := 1) (a := 0) (b := 57) (show z_pt 106 1 = some (3, .getfield 53, [9, 2, 2041]) by decide +kernel) (by decide +kernel) ?_
  refine R_at (pc := 4) ?_
  refine R_pure (pc := 4) (pc' := 5) (st' := [.ref 0, .ref 57]) (show z_pt 106 4 = some (3, .aload_n 0, []) by decide +kernel) rfl (fun _ _ _ => rfl) ?_
  refine R_getR (pc := 5) (a := 0) (b := 1) (show z_pt 106 5 = some (3, .getfield 17, [9, 0, 2039]) by decide +kernel) (by decide +kernel) ?_
  refine R_at (pc := 8) ?_
  obtain ⟨q1, e2, h⟩ := z_bs h
  refine R_call (pc := 8) (rr := []) (show z_pt 106 8 = some (3, .invokevirtual 71, [0, 49, 1, 2227, 2228, 2229, 1011, 2230]) by decide +kernel) rfl (show z_r2 49 = some (4, 3, true) by decide +kernel) rfl rfl (Or.inr ⟨_, _, rfl, (by decide +kernel)⟩) (pH_begin_run  e2) (by omega) ?_
  refine R_at2 (pc := 11) (st := []) ?_
  refine R_pure (pc := 11) (pc' := 12) (st' := [.ref 0]) (show z_pt 106 11 = some (3, .aload_n 0, []) by decide +kernel) rfl (fun _ _ _ => rfl) ?_
  refine R_pure (pc := 12) (pc' := 13) (st' := [.ref 0, .ref 0]) (show z_pt 106 12 = some (3, .aload_n 0, []) by decide +kernel) rfl (fun _ _ _ => rfl) ?_
  refine R_pure (pc := 13) (pc' := 14) (st' := [.int i1, .ref 0, .ref 0]) (show z_pt 106 13 = some (3, .iload_n 1, []) by decide +kernel) rfl (fun _ _ _ => rfl) ?_
  refine R_pure (pc := 14) (pc' := 15) (st' := [.int i2, .int i1, .ref 0, .ref 0]) (show z_pt 106 14 = some (3, .iload_n 2, []) by decide +kernel) rfl (fun _ _ _ => rfl) ?_
  obtain ⟨q3, e4, h⟩ := z_bs h
  refine R_call (pc := 15) (rr := [.ref 0]) (show z_pt 106 15 = some (3, .invokevirtual 209, [0, 139, 2, 4183, 4185, 16, 1001, 4186]) by decide +kernel) rfl (show z_r2 139 = some (9, 3, true) by decide +kernel) rfl rfl (Or.inr ⟨_, _, rfl, (by decide +kernel)⟩) (pG_tryStar_run  e4) (by omega) ?_
  refine R_at2 (pc := 18) (st := [.int q3.1, .ref 0]) ?_
  obtain ⟨q5, e6, h⟩ := z_bs h
  have y9 := pG_settled_run  e6
  cases x7h : q5.1 with
  | inl x7 =>
    rw [x7h] at h y9
    dsimp only at h
    refine R_call (pc := 18) (rr := []) (show z_pt 106 18 = some (3, .invokevirtual 79, [0, 144, 1, 3003, 3005, 4, 1001, 3006]) by decide +kernel) rfl (show z_r2 144 = some (9, 2, true) by decide +kernel) rfl rfl (Or.inr ⟨_, _, rfl, (by decide +kernel)⟩) y9 (by omega) ?_
    refine R_at2 (pc := 21) (st := [.int x7]) ?_
    cases h
    exact R_retI (show z_pt 106 21 = some (3, .ireturn, []) by decide +kernel) (by decide +kernel)
  | inr E8 =>
    rw [x7h] at h y9
    cases h
    exact R_callX (pc := 18) (rr := []) (show z_pt 106 18 = some (3, .invokevirtual 79, [0, 144, 1, 3003, 3005, 4, 1001, 3006]) by decide +kernel) rfl (show z_r2 144 = some (9, 2, true) by decide +kernel) rfl rfl (Or.inr ⟨_, _, rfl, (by decide +kernel)⟩) y9 (by decide) (by decide +kernel) (by omega)
def pG_tryRemoval  (μ : z_Mem) (i1 : Int32) : Option (Int32 × z_Mem) := (pY_placeOf μ i1).bind fun q1 => if q1 = (-1) then some ((-4), μ) else (pY_removeAt μ q1).bind fun q4 => some (q4.1, q4.2)
theorem pG_tryRemoval_run  {μ : z_Mem} {i1 : Int32}  {r : (Int32 × z_Mem)} (h : pG_tryRemoval μ i1 = some r) : Rn 1 140 0 [(0, .ref 0), (1, .int i1)] [] μ (.inl (some (.int r.1))) r.2 := by
  unfold pG_tryRemoval at h
  refine R_pure (pc := 0) (pc' := 1) (st' := [.ref 0]) (show z_pt 140 0 = some (3, .aload_n 0, []) by decide +kernel) rfl (fun _ _ _ => rfl) ?_
  refine R_getR (pc := 1) (a := 0) (b := 1) (show z_pt 140 1 = some (3, .getfield 17, [9, 0, 2039]) by decide +kernel) (by decide +kernel) ?_
  refine R_at (pc := 4) ?_
  refine R_getR (pc := 4) (a := 1) (b := 12) (show z_pt 140 4 = some (3, .getfield 185, [7, 2, 1177]) by decide +kernel) (by decide +kernel) ?_
  refine R_at (pc := 7) ?_
  refine R_pure (pc := 7) (pc' := 8) (st' := [.int i1, .ref 12]) (show z_pt 140 7 = some (3, .iload_n 1, []) by decide +kernel) rfl (fun _ _ _ => rfl) ?_
  obtain ⟨q1, e2, h⟩ := z_bs h
  refine R_call (pc := 8) (rr := []) (show z_pt 140 8 = some (3, .invokevirtual 360, [0, 59, 1, 4127, 4128, 4129, 1005, 4130]) by decide +kernel) rfl (show z_r2 59 = some (6, 3, true) by decide +kernel) rfl rfl (Or.inr ⟨_, _, rfl, (by decide +kernel)⟩) (pY_placeOf_run  e2) (by omega) ?_
  refine R_at2 (pc := 11) (st := [.int q1]) ?_
  refine R_pure (pc := 11) (pc' := 12) (ls' := [(0, .ref 0), (1, .int i1), (2, .int q1)]) (st' := []) (show z_pt 140 11 = some (3, .istore_n 2, []) by decide +kernel) rfl (fun _ _ _ => rfl) ?_
  refine R_pure (pc := 12) (pc' := 13) (st' := [.int q1]) (show z_pt 140 12 = some (3, .iload_n 2, []) by decide +kernel) rfl (fun _ _ _ => rfl) ?_
  refine R_const (pc := 13) (pc' := 14) (v := (-1)) (show z_ptc 140 13 = some (14, (-1)) by decide +kernel) ?_
  refine R_icmne (pc := 14) (t := 22) (show z_pt 140 14 = some (3, .if_icmp .ne 8, []) by decide +kernel) (by decide) (fun c3 => ?_) (fun c3 => ?_)
  · rw [if_neg c3] at h
    refine R_pure (pc := 22) (pc' := 23) (st' := [.ref 0]) (show z_pt 140 22 = some (3, .aload_n 0, []) by decide +kernel) rfl (fun _ _ _ => rfl) ?_
    refine R_getR (pc := 23) (a := 0) (b := 1) (show z_pt 140 23 = some (3, .getfield 17, [9, 0, 2039]) by decide +kernel) (by decide +kernel) ?_
    refine R_at (pc := 26) ?_
    refine R_getR (pc := 26) (a := 1) (b := 12) (show z_pt 140 26 = some (3, .getfield 185, [7, 2, 1177]) by decide +kernel) (by decide +kernel) ?_
    refine R_at (pc := 29) ?_
    refine R_pure (pc := 29) (pc' := 30) (st' := [.int q1, .ref 12]) (show z_pt 140 29 = some (3, .iload_n 2, []) by decide +kernel) rfl (fun _ _ _ => rfl) ?_
    obtain ⟨q4, e5, h⟩ := z_bs h
    refine R_call (pc := 30) (rr := []) (show z_pt 140 30 = some (3, .invokevirtual 363, [0, 61, 1, 4202, 4203, 4204, 1005, 4205]) by decide +kernel) rfl (show z_r2 61 = some (6, 3, true) by decide +kernel) rfl rfl (Or.inr ⟨_, _, rfl, (by decide +kernel)⟩) (pY_removeAt_run  e5) (by omega) ?_
    refine R_at2 (pc := 33) (st := [.int q4.1]) ?_
    cases h
    exact R_retI (show z_pt 140 33 = some (3, .ireturn, []) by decide +kernel) (by decide +kernel)
  · rw [if_pos c3] at h
    refine R_const (pc := 17) (pc' := 19) (v := (-4)) (show z_ptc 140 17 = some (19, (-4)) by decide +kernel) ?_
    refine R_pure (pc := 19) (pc' := 33) (show z_pt 140 19 = some (3, .goto 14, []) by decide +kernel) rfl (fun _ _ _ => rfl) ?_
    cases h
    exact R_retI (show z_pt 140 33 = some (3, .ireturn, []) by decide +kernel) (by decide +kernel)
def pG_removeStar  (μ : z_Mem) (i1 : Int32) : Option ((Int32 ⊕ Nat) × z_Mem) := (pH_begin μ).bind fun q1 => (pG_tryRemoval q1 i1).bind fun q3 => (pG_settled q3.2 q3.1).bind fun q5 => (match q5.1 with | .inl x7 => some ((.inl x7), q5.2) | .inr E8 => some ((.inr E8), q5.2))
theorem pG_removeStar_run  {μ : z_Mem} {i1 : Int32}  {r : ((Int32 ⊕ Nat) × z_Mem)} (h : pG_removeStar μ i1 = some r) : Rn 7 107 0 [(0, .ref 0), (1, .int i1)] [] μ (z_oX r.1) r.2 := by
  unfold pG_removeStar at h
  refine R_pure (pc := 0) (pc' := 1) (st' := [.ref 0]) (show z_pt 107 0 = some (2, .aload_n 0, []) by decide +kernel) rfl (fun _ _ _ => rfl) ?_
  refine R_getR (pc := 1) (a := 0) (b := 57) (show z_pt 107 1 = some (2, .getfield 53, [9, 2, 2041]) by decide +kernel) (by decide +kernel) ?_
  refine R_at (pc := 4) ?_
  refine R_pure (pc := 4) (pc' := 5) (st' := [.ref 0, .ref 57]) (show z_pt 107 4 = some (2, .aload_n 0, []) by decide +kernel) rfl (fun _ _ _ => rfl) ?_
  refine R_getR (pc := 5) (a := 0) (b := 1) (show z_pt 107 5 = some (2, .getfield 17, [9, 0, 2039]) by decide +kernel) (by decide +kernel) ?_
  refine R_at (pc := 8) ?_
  obtain ⟨q1, e2, h⟩ := z_bs h
  refine R_call (pc := 8) (rr := []) (show z_pt 107 8 = some (2, .invokevirtual 71, [0, 49, 1, 2227, 2228, 2229, 1011, 2230]) by decide +kernel) rfl (show z_r2 49 = some (4, 3, true) by decide +kernel) rfl rfl (Or.inr ⟨_, _, rfl, (by decide +kernel)⟩) (pH_begin_run  e2) (by omega) ?_
  refine R_at2 (pc := 11) (st := []) ?_
  refine R_pure (pc := 11) (pc' := 12) (st' := [.ref 0]) (show z_pt 107 11 = some (2, .aload_n 0, []) by decide +kernel) rfl (fun _ _ _ => rfl) ?_
  refine R_pure (pc := 12) (pc' := 13) (st' := [.ref 0, .ref 0]) (show z_pt 107 12 = some (2, .aload_n 0, []) by decide +kernel) rfl (fun _ _ _ => rfl) ?_
  refine R_pure (pc := 13) (pc' := 14) (st' := [.int i1, .ref 0, .ref 0]) (show z_pt 107 13 = some (2, .iload_n 1, []) by decide +kernel) rfl (fun _ _ _ => rfl) ?_
  obtain ⟨q3, e4, h⟩ := z_bs h
  refine R_call (pc := 14) (rr := [.ref 0]) (show z_pt 107 14 = some (2, .invokevirtual 212, [0, 140, 1, 4198, 4200, 17, 1001, 4201]) by decide +kernel) rfl (show z_r2 140 = some (9, 3, true) by decide +kernel) rfl rfl (Or.inr ⟨_, _, rfl, (by decide +kernel)⟩) (pG_tryRemoval_run  e4) (by omega) ?_
  refine R_at2 (pc := 17) (st := [.int q3.1, .ref 0]) ?_
  obtain ⟨q5, e6, h⟩ := z_bs h
  have y9 := pG_settled_run  e6
  cases x7h : q5.1 with
  | inl x7 =>
    rw [x7h] at h y9
    dsimp only at h
    refine R_call (pc := 17) (rr := []) (show z_pt 107 17 = some (2, .invokevirtual 79, [0, 144, 1, 3003, 3005, 4, 1001, 3006]) by decide +kernel) rfl (show z_r2 144 = some (9, 2, true) by decide +kernel) rfl rfl (Or.inr ⟨_, _, rfl, (by decide +kernel)⟩) y9 (by omega) ?_
    refine R_at2 (pc := 20) (st := [.int x7]) ?_
    cases h
    exact R_retI (show z_pt 107 20 = some (2, .ireturn, []) by decide +kernel) (by decide +kernel)
  | inr E8 =>
    rw [x7h] at h y9
    cases h
    exact R_callX (pc := 17) (rr := []) (show z_pt 107 17 = some (2, .invokevirtual 79, [0, 144, 1, 3003, 3005, 4, 1001, 3006]) by decide +kernel) rfl (show z_r2 144 = some (9, 2, true) by decide +kernel) rfl rfl (Or.inr ⟨_, _, rfl, (by decide +kernel)⟩) y9 (by decide) (by decide +kernel) (by omega)
def pG_starCount  (μ : z_Mem)  : Option Int32 := some (μ 12 0)
theorem pG_starCount_run  {μ : z_Mem}   {r : Int32} (h : pG_starCount μ = some r) : Rn 0 108 0 [(0, .ref 0)] [] μ (.inl (some (.int r))) μ := by
  unfold pG_starCount at h
  refine R_pure (pc := 0) (pc' := 1) (st' := [.ref 0]) (show z_pt 108 0 = some (1, .aload_n 0, []) by decide +kernel) rfl (fun _ _ _ => rfl) ?_
  refine R_getR (pc := 1) (a := 0) (b := 1) (show z_pt 108 1 = some (1, .getfield 17, [9, 0, 2039]) by decide +kernel) (by decide +kernel) ?_
  refine R_at (pc := 4) ?_
  refine R_getR (pc := 4) (a := 1) (b := 12) (show z_pt 108 4 = some (1, .getfield 185, [7, 2, 1177]) by decide +kernel) (by decide +kernel) ?_
  refine R_at (pc := 7) ?_
  refine R_getI (pc := 7) (a := 12) (show z_pt 108 7 = some (1, .getfield 215, [6, 0, 1125]) by decide +kernel) (by decide +kernel) ?_
  refine R_at (pc := 10) ?_
  cases h
  exact R_retI (show z_pt 108 10 = some (1, .ireturn, []) by decide +kernel) (by decide +kernel)
def pG_star  (μ : z_Mem) (i1 : Int32) : Option (Int32 ⊕ Nat) := if i1 < 0 then some (.inr 0) else if i1 < (μ 12 0) then (z_rd μ 13 8 i1).bind fun v3 => some (.inl v3) else some (.inr 0)
theorem pG_star_run  {μ : z_Mem} {i1 : Int32}  {r : (Int32 ⊕ Nat)} (h : pG_star μ i1 = some r) : Rn 6 109 0 [(0, .ref 0), (1, .int i1)] [] μ (z_oX r) μ := by
  unfold pG_star at h
  refine R_pure (pc := 0) (pc' := 1) (st' := [.int i1]) (show z_pt 109 0 = some (2, .iload_n 1, []) by decide +kernel) rfl (fun _ _ _ => rfl) ?_
  refine R_iflt (pc := 1) (t := 18) (show z_pt 109 1 = some (2, .ifCond .lt 17, []) by decide +kernel) (by decide) (fun c1 => ?_) (fun c1 => ?_)
  · rw [if_pos c1] at h
    cases h
    exact R_thr (show z_thx 109 18 = some 0 by decide +kernel) (by omega)
  · rw [if_neg c1] at h
    refine R_pure (pc := 4) (pc' := 5) (st' := [.int i1]) (show z_pt 109 4 = some (2, .iload_n 1, []) by decide +kernel) rfl (fun _ _ _ => rfl) ?_
    refine R_pure (pc := 5) (pc' := 6) (st' := [.ref 0, .int i1]) (show z_pt 109 5 = some (2, .aload_n 0, []) by decide +kernel) rfl (fun _ _ _ => rfl) ?_
    refine R_getR (pc := 6) (a := 0) (b := 1) (show z_pt 109 6 = some (2, .getfield 17, [9, 0, 2039]) by decide +kernel) (by decide +kernel) ?_
    refine R_at (pc := 9) ?_
    refine R_getR (pc := 9) (a := 1) (b := 12) (show z_pt 109 9 = some (2, .getfield 185, [7, 2, 1177]) by decide +kernel) (by decide +kernel) ?_
    refine R_at (pc := 12) ?_
    refine R_getI (pc := 12) (a := 12) (show z_pt 109 12 = some (2, .getfield 215, [6, 0, 1125]) by decide +kernel) (by decide +kernel) ?_
    refine R_at (pc := 15) ?_
    refine R_icmlt (pc := 15) (t := 26) (show z_pt 109 15 = some (2, .if_icmp .lt 11, []) by decide +kernel) (by decide) (fun c2 => ?_) (fun c2 => ?_)
    · rw [if_pos c2] at h
      refine R_pure (pc := 26) (pc' := 27) (st' := [.ref 0]) (show z_pt 109 26 = some (2, .aload_n 0, []) by decide +kernel) rfl (fun _ _ _ => rfl) ?_
      refine R_getR (pc := 27) (a := 0) (b := 1) (show z_pt 109 27 = some (2, .getfield 17, [9, 0, 2039]) by decide +kernel) (by decide +kernel) ?_
      refine R_at (pc := 30) ?_
      refine R_getR (pc := 30) (a := 1) (b := 12) (show z_pt 109 30 = some (2, .getfield 185, [7, 2, 1177]) by decide +kernel) (by decide +kernel) ?_
      refine R_at (pc := 33) ?_
      refine R_getR (pc := 33) (a := 12) (b := 13) (show z_pt 109 33 = some (2, .getfield 219, [6, 3, 1129]) by decide +kernel) (by decide +kernel) ?_
      refine R_at (pc := 36) ?_
      refine R_pure (pc := 36) (pc' := 37) (st' := [.int i1, .ref 13]) (show z_pt 109 36 = some (2, .iload_n 1, []) by decide +kernel) rfl (fun _ _ _ => rfl) ?_
      obtain ⟨v3, e4, h⟩ := z_bs h
      refine R_ialdR (pc := 37) (a := 13) (n := 8) (show z_pt 109 37 = some (2, .iaload, []) by decide +kernel) (show z_ar 13 0 8 = true by decide +kernel) e4 ?_
      refine R_at (pc := 38) ?_
      cases h
      exact R_retI (show z_pt 109 38 = some (2, .ireturn, []) by decide +kernel) (by decide +kernel)
    · rw [if_neg c2] at h
      cases h
      exact R_thr (show z_thx 109 18 = some 0 by decide +kernel) (by omega)
def pG_direction  (μ : z_Mem) (i1 : Int32) : Option (Int32 ⊕ Nat) := (pG_neededStar μ i1).bind fun q1 => (match q1 with | .inl x3 => (z_rd μ 14 8 x3).bind fun v5 => some (.inl v5) | .inr E4 => some (.inr E4))
theorem pG_direction_run  {μ : z_Mem} {i1 : Int32}  {r : (Int32 ⊕ Nat)} (h : pG_direction μ i1 = some r) : Rn 7 110 0 [(0, .ref 0), (1, .int i1)] [] μ (z_oX r) μ := by
  unfold pG_direction at h
  refine R_pure (pc := 0) (pc' := 1) (st' := [.ref 0]) (show z_pt 110 0 = some (2, .aload_n 0, []) by decide +kernel) rfl (fun _ _ _ => rfl) ?_
  refine R_getR (pc := 1) (a := 0) (b := 1) (show z_pt 110 1 = some (2, .getfield 17, [9, 0, 2039]) by decide +kernel) (by decide +kernel) ?_
  refine R_at (pc := 4) ?_
  refine R_getR (pc := 4) (a := 1) (b := 12) (show z_pt 110 4 = some (2, .getfield 185, [7, 2, 1177]) by decide +kernel) (by decide +kernel) ?_
  refine R_at (pc := 7) ?_
  refine R_getR (pc := 7) (a := 12) (b := 14) (show z_pt 110 7 = some (2, .getfield 189, [6, 4, 1132]) by decide +kernel) (by decide +kernel) ?_
  refine R_at (pc := 10) ?_
  refine R_pure (pc := 10) (pc' := 11) (st' := [.ref 0, .ref 14]) (show z_pt 110 10 = some (2, .aload_n 0, []) by decide +kernel) rfl (fun _ _ _ => rfl) ?_
  refine R_pure (pc := 11) (pc' := 12) (st' := [.int i1, .ref 0, .ref 14]) (show z_pt 110 11 = some (2, .iload_n 1, []) by decide +kernel) rfl (fun _ _ _ => rfl) ?_
  obtain ⟨q1, e2, h⟩ := z_bs h
  have y7 := pG_neededStar_run  e2
  cases x3h : q1 with
  | inl x3 =>
    rw [x3h] at h y7
    dsimp only at h
    refine R_call (pc := 12) (rr := [.ref 14]) (show z_pt 110 12 = some (2, .invokevirtual 194, [0, 151, 1, 4123, 4125, 14, 1001, 4126]) by decide +kernel) rfl (show z_r2 151 = some (9, 3, true) by decide +kernel) rfl rfl (Or.inr ⟨_, _, rfl, (by decide +kernel)⟩) y7 (by omega) ?_
    refine R_at2 (pc := 15) (st := [.int x3, .ref 14]) ?_
    obtain ⟨v5, e6, h⟩ := z_bs h
    refine R_ialdR (pc := 15) (a := 14) (n := 8) (show z_pt 110 15 = some (2, .iaload, []) by decide +kernel) (show z_ar 14 0 8 = true by decide +kernel) e6 ?_
    refine R_at (pc := 16) ?_
    cases h
    exact R_retI (show z_pt 110 16 = some (2, .ireturn, []) by decide +kernel) (by decide +kernel)
  | inr E4 =>
    rw [x3h] at h y7
    cases h
    exact R_callX (pc := 12) (rr := [.ref 14]) (show z_pt 110 12 = some (2, .invokevirtual 194, [0, 151, 1, 4123, 4125, 14, 1001, 4126]) by decide +kernel) rfl (show z_r2 151 = some (9, 3, true) by decide +kernel) rfl rfl (Or.inr ⟨_, _, rfl, (by decide +kernel)⟩) y7 (by decide) (by decide +kernel) (by omega)
def pG_tryHours  (μ : z_Mem) (i1 : Int32) : Option (Int32 × z_Mem) := (pG_isWithin μ i1 1 99).bind fun q1 => if q1 = 0 then some ((-2), μ) else (pY_letPass μ i1).bind fun q4 => some (q4.1, q4.2)
theorem pG_tryHours_run  {μ : z_Mem} {i1 : Int32}  {r : (Int32 × z_Mem)} (h : pG_tryHours μ i1 = some r) : Rn 3 141 0 [(0, .ref 0), (1, .int i1)] [] μ (.inl (some (.int r.1))) r.2 := by
  unfold pG_tryHours at h
  refine R_pure (pc := 0) (pc' := 1) (st' := [.int i1]) (show z_pt 141 0 = some (2, .iload_n 1, []) by decide +kernel) rfl (fun _ _ _ => rfl) ?_
  refine R_const (pc := 1) (pc' := 2) (v := 1) (show z_ptc 141 1 = some (2, 1) by decide +kernel) ?_
  refine R_const (pc := 2) (pc' := 4) (v := 99) (show z_ptc 141 2 = some (4, 99) by decide +kernel) ?_
  obtain ⟨q1, e2, h⟩ := z_bs h
  refine R_call (pc := 4) (rr := []) (show z_pt 141 4 = some (2, .invokestatic 239, [1, 156, 3, 2236, 2237, 0, 1001, 2238]) by decide +kernel) rfl (show z_r2 156 = some (9, 3, true) by decide +kernel) rfl rfl (Or.inl (by decide)) (pG_isWithin_run  e2) (by omega) ?_
  refine R_at2 (pc := 7) (st := [.int q1]) ?_
  refine R_ifeq (pc := 7) (t := 24) (show z_pt 141 7 = some (2, .ifCond .eq 17, []) by decide +kernel) (by decide) (fun c3 => ?_) (fun c3 => ?_)
  · rw [if_pos c3] at h
    refine R_const (pc := 24) (pc' := 26) (v := (-2)) (show z_ptc 141 24 = some (26, (-2)) by decide +kernel) ?_
    cases h
    exact R_retI (show z_pt 141 26 = some (2, .ireturn, []) by decide +kernel) (by decide +kernel)
  · rw [if_neg c3] at h
    refine R_pure (pc := 10) (pc' := 11) (st' := [.ref 0]) (show z_pt 141 10 = some (2, .aload_n 0, []) by decide +kernel) rfl (fun _ _ _ => rfl) ?_
    refine R_getR (pc := 11) (a := 0) (b := 1) (show z_pt 141 11 = some (2, .getfield 17, [9, 0, 2039]) by decide +kernel) (by decide +kernel) ?_
    refine R_at (pc := 14) ?_
    refine R_getR (pc := 14) (a := 1) (b := 12) (show z_pt 141 14 = some (2, .getfield 185, [7, 2, 1177]) by decide +kernel) (by decide +kernel) ?_
    refine R_at (pc := 17) ?_
    refine R_pure (pc := 17) (pc' := 18) (st' := [.int i1, .ref 12]) (show z_pt 141 17 = some (2, .iload_n 1, []) by decide +kernel) rfl (fun _ _ _ => rfl) ?_
    obtain ⟨q4, e5, h⟩ := z_bs h
    refine R_call (pc := 18) (rr := []) (show z_pt 141 18 = some (2, .invokevirtual 366, [0, 62, 1, 4231, 4232, 4233, 1005, 4234]) by decide +kernel) rfl (show z_r2 62 = some (6, 3, true) by decide +kernel) rfl rfl (Or.inr ⟨_, _, rfl, (by decide +kernel)⟩) (pY_letPass_run  e5) (by omega) ?_
    refine R_at2 (pc := 21) (st := [.int q4.1]) ?_
    refine R_pure (pc := 21) (pc' := 26) (show z_pt 141 21 = some (2, .goto 5, []) by decide +kernel) rfl (fun _ _ _ => rfl) ?_
    cases h
    exact R_retI (show z_pt 141 26 = some (2, .ireturn, []) by decide +kernel) (by decide +kernel)
def pG_passHours  (μ : z_Mem) (i1 : Int32) : Option ((Int32 ⊕ Nat) × z_Mem) := (pH_begin μ).bind fun q1 => (pG_tryHours q1 i1).bind fun q3 => (pG_settled q3.2 q3.1).bind fun q5 => (match q5.1 with | .inl x7 => some ((.inl x7), q5.2) | .inr E8 => some ((.inr E8), q5.2))
theorem pG_passHours_run  {μ : z_Mem} {i1 : Int32}  {r : ((Int32 ⊕ Nat) × z_Mem)} (h : pG_passHours μ i1 = some r) : Rn 7 111 0 [(0, .ref 0), (1, .int i1)] [] μ (z_oX r.1) r.2 := by
  unfold pG_passHours at h
  refine R_pure (pc := 0) (pc' := 1) (st' := [.ref 0]) (show z_pt 111 0 = some (2, .aload_n 0, []) by decide +kernel) rfl (fun _ _ _ => rfl) ?_
  refine R_getR (pc := 1) (a := 0) (b := 57) (show z_pt 111 1 = some (2, .getfield 53, [9, 2, 2041]) by decide +kernel) (by decide +kernel) ?_
  refine R_at (pc := 4) ?_
  refine R_pure (pc := 4) (pc' := 5) (st' := [.ref 0, .ref 57]) (show z_pt 111 4 = some (2, .aload_n 0, []) by decide +kernel) rfl (fun _ _ _ => rfl) ?_
  refine R_getR (pc := 5) (a := 0) (b := 1) (show z_pt 111 5 = some (2, .getfield 17, [9, 0, 2039]) by decide +kernel) (by decide +kernel) ?_
  refine R_at (pc := 8) ?_
  obtain ⟨q1, e2, h⟩ := z_bs h
  refine R_call (pc := 8) (rr := []) (show z_pt 111 8 = some (2, .invokevirtual 71, [0, 49, 1, 2227, 2228, 2229, 1011, 2230]) by decide +kernel) rfl (show z_r2 49 = some (4, 3, true) by decide +kernel) rfl rfl (Or.inr ⟨_, _, rfl, (by decide +kernel)⟩) (pH_begin_run  e2) (by omega) ?_
  refine R_at2 (pc := 11) (st := []) ?_
  refine R_pure (pc := 11) (pc' := 12) (st' := [.ref 0]) (show z_pt 111 11 = some (2, .aload_n 0, []) by decide +kernel) rfl (fun _ _ _ => rfl) ?_
  refine R_pure (pc := 12) (pc' := 13) (st' := [.ref 0, .ref 0]) (show z_pt 111 12 = some (2, .aload_n 0, []) by decide +kernel) rfl (fun _ _ _ => rfl) ?_
  refine R_pure (pc := 13) (pc' := 14) (st' := [.int i1, .ref 0, .ref 0]) (show z_pt 111 13 = some (2, .iload_n 1, []) by decide +kernel) rfl (fun _ _ _ => rfl) ?_
  obtain ⟨q3, e4, h⟩ := z_bs h
  refine R_call (pc := 14) (rr := [.ref 0]) (show z_pt 111 14 = some (2, .invokevirtual 222, [0, 141, 1, 4227, 4229, 18, 1001, 4230]) by decide +kernel) rfl (show z_r2 141 = some (9, 2, true) by decide +kernel) rfl rfl (Or.inr ⟨_, _, rfl, (by decide +kernel)⟩) (pG_tryHours_run  e4) (by omega) ?_
  refine R_at2 (pc := 17) (st := [.int q3.1, .ref 0]) ?_
  obtain ⟨q5, e6, h⟩ := z_bs h
  have y9 := pG_settled_run  e6
  cases x7h : q5.1 with
  | inl x7 =>
    rw [x7h] at h y9
    dsimp only at h
    refine R_call (pc := 17) (rr := []) (show z_pt 111 17 = some (2, .invokevirtual 79, [0, 144, 1, 3003, 3005, 4, 1001, 3006]) by decide +kernel) rfl (show z_r2 144 = some (9, 2, true) by decide +kernel) rfl rfl (Or.inr ⟨_, _, rfl, (by decide +kernel)⟩) y9 (by omega) ?_
    refine R_at2 (pc := 20) (st := [.int x7]) ?_
    cases h
    exact R_retI (show z_pt 111 20 = some (2, .ireturn, []) by decide +kernel) (by decide +kernel)
  | inr E8 =>
    rw [x7h] at h y9
    cases h
    exact R_callX (pc := 17) (rr := []) (show z_pt 111 17 = some (2, .invokevirtual 79, [0, 144, 1, 3003, 3005, 4, 1001, 3006]) by decide +kernel) rfl (show z_r2 144 = some (9, 2, true) by decide +kernel) rfl rfl (Or.inr ⟨_, _, rfl, (by decide +kernel)⟩) y9 (by decide) (by decide +kernel) (by omega)
def pG_needHoursAhead  (μ : z_Mem) (i0 : Int32) : Option (Option Nat) := (pG_isWithin μ i0 0 99).bind fun q1 => if q1 = 0 then some (some 1) else some none
theorem pG_needHoursAhead_run  {μ : z_Mem} {i0 : Int32}  {r : (Option Nat)} (h : pG_needHoursAhead μ i0 = some r) : Rn 6 152 0 [(0, .int i0)] [] μ (z_oU r) μ := by
  unfold pG_needHoursAhead at h
  refine R_pure (pc := 0) (pc' := 1) (st' := [.int i0]) (show z_pt 152 0 = some (1, .iload_n 0, []) by decide +kernel) rfl (fun _ _ _ => rfl) ?_
  refine R_const (pc := 1) (pc' := 2) (v := 0) (show z_ptc 152 1 = some (2, 0) by decide +kernel) ?_
  refine R_const (pc := 2) (pc' := 4) (v := 99) (show z_ptc 152 2 = some (4, 99) by decide +kernel) ?_
  obtain ⟨q1, e2, h⟩ := z_bs h
  refine R_call (pc := 4) (rr := []) (show z_pt 152 4 = some (1, .invokestatic 239, [1, 156, 3, 2236, 2237, 0, 1001, 2238]) by decide +kernel) rfl (show z_r2 156 = some (9, 3, true) by decide +kernel) rfl rfl (Or.inl (by decide)) (pG_isWithin_run  e2) (by omega) ?_
  refine R_at2 (pc := 7) (st := [.int q1]) ?_
  refine R_ifne (pc := 7) (t := 18) (show z_pt 152 7 = some (1, .ifCond .ne 11, []) by decide +kernel) (by decide) (fun c3 => ?_) (fun c3 => ?_)
  · rw [if_neg c3] at h
    cases h
    exact R_retV (show z_pt 152 18 = some (1, .return_, []) by decide +kernel) (by decide +kernel)
  · rw [if_pos c3] at h
    cases h
    exact R_thr (show z_thx 152 10 = some 1 by decide +kernel) (by omega)
def pG_directionAfter_L27_B (R : Int32 → Int32 → Option (Int32 ⊕ Nat))  (μ : z_Mem) (f1 : Int32) (f2 : Int32) (f3 : Int32) (K : Int32 → Int32 → Option (Int32 ⊕ Nat)) (a4 : Int32) (a5 : Int32) : Option (Int32 ⊕ Nat) := if f2 ≤ a5 then K a4 a5 else (z_rd μ 15 8 f3).bind fun v12 => (pJ_floorMod μ (a4 + v12) 3600).bind fun q14 => R q14 (a5 + 1)
def pG_directionAfter_L27 : Nat → z_Mem → Int32 → Int32 → Int32 → (Int32 → Int32 → Option (Int32 ⊕ Nat)) → Int32 → Int32 → Option (Int32 ⊕ Nat)
  | 0 => fun _ _ _ _ _ _ _ => none
  | n + 1 => fun μ f1 f2 f3 K a4 a5 => pG_directionAfter_L27_B (pG_directionAfter_L27 n μ f1 f2 f3 K) μ f1 f2 f3 K a4 a5
theorem pG_directionAfter_L27_run  (μ : z_Mem) (f1 : Int32) (f2 : Int32) (f3 : Int32) (K : Int32 → Int32 → Option (Int32 ⊕ Nat))  (D : Nat) (hD : 7 ≤ D) (hK : ∀ (a4 a5 : Int32) (r : (Int32 ⊕ Nat)), K a4 a5 = some r → Rn D 112 62 [(0, .ref 0), (1, .int f1), (2, .int f2), (3, .int f3), (4, .int a4), (5, .int a5)] [] μ (z_oX r) μ) : ∀ (n : Nat) (a4 : Int32) (a5 : Int32) (r : (Int32 ⊕ Nat)), pG_directionAfter_L27 n μ f1 f2 f3 K a4 a5 = some r → Rn D 112 27 [(0, .ref 0), (1, .int f1), (2, .int f2), (3, .int f3), (4, .int a4), (5, .int a5)] [] μ (z_oX r) μ := by
  intro n
  induction n with
  | zero => intro a4 a5 r h; cases h
  | succ n ih =>
    intro a4 a5 r h
    have h : pG_directionAfter_L27_B (pG_directionAfter_L27 n μ f1 f2 f3 K) μ f1 f2 f3 K a4 a5 = some r := h
    unfold pG_directionAfter_L27_B at h
    refine R_pure (pc := 27) (pc' := 29) (st' := [.int a5]) (show z_pt 112 27 = some (6, .iload 5, []) by decide +kernel) rfl (fun _ _ _ => rfl) ?_
    refine R_pure (pc := 29) (pc' := 30) (st' := [.int f2, .int a5]) (show z_pt 112 29 = some (6, .iload_n 2, []) by decide +kernel) rfl (fun _ _ _ => rfl) ?_
    refine R_icmge (pc := 30) (t := 62) (show z_pt 112 30 = some (6, .if_icmp .ge 32, []) by decide +kernel) (by decide) (fun c11 => ?_) (fun c11 => ?_)
    · rw [if_pos c11] at h
      exact hK _ _  _ h
    · rw [if_neg c11] at h
      refine R_pure (pc := 33) (pc' := 35) (st' := [.int a4]) (show z_pt 112 33 = some (6, .iload 4, []) by decide +kernel) rfl (fun _ _ _ => rfl) ?_
      refine R_pure (pc := 35) (pc' := 36) (st' := [.ref 0, .int a4]) (show z_pt 112 35 = some (6, .aload_n 0, []) by decide +kernel) rfl (fun _ _ _ => rfl) ?_
      refine R_getR (pc := 36) (a := 0) (b := 1) (show z_pt 112 36 = some (6, .getfield 17, [9, 0, 2039]) by decide +kernel) (by decide +kernel) ?_
      refine R_at (pc := 39) ?_
      refine R_getR (pc := 39) (a := 1) (b := 12) (show z_pt 112 39 = some (6, .getfield 185, [7, 2, 1177]) by decide +kernel) (by decide +kernel) ?_
      refine R_at (pc := 42) ?_
      refine R_getR (pc := 42) (a := 12) (b := 15) (show z_pt 112 42 = some (6, .getfield 228, [6, 5, 1134]) by decide +kernel) (by decide +kernel) ?_
      refine R_at (pc := 45) ?_
      refine R_pure (pc := 45) (pc' := 46) (st' := [.int f3, .ref 15, .int a4]) (show z_pt 112 45 = some (6, .iload_n 3, []) by decide +kernel) rfl (fun _ _ _ => rfl) ?_
      obtain ⟨v12, e13, h⟩ := z_bs h
      refine R_ialdR (pc := 46) (a := 15) (n := 8) (show z_pt 112 46 = some (6, .iaload, []) by decide +kernel) (show z_ar 15 0 8 = true by decide +kernel) e13 ?_
      refine R_at (pc := 47) ?_
      refine R_pure (pc := 47) (pc' := 48) (st' := [.int (a4 + v12)]) (show z_pt 112 47 = some (6, .iadd, []) by decide +kernel) rfl (fun _ _ _ => rfl) ?_
      refine R_const (pc := 48) (pc' := 51) (v := 3600) (show z_ptc 112 48 = some (51, 3600) by decide +kernel) ?_
      obtain ⟨q14, e15, h⟩ := z_bs h
      refine R_call (pc := 51) (rr := []) (show z_pt 112 51 = some (6, .invokestatic 231, [1, 324, 2, 4139, 4114, 0, 1008, 4115]) by decide +kernel) rfl (show z_r2 324 = some (12, 3, true) by decide +kernel) rfl rfl (Or.inl (by decide)) (pJ_floorMod_run  e15) (by omega) ?_
      refine R_at2 (pc := 54) (st := [.int q14]) ?_
      refine R_pure (pc := 54) (pc' := 56) (ls' := [(0, .ref 0), (1, .int f1), (2, .int f2), (3, .int f3), (4, .int q14), (5, .int a5)]) (st' := []) (show z_pt 112 54 = some (6, .istore 4, []) by decide +kernel) rfl (fun _ _ _ => rfl) ?_
      refine R_inc (pc := 56) (pc' := 59) (ls' := [(0, .ref 0), (1, .int f1), (2, .int f2), (3, .int f3), (4, .int q14), (5, .int (a5 + 1))]) (c := 1) (show z_pt 112 56 = some (6, .iinc 5 1, []) by decide +kernel) (by decide) rfl rfl ?_
      refine R_pure (pc := 59) (pc' := 27) (ls' := [(0, .ref 0), (1, .int f1), (2, .int f2), (3, .int f3), (4, .int q14), (5, .int (a5 + 1))]) (st' := []) (show z_pt 112 59 = some (6, .goto (-32), [6]) by decide +kernel) rfl (fun _ _ _ => rfl) ?_
      exact ih _ _ _  h
def pG_directionAfter  (μ : z_Mem) (i1 : Int32) (i2 : Int32) : Option (Int32 ⊕ Nat) := (pG_neededStar μ i1).bind fun q1 => (match q1 with | .inl x3 => (pG_needHoursAhead μ i2).bind fun q5 => (match q5 with | none => (z_rd μ 14 8 x3).bind fun v9 => pG_directionAfter_L27 z_fu μ i1 i2 x3 (fun k16 k17 => some (.inl k16)) v9 0 | some E8 => some (.inr E8)) | .inr E4 => some (.inr E4))
theorem pG_directionAfter_run  {μ : z_Mem} {i1 : Int32} {i2 : Int32}  {r : (Int32 ⊕ Nat)} (h : pG_directionAfter μ i1 i2 = some r) : Rn 7 112 0 [(0, .ref 0), (1, .int i1), (2, .int i2)] [] μ (z_oX r) μ := by
  unfold pG_directionAfter at h
  refine R_pure (pc := 0) (pc' := 1) (st' := [.ref 0]) (show z_pt 112 0 = some (6, .aload_n 0, []) by decide +kernel) rfl (fun _ _ _ => rfl) ?_
  refine R_pure (pc := 1) (pc' := 2) (st' := [.int i1, .ref 0]) (show z_pt 112 1 = some (6, .iload_n 1, []) by decide +kernel) rfl (fun _ _ _ => rfl) ?_
  obtain ⟨q1, e2, h⟩ := z_bs h
  have y19 := pG_neededStar_run  e2
  cases x3h : q1 with
  | inl x3 =>
    rw [x3h] at h y19
    dsimp only at h
    refine R_call (pc := 2) (rr := []) (show z_pt 112 2 = some (6, .invokevirtual 194, [0, 151, 1, 4123, 4125, 14, 1001, 4126]) by decide +kernel) rfl (show z_r2 151 = some (9, 3, true) by decide +kernel) rfl rfl (Or.inr ⟨_, _, rfl, (by decide +kernel)⟩) y19 (by omega) ?_
    refine R_at2 (pc := 5) (st := [.int x3]) ?_
    refine R_pure (pc := 5) (pc' := 6) (ls' := [(0, .ref 0), (1, .int i1), (2, .int i2), (3, .int x3)]) (st' := []) (show z_pt 112 5 = some (6, .istore_n 3, []) by decide +kernel) rfl (fun _ _ _ => rfl) ?_
    refine R_pure (pc := 6) (pc' := 7) (st' := [.int i2]) (show z_pt 112 6 = some (6, .iload_n 2, []) by decide +kernel) rfl (fun _ _ _ => rfl) ?_
    obtain ⟨q5, e6, h⟩ := z_bs h
    have y18 := pG_needHoursAhead_run  e6
    cases x7h : q5 with
    | none =>
      rw [x7h] at h y18
      dsimp only at h
      refine R_call (pc := 7) (rr := []) (show z_pt 112 7 = some (6, .invokestatic 225, [1, 152, 1, 5007, 5008, 0, 1001, 5009]) by decide +kernel) rfl (show z_r2 152 = some (9, 1, true) by decide +kernel) rfl rfl (Or.inl (by decide)) y18 (by omega) ?_
      refine R_at2 (pc := 10) (st := []) ?_
      refine R_pure (pc := 10) (pc' := 11) (st' := [.ref 0]) (show z_pt 112 10 = some (6, .aload_n 0, []) by decide +kernel) rfl (fun _ _ _ => rfl) ?_
      refine R_getR (pc := 11) (a := 0) (b := 1) (show z_pt 112 11 = some (6, .getfield 17, [9, 0, 2039]) by decide +kernel) (by decide +kernel) ?_
      refine R_at (pc := 14) ?_
      refine R_getR (pc := 14) (a := 1) (b := 12) (show z_pt 112 14 = some (6, .getfield 185, [7, 2, 1177]) by decide +kernel) (by decide +kernel) ?_
      refine R_at (pc := 17) ?_
      refine R_getR (pc := 17) (a := 12) (b := 14) (show z_pt 112 17 = some (6, .getfield 189, [6, 4, 1132]) by decide +kernel) (by decide +kernel) ?_
      refine R_at (pc := 20) ?_
      refine R_pure (pc := 20) (pc' := 21) (st' := [.int x3, .ref 14]) (show z_pt 112 20 = some (6, .iload_n 3, []) by decide +kernel) rfl (fun _ _ _ => rfl) ?_
      obtain ⟨v9, e10, h⟩ := z_bs h
      refine R_ialdR (pc := 21) (a := 14) (n := 8) (show z_pt 112 21 = some (6, .iaload, []) by decide +kernel) (show z_ar 14 0 8 = true by decide +kernel) e10 ?_
      refine R_at (pc := 22) ?_
      refine R_pure (pc := 22) (pc' := 24) (ls' := [(0, .ref 0), (1, .int i1), (2, .int i2), (3, .int x3), (4, .int v9)]) (st' := []) (show z_pt 112 22 = some (6, .istore 4, []) by decide +kernel) rfl (fun _ _ _ => rfl) ?_
      refine R_const (pc := 24) (pc' := 25) (v := 0) (show z_ptc 112 24 = some (25, 0) by decide +kernel) ?_
      refine R_pure (pc := 25) (pc' := 27) (ls' := [(0, .ref 0), (1, .int i1), (2, .int i2), (3, .int x3), (4, .int v9), (5, .int 0)]) (st' := []) (show z_pt 112 25 = some (6, .istore 5, []) by decide +kernel) rfl (fun _ _ _ => rfl) ?_
      refine pG_directionAfter_L27_run  _ _ _ _ _  _ (by omega) ?_ _ _ _ _ h
      intro k16 k17 r h
      refine R_pure (pc := 62) (pc' := 64) (st' := [.int k16]) (show z_pt 112 62 = some (6, .iload 4, []) by decide +kernel) rfl (fun _ _ _ => rfl) ?_
      cases h
      exact R_retI (show z_pt 112 64 = some (6, .ireturn, []) by decide +kernel) (by decide +kernel)
    | some E8 =>
      rw [x7h] at h y18
      cases h
      exact R_callX (pc := 7) (rr := []) (show z_pt 112 7 = some (6, .invokestatic 225, [1, 152, 1, 5007, 5008, 0, 1001, 5009]) by decide +kernel) rfl (show z_r2 152 = some (9, 1, true) by decide +kernel) rfl rfl (Or.inl (by decide)) y18 (by decide) (by decide +kernel) (by omega)
  | inr E4 =>
    rw [x3h] at h y19
    cases h
    exact R_callX (pc := 2) (rr := []) (show z_pt 112 2 = some (6, .invokevirtual 194, [0, 151, 1, 4123, 4125, 14, 1001, 4126]) by decide +kernel) rfl (show z_r2 151 = some (9, 3, true) by decide +kernel) rfl rfl (Or.inr ⟨_, _, rfl, (by decide +kernel)⟩) y19 (by decide) (by decide +kernel) (by omega)
def pG_directionAfterAtOnce  (μ : z_Mem) (i1 : Int32) (i2 : Int32) : Option (Int32 ⊕ Nat) := (pG_neededStar μ i1).bind fun q1 => (match q1 with | .inl x3 => (pG_needHoursAhead μ i2).bind fun q5 => (match q5 with | none => (pY_directionLater μ x3 i2).bind fun q9 => some (.inl q9) | some E8 => some (.inr E8)) | .inr E4 => some (.inr E4))
theorem pG_directionAfterAtOnce_run  {μ : z_Mem} {i1 : Int32} {i2 : Int32}  {r : (Int32 ⊕ Nat)} (h : pG_directionAfterAtOnce μ i1 i2 = some r) : Rn 7 113 0 [(0, .ref 0), (1, .int i1), (2, .int i2)] [] μ (z_oX r) μ := by
  unfold pG_directionAfterAtOnce at h
  refine R_pure (pc := 0) (pc' := 1) (st' := [.ref 0]) (show z_pt 113 0 = some (4, .aload_n 0, []) by decide +kernel) rfl (fun _ _ _ => rfl) ?_
  refine R_pure (pc := 1) (pc' := 2) (st' := [.int i1, .ref 0]) (show z_pt 113 1 = some (4, .iload_n 1, []) by decide +kernel) rfl (fun _ _ _ => rfl) ?_
  obtain ⟨q1, e2, h⟩ := z_bs h
  have y12 := pG_neededStar_run  e2
  cases x3h : q1 with
  | inl x3 =>
    rw [x3h] at h y12
    dsimp only at h
    refine R_call (pc := 2) (rr := []) (show z_pt 113 2 = some (4, .invokevirtual 194, [0, 151, 1, 4123, 4125, 14, 1001, 4126]) by decide +kernel) rfl (show z_r2 151 = some (9, 3, true) by decide +kernel) rfl rfl (Or.inr ⟨_, _, rfl, (by decide +kernel)⟩) y12 (by omega) ?_
    refine R_at2 (pc := 5) (st := [.int x3]) ?_
    refine R_pure (pc := 5) (pc' := 6) (ls' := [(0, .ref 0), (1, .int i1), (2, .int i2), (3, .int x3)]) (st' := []) (show z_pt 113 5 = some (4, .istore_n 3, []) by decide +kernel) rfl (fun _ _ _ => rfl) ?_
    refine R_pure (pc := 6) (pc' := 7) (st' := [.int i2]) (show z_pt 113 6 = some (4, .iload_n 2, []) by decide +kernel) rfl (fun _ _ _ => rfl) ?_
    obtain ⟨q5, e6, h⟩ := z_bs h
    have y11 := pG_needHoursAhead_run  e6
    cases x7h : q5 with
    | none =>
      rw [x7h] at h y11
      dsimp only at h
      refine R_call (pc := 7) (rr := []) (show z_pt 113 7 = some (4, .invokestatic 225, [1, 152, 1, 5007, 5008, 0, 1001, 5009]) by decide +kernel) rfl (show z_r2 152 = some (9, 1, true) by decide +kernel) rfl rfl (Or.inl (by decide)) y11 (by omega) ?_
      refine R_at2 (pc := 10) (st := []) ?_
      refine R_pure (pc := 10) (pc' := 11) (st' := [.ref 0]) (show z_pt 113 10 = some (4, .aload_n 0, []) by decide +kernel) rfl (fun _ _ _ => rfl) ?_
      refine R_getR (pc := 11) (a := 0) (b := 1) (show z_pt 113 11 = some (4, .getfield 17, [9, 0, 2039]) by decide +kernel) (by decide +kernel) ?_
      refine R_at (pc := 14) ?_
      refine R_getR (pc := 14) (a := 1) (b := 12) (show z_pt 113 14 = some (4, .getfield 185, [7, 2, 1177]) by decide +kernel) (by decide +kernel) ?_
      refine R_at (pc := 17) ?_
      refine R_pure (pc := 17) (pc' := 18) (st' := [.int x3, .ref 12]) (show z_pt 113 17 = some (4, .iload_n 3, []) by decide +kernel) rfl (fun _ _ _ => rfl) ?_
      refine R_pure (pc := 18) (pc' := 19) (st' := [.int i2, .int x3, .ref 12]) (show z_pt 113 18 = some (4, .iload_n 2, []) by decide +kernel) rfl (fun _ _ _ => rfl) ?_
      obtain ⟨q9, e10, h⟩ := z_bs h
      refine R_call (pc := 19) (rr := []) (show z_pt 113 19 = some (4, .invokevirtual 236, [0, 63, 2, 5017, 4236, 4237, 1005, 4238]) by decide +kernel) rfl (show z_r2 63 = some (6, 3, true) by decide +kernel) rfl rfl (Or.inr ⟨_, _, rfl, (by decide +kernel)⟩) (pY_directionLater_run  e10) (by omega) ?_
      refine R_at2 (pc := 22) (st := [.int q9]) ?_
      cases h
      exact R_retI (show z_pt 113 22 = some (4, .ireturn, []) by decide +kernel) (by decide +kernel)
    | some E8 =>
      rw [x7h] at h y11
      cases h
      exact R_callX (pc := 7) (rr := []) (show z_pt 113 7 = some (4, .invokestatic 225, [1, 152, 1, 5007, 5008, 0, 1001, 5009]) by decide +kernel) rfl (show z_r2 152 = some (9, 1, true) by decide +kernel) rfl rfl (Or.inl (by decide)) y11 (by decide) (by decide +kernel) (by omega)
  | inr E4 =>
    rw [x3h] at h y12
    cases h
    exact R_callX (pc := 2) (rr := []) (show z_pt 113 2 = some (4, .invokevirtual 194, [0, 151, 1, 4123, 4125, 14, 1001, 4126]) by decide +kernel) rfl (show z_r2 151 = some (9, 3, true) by decide +kernel) rfl rfl (Or.inr ⟨_, _, rfl, (by decide +kernel)⟩) y12 (by decide) (by decide +kernel) (by omega)
def pG_nearestStar  (μ : z_Mem) (i1 : Int32) : Option (Int32 ⊕ Nat) := (pG_isWithin μ i1 0 3599).bind fun q1 => if q1 = 0 then some (.inr 1) else if (μ 12 0) = 0 then some (.inr 3) else (pY_idNearest μ i1).bind fun q5 => some (.inl q5)
theorem pG_nearestStar_run  {μ : z_Mem} {i1 : Int32}  {r : (Int32 ⊕ Nat)} (h : pG_nearestStar μ i1 = some r) : Rn 6 114 0 [(0, .ref 0), (1, .int i1)] [] μ (z_oX r) μ := by
  unfold pG_nearestStar at h
  refine R_pure (pc := 0) (pc' := 1) (st' := [.int i1]) (show z_pt 114 0 = some (2, .iload_n 1, []) by decide +kernel) rfl (fun _ _ _ => rfl) ?_
  refine R_const (pc := 1) (pc' := 2) (v := 0) (show z_ptc 114 1 = some (2, 0) by decide +kernel) ?_
  refine R_const (pc := 2) (pc' := 5) (v := 3599) (show z_ptc 114 2 = some (5, 3599) by decide +kernel) ?_
  obtain ⟨q1, e2, h⟩ := z_bs h
  refine R_call (pc := 5) (rr := []) (show z_pt 114 5 = some (2, .invokestatic 239, [1, 156, 3, 2236, 2237, 0, 1001, 2238]) by decide +kernel) rfl (show z_r2 156 = some (9, 3, true) by decide +kernel) rfl rfl (Or.inl (by decide)) (pG_isWithin_run  e2) (by omega) ?_
  refine R_at2 (pc := 8) (st := [.int q1]) ?_
  refine R_ifne (pc := 8) (t := 19) (show z_pt 114 8 = some (2, .ifCond .ne 11, []) by decide +kernel) (by decide) (fun c3 => ?_) (fun c3 => ?_)
  · rw [if_neg c3] at h
    refine R_pure (pc := 19) (pc' := 20) (st' := [.ref 0]) (show z_pt 114 19 = some (2, .aload_n 0, []) by decide +kernel) rfl (fun _ _ _ => rfl) ?_
    refine R_getR (pc := 20) (a := 0) (b := 1) (show z_pt 114 20 = some (2, .getfield 17, [9, 0, 2039]) by decide +kernel) (by decide +kernel) ?_
    refine R_at (pc := 23) ?_
    refine R_getR (pc := 23) (a := 1) (b := 12) (show z_pt 114 23 = some (2, .getfield 185, [7, 2, 1177]) by decide +kernel) (by decide +kernel) ?_
    refine R_at (pc := 26) ?_
    refine R_getI (pc := 26) (a := 12) (show z_pt 114 26 = some (2, .getfield 215, [6, 0, 1125]) by decide +kernel) (by decide +kernel) ?_
    refine R_at (pc := 29) ?_
    refine R_ifne (pc := 29) (t := 40) (show z_pt 114 29 = some (2, .ifCond .ne 11, []) by decide +kernel) (by decide) (fun c4 => ?_) (fun c4 => ?_)
    · rw [if_neg c4] at h
      refine R_pure (pc := 40) (pc' := 41) (st' := [.ref 0]) (show z_pt 114 40 = some (2, .aload_n 0, []) by decide +kernel) rfl (fun _ _ _ => rfl) ?_
      refine R_getR (pc := 41) (a := 0) (b := 1) (show z_pt 114 41 = some (2, .getfield 17, [9, 0, 2039]) by decide +kernel) (by decide +kernel) ?_
      refine R_at (pc := 44) ?_
      refine R_getR (pc := 44) (a := 1) (b := 12) (show z_pt 114 44 = some (2, .getfield 185, [7, 2, 1177]) by decide +kernel) (by decide +kernel) ?_
      refine R_at (pc := 47) ?_
      refine R_pure (pc := 47) (pc' := 48) (st' := [.int i1, .ref 12]) (show z_pt 114 47 = some (2, .iload_n 1, []) by decide +kernel) rfl (fun _ _ _ => rfl) ?_
      obtain ⟨q5, e6, h⟩ := z_bs h
      refine R_call (pc := 48) (rr := []) (show z_pt 114 48 = some (2, .invokevirtual 246, [0, 64, 1, 5025, 5026, 5027, 1005, 5028]) by decide +kernel) rfl (show z_r2 64 = some (6, 6, true) by decide +kernel) rfl rfl (Or.inr ⟨_, _, rfl, (by decide +kernel)⟩) (pY_idNearest_run  e6) (by omega) ?_
      refine R_at2 (pc := 51) (st := [.int q5]) ?_
      cases h
      exact R_retI (show z_pt 114 51 = some (2, .ireturn, []) by decide +kernel) (by decide +kernel)
    · rw [if_pos c4] at h
      cases h
      exact R_thr (show z_thx 114 32 = some 3 by decide +kernel) (by omega)
  · rw [if_pos c3] at h
    cases h
    exact R_thr (show z_thx 114 11 = some 1 by decide +kernel) (by omega)
def pG_isKey  (μ : z_Mem) (i0 : Int32) (i1 : Int32) : Option Int32 := (pG_isWithin μ i0 97 122).bind fun q1 => if q1 = 0 then some 0 else (pG_isWithin μ i1 0 9).bind fun q4 => if q4 = 0 then some 0 else some 1
theorem pG_isKey_run  {μ : z_Mem} {i0 : Int32} {i1 : Int32}  {r : Int32} (h : pG_isKey μ i0 i1 = some r) : Rn 1 155 0 [(0, .int i0), (1, .int i1)] [] μ (.inl (some (.int r))) μ := by
  unfold pG_isKey at h
  refine R_pure (pc := 0) (pc' := 1) (st' := [.int i0]) (show z_pt 155 0 = some (2, .iload_n 0, []) by decide +kernel) rfl (fun _ _ _ => rfl) ?_
  refine R_const (pc := 1) (pc' := 3) (v := 97) (show z_ptc 155 1 = some (3, 97) by decide +kernel) ?_
  refine R_const (pc := 3) (pc' := 5) (v := 122) (show z_ptc 155 3 = some (5, 122) by decide +kernel) ?_
  obtain ⟨q1, e2, h⟩ := z_bs h
  refine R_call (pc := 5) (rr := []) (show z_pt 155 5 = some (2, .invokestatic 239, [1, 156, 3, 2236, 2237, 0, 1001, 2238]) by decide +kernel) rfl (show z_r2 156 = some (9, 3, true) by decide +kernel) rfl rfl (Or.inl (by decide)) (pG_isWithin_run  e2) (by omega) ?_
  refine R_at2 (pc := 8) (st := [.int q1]) ?_
  refine R_ifeq (pc := 8) (t := 25) (show z_pt 155 8 = some (2, .ifCond .eq 17, []) by decide +kernel) (by decide) (fun c3 => ?_) (fun c3 => ?_)
  · rw [if_pos c3] at h
    refine R_const (pc := 25) (pc' := 26) (v := 0) (show z_ptc 155 25 = some (26, 0) by decide +kernel) ?_
    cases h
    exact R_retZ (show z_pt 155 26 = some (2, .ireturn, []) by decide +kernel) (t := .boolean) (by decide +kernel) (by decide)
  · rw [if_neg c3] at h
    refine R_pure (pc := 11) (pc' := 12) (st' := [.int i1]) (show z_pt 155 11 = some (2, .iload_n 1, []) by decide +kernel) rfl (fun _ _ _ => rfl) ?_
    refine R_const (pc := 12) (pc' := 13) (v := 0) (show z_ptc 155 12 = some (13, 0) by decide +kernel) ?_
    refine R_const (pc := 13) (pc' := 15) (v := 9) (show z_ptc 155 13 = some (15, 9) by decide +kernel) ?_
    obtain ⟨q4, e5, h⟩ := z_bs h
    refine R_call (pc := 15) (rr := []) (show z_pt 155 15 = some (2, .invokestatic 239, [1, 156, 3, 2236, 2237, 0, 1001, 2238]) by decide +kernel) rfl (show z_r2 156 = some (9, 3, true) by decide +kernel) rfl rfl (Or.inl (by decide)) (pG_isWithin_run  e5) (by omega) ?_
    refine R_at2 (pc := 18) (st := [.int q4]) ?_
    refine R_ifeq (pc := 18) (t := 25) (show z_pt 155 18 = some (2, .ifCond .eq 7, []) by decide +kernel) (by decide) (fun c6 => ?_) (fun c6 => ?_)
    · rw [if_pos c6] at h
      refine R_const (pc := 25) (pc' := 26) (v := 0) (show z_ptc 155 25 = some (26, 0) by decide +kernel) ?_
      cases h
      exact R_retZ (show z_pt 155 26 = some (2, .ireturn, []) by decide +kernel) (t := .boolean) (by decide +kernel) (by decide)
    · rw [if_neg c6] at h
      refine R_const (pc := 21) (pc' := 22) (v := 1) (show z_ptc 155 21 = some (22, 1) by decide +kernel) ?_
      refine R_pure (pc := 22) (pc' := 26) (show z_pt 155 22 = some (2, .goto 4, []) by decide +kernel) rfl (fun _ _ _ => rfl) ?_
      cases h
      exact R_retZ (show z_pt 155 26 = some (2, .ireturn, []) by decide +kernel) (t := .boolean) (by decide +kernel) (by decide)
def pG_tryEntry  (μ : z_Mem) (i1 : Int32) (i2 : Int32) : Option (Int32 × z_Mem) := (pG_isKey μ i1 i2).bind fun q1 => if q1 = 0 then some ((-2), μ) else (pE_placeOf μ i1 i2).bind fun q4 => if q4 = (-1) then if (μ 16 0) < 6 then (pE_write μ i1 i2).bind fun q10 => some (q10.1, q10.2) else some ((-3), μ) else (pE_write μ i1 i2).bind fun q7 => some (q7.1, q7.2)
theorem pG_tryEntry_run  {μ : z_Mem} {i1 : Int32} {i2 : Int32}  {r : (Int32 × z_Mem)} (h : pG_tryEntry μ i1 i2 = some r) : Rn 2 142 0 [(0, .ref 0), (1, .int i1), (2, .int i2)] [] μ (.inl (some (.int r.1))) r.2 := by
  unfold pG_tryEntry at h
  refine R_pure (pc := 0) (pc' := 1) (st' := [.int i1]) (show z_pt 142 0 = some (3, .iload_n 1, []) by decide +kernel) rfl (fun _ _ _ => rfl) ?_
  refine R_pure (pc := 1) (pc' := 2) (st' := [.int i2, .int i1]) (show z_pt 142 1 = some (3, .iload_n 2, []) by decide +kernel) rfl (fun _ _ _ => rfl) ?_
  obtain ⟨q1, e2, h⟩ := z_bs h
  refine R_call (pc := 2) (rr := []) (show z_pt 142 2 = some (3, .invokestatic 369, [1, 155, 2, 5041, 5042, 0, 1001, 5043]) by decide +kernel) rfl (show z_r2 155 = some (9, 2, true) by decide +kernel) rfl rfl (Or.inl (by decide)) (pG_isKey_run  e2) (by omega) ?_
  refine R_at2 (pc := 5) (st := [.int q1]) ?_
  refine R_ifne (pc := 5) (t := 11) (show z_pt 142 5 = some (3, .ifCond .ne 6, []) by decide +kernel) (by decide) (fun c3 => ?_) (fun c3 => ?_)
  · rw [if_neg c3] at h
    refine R_pure (pc := 11) (pc' := 12) (st' := [.ref 0]) (show z_pt 142 11 = some (3, .aload_n 0, []) by decide +kernel) rfl (fun _ _ _ => rfl) ?_
    refine R_getR (pc := 12) (a := 0) (b := 1) (show z_pt 142 12 = some (3, .getfield 17, [9, 0, 2039]) by decide +kernel) (by decide +kernel) ?_
    refine R_at (pc := 15) ?_
    refine R_getR (pc := 15) (a := 1) (b := 16) (show z_pt 142 15 = some (3, .getfield 260, [7, 3, 1179]) by decide +kernel) (by decide +kernel) ?_
    refine R_at (pc := 18) ?_
    refine R_pure (pc := 18) (pc' := 19) (st' := [.int i1, .ref 16]) (show z_pt 142 18 = some (3, .iload_n 1, []) by decide +kernel) rfl (fun _ _ _ => rfl) ?_
    refine R_pure (pc := 19) (pc' := 20) (st' := [.int i2, .int i1, .ref 16]) (show z_pt 142 19 = some (3, .iload_n 2, []) by decide +kernel) rfl (fun _ _ _ => rfl) ?_
    obtain ⟨q4, e5, h⟩ := z_bs h
    refine R_call (pc := 20) (rr := []) (show z_pt 142 20 = some (3, .invokevirtual 264, [0, 16, 2, 5044, 5045, 5046, 1006, 5047]) by decide +kernel) rfl (show z_r2 16 = some (1, 4, true) by decide +kernel) rfl rfl (Or.inr ⟨_, _, rfl, (by decide +kernel)⟩) (pE_placeOf_run  e5) (by omega) ?_
    refine R_at2 (pc := 23) (st := [.int q4]) ?_
    refine R_const (pc := 23) (pc' := 24) (v := (-1)) (show z_ptc 142 23 = some (24, (-1)) by decide +kernel) ?_
    refine R_icmne (pc := 24) (t := 45) (show z_pt 142 24 = some (3, .if_icmp .ne 21, []) by decide +kernel) (by decide) (fun c6 => ?_) (fun c6 => ?_)
    · rw [if_neg c6] at h
      refine R_pure (pc := 45) (pc' := 46) (st' := [.ref 0]) (show z_pt 142 45 = some (3, .aload_n 0, []) by decide +kernel) rfl (fun _ _ _ => rfl) ?_
      refine R_getR (pc := 46) (a := 0) (b := 1) (show z_pt 142 46 = some (3, .getfield 17, [9, 0, 2039]) by decide +kernel) (by decide +kernel) ?_
      refine R_at (pc := 49) ?_
      refine R_getR (pc := 49) (a := 1) (b := 16) (show z_pt 142 49 = some (3, .getfield 260, [7, 3, 1179]) by decide +kernel) (by decide +kernel) ?_
      refine R_at (pc := 52) ?_
      refine R_pure (pc := 52) (pc' := 53) (st' := [.int i1, .ref 16]) (show z_pt 142 52 = some (3, .iload_n 1, []) by decide +kernel) rfl (fun _ _ _ => rfl) ?_
      refine R_pure (pc := 53) (pc' := 54) (st' := [.int i2, .int i1, .ref 16]) (show z_pt 142 53 = some (3, .iload_n 2, []) by decide +kernel) rfl (fun _ _ _ => rfl) ?_
      refine R_pure (pc := 54) (pc' := 55) (st' := [.ref 0, .int i2, .int i1, .ref 16]) (show z_pt 142 54 = some (3, .aload_n 0, []) by decide +kernel) rfl (fun _ _ _ => rfl) ?_
      refine R_getR (pc := 55) (a := 0) (b := 1) (show z_pt 142 55 = some (3, .getfield 17, [9, 0, 2039]) by decide +kernel) (by decide +kernel) ?_
      refine R_at (pc := 58) ?_
      refine R_getR (pc := 58) (a := 1) (b := 2) (show z_pt 142 58 = some (3, .getfield 23, [7, 0, 1173]) by decide +kernel) (by decide +kernel) ?_
      refine R_at (pc := 61) ?_
      obtain ⟨q7, e8, h⟩ := z_bs h
      refine R_call (pc := 61) (rr := []) (show z_pt 142 61 = some (3, .invokevirtual 374, [0, 17, 3, 5048, 5049, 5050, 1006, 5051]) by decide +kernel) rfl (show z_r2 17 = some (1, 5, true) by decide +kernel) rfl rfl (Or.inr ⟨_, _, rfl, (by decide +kernel)⟩) (pE_write_run  e8) (by omega) ?_
      refine R_at2 (pc := 64) (st := [.int q7.1]) ?_
      cases h
      exact R_retI (show z_pt 142 64 = some (3, .ireturn, []) by decide +kernel) (by decide +kernel)
    · rw [if_pos c6] at h
      refine R_pure (pc := 27) (pc' := 28) (st' := [.ref 0]) (show z_pt 142 27 = some (3, .aload_n 0, []) by decide +kernel) rfl (fun _ _ _ => rfl) ?_
      refine R_getR (pc := 28) (a := 0) (b := 1) (show z_pt 142 28 = some (3, .getfield 17, [9, 0, 2039]) by decide +kernel) (by decide +kernel) ?_
      refine R_at (pc := 31) ?_
      refine R_getR (pc := 31) (a := 1) (b := 16) (show z_pt 142 31 = some (3, .getfield 260, [7, 3, 1179]) by decide +kernel) (by decide +kernel) ?_
      refine R_at (pc := 34) ?_
      refine R_getI (pc := 34) (a := 16) (show z_pt 142 34 = some (3, .getfield 373, [1, 0, 1155]) by decide +kernel) (by decide +kernel) ?_
      refine R_at (pc := 37) ?_
      refine R_const (pc := 37) (pc' := 39) (v := 6) (show z_ptc 142 37 = some (39, 6) by decide +kernel) ?_
      refine R_icmlt (pc := 39) (t := 45) (show z_pt 142 39 = some (3, .if_icmp .lt 6, []) by decide +kernel) (by decide) (fun c9 => ?_) (fun c9 => ?_)
      · rw [if_pos c9] at h
        refine R_pure (pc := 45) (pc' := 46) (st' := [.ref 0]) (show z_pt 142 45 = some (3, .aload_n 0, []) by decide +kernel) rfl (fun _ _ _ => rfl) ?_
        refine R_getR (pc := 46) (a := 0) (b := 1) (show z_pt 142 46 = some (3, .getfield 17, [9, 0, 2039]) by decide +kernel) (by decide +kernel) ?_
        refine R_at (pc := 49) ?_
        refine R_getR (pc := 49) (a := 1) (b := 16) (show z_pt 142 49 = some (3, .getfield 260, [7, 3, 1179]) by decide +kernel) (by decide +kernel) ?_
        refine R_at (pc := 52) ?_
        refine R_pure (pc := 52) (pc' := 53) (st' := [.int i1, .ref 16]) (show z_pt 142 52 = some (3, .iload_n 1, []) by decide +kernel) rfl (fun _ _ _ => rfl) ?_
        refine R_pure (pc := 53) (pc' := 54) (st' := [.int i2, .int i1, .ref 16]) (show z_pt 142 53 = some (3, .iload_n 2, []) by decide +kernel) rfl (fun _ _ _ => rfl) ?_
        refine R_pure (pc := 54) (pc' := 55) (st' := [.ref 0, .int i2, .int i1, .ref 16]) (show z_pt 142 54 = some (3, .aload_n 0, []) by decide +kernel) rfl (fun _ _ _ => rfl) ?_
        refine R_getR (pc := 55) (a := 0) (b := 1) (show z_pt 142 55 = some (3, .getfield 17, [9, 0, 2039]) by decide +kernel) (by decide +kernel) ?_
        refine R_at (pc := 58) ?_
        refine R_getR (pc := 58) (a := 1) (b := 2) (show z_pt 142 58 = some (3, .getfield 23, [7, 0, 1173]) by decide +kernel) (by decide +kernel) ?_
        refine R_at (pc := 61) ?_
        obtain ⟨q10, e11, h⟩ := z_bs h
        refine R_call (pc := 61) (rr := []) (show z_pt 142 61 = some (3, .invokevirtual 374, [0, 17, 3, 5048, 5049, 5050, 1006, 5051]) by decide +kernel) rfl (show z_r2 17 = some (1, 5, true) by decide +kernel) rfl rfl (Or.inr ⟨_, _, rfl, (by decide +kernel)⟩) (pE_write_run  e11) (by omega) ?_
        refine R_at2 (pc := 64) (st := [.int q10.1]) ?_
        cases h
        exact R_retI (show z_pt 142 64 = some (3, .ireturn, []) by decide +kernel) (by decide +kernel)
      · rw [if_neg c9] at h
        refine R_const (pc := 42) (pc' := 44) (v := (-3)) (show z_ptc 142 42 = some (44, (-3)) by decide +kernel) ?_
        cases h
        exact R_retI (show z_pt 142 44 = some (3, .ireturn, []) by decide +kernel) (by decide +kernel)
  · rw [if_pos c3] at h
    refine R_const (pc := 8) (pc' := 10) (v := (-2)) (show z_ptc 142 8 = some (10, (-2)) by decide +kernel) ?_
    cases h
    exact R_retI (show z_pt 142 10 = some (3, .ireturn, []) by decide +kernel) (by decide +kernel)
def pG_catalogue  (μ : z_Mem) (i1 : Int32) (i2 : Int32) : Option ((Int32 ⊕ Nat) × z_Mem) := (pH_begin μ).bind fun q1 => (pG_tryEntry q1 i1 i2).bind fun q3 => (pG_settled q3.2 q3.1).bind fun q5 => (match q5.1 with | .inl x7 => some ((.inl x7), q5.2) | .inr E8 => some ((.inr E8), q5.2))
theorem pG_catalogue_run  {μ : z_Mem} {i1 : Int32} {i2 : Int32}  {r : ((Int32 ⊕ Nat) × z_Mem)} (h : pG_catalogue μ i1 i2 = some r) : Rn 7 115 0 [(0, .ref 0), (1, .int i1), (2, .int i2)] [] μ (z_oX r.1) r.2 := by
  unfold pG_catalogue at h
  refine R_pure (pc := 0) (pc' := 1) (st' := [.ref 0]) (show z_pt 115 0 = some (3, .aload_n 0, []) by decide +kernel) rfl (fun _ _ _ => rfl) ?_
  refine R_getR (pc := 1) (a := 0) (b := 57) (show z_pt 115 1 = some (3, .getfield 53, [9, 2, 2041]) by decide +kernel) (by decide +kernel) ?_
  refine R_at (pc := 4) ?_
  refine R_pure (pc := 4) (pc' := 5) (st' := [.ref 0, .ref 57]) (show z_pt 115 4 = some (3, .aload_n 0, []) by decide +kernel) rfl (fun _ _ _ => rfl) ?_
  refine R_getR (pc := 5) (a := 0) (b := 1) (show z_pt 115 5 = some (3, .getfield 17, [9, 0, 2039]) by decide +kernel) (by decide +kernel) ?_
  refine R_at (pc := 8) ?_
  obtain ⟨q1, e2, h⟩ := z_bs h
  refine R_call (pc := 8) (rr := []) (show z_pt 115 8 = some (3, .invokevirtual 71, [0, 49, 1, 2227, 2228, 2229, 1011, 2230]) by decide +kernel) rfl (show z_r2 49 = some (4, 3, true) by decide +kernel) rfl rfl (Or.inr ⟨_, _, rfl, (by decide +kernel)⟩) (pH_begin_run  e2) (by omega) ?_
  refine R_at2 (pc := 11) (st := []) ?_
  refine R_pure (pc := 11) (pc' := 12) (st' := [.ref 0]) (show z_pt 115 11 = some (3, .aload_n 0, []) by decide +kernel) rfl (fun _ _ _ => rfl) ?_
  refine R_pure (pc := 12) (pc' := 13) (st' := [.ref 0, .ref 0]) (show z_pt 115 12 = some (3, .aload_n 0, []) by decide +kernel) rfl (fun _ _ _ => rfl) ?_
  refine R_pure (pc := 13) (pc' := 14) (st' := [.int i1, .ref 0, .ref 0]) (show z_pt 115 13 = some (3, .iload_n 1, []) by decide +kernel) rfl (fun _ _ _ => rfl) ?_
  refine R_pure (pc := 14) (pc' := 15) (st' := [.int i2, .int i1, .ref 0, .ref 0]) (show z_pt 115 14 = some (3, .iload_n 2, []) by decide +kernel) rfl (fun _ _ _ => rfl) ?_
  obtain ⟨q3, e4, h⟩ := z_bs h
  refine R_call (pc := 15) (rr := [.ref 0]) (show z_pt 115 15 = some (3, .invokevirtual 249, [0, 142, 2, 5037, 5039, 19, 1001, 5040]) by decide +kernel) rfl (show z_r2 142 = some (9, 3, true) by decide +kernel) rfl rfl (Or.inr ⟨_, _, rfl, (by decide +kernel)⟩) (pG_tryEntry_run  e4) (by omega) ?_
  refine R_at2 (pc := 18) (st := [.int q3.1, .ref 0]) ?_
  obtain ⟨q5, e6, h⟩ := z_bs h
  have y9 := pG_settled_run  e6
  cases x7h : q5.1 with
  | inl x7 =>
    rw [x7h] at h y9
    dsimp only at h
    refine R_call (pc := 18) (rr := []) (show z_pt 115 18 = some (3, .invokevirtual 79, [0, 144, 1, 3003, 3005, 4, 1001, 3006]) by decide +kernel) rfl (show z_r2 144 = some (9, 2, true) by decide +kernel) rfl rfl (Or.inr ⟨_, _, rfl, (by decide +kernel)⟩) y9 (by omega) ?_
    refine R_at2 (pc := 21) (st := [.int x7]) ?_
    cases h
    exact R_retI (show z_pt 115 21 = some (3, .ireturn, []) by decide +kernel) (by decide +kernel)
  | inr E8 =>
    rw [x7h] at h y9
    cases h
    exact R_callX (pc := 18) (rr := []) (show z_pt 115 18 = some (3, .invokevirtual 79, [0, 144, 1, 3003, 3005, 4, 1001, 3006]) by decide +kernel) rfl (show z_r2 144 = some (9, 2, true) by decide +kernel) rfl rfl (Or.inr ⟨_, _, rfl, (by decide +kernel)⟩) y9 (by decide) (by decide +kernel) (by omega)
def pG_tryForgetting  (μ : z_Mem) (i1 : Int32) (i2 : Int32) : Option (Int32 × z_Mem) := (pG_isKey μ i1 i2).bind fun q1 => if q1 = 0 then some ((-2), μ) else (pE_placeOf μ i1 i2).bind fun q4 => if q4 = (-1) then some ((-4), μ) else (pE_removeAt μ q4).bind fun q7 => some (q7.1, q7.2)
theorem pG_tryForgetting_run  {μ : z_Mem} {i1 : Int32} {i2 : Int32}  {r : (Int32 × z_Mem)} (h : pG_tryForgetting μ i1 i2 = some r) : Rn 2 143 0 [(0, .ref 0), (1, .int i1), (2, .int i2)] [] μ (.inl (some (.int r.1))) r.2 := by
  unfold pG_tryForgetting at h
  refine R_pure (pc := 0) (pc' := 1) (st' := [.int i1]) (show z_pt 143 0 = some (4, .iload_n 1, []) by decide +kernel) rfl (fun _ _ _ => rfl) ?_
  refine R_pure (pc := 1) (pc' := 2) (st' := [.int i2, .int i1]) (show z_pt 143 1 = some (4, .iload_n 2, []) by decide +kernel) rfl (fun _ _ _ => rfl) ?_
  obtain ⟨q1, e2, h⟩ := z_bs h
  refine R_call (pc := 2) (rr := []) (show z_pt 143 2 = some (4, .invokestatic 369, [1, 155, 2, 5041, 5042, 0, 1001, 5043]) by decide +kernel) rfl (show z_r2 155 = some (9, 2, true) by decide +kernel) rfl rfl (Or.inl (by decide)) (pG_isKey_run  e2) (by omega) ?_
  refine R_at2 (pc := 5) (st := [.int q1]) ?_
  refine R_ifne (pc := 5) (t := 11) (show z_pt 143 5 = some (4, .ifCond .ne 6, []) by decide +kernel) (by decide) (fun c3 => ?_) (fun c3 => ?_)
  · rw [if_neg c3] at h
    refine R_pure (pc := 11) (pc' := 12) (st' := [.ref 0]) (show z_pt 143 11 = some (4, .aload_n 0, []) by decide +kernel) rfl (fun _ _ _ => rfl) ?_
    refine R_getR (pc := 12) (a := 0) (b := 1) (show z_pt 143 12 = some (4, .getfield 17, [9, 0, 2039]) by decide +kernel) (by decide +kernel) ?_
    refine R_at (pc := 15) ?_
    refine R_getR (pc := 15) (a := 1) (b := 16) (show z_pt 143 15 = some (4, .getfield 260, [7, 3, 1179]) by decide +kernel) (by decide +kernel) ?_
    refine R_at (pc := 18) ?_
    refine R_pure (pc := 18) (pc' := 19) (st' := [.int i1, .ref 16]) (show z_pt 143 18 = some (4, .iload_n 1, []) by decide +kernel) rfl (fun _ _ _ => rfl) ?_
    refine R_pure (pc := 19) (pc' := 20) (st' := [.int i2, .int i1, .ref 16]) (show z_pt 143 19 = some (4, .iload_n 2, []) by decide +kernel) rfl (fun _ _ _ => rfl) ?_
    obtain ⟨q4, e5, h⟩ := z_bs h
    refine R_call (pc := 20) (rr := []) (show z_pt 143 20 = some (4, .invokevirtual 264, [0, 16, 2, 5044, 5045, 5046, 1006, 5047]) by decide +kernel) rfl (show z_r2 16 = some (1, 4, true) by decide +kernel) rfl rfl (Or.inr ⟨_, _, rfl, (by decide +kernel)⟩) (pE_placeOf_run  e5) (by omega) ?_
    refine R_at2 (pc := 23) (st := [.int q4]) ?_
    refine R_pure (pc := 23) (pc' := 24) (ls' := [(0, .ref 0), (1, .int i1), (2, .int i2), (3, .int q4)]) (st' := []) (show z_pt 143 23 = some (4, .istore_n 3, []) by decide +kernel) rfl (fun _ _ _ => rfl) ?_
    refine R_pure (pc := 24) (pc' := 25) (st' := [.int q4]) (show z_pt 143 24 = some (4, .iload_n 3, []) by decide +kernel) rfl (fun _ _ _ => rfl) ?_
    refine R_const (pc := 25) (pc' := 26) (v := (-1)) (show z_ptc 143 25 = some (26, (-1)) by decide +kernel) ?_
    refine R_icmne (pc := 26) (t := 34) (show z_pt 143 26 = some (4, .if_icmp .ne 8, []) by decide +kernel) (by decide) (fun c6 => ?_) (fun c6 => ?_)
    · rw [if_neg c6] at h
      refine R_pure (pc := 34) (pc' := 35) (st' := [.ref 0]) (show z_pt 143 34 = some (4, .aload_n 0, []) by decide +kernel) rfl (fun _ _ _ => rfl) ?_
      refine R_getR (pc := 35) (a := 0) (b := 1) (show z_pt 143 35 = some (4, .getfield 17, [9, 0, 2039]) by decide +kernel) (by decide +kernel) ?_
      refine R_at (pc := 38) ?_
      refine R_getR (pc := 38) (a := 1) (b := 16) (show z_pt 143 38 = some (4, .getfield 260, [7, 3, 1179]) by decide +kernel) (by decide +kernel) ?_
      refine R_at (pc := 41) ?_
      refine R_pure (pc := 41) (pc' := 42) (st' := [.int q4, .ref 16]) (show z_pt 143 41 = some (4, .iload_n 3, []) by decide +kernel) rfl (fun _ _ _ => rfl) ?_
      obtain ⟨q7, e8, h⟩ := z_bs h
      refine R_call (pc := 42) (rr := []) (show z_pt 143 42 = some (4, .invokevirtual 378, [0, 18, 1, 5064, 5065, 5066, 1006, 5067]) by decide +kernel) rfl (show z_r2 18 = some (1, 2, true) by decide +kernel) rfl rfl (Or.inr ⟨_, _, rfl, (by decide +kernel)⟩) (pE_removeAt_run  e8) (by omega) ?_
      refine R_at2 (pc := 45) (st := [.int q7.1]) ?_
      cases h
      exact R_retI (show z_pt 143 45 = some (4, .ireturn, []) by decide +kernel) (by decide +kernel)
    · rw [if_pos c6] at h
      refine R_const (pc := 29) (pc' := 31) (v := (-4)) (show z_ptc 143 29 = some (31, (-4)) by decide +kernel) ?_
      refine R_pure (pc := 31) (pc' := 45) (show z_pt 143 31 = some (4, .goto 14, []) by decide +kernel) rfl (fun _ _ _ => rfl) ?_
      cases h
      exact R_retI (show z_pt 143 45 = some (4, .ireturn, []) by decide +kernel) (by decide +kernel)
  · rw [if_pos c3] at h
    refine R_const (pc := 8) (pc' := 10) (v := (-2)) (show z_ptc 143 8 = some (10, (-2)) by decide +kernel) ?_
    cases h
    exact R_retI (show z_pt 143 10 = some (4, .ireturn, []) by decide +kernel) (by decide +kernel)
def pG_forget  (μ : z_Mem) (i1 : Int32) (i2 : Int32) : Option ((Int32 ⊕ Nat) × z_Mem) := (pH_begin μ).bind fun q1 => (pG_tryForgetting q1 i1 i2).bind fun q3 => (pG_settled q3.2 q3.1).bind fun q5 => (match q5.1 with | .inl x7 => some ((.inl x7), q5.2) | .inr E8 => some ((.inr E8), q5.2))
theorem pG_forget_run  {μ : z_Mem} {i1 : Int32} {i2 : Int32}  {r : ((Int32 ⊕ Nat) × z_Mem)} (h : pG_forget μ i1 i2 = some r) : Rn 7 116 0 [(0, .ref 0), (1, .int i1), (2, .int i2)] [] μ (z_oX r.1) r.2 := by
  unfold pG_forget at h
  refine R_pure (pc := 0) (pc' := 1) (st' := [.ref 0]) (show z_pt 116 0 = some (3, .aload_n 0, []) by decide +kernel) rfl (fun _ _ _ => rfl) ?_
  refine R_getR (pc := 1) (a := 0) (b := 57) (show z_pt 116 1 = some (3, .getfield 53, [9, 2, 2041]) by decide +kernel) (by decide +kernel) ?_
  refine R_at (pc := 4) ?_
  refine R_pure (pc := 4) (pc' := 5) (st' := [.ref 0, .ref 57]) (show z_pt 116 4 = some (3, .aload_n 0, []) by decide +kernel) rfl (fun _ _ _ => rfl) ?_
  refine R_getR (pc := 5) (a := 0) (b := 1) (show z_pt 116 5 = some (3, .getfield 17, [9, 0, 2039]) by decide +kernel) (by decide +kernel) ?_
  refine R_at (pc := 8) ?_
  obtain ⟨q1, e2, h⟩ := z_bs h
  refine R_call (pc := 8) (rr := []) (show z_pt 116 8 = some (3, .invokevirtual 71, [0, 49, 1, 2227, 2228, 2229, 1011, 2230]) by decide +kernel) rfl (show z_r2 49 = some (4, 3, true) by decide +kernel) rfl rfl (Or.inr ⟨_, _, rfl, (by decide +kernel)⟩) (pH_begin_run  e2) (by omega) ?_
  refine R_at2 (pc := 11) (st := []) ?_
  refine R_pure (pc := 11) (pc' := 12) (st' := [.ref 0]) (show z_pt 116 11 = some (3, .aload_n 0, []) by decide +kernel) rfl (fun _ _ _ => rfl) ?_
  refine R_pure (pc := 12) (pc' := 13) (st' := [.ref 0, .ref 0]) (show z_pt 116 12 = some (3, .aload_n 0, []) by decide +kernel) rfl (fun _ _ _ => rfl) ?_
  refine R_pure (pc := 13) (pc' := 14) (st' := [.int i1, .ref 0, .ref 0]) (show z_pt 116 13 = some (3, .iload_n 1, []) by decide +kernel) rfl (fun _ _ _ => rfl) ?_
  refine R_pure (pc := 14) (pc' := 15) (st' := [.int i2, .int i1, .ref 0, .ref 0]) (show z_pt 116 14 = some (3, .iload_n 2, []) by decide +kernel) rfl (fun _ _ _ => rfl) ?_
  obtain ⟨q3, e4, h⟩ := z_bs h
  refine R_call (pc := 15) (rr := [.ref 0]) (show z_pt 116 15 = some (3, .invokevirtual 253, [0, 143, 2, 5060, 5062, 20, 1001, 5063]) by decide +kernel) rfl (show z_r2 143 = some (9, 4, true) by decide +kernel) rfl rfl (Or.inr ⟨_, _, rfl, (by decide +kernel)⟩) (pG_tryForgetting_run  e4) (by omega) ?_
  refine R_at2 (pc := 18) (st := [.int q3.1, .ref 0]) ?_
  obtain ⟨q5, e6, h⟩ := z_bs h
  have y9 := pG_settled_run  e6
  cases x7h : q5.1 with
  | inl x7 =>
    rw [x7h] at h y9
    dsimp only at h
    refine R_call (pc := 18) (rr := []) (show z_pt 116 18 = some (3, .invokevirtual 79, [0, 144, 1, 3003, 3005, 4, 1001, 3006]) by decide +kernel) rfl (show z_r2 144 = some (9, 2, true) by decide +kernel) rfl rfl (Or.inr ⟨_, _, rfl, (by decide +kernel)⟩) y9 (by omega) ?_
    refine R_at2 (pc := 21) (st := [.int x7]) ?_
    cases h
    exact R_retI (show z_pt 116 21 = some (3, .ireturn, []) by decide +kernel) (by decide +kernel)
  | inr E8 =>
    rw [x7h] at h y9
    cases h
    exact R_callX (pc := 18) (rr := []) (show z_pt 116 18 = some (3, .invokevirtual 79, [0, 144, 1, 3003, 3005, 4, 1001, 3006]) by decide +kernel) rfl (show z_r2 144 = some (9, 2, true) by decide +kernel) rfl rfl (Or.inr ⟨_, _, rfl, (by decide +kernel)⟩) y9 (by decide) (by decide +kernel) (by omega)
def pG_needKey  (μ : z_Mem) (i0 : Int32) (i1 : Int32) : Option (Option Nat) := (pG_isKey μ i0 i1).bind fun q1 => if q1 = 0 then some (some 1) else some none
theorem pG_needKey_run  {μ : z_Mem} {i0 : Int32} {i1 : Int32}  {r : (Option Nat)} (h : pG_needKey μ i0 i1 = some r) : Rn 6 153 0 [(0, .int i0), (1, .int i1)] [] μ (z_oU r) μ := by
  unfold pG_needKey at h
  refine R_pure (pc := 0) (pc' := 1) (st' := [.int i0]) (show z_pt 153 0 = some (2, .iload_n 0, []) by decide +kernel) rfl (fun _ _ _ => rfl) ?_
  refine R_pure (pc := 1) (pc' := 2) (st' := [.int i1, .int i0]) (show z_pt 153 1 = some (2, .iload_n 1, []) by decide +kernel) rfl (fun _ _ _ => rfl) ?_
  obtain ⟨q1, e2, h⟩ := z_bs h
  refine R_call (pc := 2) (rr := []) (show z_pt 153 2 = some (2, .invokestatic 369, [1, 155, 2, 5041, 5042, 0, 1001, 5043]) by decide +kernel) rfl (show z_r2 155 = some (9, 2, true) by decide +kernel) rfl rfl (Or.inl (by decide)) (pG_isKey_run  e2) (by omega) ?_
  refine R_at2 (pc := 5) (st := [.int q1]) ?_
  refine R_ifne (pc := 5) (t := 16) (show z_pt 153 5 = some (2, .ifCond .ne 11, []) by decide +kernel) (by decide) (fun c3 => ?_) (fun c3 => ?_)
  · rw [if_neg c3] at h
    cases h
    exact R_retV (show z_pt 153 16 = some (2, .return_, []) by decide +kernel) (by decide +kernel)
  · rw [if_pos c3] at h
    cases h
    exact R_thr (show z_thx 153 8 = some 1 by decide +kernel) (by omega)
def pG_isCatalogued  (μ : z_Mem) (i1 : Int32) (i2 : Int32) : Option (Int32 ⊕ Nat) := (pG_needKey μ i1 i2).bind fun q1 => (match q1 with | none => (pE_placeOf μ i1 i2).bind fun q5 => if q5 = (-1) then some (.inl 0) else some (.inl 1) | some E4 => some (.inr E4))
theorem pG_isCatalogued_run  {μ : z_Mem} {i1 : Int32} {i2 : Int32}  {r : (Int32 ⊕ Nat)} (h : pG_isCatalogued μ i1 i2 = some r) : Rn 7 117 0 [(0, .ref 0), (1, .int i1), (2, .int i2)] [] μ (z_oX r) μ := by
  unfold pG_isCatalogued at h
  refine R_pure (pc := 0) (pc' := 1) (st' := [.int i1]) (show z_pt 117 0 = some (3, .iload_n 1, []) by decide +kernel) rfl (fun _ _ _ => rfl) ?_
  refine R_pure (pc := 1) (pc' := 2) (st' := [.int i2, .int i1]) (show z_pt 117 1 = some (3, .iload_n 2, []) by decide +kernel) rfl (fun _ _ _ => rfl) ?_
  obtain ⟨q1, e2, h⟩ := z_bs h
  have y8 := pG_needKey_run  e2
  cases x3h : q1 with
  | none =>
    rw [x3h] at h y8
    dsimp only at h
    refine R_call (pc := 2) (rr := []) (show z_pt 117 2 = some (3, .invokestatic 256, [1, 153, 2, 5075, 5076, 0, 1001, 5077]) by decide +kernel) rfl (show z_r2 153 = some (9, 2, true) by decide +kernel) rfl rfl (Or.inl (by decide)) y8 (by omega) ?_
    refine R_at2 (pc := 5) (st := []) ?_
    refine R_pure (pc := 5) (pc' := 6) (st' := [.ref 0]) (show z_pt 117 5 = some (3, .aload_n 0, []) by decide +kernel) rfl (fun _ _ _ => rfl) ?_
    refine R_getR (pc := 6) (a := 0) (b := 1) (show z_pt 117 6 = some (3, .getfield 17, [9, 0, 2039]) by decide +kernel) (by decide +kernel) ?_
    refine R_at (pc := 9) ?_
    refine R_getR (pc := 9) (a := 1) (b := 16) (show z_pt 117 9 = some (3, .getfield 260, [7, 3, 1179]) by decide +kernel) (by decide +kernel) ?_
    refine R_at (pc := 12) ?_
    refine R_pure (pc := 12) (pc' := 13) (st' := [.int i1, .ref 16]) (show z_pt 117 12 = some (3, .iload_n 1, []) by decide +kernel) rfl (fun _ _ _ => rfl) ?_
    refine R_pure (pc := 13) (pc' := 14) (st' := [.int i2, .int i1, .ref 16]) (show z_pt 117 13 = some (3, .iload_n 2, []) by decide +kernel) rfl (fun _ _ _ => rfl) ?_
    obtain ⟨q5, e6, h⟩ := z_bs h
    refine R_call (pc := 14) (rr := []) (show z_pt 117 14 = some (3, .invokevirtual 264, [0, 16, 2, 5044, 5045, 5046, 1006, 5047]) by decide +kernel) rfl (show z_r2 16 = some (1, 4, true) by decide +kernel) rfl rfl (Or.inr ⟨_, _, rfl, (by decide +kernel)⟩) (pE_placeOf_run  e6) (by omega) ?_
    refine R_at2 (pc := 17) (st := [.int q5]) ?_
    refine R_const (pc := 17) (pc' := 18) (v := (-1)) (show z_ptc 117 17 = some (18, (-1)) by decide +kernel) ?_
    refine R_icmeq (pc := 18) (t := 25) (show z_pt 117 18 = some (3, .if_icmp .eq 7, []) by decide +kernel) (by decide) (fun c7 => ?_) (fun c7 => ?_)
    · rw [if_pos c7] at h
      refine R_const (pc := 25) (pc' := 26) (v := 0) (show z_ptc 117 25 = some (26, 0) by decide +kernel) ?_
      cases h
      exact R_retZ (show z_pt 117 26 = some (3, .ireturn, []) by decide +kernel) (t := .boolean) (by decide +kernel) (by decide)
    · rw [if_neg c7] at h
      refine R_const (pc := 21) (pc' := 22) (v := 1) (show z_ptc 117 21 = some (22, 1) by decide +kernel) ?_
      refine R_pure (pc := 22) (pc' := 26) (show z_pt 117 22 = some (3, .goto 4, []) by decide +kernel) rfl (fun _ _ _ => rfl) ?_
      cases h
      exact R_retZ (show z_pt 117 26 = some (3, .ireturn, []) by decide +kernel) (t := .boolean) (by decide +kernel) (by decide)
  | some E4 =>
    rw [x3h] at h y8
    cases h
    exact R_callX (pc := 2) (rr := []) (show z_pt 117 2 = some (3, .invokestatic 256, [1, 153, 2, 5075, 5076, 0, 1001, 5077]) by decide +kernel) rfl (show z_r2 153 = some (9, 2, true) by decide +kernel) rfl rfl (Or.inl (by decide)) y8 (by decide) (by decide +kernel) (by omega)
def pG_neededEntry  (μ : z_Mem) (i1 : Int32) (i2 : Int32) : Option (Int32 ⊕ Nat) := (pG_needKey μ i1 i2).bind fun q1 => (match q1 with | none => (pE_placeOf μ i1 i2).bind fun q5 => if q5 = (-1) then some (.inr 3) else some (.inl q5) | some E4 => some (.inr E4))
theorem pG_neededEntry_run  {μ : z_Mem} {i1 : Int32} {i2 : Int32}  {r : (Int32 ⊕ Nat)} (h : pG_neededEntry μ i1 i2 = some r) : Rn 7 154 0 [(0, .ref 0), (1, .int i1), (2, .int i2)] [] μ (z_oX r) μ := by
  unfold pG_neededEntry at h
  refine R_pure (pc := 0) (pc' := 1) (st' := [.int i1]) (show z_pt 154 0 = some (4, .iload_n 1, []) by decide +kernel) rfl (fun _ _ _ => rfl) ?_
  refine R_pure (pc := 1) (pc' := 2) (st' := [.int i2, .int i1]) (show z_pt 154 1 = some (4, .iload_n 2, []) by decide +kernel) rfl (fun _ _ _ => rfl) ?_
  obtain ⟨q1, e2, h⟩ := z_bs h
  have y8 := pG_needKey_run  e2
  cases x3h : q1 with
  | none =>
    rw [x3h] at h y8
    dsimp only at h
    refine R_call (pc := 2) (rr := []) (show z_pt 154 2 = some (4, .invokestatic 256, [1, 153, 2, 5075, 5076, 0, 1001, 5077]) by decide +kernel) rfl (show z_r2 153 = some (9, 2, true) by decide +kernel) rfl rfl (Or.inl (by decide)) y8 (by omega) ?_
    refine R_at2 (pc := 5) (st := []) ?_
    refine R_pure (pc := 5) (pc' := 6) (st' := [.ref 0]) (show z_pt 154 5 = some (4, .aload_n 0, []) by decide +kernel) rfl (fun _ _ _ => rfl) ?_
    refine R_getR (pc := 6) (a := 0) (b := 1) (show z_pt 154 6 = some (4, .getfield 17, [9, 0, 2039]) by decide +kernel) (by decide +kernel) ?_
    refine R_at (pc := 9) ?_
    refine R_getR (pc := 9) (a := 1) (b := 16) (show z_pt 154 9 = some (4, .getfield 260, [7, 3, 1179]) by decide +kernel) (by decide +kernel) ?_
    refine R_at (pc := 12) ?_
    refine R_pure (pc := 12) (pc' := 13) (st' := [.int i1, .ref 16]) (show z_pt 154 12 = some (4, .iload_n 1, []) by decide +kernel) rfl (fun _ _ _ => rfl) ?_
    refine R_pure (pc := 13) (pc' := 14) (st' := [.int i2, .int i1, .ref 16]) (show z_pt 154 13 = some (4, .iload_n 2, []) by decide +kernel) rfl (fun _ _ _ => rfl) ?_
    obtain ⟨q5, e6, h⟩ := z_bs h
    refine R_call (pc := 14) (rr := []) (show z_pt 154 14 = some (4, .invokevirtual 264, [0, 16, 2, 5044, 5045, 5046, 1006, 5047]) by decide +kernel) rfl (show z_r2 16 = some (1, 4, true) by decide +kernel) rfl rfl (Or.inr ⟨_, _, rfl, (by decide +kernel)⟩) (pE_placeOf_run  e6) (by omega) ?_
    refine R_at2 (pc := 17) (st := [.int q5]) ?_
    refine R_pure (pc := 17) (pc' := 18) (ls' := [(0, .ref 0), (1, .int i1), (2, .int i2), (3, .int q5)]) (st' := []) (show z_pt 154 17 = some (4, .istore_n 3, []) by decide +kernel) rfl (fun _ _ _ => rfl) ?_
    refine R_pure (pc := 18) (pc' := 19) (st' := [.int q5]) (show z_pt 154 18 = some (4, .iload_n 3, []) by decide +kernel) rfl (fun _ _ _ => rfl) ?_
    refine R_const (pc := 19) (pc' := 20) (v := (-1)) (show z_ptc 154 19 = some (20, (-1)) by decide +kernel) ?_
    refine R_icmne (pc := 20) (t := 31) (show z_pt 154 20 = some (4, .if_icmp .ne 11, []) by decide +kernel) (by decide) (fun c7 => ?_) (fun c7 => ?_)
    · rw [if_neg c7] at h
      refine R_pure (pc := 31) (pc' := 32) (st' := [.int q5]) (show z_pt 154 31 = some (4, .iload_n 3, []) by decide +kernel) rfl (fun _ _ _ => rfl) ?_
      cases h
      exact R_retI (show z_pt 154 32 = some (4, .ireturn, []) by decide +kernel) (by decide +kernel)
    · rw [if_pos c7] at h
      cases h
      exact R_thr (show z_thx 154 23 = some 3 by decide +kernel) (by omega)
  | some E4 =>
    rw [x3h] at h y8
    cases h
    exact R_callX (pc := 2) (rr := []) (show z_pt 154 2 = some (4, .invokestatic 256, [1, 153, 2, 5075, 5076, 0, 1001, 5077]) by decide +kernel) rfl (show z_r2 153 = some (9, 2, true) by decide +kernel) rfl rfl (Or.inl (by decide)) y8 (by decide) (by decide +kernel) (by omega)
def pG_entryPosition  (μ : z_Mem) (i1 : Int32) (i2 : Int32) (i3 : Int32) : Option (Int32 ⊕ Nat) := (pG_neededEntry μ i1 i2).bind fun q1 => (match q1 with | .inl x3 => if i3 < 0 then some (.inr 3) else (z_rd μ 19 6 x3).bind fun v6 => if i3 < v6 then (pE_positionIn μ x3 i3).bind fun q9 => some (.inl q9) else some (.inr 3) | .inr E4 => some (.inr E4))
theorem pG_entryPosition_run  {μ : z_Mem} {i1 : Int32} {i2 : Int32} {i3 : Int32}  {r : (Int32 ⊕ Nat)} (h : pG_entryPosition μ i1 i2 i3 = some r) : Rn 8 118 0 [(0, .ref 0), (1, .int i1), (2, .int i2), (3, .int i3)] [] μ (z_oX r) μ := by
  unfold pG_entryPosition at h
  refine R_pure (pc := 0) (pc' := 1) (st' := [.ref 0]) (show z_pt 118 0 = some (5, .aload_n 0, []) by decide +kernel) rfl (fun _ _ _ => rfl) ?_
  refine R_pure (pc := 1) (pc' := 2) (st' := [.int i1, .ref 0]) (show z_pt 118 1 = some (5, .iload_n 1, []) by decide +kernel) rfl (fun _ _ _ => rfl) ?_
  refine R_pure (pc := 2) (pc' := 3) (st' := [.int i2, .int i1, .ref 0]) (show z_pt 118 2 = some (5, .iload_n 2, []) by decide +kernel) rfl (fun _ _ _ => rfl) ?_
  obtain ⟨q1, e2, h⟩ := z_bs h
  have y11 := pG_neededEntry_run  e2
  cases x3h : q1 with
  | inl x3 =>
    rw [x3h] at h y11
    dsimp only at h
    refine R_call (pc := 3) (rr := []) (show z_pt 118 3 = some (5, .invokevirtual 269, [0, 154, 2, 5085, 5087, 21, 1001, 5088]) by decide +kernel) rfl (show z_r2 154 = some (9, 4, true) by decide +kernel) rfl rfl (Or.inr ⟨_, _, rfl, (by decide +kernel)⟩) y11 (by omega) ?_
    refine R_at2 (pc := 6) (st := [.int x3]) ?_
    refine R_pure (pc := 6) (pc' := 8) (ls' := [(0, .ref 0), (1, .int i1), (2, .int i2), (3, .int i3), (4, .int x3)]) (st' := []) (show z_pt 118 6 = some (5, .istore 4, []) by decide +kernel) rfl (fun _ _ _ => rfl) ?_
    refine R_pure (pc := 8) (pc' := 9) (st' := [.int i3]) (show z_pt 118 8 = some (5, .iload_n 3, []) by decide +kernel) rfl (fun _ _ _ => rfl) ?_
    refine R_iflt (pc := 9) (t := 29) (show z_pt 118 9 = some (5, .ifCond .lt 20, []) by decide +kernel) (by decide) (fun c5 => ?_) (fun c5 => ?_)
    · rw [if_pos c5] at h
      cases h
      exact R_thr (show z_thx 118 29 = some 3 by decide +kernel) (by omega)
    · rw [if_neg c5] at h
      refine R_pure (pc := 12) (pc' := 13) (st' := [.int i3]) (show z_pt 118 12 = some (5, .iload_n 3, []) by decide +kernel) rfl (fun _ _ _ => rfl) ?_
      refine R_pure (pc := 13) (pc' := 14) (st' := [.ref 0, .int i3]) (show z_pt 118 13 = some (5, .aload_n 0, []) by decide +kernel) rfl (fun _ _ _ => rfl) ?_
      refine R_getR (pc := 14) (a := 0) (b := 1) (show z_pt 118 14 = some (5, .getfield 17, [9, 0, 2039]) by decide +kernel) (by decide +kernel) ?_
      refine R_at (pc := 17) ?_
      refine R_getR (pc := 17) (a := 1) (b := 16) (show z_pt 118 17 = some (5, .getfield 260, [7, 3, 1179]) by decide +kernel) (by decide +kernel) ?_
      refine R_at (pc := 20) ?_
      refine R_getR (pc := 20) (a := 16) (b := 19) (show z_pt 118 20 = some (5, .getfield 272, [1, 3, 1159]) by decide +kernel) (by decide +kernel) ?_
      refine R_at (pc := 23) ?_
      refine R_pure (pc := 23) (pc' := 25) (st' := [.int x3, .ref 19, .int i3]) (show z_pt 118 23 = some (5, .iload 4, []) by decide +kernel) rfl (fun _ _ _ => rfl) ?_
      obtain ⟨v6, e7, h⟩ := z_bs h
      refine R_ialdR (pc := 25) (a := 19) (n := 6) (show z_pt 118 25 = some (5, .iaload, []) by decide +kernel) (show z_ar 19 0 6 = true by decide +kernel) e7 ?_
      refine R_at (pc := 26) ?_
      refine R_icmlt (pc := 26) (t := 37) (show z_pt 118 26 = some (5, .if_icmp .lt 11, []) by decide +kernel) (by decide) (fun c8 => ?_) (fun c8 => ?_)
      · rw [if_pos c8] at h
        refine R_pure (pc := 37) (pc' := 38) (st' := [.ref 0]) (show z_pt 118 37 = some (5, .aload_n 0, []) by decide +kernel) rfl (fun _ _ _ => rfl) ?_
        refine R_getR (pc := 38) (a := 0) (b := 1) (show z_pt 118 38 = some (5, .getfield 17, [9, 0, 2039]) by decide +kernel) (by decide +kernel) ?_
        refine R_at (pc := 41) ?_
        refine R_getR (pc := 41) (a := 1) (b := 16) (show z_pt 118 41 = some (5, .getfield 260, [7, 3, 1179]) by decide +kernel) (by decide +kernel) ?_
        refine R_at (pc := 44) ?_
        refine R_pure (pc := 44) (pc' := 46) (st' := [.int x3, .ref 16]) (show z_pt 118 44 = some (5, .iload 4, []) by decide +kernel) rfl (fun _ _ _ => rfl) ?_
        refine R_pure (pc := 46) (pc' := 47) (st' := [.int i3, .int x3, .ref 16]) (show z_pt 118 46 = some (5, .iload_n 3, []) by decide +kernel) rfl (fun _ _ _ => rfl) ?_
        obtain ⟨q9, e10, h⟩ := z_bs h
        refine R_call (pc := 47) (rr := []) (show z_pt 118 47 = some (5, .invokevirtual 274, [0, 19, 2, 5089, 5090, 5091, 1006, 5092]) by decide +kernel) rfl (show z_r2 19 = some (1, 3, true) by decide +kernel) rfl rfl (Or.inr ⟨_, _, rfl, (by decide +kernel)⟩) (pE_positionIn_run  e10) (by omega) ?_
        refine R_at2 (pc := 50) (st := [.int q9]) ?_
        cases h
        exact R_retI (show z_pt 118 50 = some (5, .ireturn, []) by decide +kernel) (by decide +kernel)
      · rw [if_neg c8] at h
        cases h
        exact R_thr (show z_thx 118 29 = some 3 by decide +kernel) (by omega)
  | inr E4 =>
    rw [x3h] at h y11
    cases h
    exact R_callX (pc := 3) (rr := []) (show z_pt 118 3 = some (5, .invokevirtual 269, [0, 154, 2, 5085, 5087, 21, 1001, 5088]) by decide +kernel) rfl (show z_r2 154 = some (9, 4, true) by decide +kernel) rfl rfl (Or.inr ⟨_, _, rfl, (by decide +kernel)⟩) y11 (by decide) (by decide +kernel) (by omega)
def pG_changedSince  (μ : z_Mem) (i1 : Int32) (i2 : Int32) : Option (Int32 ⊕ Nat) := (pG_neededEntry μ i1 i2).bind fun q1 => (match q1 with | .inl x3 => (pE_differencesTo μ x3).bind fun q5 => some (.inl q5) | .inr E4 => some (.inr E4))
theorem pG_changedSince_run  {μ : z_Mem} {i1 : Int32} {i2 : Int32}  {r : (Int32 ⊕ Nat)} (h : pG_changedSince μ i1 i2 = some r) : Rn 8 119 0 [(0, .ref 0), (1, .int i1), (2, .int i2)] [] μ (z_oX r) μ := by
  unfold pG_changedSince at h
  refine R_pure (pc := 0) (pc' := 1) (st' := [.ref 0]) (show z_pt 119 0 = some (3, .aload_n 0, []) by decide +kernel) rfl (fun _ _ _ => rfl) ?_
  refine R_getR (pc := 1) (a := 0) (b := 1) (show z_pt 119 1 = some (3, .getfield 17, [9, 0, 2039]) by decide +kernel) (by decide +kernel) ?_
  refine R_at (pc := 4) ?_
  refine R_getR (pc := 4) (a := 1) (b := 16) (show z_pt 119 4 = some (3, .getfield 260, [7, 3, 1179]) by decide +kernel) (by decide +kernel) ?_
  refine R_at (pc := 7) ?_
  refine R_pure (pc := 7) (pc' := 8) (st' := [.ref 0, .ref 16]) (show z_pt 119 7 = some (3, .aload_n 0, []) by decide +kernel) rfl (fun _ _ _ => rfl) ?_
  refine R_getR (pc := 8) (a := 0) (b := 1) (show z_pt 119 8 = some (3, .getfield 17, [9, 0, 2039]) by decide +kernel) (by decide +kernel) ?_
  refine R_at (pc := 11) ?_
  refine R_getR (pc := 11) (a := 1) (b := 2) (show z_pt 119 11 = some (3, .getfield 23, [7, 0, 1173]) by decide +kernel) (by decide +kernel) ?_
  refine R_at (pc := 14) ?_
  refine R_pure (pc := 14) (pc' := 15) (st' := [.ref 0, .ref 2, .ref 16]) (show z_pt 119 14 = some (3, .aload_n 0, []) by decide +kernel) rfl (fun _ _ _ => rfl) ?_
  refine R_pure (pc := 15) (pc' := 16) (st' := [.int i1, .ref 0, .ref 2, .ref 16]) (show z_pt 119 15 = some (3, .iload_n 1, []) by decide +kernel) rfl (fun _ _ _ => rfl) ?_
  refine R_pure (pc := 16) (pc' := 17) (st' := [.int i2, .int i1, .ref 0, .ref 2, .ref 16]) (show z_pt 119 16 = some (3, .iload_n 2, []) by decide +kernel) rfl (fun _ _ _ => rfl) ?_
  obtain ⟨q1, e2, h⟩ := z_bs h
  have y7 := pG_neededEntry_run  e2
  cases x3h : q1 with
  | inl x3 =>
    rw [x3h] at h y7
    dsimp only at h
    refine R_call (pc := 17) (rr := [.ref 2, .ref 16]) (show z_pt 119 17 = some (3, .invokevirtual 269, [0, 154, 2, 5085, 5087, 21, 1001, 5088]) by decide +kernel) rfl (show z_r2 154 = some (9, 4, true) by decide +kernel) rfl rfl (Or.inr ⟨_, _, rfl, (by decide +kernel)⟩) y7 (by omega) ?_
    refine R_at2 (pc := 20) (st := [.int x3, .ref 2, .ref 16]) ?_
    obtain ⟨q5, e6, h⟩ := z_bs h
    refine R_call (pc := 20) (rr := []) (show z_pt 119 20 = some (3, .invokevirtual 277, [0, 20, 2, 5100, 5101, 5102, 1006, 5103]) by decide +kernel) rfl (show z_r2 20 = some (1, 5, true) by decide +kernel) rfl rfl (Or.inr ⟨_, _, rfl, (by decide +kernel)⟩) (pE_differencesTo_run  e6) (by omega) ?_
    refine R_at2 (pc := 23) (st := [.int q5]) ?_
    cases h
    exact R_retI (show z_pt 119 23 = some (3, .ireturn, []) by decide +kernel) (by decide +kernel)
  | inr E4 =>
    rw [x3h] at h y7
    cases h
    exact R_callX (pc := 17) (rr := [.ref 2, .ref 16]) (show z_pt 119 17 = some (3, .invokevirtual 269, [0, 154, 2, 5085, 5087, 21, 1001, 5088]) by decide +kernel) rfl (show z_r2 154 = some (9, 4, true) by decide +kernel) rfl rfl (Or.inr ⟨_, _, rfl, (by decide +kernel)⟩) y7 (by decide) (by decide +kernel) (by omega)
end ZP4
