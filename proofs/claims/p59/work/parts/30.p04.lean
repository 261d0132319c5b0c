section ZP4
def pG_teethToFollow  (μ : z_Mem) (i1 : Int32) (i2 : Int32) : Option (Int32 ⊕ Nat) := (pG_needWheel μ i1).bind fun q1 => (match q1 with | none => (pG_neededStar μ i2).bind fun q5 => (match q5 with | .inl x7 => (z_rd μ 14 8 x7).bind fun v9 => (pA_bestTurn μ i1 v9).bind fun q11 => some (.inl q11) | .inr E8 => some (.inr E8)) | some E4 => some (.inr E4))
theorem pG_teethToFollow_run  {μ : z_Mem} {i1 : Int32} {i2 : Int32}  {r : (Int32 ⊕ Nat)} (h : pG_teethToFollow μ i1 i2 = some r) : Rn 7 100 0 [(0, .ref 0), (1, .int i1), (2, .int i2)] [] μ (z_oX r) μ := by
  unfold pG_teethToFollow at h
  refine R_pure (pc := 0) (pc' := 1) (st' := [.ref 0]) (show z_pt 100 0 = some (3, .aload_n 0, []) by decide +kernel) rfl (fun _ _ _ => rfl) ?_
  refine R_pure (pc := 1) (pc' := 2) (st' := [.int i1, .ref 0]) (show z_pt 100 1 = some (3, .iload_n 1, []) by decide +kernel) rfl (fun _ _ _ => rfl) ?_
  obtain ⟨q1, e2, h⟩ := z_bs h
  have y14 := pG_needWheel_run  e2
  cases x3h : q1 with
  | none =>
    rw [x3h] at h y14
    dsimp only at h
    refine R_call (pc := 2) (rr := []) (show z_pt 100 2 = some (3, .invokevirtual 170, [0, 140, 1, 3181, 3183, 12, 1001, 3184]) by decide +kernel) rfl (show z_r2 140 = some (9, 2, true) by decide +kernel) rfl rfl (Or.inr ⟨_, _, rfl, (by decide +kernel)⟩) y14 (by omega) ?_
    refine R_at2 (pc := 5) (st := []) ?_
    refine R_pure (pc := 5) (pc' := 6) (st' := [.ref 0]) (show z_pt 100 5 = some (3, .aload_n 0, []) by decide +kernel) rfl (fun _ _ _ => rfl) ?_
    refine R_getR (pc := 6) (a := 0) (b := 1) (show z_pt 100 6 = some (3, .getfield 17, [9, 0, 2037]) by decide +kernel) (by decide +kernel) ?_
    refine R_at (pc := 9) ?_
    refine R_pure (pc := 9) (pc' := 10) (st' := [.int i1, .ref 1]) (show z_pt 100 9 = some (3, .iload_n 1, []) by decide +kernel) rfl (fun _ _ _ => rfl) ?_
    refine R_pure (pc := 10) (pc' := 11) (st' := [.ref 0, .int i1, .ref 1]) (show z_pt 100 10 = some (3, .aload_n 0, []) by decide +kernel) rfl (fun _ _ _ => rfl) ?_
    refine R_getR (pc := 11) (a := 0) (b := 1) (show z_pt 100 11 = some (3, .getfield 17, [9, 0, 2037]) by decide +kernel) (by decide +kernel) ?_
    refine R_at (pc := 14) ?_
    refine R_getR (pc := 14) (a := 1) (b := 12) (show z_pt 100 14 = some (3, .getfield 185, [7, 2, 1176]) by decide +kernel) (by decide +kernel) ?_
    refine R_at (pc := 17) ?_
    refine R_getR (pc := 17) (a := 12) (b := 14) (show z_pt 100 17 = some (3, .getfield 189, [6, 4, 1131]) by decide +kernel) (by decide +kernel) ?_
    refine R_at (pc := 20) ?_
    refine R_pure (pc := 20) (pc' := 21) (st' := [.ref 0, .ref 14, .int i1, .ref 1]) (show z_pt 100 20 = some (3, .aload_n 0, []) by decide +kernel) rfl (fun _ _ _ => rfl) ?_
    refine R_pure (pc := 21) (pc' := 22) (st' := [.int i2, .ref 0, .ref 14, .int i1, .ref 1]) (show z_pt 100 21 = some (3, .iload_n 2, []) by decide +kernel) rfl (fun _ _ _ => rfl) ?_
    obtain ⟨q5, e6, h⟩ := z_bs h
    have y13 := pG_neededStar_run  e6
    cases x7h : q5 with
    | inl x7 =>
      rw [x7h] at h y13
      dsimp only at h
      refine R_call (pc := 22) (rr := [.ref 14, .int i1, .ref 1]) (show z_pt 100 22 = some (3, .invokevirtual 194, [0, 143, 1, 3200, 3202, 13, 1001, 3203]) by decide +kernel) rfl (show z_r2 143 = some (9, 3, true) by decide +kernel) rfl rfl (Or.inr ⟨_, _, rfl, (by decide +kernel)⟩) y13 (by omega) ?_
      refine R_at2 (pc := 25) (st := [.int x7, .ref 14, .int i1, .ref 1]) ?_
      obtain ⟨v9, e10, h⟩ := z_bs h
      refine R_ialdR (pc := 25) (a := 14) (n := 8) (show z_pt 100 25 = some (3, .iaload, []) by decide +kernel) (show z_ar 14 0 8 = true by decide +kernel) e10 ?_
      refine R_at (pc := 26) ?_
      obtain ⟨q11, e12, h⟩ := z_bs h
      refine R_call (pc := 26) (rr := []) (show z_pt 100 26 = some (3, .invokevirtual 203, [0, 68, 2, 3223, 3224, 3225, 1002, 3226]) by decide +kernel) rfl (show z_r2 68 = some (7, 8, true) by decide +kernel) rfl rfl (Or.inr ⟨_, _, rfl, (by decide +kernel)⟩) (pA_bestTurn_run  e12) (by omega) ?_
      refine R_at2 (pc := 29) (st := [.int q11]) ?_
      cases h
      exact R_retI (show z_pt 100 29 = some (3, .ireturn, []) by decide +kernel) (by decide +kernel)
    | inr E8 =>
      rw [x7h] at h y13
      cases h
      exact R_callX (pc := 22) (rr := [.ref 14, .int i1, .ref 1]) (show z_pt 100 22 = some (3, .invokevirtual 194, [0, 143, 1, 3200, 3202, 13, 1001, 3203]) by decide +kernel) rfl (show z_r2 143 = some (9, 3, true) by decide +kernel) rfl rfl (Or.inr ⟨_, _, rfl, (by decide +kernel)⟩) y13 (by decide) (by decide +kernel) (by omega)
  | some E4 =>
    rw [x3h] at h y14
    cases h
    exact R_callX (pc := 2) (rr := []) (show z_pt 100 2 = some (3, .invokevirtual 170, [0, 140, 1, 3181, 3183, 12, 1001, 3184]) by decide +kernel) rfl (show z_r2 140 = some (9, 2, true) by decide +kernel) rfl rfl (Or.inr ⟨_, _, rfl, (by decide +kernel)⟩) y14 (by decide) (by decide +kernel) (by omega)
def pG_tryFollow  (μ : z_Mem) (i1 : Int32) (i2 : Int32) : Option (Int32 × z_Mem) := (pQ_hasWheel μ i1).bind fun q1 => if q1 = 0 then some ((-1), μ) else (pY_placeOf μ i2).bind fun q4 => if q4 = (-1) then some ((-4), μ) else (z_rd μ 14 8 q4).bind fun v7 => (pA_bestTurn μ i1 v7).bind fun q9 => if q9 ≤ 0 then (pA_leastDistance μ i1 v7 0).bind fun q12 => some (q12, μ) else (z_rd μ 10 4 i1).bind fun v14 => (pT_turnGear 2 μ v14 q9).bind fun q16 => (pA_leastDistance q16.2 i1 v7 0).bind fun q18 => some (q18, q16.2)
theorem pG_tryFollow_run  {μ : z_Mem} {i1 : Int32} {i2 : Int32}  {r : (Int32 × z_Mem)} (h : pG_tryFollow μ i1 i2 = some r) : Rn 16 130 0 [(0, .ref 0), (1, .int i1), (2, .int i2)] [] μ (.inl (some (.int r.1))) r.2 := by
  unfold pG_tryFollow at h
  refine R_pure (pc := 0) (pc' := 1) (st' := [.ref 0]) (show z_pt 130 0 = some (6, .aload_n 0, []) by decide +kernel) rfl (fun _ _ _ => rfl) ?_
  refine R_getR (pc := 1) (a := 0) (b := 1) (show z_pt 130 1 = some (6, .getfield 17, [9, 0, 2037]) by decide +kernel) (by decide +kernel) ?_
  refine R_at (pc := 4) ?_
  refine R_getR (pc := 4) (a := 1) (b := 9) (show z_pt 130 4 = some (6, .getfield 161, [7, 1, 1174]) by decide +kernel) (by decide +kernel) ?_
  refine R_at (pc := 7) ?_
  refine R_pure (pc := 7) (pc' := 8) (st' := [.int i1, .ref 9]) (show z_pt 130 7 = some (6, .iload_n 1, []) by decide +kernel) rfl (fun _ _ _ => rfl) ?_
  obtain ⟨q1, e2, h⟩ := z_bs h
  refine R_call (pc := 8) (rr := []) (show z_pt 130 8 = some (6, .invokevirtual 357, [0, 72, 1, 3185, 3186, 3187, 1004, 3188]) by decide +kernel) rfl (show z_r2 72 = some (8, 2, true) by decide +kernel) rfl rfl (Or.inr ⟨_, _, rfl, (by decide +kernel)⟩) (pQ_hasWheel_run  e2) (by omega) ?_
  refine R_at2 (pc := 11) (st := [.int q1]) ?_
  refine R_ifne (pc := 11) (t := 16) (show z_pt 130 11 = some (6, .ifCond .ne 5, []) by decide +kernel) (by decide) (fun c3 => ?_) (fun c3 => ?_)
  · rw [if_neg c3] at h
    refine R_pure (pc := 16) (pc' := 17) (st' := [.ref 0]) (show z_pt 130 16 = some (6, .aload_n 0, []) by decide +kernel) rfl (fun _ _ _ => rfl) ?_
    refine R_getR (pc := 17) (a := 0) (b := 1) (show z_pt 130 17 = some (6, .getfield 17, [9, 0, 2037]) by decide +kernel) (by decide +kernel) ?_
    refine R_at (pc := 20) ?_
    refine R_getR (pc := 20) (a := 1) (b := 12) (show z_pt 130 20 = some (6, .getfield 185, [7, 2, 1176]) by decide +kernel) (by decide +kernel) ?_
    refine R_at (pc := 23) ?_
    refine R_pure (pc := 23) (pc' := 24) (st' := [.int i2, .ref 12]) (show z_pt 130 23 = some (6, .iload_n 2, []) by decide +kernel) rfl (fun _ _ _ => rfl) ?_
    obtain ⟨q4, e5, h⟩ := z_bs h
    refine R_call (pc := 24) (rr := []) (show z_pt 130 24 = some (6, .invokevirtual 360, [0, 58, 1, 3204, 3205, 3206, 1005, 3207]) by decide +kernel) rfl (show z_r2 58 = some (6, 3, true) by decide +kernel) rfl rfl (Or.inr ⟨_, _, rfl, (by decide +kernel)⟩) (pY_placeOf_run  e5) (by omega) ?_
    refine R_at2 (pc := 27) (st := [.int q4]) ?_
    refine R_pure (pc := 27) (pc' := 28) (ls' := [(0, .ref 0), (1, .int i1), (2, .int i2), (3, .int q4)]) (st' := []) (show z_pt 130 27 = some (6, .istore_n 3, []) by decide +kernel) rfl (fun _ _ _ => rfl) ?_
    refine R_pure (pc := 28) (pc' := 29) (st' := [.int q4]) (show z_pt 130 28 = some (6, .iload_n 3, []) by decide +kernel) rfl (fun _ _ _ => rfl) ?_
    refine R_const (pc := 29) (pc' := 30) (v := (-1)) (show z_ptc 130 29 = some (30, (-1)) by decide +kernel) ?_
    refine R_icmne (pc := 30) (t := 36) (show z_pt 130 30 = some (6, .if_icmp .ne 6, []) by decide +kernel) (by decide) (fun c6 => ?_) (fun c6 => ?_)
    · rw [if_neg c6] at h
      refine R_pure (pc := 36) (pc' := 37) (st' := [.ref 0]) (show z_pt 130 36 = some (6, .aload_n 0, []) by decide +kernel) rfl (fun _ _ _ => rfl) ?_
      refine R_getR (pc := 37) (a := 0) (b := 1) (show z_pt 130 37 = some (6, .getfield 17, [9, 0, 2037]) by decide +kernel) (by decide +kernel) ?_
      refine R_at (pc := 40) ?_
      refine R_getR (pc := 40) (a := 1) (b := 12) (show z_pt 130 40 = some (6, .getfield 185, [7, 2, 1176]) by decide +kernel) (by decide +kernel) ?_
      refine R_at (pc := 43) ?_
      refine R_getR (pc := 43) (a := 12) (b := 14) (show z_pt 130 43 = some (6, .getfield 189, [6, 4, 1131]) by decide +kernel) (by decide +kernel) ?_
      refine R_at (pc := 46) ?_
      refine R_pure (pc := 46) (pc' := 47) (st' := [.int q4, .ref 14]) (show z_pt 130 46 = some (6, .iload_n 3, []) by decide +kernel) rfl (fun _ _ _ => rfl) ?_
      obtain ⟨v7, e8, h⟩ := z_bs h
      refine R_ialdR (pc := 47) (a := 14) (n := 8) (show z_pt 130 47 = some (6, .iaload, []) by decide +kernel) (show z_ar 14 0 8 = true by decide +kernel) e8 ?_
      refine R_at (pc := 48) ?_
      refine R_pure (pc := 48) (pc' := 50) (ls' := [(0, .ref 0), (1, .int i1), (2, .int i2), (3, .int q4), (4, .int v7)]) (st' := []) (show z_pt 130 48 = some (6, .istore 4, []) by decide +kernel) rfl (fun _ _ _ => rfl) ?_
      refine R_pure (pc := 50) (pc' := 51) (st' := [.ref 0]) (show z_pt 130 50 = some (6, .aload_n 0, []) by decide +kernel) rfl (fun _ _ _ => rfl) ?_
      refine R_getR (pc := 51) (a := 0) (b := 1) (show z_pt 130 51 = some (6, .getfield 17, [9, 0, 2037]) by decide +kernel) (by decide +kernel) ?_
      refine R_at (pc := 54) ?_
      refine R_pure (pc := 54) (pc' := 55) (st' := [.int i1, .ref 1]) (show z_pt 130 54 = some (6, .iload_n 1, []) by decide +kernel) rfl (fun _ _ _ => rfl) ?_
      refine R_pure (pc := 55) (pc' := 57) (st' := [.int v7, .int i1, .ref 1]) (show z_pt 130 55 = some (6, .iload 4, []) by decide +kernel) rfl (fun _ _ _ => rfl) ?_
      obtain ⟨q9, e10, h⟩ := z_bs h
      refine R_call (pc := 57) (rr := []) (show z_pt 130 57 = some (6, .invokevirtual 203, [0, 68, 2, 3223, 3224, 3225, 1002, 3226]) by decide +kernel) rfl (show z_r2 68 = some (7, 8, true) by decide +kernel) rfl rfl (Or.inr ⟨_, _, rfl, (by decide +kernel)⟩) (pA_bestTurn_run  e10) (by omega) ?_
      refine R_at2 (pc := 60) (st := [.int q9]) ?_
      refine R_pure (pc := 60) (pc' := 62) (ls' := [(0, .ref 0), (1, .int i1), (2, .int i2), (3, .int q4), (4, .int v7), (5, .int q9)]) (st' := []) (show z_pt 130 60 = some (6, .istore 5, []) by decide +kernel) rfl (fun _ _ _ => rfl) ?_
      refine R_pure (pc := 62) (pc' := 64) (st' := [.int q9]) (show z_pt 130 62 = some (6, .iload 5, []) by decide +kernel) rfl (fun _ _ _ => rfl) ?_
      refine R_ifle (pc := 64) (t := 92) (show z_pt 130 64 = some (6, .ifCond .le 28, []) by decide +kernel) (by decide) (fun c11 => ?_) (fun c11 => ?_)
      · rw [if_pos c11] at h
        refine R_pure (pc := 92) (pc' := 93) (st' := [.ref 0]) (show z_pt 130 92 = some (6, .aload_n 0, []) by decide +kernel) rfl (fun _ _ _ => rfl) ?_
        refine R_getR (pc := 93) (a := 0) (b := 1) (show z_pt 130 93 = some (6, .getfield 17, [9, 0, 2037]) by decide +kernel) (by decide +kernel) ?_
        refine R_at (pc := 96) ?_
        refine R_pure (pc := 96) (pc' := 97) (st' := [.int i1, .ref 1]) (show z_pt 130 96 = some (6, .iload_n 1, []) by decide +kernel) rfl (fun _ _ _ => rfl) ?_
        refine R_pure (pc := 97) (pc' := 99) (st' := [.int v7, .int i1, .ref 1]) (show z_pt 130 97 = some (6, .iload 4, []) by decide +kernel) rfl (fun _ _ _ => rfl) ?_
        refine R_const (pc := 99) (pc' := 100) (v := 0) (show z_ptc 130 99 = some (100, 0) by decide +kernel) ?_
        obtain ⟨q12, e13, h⟩ := z_bs h
        refine R_call (pc := 100) (rr := []) (show z_pt 130 100 = some (6, .invokevirtual 200, [0, 67, 3, 3208, 3209, 3210, 1002, 3211]) by decide +kernel) rfl (show z_r2 67 = some (7, 6, true) by decide +kernel) rfl rfl (Or.inr ⟨_, _, rfl, (by decide +kernel)⟩) (pA_leastDistance_run  e13) (by omega) ?_
        refine R_at2 (pc := 103) (st := [.int q12]) ?_
        cases h
        exact R_retI (show z_pt 130 103 = some (6, .ireturn, []) by decide +kernel) (by decide +kernel)
      · rw [if_neg c11] at h
        refine R_pure (pc := 67) (pc' := 68) (st' := [.ref 0]) (show z_pt 130 67 = some (6, .aload_n 0, []) by decide +kernel) rfl (fun _ _ _ => rfl) ?_
        refine R_getR (pc := 68) (a := 0) (b := 1) (show z_pt 130 68 = some (6, .getfield 17, [9, 0, 2037]) by decide +kernel) (by decide +kernel) ?_
        refine R_at (pc := 71) ?_
        refine R_getR (pc := 71) (a := 1) (b := 2) (show z_pt 130 71 = some (6, .getfield 23, [7, 0, 1172]) by decide +kernel) (by decide +kernel) ?_
        refine R_at (pc := 74) ?_
        refine R_pure (pc := 74) (pc' := 75) (st' := [.ref 0, .ref 2]) (show z_pt 130 74 = some (6, .aload_n 0, []) by decide +kernel) rfl (fun _ _ _ => rfl) ?_
        refine R_getR (pc := 75) (a := 0) (b := 1) (show z_pt 130 75 = some (6, .getfield 17, [9, 0, 2037]) by decide +kernel) (by decide +kernel) ?_
        refine R_at (pc := 78) ?_
        refine R_getR (pc := 78) (a := 1) (b := 9) (show z_pt 130 78 = some (6, .getfield 161, [7, 1, 1174]) by decide +kernel) (by decide +kernel) ?_
        refine R_at (pc := 81) ?_
        refine R_getR (pc := 81) (a := 9) (b := 10) (show z_pt 130 81 = some (6, .getfield 173, [8, 1, 1105]) by decide +kernel) (by decide +kernel) ?_
        refine R_at (pc := 84) ?_
        refine R_pure (pc := 84) (pc' := 85) (st' := [.int i1, .ref 10, .ref 2]) (show z_pt 130 84 = some (6, .iload_n 1, []) by decide +kernel) rfl (fun _ _ _ => rfl) ?_
        obtain ⟨v14, e15, h⟩ := z_bs h
        refine R_ialdR (pc := 85) (a := 10) (n := 4) (show z_pt 130 85 = some (6, .iaload, []) by decide +kernel) (show z_ar 10 0 4 = true by decide +kernel) e15 ?_
        refine R_at (pc := 86) ?_
        refine R_pure (pc := 86) (pc' := 88) (st' := [.int q9, .int v14, .ref 2]) (show z_pt 130 86 = some (6, .iload 5, []) by decide +kernel) rfl (fun _ _ _ => rfl) ?_
        obtain ⟨q16, e17, h⟩ := z_bs h
        refine R_call (pc := 88) (rr := []) (show z_pt 130 88 = some (6, .invokevirtual 351, [0, 29, 2, 3029, 3030, 3031, 1003, 3032]) by decide +kernel) rfl (show z_r2 29 = some (2, 3, true) by decide +kernel) rfl rfl (Or.inr ⟨_, _, rfl, (by decide +kernel)⟩) (pT_turnGear_run (show zTr 2 = true by decide +kernel) e17) (by omega) ?_
        refine R_at2 (pc := 91) (st := [.int q16.1]) ?_
        refine R_pure (pc := 91) (pc' := 92) (st' := []) (show z_pt 130 91 = some (6, .pop, []) by decide +kernel) rfl (fun _ _ _ => rfl) ?_
        refine R_pure (pc := 92) (pc' := 93) (st' := [.ref 0]) (show z_pt 130 92 = some (6, .aload_n 0, []) by decide +kernel) rfl (fun _ _ _ => rfl) ?_
        refine R_getR (pc := 93) (a := 0) (b := 1) (show z_pt 130 93 = some (6, .getfield 17, [9, 0, 2037]) by decide +kernel) (by decide +kernel) ?_
        refine R_at (pc := 96) ?_
        refine R_pure (pc := 96) (pc' := 97) (st' := [.int i1, .ref 1]) (show z_pt 130 96 = some (6, .iload_n 1, []) by decide +kernel) rfl (fun _ _ _ => rfl) ?_
        refine R_pure (pc := 97) (pc' := 99) (st' := [.int v7, .int i1, .ref 1]) (show z_pt 130 97 = some (6, .iload 4, []) by decide +kernel) rfl (fun _ _ _ => rfl) ?_
        refine R_const (pc := 99) (pc' := 100) (v := 0) (show z_ptc 130 99 = some (100, 0) by decide +kernel) ?_
        obtain ⟨q18, e19, h⟩ := z_bs h
        refine R_call (pc := 100) (rr := []) (show z_pt 130 100 = some (6, .invokevirtual 200, [0, 67, 3, 3208, 3209, 3210, 1002, 3211]) by decide +kernel) rfl (show z_r2 67 = some (7, 6, true) by decide +kernel) rfl rfl (Or.inr ⟨_, _, rfl, (by decide +kernel)⟩) (pA_leastDistance_run  e19) (by omega) ?_
        refine R_at2 (pc := 103) (st := [.int q18]) ?_
        cases h
        exact R_retI (show z_pt 130 103 = some (6, .ireturn, []) by decide +kernel) (by decide +kernel)
    · rw [if_pos c6] at h
      refine R_const (pc := 33) (pc' := 35) (v := (-4)) (show z_ptc 130 33 = some (35, (-4)) by decide +kernel) ?_
      cases h
      exact R_retI (show z_pt 130 35 = some (6, .ireturn, []) by decide +kernel) (by decide +kernel)
  · rw [if_pos c3] at h
    refine R_const (pc := 14) (pc' := 15) (v := (-1)) (show z_ptc 130 14 = some (15, (-1)) by decide +kernel) ?_
    cases h
    exact R_retI (show z_pt 130 15 = some (6, .ireturn, []) by decide +kernel) (by decide +kernel)
def pG_follow  (μ : z_Mem) (i1 : Int32) (i2 : Int32) : Option ((Int32 ⊕ Nat) × z_Mem) := (pH_begin μ).bind fun q1 => (pG_tryFollow q1 i1 i2).bind fun q3 => (pG_settled q3.2 q3.1).bind fun q5 => (match q5.1 with | .inl x7 => some ((.inl x7), q5.2) | .inr E8 => some ((.inr E8), q5.2))
theorem pG_follow_run  {μ : z_Mem} {i1 : Int32} {i2 : Int32}  {r : ((Int32 ⊕ Nat) × z_Mem)} (h : pG_follow μ i1 i2 = some r) : Rn 17 101 0 [(0, .ref 0), (1, .int i1), (2, .int i2)] [] μ (z_oX r.1) r.2 := by
  unfold pG_follow at h
  refine R_pure (pc := 0) (pc' := 1) (st' := [.ref 0]) (show z_pt 101 0 = some (3, .aload_n 0, []) by decide +kernel) rfl (fun _ _ _ => rfl) ?_
  refine R_getR (pc := 1) (a := 0) (b := 57) (show z_pt 101 1 = some (3, .getfield 53, [9, 2, 2039]) by decide +kernel) (by decide +kernel) ?_
  refine R_at (pc := 4) ?_
  refine R_pure (pc := 4) (pc' := 5) (st' := [.ref 0, .ref 57]) (show z_pt 101 4 = some (3, .aload_n 0, []) by decide +kernel) rfl (fun _ _ _ => rfl) ?_
  refine R_getR (pc := 5) (a := 0) (b := 1) (show z_pt 101 5 = some (3, .getfield 17, [9, 0, 2037]) by decide +kernel) (by decide +kernel) ?_
  refine R_at (pc := 8) ?_
  obtain ⟨q1, e2, h⟩ := z_bs h
  refine R_call (pc := 8) (rr := []) (show z_pt 101 8 = some (3, .invokevirtual 71, [0, 49, 1, 2072, 2073, 2074, 1011, 2075]) by decide +kernel) rfl (show z_r2 49 = some (4, 3, true) by decide +kernel) rfl rfl (Or.inr ⟨_, _, rfl, (by decide +kernel)⟩) (pH_begin_run  e2) (by omega) ?_
  refine R_at2 (pc := 11) (st := []) ?_
  refine R_pure (pc := 11) (pc' := 12) (st' := [.ref 0]) (show z_pt 101 11 = some (3, .aload_n 0, []) by decide +kernel) rfl (fun _ _ _ => rfl) ?_
  refine R_pure (pc := 12) (pc' := 13) (st' := [.ref 0, .ref 0]) (show z_pt 101 12 = some (3, .aload_n 0, []) by decide +kernel) rfl (fun _ _ _ => rfl) ?_
  refine R_pure (pc := 13) (pc' := 14) (st' := [.int i1, .ref 0, .ref 0]) (show z_pt 101 13 = some (3, .iload_n 1, []) by decide +kernel) rfl (fun _ _ _ => rfl) ?_
  refine R_pure (pc := 14) (pc' := 15) (st' := [.int i2, .int i1, .ref 0, .ref 0]) (show z_pt 101 14 = some (3, .iload_n 2, []) by decide +kernel) rfl (fun _ _ _ => rfl) ?_
  obtain ⟨q3, e4, h⟩ := z_bs h
  refine R_call (pc := 15) (rr := [.ref 0]) (show z_pt 101 15 = some (3, .invokevirtual 206, [0, 130, 2, 3232, 3234, 14, 1001, 3235]) by decide +kernel) rfl (show z_r2 130 = some (9, 6, true) by decide +kernel) rfl rfl (Or.inr ⟨_, _, rfl, (by decide +kernel)⟩) (pG_tryFollow_run  e4) (by omega) ?_
  refine R_at2 (pc := 18) (st := [.int q3.1, .ref 0]) ?_
  obtain ⟨q5, e6, h⟩ := z_bs h
  have y9 := pG_settled_run  e6
  cases x7h : q5.1 with
  | inl x7 =>
    rw [x7h] at h y9
    dsimp only at h
    refine R_call (pc := 18) (rr := []) (show z_pt 101 18 = some (3, .invokevirtual 79, [0, 136, 1, 2113, 2115, 1, 1001, 2116]) by decide +kernel) rfl (show z_r2 136 = some (9, 2, true) by decide +kernel) rfl rfl (Or.inr ⟨_, _, rfl, (by decide +kernel)⟩) y9 (by omega) ?_
    refine R_at2 (pc := 21) (st := [.int x7]) ?_
    cases h
    exact R_retI (show z_pt 101 21 = some (3, .ireturn, []) by decide +kernel) (by decide +kernel)
  | inr E8 =>
    rw [x7h] at h y9
    cases h
    exact R_callX (pc := 18) (rr := []) (show z_pt 101 18 = some (3, .invokevirtual 79, [0, 136, 1, 2113, 2115, 1, 1001, 2116]) by decide +kernel) rfl (show z_r2 136 = some (9, 2, true) by decide +kernel) rfl rfl (Or.inr ⟨_, _, rfl, (by decide +kernel)⟩) y9 (by decide) (by decide +kernel) (by omega)
def pG_tryStar  (μ : z_Mem) (i1 : Int32) (i2 : Int32) : Option (Int32 × z_Mem) := (pG_isWithin μ i1 0 3599).bind fun q1 => if q1 = 0 then some ((-2), μ) else (pG_isWithin μ i2 (-50) 50).bind fun q4 => if q4 = 0 then some ((-2), μ) else if (μ 12 0) < 8 then (pY_add μ i1 i2).bind fun q8 => some (q8.1, q8.2) else some ((-3), μ)
theorem pG_tryStar_run  {μ : z_Mem} {i1 : Int32} {i2 : Int32}  {r : (Int32 × z_Mem)} (h : pG_tryStar μ i1 i2 = some r) : Rn 1 131 0 [(0, .ref 0), (1, .int i1), (2, .int i2)] [] μ (.inl (some (.int r.1))) r.2 := by
  unfold pG_tryStar at h
  refine R_pure (pc := 0) (pc' := 1) (st' := [.int i1]) (show z_pt 131 0 = some (3, .iload_n 1, []) by decide +kernel) rfl (fun _ _ _ => rfl) ?_
  refine R_const (pc := 1) (pc' := 2) (v := 0) (show z_ptc 131 1 = some (2, 0) by decide +kernel) ?_
  refine R_const (pc := 2) (pc' := 5) (v := 3599) (show z_ptc 131 2 = some (5, 3599) by decide +kernel) ?_
  obtain ⟨q1, e2, h⟩ := z_bs h
  refine R_call (pc := 5) (rr := []) (show z_pt 131 5 = some (3, .invokestatic 239, [1, 148, 3, 2106, 2107, 0, 1001, 2108]) by decide +kernel) rfl (show z_r2 148 = some (9, 3, true) by decide +kernel) rfl rfl (Or.inl (by decide)) (pG_isWithin_run  e2) (by omega) ?_
  refine R_at2 (pc := 8) (st := [.int q1]) ?_
  refine R_ifeq (pc := 8) (t := 22) (show z_pt 131 8 = some (3, .ifCond .eq 14, []) by decide +kernel) (by decide) (fun c3 => ?_) (fun c3 => ?_)
  · rw [if_pos c3] at h
    refine R_const (pc := 22) (pc' := 24) (v := (-2)) (show z_ptc 131 22 = some (24, (-2)) by decide +kernel) ?_
    cases h
    exact R_retI (show z_pt 131 24 = some (3, .ireturn, []) by decide +kernel) (by decide +kernel)
  · rw [if_neg c3] at h
    refine R_pure (pc := 11) (pc' := 12) (st' := [.int i2]) (show z_pt 131 11 = some (3, .iload_n 2, []) by decide +kernel) rfl (fun _ _ _ => rfl) ?_
    refine R_const (pc := 12) (pc' := 14) (v := (-50)) (show z_ptc 131 12 = some (14, (-50)) by decide +kernel) ?_
    refine R_const (pc := 14) (pc' := 16) (v := 50) (show z_ptc 131 14 = some (16, 50) by decide +kernel) ?_
    obtain ⟨q4, e5, h⟩ := z_bs h
    refine R_call (pc := 16) (rr := []) (show z_pt 131 16 = some (3, .invokestatic 239, [1, 148, 3, 2106, 2107, 0, 1001, 2108]) by decide +kernel) rfl (show z_r2 148 = some (9, 3, true) by decide +kernel) rfl rfl (Or.inl (by decide)) (pG_isWithin_run  e5) (by omega) ?_
    refine R_at2 (pc := 19) (st := [.int q4]) ?_
    refine R_ifne (pc := 19) (t := 25) (show z_pt 131 19 = some (3, .ifCond .ne 6, []) by decide +kernel) (by decide) (fun c6 => ?_) (fun c6 => ?_)
    · rw [if_neg c6] at h
      refine R_pure (pc := 25) (pc' := 26) (st' := [.ref 0]) (show z_pt 131 25 = some (3, .aload_n 0, []) by decide +kernel) rfl (fun _ _ _ => rfl) ?_
      refine R_getR (pc := 26) (a := 0) (b := 1) (show z_pt 131 26 = some (3, .getfield 17, [9, 0, 2037]) by decide +kernel) (by decide +kernel) ?_
      refine R_at (pc := 29) ?_
      refine R_getR (pc := 29) (a := 1) (b := 12) (show z_pt 131 29 = some (3, .getfield 185, [7, 2, 1176]) by decide +kernel) (by decide +kernel) ?_
      refine R_at (pc := 32) ?_
      refine R_getI (pc := 32) (a := 12) (show z_pt 131 32 = some (3, .getfield 215, [6, 0, 1124]) by decide +kernel) (by decide +kernel) ?_
      refine R_at (pc := 35) ?_
      refine R_const (pc := 35) (pc' := 37) (v := 8) (show z_ptc 131 35 = some (37, 8) by decide +kernel) ?_
      refine R_icmlt (pc := 37) (t := 45) (show z_pt 131 37 = some (3, .if_icmp .lt 8, []) by decide +kernel) (by decide) (fun c7 => ?_) (fun c7 => ?_)
      · rw [if_pos c7] at h
        refine R_pure (pc := 45) (pc' := 46) (st' := [.ref 0]) (show z_pt 131 45 = some (3, .aload_n 0, []) by decide +kernel) rfl (fun _ _ _ => rfl) ?_
        refine R_getR (pc := 46) (a := 0) (b := 1) (show z_pt 131 46 = some (3, .getfield 17, [9, 0, 2037]) by decide +kernel) (by decide +kernel) ?_
        refine R_at (pc := 49) ?_
        refine R_getR (pc := 49) (a := 1) (b := 12) (show z_pt 131 49 = some (3, .getfield 185, [7, 2, 1176]) by decide +kernel) (by decide +kernel) ?_
        refine R_at (pc := 52) ?_
        refine R_pure (pc := 52) (pc' := 53) (st' := [.int i1, .ref 12]) (show z_pt 131 52 = some (3, .iload_n 1, []) by decide +kernel) rfl (fun _ _ _ => rfl) ?_
        refine R_pure (pc := 53) (pc' := 54) (st' := [.int i2, .int i1, .ref 12]) (show z_pt 131 53 = some (3, .iload_n 2, []) by decide +kernel) rfl (fun _ _ _ => rfl) ?_
        obtain ⟨q8, e9, h⟩ := z_bs h
        refine R_call (pc := 54) (rr := []) (show z_pt 131 54 = some (3, .invokevirtual 362, [0, 59, 2, 4004, 4005, 4006, 1005, 4007]) by decide +kernel) rfl (show z_r2 59 = some (6, 4, true) by decide +kernel) rfl rfl (Or.inr ⟨_, _, rfl, (by decide +kernel)⟩) (pY_add_run  e9) (by omega) ?_
        refine R_at2 (pc := 57) (st := [.int q8.1]) ?_
        cases h
        exact R_retI (show z_pt 131 57 = some (3, .ireturn, []) by decide +kernel) (by decide +kernel)
      · rw [if_neg c7] at h
        refine R_const (pc := 40) (pc' := 42) (v := (-3)) (show z_ptc 131 40 = some (42, (-3)) by decide +kernel) ?_
        refine R_pure (pc := 42) (pc' := 57) (show z_pt 131 42 = some (3, .goto 15, []) by decide +kernel) rfl (fun _ _ _ => rfl) ?_
        cases h
        exact R_retI (show z_pt 131 57 = some (3, .ireturn, []) by decide +kernel) (by decide +kernel)
    · rw [if_pos c6] at h
      refine R_const (pc := 22) (pc' := 24) (v := (-2)) (show z_ptc 131 22 = some (24, (-2)) by decide +kernel) ?_
      cases h
      exact R_retI (show z_pt 131 24 = some (3, .ireturn, []) by decide +kernel) (by decide +kernel)
def pG_addStar  (μ : z_Mem) (i1 : Int32) (i2 : Int32) : Option ((Int32 ⊕ Nat) × z_Mem) := (pH_begin μ).bind fun q1 => (pG_tryStar q1 i1 i2).bind fun q3 => (pG_settled q3.2 q3.1).bind fun q5 => (match q5.1 with | .inl x7 => some ((.inl x7), q5.2) | .inr E8 => some ((.inr E8), q5.2))
theorem pG_addStar_run  {μ : z_Mem} {i1 : Int32} {i2 : Int32}  {r : ((Int32 ⊕ Nat) × z_Mem)} (h : pG_addStar μ i1 i2 = some r) : Rn 7 102 0 [(0, .ref 0), (1, .int i1), (2, .int i2)] [] μ (z_oX r.1) r.2 := by
  unfold pG_addStar at h
  refine R_pure (pc := 0) (pc' := 1) (st' := [.ref 0]) (show z_pt 102 0 = some (3, .aload_n 0, []) by decide +kernel) rfl (fun _ _ _ => rfl) ?_
  refine R_getR (pc := 1) (a := 0) (b := 57) (show z_pt 102 1 = some (3, .getfield 53, [9, 2, 2039]) by decide +kernel) (by decide +kernel) ?_
  refine R_at (pc := 4) ?_
  refine R_pure (pc := 4) (pc' := 5) (st' := [.ref 0, .ref 57]) (show z_pt 102 4 = some (3, .aload_n 0, []) by decide +kernel) rfl (fun _ _ _ => rfl) ?_
  refine R_getR (pc := 5) (a := 0) (b := 1) (show z_pt 102 5 = some (3, .getfield 17, [9, 0, 2037]) by decide +kernel) (by decide +kernel) ?_
  refine R_at (pc := 8) ?_
  obtain ⟨q1, e2, h⟩ := z_bs h
  refine R_call (pc := 8) (rr := []) (show z_pt 102 8 = some (3, .invokevirtual 71, [0, 49, 1, 2072, 2073, 2074, 1011, 2075]) by decide +kernel) rfl (show z_r2 49 = some (4, 3, true) by decide +kernel) rfl rfl (Or.inr ⟨_, _, rfl, (by decide +kernel)⟩) (pH_begin_run  e2) (by omega) ?_
  refine R_at2 (pc := 11) (st := []) ?_
  refine R_pure (pc := 11) (pc' := 12) (st' := [.ref 0]) (show z_pt 102 11 = some (3, .aload_n 0, []) by decide +kernel) rfl (fun _ _ _ => rfl) ?_
  refine R_pure (pc := 12) (pc' := 13) (st' := [.ref 0, .ref 0]) (show z_pt 102 12 = some (3, .aload_n 0, []) by decide +kernel) rfl (fun _ _ _ => rfl) ?_
  refine R_pure (pc := 13) (pc' := 14) (st' := [.int i1, .ref 0, .ref 0]) (show z_pt 102 13 = some (3, .iload_n 1, []) by decide +kernel) rfl (fun _ _ _ => rfl) ?_
  refine R_pure (pc := 14) (pc' := 15) (st' := [.int i2, .int i1, .ref 0, .ref 0]) (show z_pt 102 14 = some (3, .iload_n 2, []) by decide +kernel) rfl (fun _ _ _ => rfl) ?_
  obtain ⟨q3, e4, h⟩ := z_bs h
  refine R_call (pc := 15) (rr := [.ref 0]) (show z_pt 102 15 = some (3, .invokevirtual 209, [0, 131, 2, 4000, 4002, 15, 1001, 4003]) by decide +kernel) rfl (show z_r2 131 = some (9, 3, true) by decide +kernel) rfl rfl (Or.inr ⟨_, _, rfl, (by decide +kernel)⟩) (pG_tryStar_run  e4) (by omega) ?_
  refine R_at2 (pc := 18) (st := [.int q3.1, .ref 0]) ?_
  obtain ⟨q5, e6, h⟩ := z_bs h
  have y9 := pG_settled_run  e6
  cases x7h : q5.1 with
  | inl x7 =>
    rw [x7h] at h y9
    dsimp only at h
    refine R_call (pc := 18) (rr := []) (show z_pt 102 18 = some (3, .invokevirtual 79, [0, 136, 1, 2113, 2115, 1, 1001, 2116]) by decide +kernel) rfl (show z_r2 136 = some (9, 2, true) by decide +kernel) rfl rfl (Or.inr ⟨_, _, rfl, (by decide +kernel)⟩) y9 (by omega) ?_
    refine R_at2 (pc := 21) (st := [.int x7]) ?_
    cases h
    exact R_retI (show z_pt 102 21 = some (3, .ireturn, []) by decide +kernel) (by decide +kernel)
  | inr E8 =>
    rw [x7h] at h y9
    cases h
    exact R_callX (pc := 18) (rr := []) (show z_pt 102 18 = some (3, .invokevirtual 79, [0, 136, 1, 2113, 2115, 1, 1001, 2116]) by decide +kernel) rfl (show z_r2 136 = some (9, 2, true) by decide +kernel) rfl rfl (Or.inr ⟨_, _, rfl, (by decide +kernel)⟩) y9 (by decide) (by decide +kernel) (by omega)
def pG_tryRemoval  (μ : z_Mem) (i1 : Int32) : Option (Int32 × z_Mem) := (pY_placeOf μ i1).bind fun q1 => if q1 = (-1) then some ((-4), μ) else (pY_removeAt μ q1).bind fun q4 => some (q4.1, q4.2)
theorem pG_tryRemoval_run  {μ : z_Mem} {i1 : Int32}  {r : (Int32 × z_Mem)} (h : pG_tryRemoval μ i1 = some r) : Rn 1 132 0 [(0, .ref 0), (1, .int i1)] [] μ (.inl (some (.int r.1))) r.2 := by
  unfold pG_tryRemoval at h
  refine R_pure (pc := 0) (pc' := 1) (st' := [.ref 0]) (show z_pt 132 0 = some (3, .aload_n 0, []) by decide +kernel) rfl (fun _ _ _ => rfl) ?_
  refine R_getR (pc := 1) (a := 0) (b := 1) (show z_pt 132 1 = some (3, .getfield 17, [9, 0, 2037]) by decide +kernel) (by decide +kernel) ?_
  refine R_at (pc := 4) ?_
  refine R_getR (pc := 4) (a := 1) (b := 12) (show z_pt 132 4 = some (3, .getfield 185, [7, 2, 1176]) by decide +kernel) (by decide +kernel) ?_
  refine R_at (pc := 7) ?_
  refine R_pure (pc := 7) (pc' := 8) (st' := [.int i1, .ref 12]) (show z_pt 132 7 = some (3, .iload_n 1, []) by decide +kernel) rfl (fun _ _ _ => rfl) ?_
  obtain ⟨q1, e2, h⟩ := z_bs h
  refine R_call (pc := 8) (rr := []) (show z_pt 132 8 = some (3, .invokevirtual 360, [0, 58, 1, 3204, 3205, 3206, 1005, 3207]) by decide +kernel) rfl (show z_r2 58 = some (6, 3, true) by decide +kernel) rfl rfl (Or.inr ⟨_, _, rfl, (by decide +kernel)⟩) (pY_placeOf_run  e2) (by omega) ?_
  refine R_at2 (pc := 11) (st := [.int q1]) ?_
  refine R_pure (pc := 11) (pc' := 12) (ls' := [(0, .ref 0), (1, .int i1), (2, .int q1)]) (st' := []) (show z_pt 132 11 = some (3, .istore_n 2, []) by decide +kernel) rfl (fun _ _ _ => rfl) ?_
  refine R_pure (pc := 12) (pc' := 13) (st' := [.int q1]) (show z_pt 132 12 = some (3, .iload_n 2, []) by decide +kernel) rfl (fun _ _ _ => rfl) ?_
  refine R_const (pc := 13) (pc' := 14) (v := (-1)) (show z_ptc 132 13 = some (14, (-1)) by decide +kernel) ?_
  refine R_icmne (pc := 14) (t := 22) (show z_pt 132 14 = some (3, .if_icmp .ne 8, []) by decide +kernel) (by decide) (fun c3 => ?_) (fun c3 => ?_)
  · rw [if_neg c3] at h
    refine R_pure (pc := 22) (pc' := 23) (st' := [.ref 0]) (show z_pt 132 22 = some (3, .aload_n 0, []) by decide +kernel) rfl (fun _ _ _ => rfl) ?_
    refine R_getR (pc := 23) (a := 0) (b := 1) (show z_pt 132 23 = some (3, .getfield 17, [9, 0, 2037]) by decide +kernel) (by decide +kernel) ?_
    refine R_at (pc := 26) ?_
    refine R_getR (pc := 26) (a := 1) (b := 12) (show z_pt 132 26 = some (3, .getfield 185, [7, 2, 1176]) by decide +kernel) (by decide +kernel) ?_
    refine R_at (pc := 29) ?_
    refine R_pure (pc := 29) (pc' := 30) (st' := [.int q1, .ref 12]) (show z_pt 132 29 = some (3, .iload_n 2, []) by decide +kernel) rfl (fun _ _ _ => rfl) ?_
    obtain ⟨q4, e5, h⟩ := z_bs h
    refine R_call (pc := 30) (rr := []) (show z_pt 132 30 = some (3, .invokevirtual 363, [0, 60, 1, 4016, 4017, 4018, 1005, 4019]) by decide +kernel) rfl (show z_r2 60 = some (6, 3, true) by decide +kernel) rfl rfl (Or.inr ⟨_, _, rfl, (by decide +kernel)⟩) (pY_removeAt_run  e5) (by omega) ?_
    refine R_at2 (pc := 33) (st := [.int q4.1]) ?_
    cases h
    exact R_retI (show z_pt 132 33 = some (3, .ireturn, []) by decide +kernel) (by decide +kernel)
  · rw [if_pos c3] at h
    refine R_const (pc := 17) (pc' := 19) (v := (-4)) (show z_ptc 132 17 = some (19, (-4)) by decide +kernel) ?_
    refine R_pure (pc := 19) (pc' := 33) (show z_pt 132 19 = some (3, .goto 14, []) by decide +kernel) rfl (fun _ _ _ => rfl) ?_
    cases h
    exact R_retI (show z_pt 132 33 = some (3, .ireturn, []) by decide +kernel) (by decide +kernel)
def pG_removeStar  (μ : z_Mem) (i1 : Int32) : Option ((Int32 ⊕ Nat) × z_Mem) := (pH_begin μ).bind fun q1 => (pG_tryRemoval q1 i1).bind fun q3 => (pG_settled q3.2 q3.1).bind fun q5 => (match q5.1 with | .inl x7 => some ((.inl x7), q5.2) | .inr E8 => some ((.inr E8), q5.2))
theorem pG_removeStar_run  {μ : z_Mem} {i1 : Int32}  {r : ((Int32 ⊕ Nat) × z_Mem)} (h : pG_removeStar μ i1 = some r) : Rn 7 103 0 [(0, .ref 0), (1, .int i1)] [] μ (z_oX r.1) r.2 := by
  unfold pG_removeStar at h
  refine R_pure (pc := 0) (pc' := 1) (st' := [.ref 0]) (show z_pt 103 0 = some (2, .aload_n 0, []) by decide +kernel) rfl (fun _ _ _ => rfl) ?_
  refine R_getR (pc := 1) (a := 0) (b := 57) (show z_pt 103 1 = some (2, .getfield 53, [9, 2, 2039]) by decide +kernel) (by decide +kernel) ?_
  refine R_at (pc := 4) ?_
  refine R_pure (pc := 4) (pc' := 5) (st' := [.ref 0, .ref 57]) (show z_pt 103 4 = some (2, .aload_n 0, []) by decide +kernel) rfl (fun _ _ _ => rfl) ?_
  refine R_getR (pc := 5) (a := 0) (b := 1) (show z_pt 103 5 = some (2, .getfield 17, [9, 0, 2037]) by decide +kernel) (by decide +kernel) ?_
  refine R_at (pc := 8) ?_
  obtain ⟨q1, e2, h⟩ := z_bs h
  refine R_call (pc := 8) (rr := []) (show z_pt 103 8 = some (2, .invokevirtual 71, [0, 49, 1, 2072, 2073, 2074, 1011, 2075]) by decide +kernel) rfl (show z_r2 49 = some (4, 3, true) by decide +kernel) rfl rfl (Or.inr ⟨_, _, rfl, (by decide +kernel)⟩) (pH_begin_run  e2) (by omega) ?_
  refine R_at2 (pc := 11) (st := []) ?_
  refine R_pure (pc := 11) (pc' := 12) (st' := [.ref 0]) (show z_pt 103 11 = some (2, .aload_n 0, []) by decide +kernel) rfl (fun _ _ _ => rfl) ?_
  refine R_pure (pc := 12) (pc' := 13) (st' := [.ref 0, .ref 0]) (show z_pt 103 12 = some (2, .aload_n 0, []) by decide +kernel) rfl (fun _ _ _ => rfl) ?_
  refine R_pure (pc := 13) (pc' := 14) (st' := [.int i1, .ref 0, .ref 0]) (show z_pt 103 13 = some (2, .iload_n 1, []) by decide +kernel) rfl (fun _ _ _ => rfl) ?_
  obtain ⟨q3, e4, h⟩ := z_bs h
  refine R_call (pc := 14) (rr := [.ref 0]) (show z_pt 103 14 = some (2, .invokevirtual 212, [0, 132, 1, 4012, 4014, 16, 1001, 4015]) by decide +kernel) rfl (show z_r2 132 = some (9, 3, true) by decide +kernel) rfl rfl (Or.inr ⟨_, _, rfl, (by decide +kernel)⟩) (pG_tryRemoval_run  e4) (by omega) ?_
  refine R_at2 (pc := 17) (st := [.int q3.1, .ref 0]) ?_
  obtain ⟨q5, e6, h⟩ := z_bs h
  have y9 := pG_settled_run  e6
  cases x7h : q5.1 with
  | inl x7 =>
    rw [x7h] at h y9
    dsimp only at h
    refine R_call (pc := 17) (rr := []) (show z_pt 103 17 = some (2, .invokevirtual 79, [0, 136, 1, 2113, 2115, 1, 1001, 2116]) by decide +kernel) rfl (show z_r2 136 = some (9, 2, true) by decide +kernel) rfl rfl (Or.inr ⟨_, _, rfl, (by decide +kernel)⟩) y9 (by omega) ?_
    refine R_at2 (pc := 20) (st := [.int x7]) ?_
    cases h
    exact R_retI (show z_pt 103 20 = some (2, .ireturn, []) by decide +kernel) (by decide +kernel)
  | inr E8 =>
    rw [x7h] at h y9
    cases h
    exact R_callX (pc := 17) (rr := []) (show z_pt 103 17 = some (2, .invokevirtual 79, [0, 136, 1, 2113, 2115, 1, 1001, 2116]) by decide +kernel) rfl (show z_r2 136 = some (9, 2, true) by decide +kernel) rfl rfl (Or.inr ⟨_, _, rfl, (by decide +kernel)⟩) y9 (by decide) (by decide +kernel) (by omega)
def pG_starCount  (μ : z_Mem)  : Option Int32 := some (μ 12 0)
theorem pG_starCount_run  {μ : z_Mem}   {r : Int32} (h : pG_starCount μ = some r) : Rn 0 104 0 [(0, .ref 0)] [] μ (.inl (some (.int r))) μ := by
  unfold pG_starCount at h
  refine R_pure (pc := 0) (pc' := 1) (st' := [.ref 0]) (show z_pt 104 0 = some (1, .aload_n 0, []) by decide +kernel) rfl (fun _ _ _ => rfl) ?_
  refine R_getR (pc := 1) (a := 0) (b := 1) (show z_pt 104 1 = some (1, .getfield 17, [9, 0, 2037]) by decide +kernel) (by decide +kernel) ?_
  refine R_at (pc := 4) ?_
  refine R_getR (pc := 4) (a := 1) (b := 12) (show z_pt 104 4 = some (1, .getfield 185, [7, 2, 1176]) by decide +kernel) (by decide +kernel) ?_
  refine R_at (pc := 7) ?_
  refine R_getI (pc := 7) (a := 12) (show z_pt 104 7 = some (1, .getfield 215, [6, 0, 1124]) by decide +kernel) (by decide +kernel) ?_
  refine R_at (pc := 10) ?_
  cases h
  exact R_retI (show z_pt 104 10 = some (1, .ireturn, []) by decide +kernel) (by decide +kernel)
def pG_star  (μ : z_Mem) (i1 : Int32) : Option (Int32 ⊕ Nat) := if i1 < 0 then some (.inr 0) else if i1 < (μ 12 0) then (z_rd μ 13 8 i1).bind fun v3 => some (.inl v3) else some (.inr 0)
theorem pG_star_run  {μ : z_Mem} {i1 : Int32}  {r : (Int32 ⊕ Nat)} (h : pG_star μ i1 = some r) : Rn 6 105 0 [(0, .ref 0), (1, .int i1)] [] μ (z_oX r) μ := by
  unfold pG_star at h
  refine R_pure (pc := 0) (pc' := 1) (st' := [.int i1]) (show z_pt 105 0 = some (2, .iload_n 1, []) by decide +kernel) rfl (fun _ _ _ => rfl) ?_
  refine R_iflt (pc := 1) (t := 18) (show z_pt 105 1 = some (2, .ifCond .lt 17, []) by decide +kernel) (by decide) (fun c1 => ?_) (fun c1 => ?_)
  · rw [if_pos c1] at h
    cases h
    exact R_thr (show z_thx 105 18 = some 0 by decide +kernel) (by omega)
  · rw [if_neg c1] at h
    refine R_pure (pc := 4) (pc' := 5) (st' := [.int i1]) (show z_pt 105 4 = some (2, .iload_n 1, []) by decide +kernel) rfl (fun _ _ _ => rfl) ?_
    refine R_pure (pc := 5) (pc' := 6) (st' := [.ref 0, .int i1]) (show z_pt 105 5 = some (2, .aload_n 0, []) by decide +kernel) rfl (fun _ _ _ => rfl) ?_
    refine R_getR (pc := 6) (a := 0) (b := 1) (show z_pt 105 6 = some (2, .getfield 17, [9, 0, 2037]) by decide +kernel) (by decide +kernel) ?_
    refine R_at (pc := 9) ?_
    refine R_getR (pc := 9) (a := 1) (b := 12) (show z_pt 105 9 = some (2, .getfield 185, [7, 2, 1176]) by decide +kernel) (by decide +kernel) ?_
    refine R_at (pc := 12) ?_
    refine R_getI (pc := 12) (a := 12) (show z_pt 105 12 = some (2, .getfield 215, [6, 0, 1124]) by decide +kernel) (by decide +kernel) ?_
    refine R_at (pc := 15) ?_
    refine R_icmlt (pc := 15) (t := 26) (show z_pt 105 15 = some (2, .if_icmp .lt 11, []) by decide +kernel) (by decide) (fun c2 => ?_) (fun c2 => ?_)
    · rw [if_pos c2] at h
      refine R_pure (pc := 26) (pc' := 27) (st' := [.ref 0]) (show z_pt 105 26 = some (2, .aload_n 0, []) by decide +kernel) rfl (fun _ _ _ => rfl) ?_
      refine R_getR (pc := 27) (a := 0) (b := 1) (show z_pt 105 27 = some (2, .getfield 17, [9, 0, 2037]) by decide +kernel) (by decide +kernel) ?_
      refine R_at (pc := 30) ?_
      refine R_getR (pc := 30) (a := 1) (b := 12) (show z_pt 105 30 = some (2, .getfield 185, [7, 2, 1176]) by decide +kernel) (by decide +kernel) ?_
      refine R_at (pc := 33) ?_
      refine R_getR (pc := 33) (a := 12) (b := 13) (show z_pt 105 33 = some (2, .getfield 219, [6, 3, 1128]) by decide +kernel) (by decide +kernel) ?_
      refine R_at (pc := 36) ?_
      refine R_pure (pc := 36) (pc' := 37) (st' := [.int i1, .ref 13]) (show z_pt 105 36 = some (2, .iload_n 1, []) by decide +kernel) rfl (fun _ _ _ => rfl) ?_
      obtain ⟨v3, e4, h⟩ := z_bs h
      refine R_ialdR (pc := 37) (a := 13) (n := 8) (show z_pt 105 37 = some (2, .iaload, []) by decide +kernel) (show z_ar 13 0 8 = true by decide +kernel) e4 ?_
      refine R_at (pc := 38) ?_
      cases h
      exact R_retI (show z_pt 105 38 = some (2, .ireturn, []) by decide +kernel) (by decide +kernel)
    · rw [if_neg c2] at h
      cases h
      exact R_thr (show z_thx 105 18 = some 0 by decide +kernel) (by omega)
def pG_direction  (μ : z_Mem) (i1 : Int32) : Option (Int32 ⊕ Nat) := (pG_neededStar μ i1).bind fun q1 => (match q1 with | .inl x3 => (z_rd μ 14 8 x3).bind fun v5 => some (.inl v5) | .inr E4 => some (.inr E4))
theorem pG_direction_run  {μ : z_Mem} {i1 : Int32}  {r : (Int32 ⊕ Nat)} (h : pG_direction μ i1 = some r) : Rn 7 106 0 [(0, .ref 0), (1, .int i1)] [] μ (z_oX r) μ := by
  unfold pG_direction at h
  refine R_pure (pc := 0) (pc' := 1) (st' := [.ref 0]) (show z_pt 106 0 = some (2, .aload_n 0, []) by decide +kernel) rfl (fun _ _ _ => rfl) ?_
  refine R_getR (pc := 1) (a := 0) (b := 1) (show z_pt 106 1 = some (2, .getfield 17, [9, 0, 2037]) by decide +kernel) (by decide +kernel) ?_
  refine R_at (pc := 4) ?_
  refine R_getR (pc := 4) (a := 1) (b := 12) (show z_pt 106 4 = some (2, .getfield 185, [7, 2, 1176]) by decide +kernel) (by decide +kernel) ?_
  refine R_at (pc := 7) ?_
  refine R_getR (pc := 7) (a := 12) (b := 14) (show z_pt 106 7 = some (2, .getfield 189, [6, 4, 1131]) by decide +kernel) (by decide +kernel) ?_
  refine R_at (pc := 10) ?_
  refine R_pure (pc := 10) (pc' := 11) (st' := [.ref 0, .ref 14]) (show z_pt 106 10 = some (2, .aload_n 0, []) by decide +kernel) rfl (fun _ _ _ => rfl) ?_
  refine R_pure (pc := 11) (pc' := 12) (st' := [.int i1, .ref 0, .ref 14]) (show z_pt 106 11 = some (2, .iload_n 1, []) by decide +kernel) rfl (fun _ _ _ => rfl) ?_
  obtain ⟨q1, e2, h⟩ := z_bs h
  have y7 := pG_neededStar_run  e2
  cases x3h : q1 with
  | inl x3 =>
    rw [x3h] at h y7
    dsimp only at h
    refine R_call (pc := 12) (rr := [.ref 14]) (show z_pt 106 12 = some (2, .invokevirtual 194, [0, 143, 1, 3200, 3202, 13, 1001, 3203]) by decide +kernel) rfl (show z_r2 143 = some (9, 3, true) by decide +kernel) rfl rfl (Or.inr ⟨_, _, rfl, (by decide +kernel)⟩) y7 (by omega) ?_
    refine R_at2 (pc := 15) (st := [.int x3, .ref 14]) ?_
    obtain ⟨v5, e6, h⟩ := z_bs h
    refine R_ialdR (pc := 15) (a := 14) (n := 8) (show z_pt 106 15 = some (2, .iaload, []) by decide +kernel) (show z_ar 14 0 8 = true by decide +kernel) e6 ?_
    refine R_at (pc := 16) ?_
    cases h
    exact R_retI (show z_pt 106 16 = some (2, .ireturn, []) by decide +kernel) (by decide +kernel)
  | inr E4 =>
    rw [x3h] at h y7
    cases h
    exact R_callX (pc := 12) (rr := [.ref 14]) (show z_pt 106 12 = some (2, .invokevirtual 194, [0, 143, 1, 3200, 3202, 13, 1001, 3203]) by decide +kernel) rfl (show z_r2 143 = some (9, 3, true) by decide +kernel) rfl rfl (Or.inr ⟨_, _, rfl, (by decide +kernel)⟩) y7 (by decide) (by decide +kernel) (by omega)
def pG_tryHours  (μ : z_Mem) (i1 : Int32) : Option (Int32 × z_Mem) := (pG_isWithin μ i1 1 99).bind fun q1 => if q1 = 0 then some ((-2), μ) else (pY_letPass μ i1).bind fun q4 => some (q4.1, q4.2)
theorem pG_tryHours_run  {μ : z_Mem} {i1 : Int32}  {r : (Int32 × z_Mem)} (h : pG_tryHours μ i1 = some r) : Rn 3 133 0 [(0, .ref 0), (1, .int i1)] [] μ (.inl (some (.int r.1))) r.2 := by
  unfold pG_tryHours at h
  refine R_pure (pc := 0) (pc' := 1) (st' := [.int i1]) (show z_pt 133 0 = some (2, .iload_n 1, []) by decide +kernel) rfl (fun _ _ _ => rfl) ?_
  refine R_const (pc := 1) (pc' := 2) (v := 1) (show z_ptc 133 1 = some (2, 1) by decide +kernel) ?_
  refine R_const (pc := 2) (pc' := 4) (v := 99) (show z_ptc 133 2 = some (4, 99) by decide +kernel) ?_
  obtain ⟨q1, e2, h⟩ := z_bs h
  refine R_call (pc := 4) (rr := []) (show z_pt 133 4 = some (2, .invokestatic 239, [1, 148, 3, 2106, 2107, 0, 1001, 2108]) by decide +kernel) rfl (show z_r2 148 = some (9, 3, true) by decide +kernel) rfl rfl (Or.inl (by decide)) (pG_isWithin_run  e2) (by omega) ?_
  refine R_at2 (pc := 7) (st := [.int q1]) ?_
  refine R_ifeq (pc := 7) (t := 24) (show z_pt 133 7 = some (2, .ifCond .eq 17, []) by decide +kernel) (by decide) (fun c3 => ?_) (fun c3 => ?_)
  · rw [if_pos c3] at h
    refine R_const (pc := 24) (pc' := 26) (v := (-2)) (show z_ptc 133 24 = some (26, (-2)) by decide +kernel) ?_
    cases h
    exact R_retI (show z_pt 133 26 = some (2, .ireturn, []) by decide +kernel) (by decide +kernel)
  · rw [if_neg c3] at h
    refine R_pure (pc := 10) (pc' := 11) (st' := [.ref 0]) (show z_pt 133 10 = some (2, .aload_n 0, []) by decide +kernel) rfl (fun _ _ _ => rfl) ?_
    refine R_getR (pc := 11) (a := 0) (b := 1) (show z_pt 133 11 = some (2, .getfield 17, [9, 0, 2037]) by decide +kernel) (by decide +kernel) ?_
    refine R_at (pc := 14) ?_
    refine R_getR (pc := 14) (a := 1) (b := 12) (show z_pt 133 14 = some (2, .getfield 185, [7, 2, 1176]) by decide +kernel) (by decide +kernel) ?_
    refine R_at (pc := 17) ?_
    refine R_pure (pc := 17) (pc' := 18) (st' := [.int i1, .ref 12]) (show z_pt 133 17 = some (2, .iload_n 1, []) by decide +kernel) rfl (fun _ _ _ => rfl) ?_
    obtain ⟨q4, e5, h⟩ := z_bs h
    refine R_call (pc := 18) (rr := []) (show z_pt 133 18 = some (2, .invokevirtual 366, [0, 61, 1, 4036, 4037, 4038, 1005, 4039]) by decide +kernel) rfl (show z_r2 61 = some (6, 3, true) by decide +kernel) rfl rfl (Or.inr ⟨_, _, rfl, (by decide +kernel)⟩) (pY_letPass_run  e5) (by omega) ?_
    refine R_at2 (pc := 21) (st := [.int q4.1]) ?_
    refine R_pure (pc := 21) (pc' := 26) (show z_pt 133 21 = some (2, .goto 5, []) by decide +kernel) rfl (fun _ _ _ => rfl) ?_
    cases h
    exact R_retI (show z_pt 133 26 = some (2, .ireturn, []) by decide +kernel) (by decide +kernel)
def pG_passHours  (μ : z_Mem) (i1 : Int32) : Option ((Int32 ⊕ Nat) × z_Mem) := (pH_begin μ).bind fun q1 => (pG_tryHours q1 i1).bind fun q3 => (pG_settled q3.2 q3.1).bind fun q5 => (match q5.1 with | .inl x7 => some ((.inl x7), q5.2) | .inr E8 => some ((.inr E8), q5.2))
theorem pG_passHours_run  {μ : z_Mem} {i1 : Int32}  {r : ((Int32 ⊕ Nat) × z_Mem)} (h : pG_passHours μ i1 = some r) : Rn 7 107 0 [(0, .ref 0), (1, .int i1)] [] μ (z_oX r.1) r.2 := by
  unfold pG_passHours at h
  refine R_pure (pc := 0) (pc' := 1) (st' := [.ref 0]) (show z_pt 107 0 = some (2, .aload_n 0, []) by decide +kernel) rfl (fun _ _ _ => rfl) ?_
  refine R_getR (pc := 1) (a := 0) (b := 57) (show z_pt 107 1 = some (2, .getfield 53, [9, 2, 2039]) by decide +kernel) (by decide +kernel) ?_
  refine R_at (pc := 4) ?_
  refine R_pure (pc := 4) (pc' := 5) (st' := [.ref 0, .ref 57]) (show z_pt 107 4 = some (2, .aload_n 0, []) by decide +kernel) rfl (fun _ _ _ => rfl) ?_
  refine R_getR (pc := 5) (a := 0) (b := 1) (show z_pt 107 5 = some (2, .getfield 17, [9, 0, 2037]) by decide +kernel) (by decide +kernel) ?_
  refine R_at (pc := 8) ?_
  obtain ⟨q1, e2, h⟩ := z_bs h
  refine R_call (pc := 8) (rr := []) (show z_pt 107 8 = some (2, .invokevirtual 71, [0, 49, 1, 2072, 2073, 2074, 1011, 2075]) by decide +kernel) rfl (show z_r2 49 = some (4, 3, true) by decide +kernel) rfl rfl (Or.inr ⟨_, _, rfl, (by decide +kernel)⟩) (pH_begin_run  e2) (by omega) ?_
  refine R_at2 (pc := 11) (st := []) ?_
  refine R_pure (pc := 11) (pc' := 12) (st' := [.ref 0]) (show z_pt 107 11 = some (2, .aload_n 0, []) by decide +kernel) rfl (fun _ _ _ => rfl) ?_
  refine R_pure (pc := 12) (pc' := 13) (st' := [.ref 0, .ref 0]) (show z_pt 107 12 = some (2, .aload_n 0, []) by decide +kernel) rfl (fun _ _ _ => rfl) ?_
  refine R_pure (pc := 13) (pc' := 14) (st' := [.int i1, .ref 0, .ref 0]) (show z_pt 107 13 = some (2, .iload_n 1, []) by decide +kernel) rfl (fun _ _ _ => rfl) ?_
  obtain ⟨q3, e4, h⟩ := z_bs h
  refine R_call (pc := 14) (rr := [.ref 0]) (show z_pt 107 14 = some (2, .invokevirtual 222, [0, 133, 1, 4032, 4034, 17, 1001, 4035]) by decide +kernel) rfl (show z_r2 133 = some (9, 2, true) by decide +kernel) rfl rfl (Or.inr ⟨_, _, rfl, (by decide +kernel)⟩) (pG_tryHours_run  e4) (by omega) ?_
  refine R_at2 (pc := 17) (st := [.int q3.1, .ref 0]) ?_
  obtain ⟨q5, e6, h⟩ := z_bs h
  have y9 := pG_settled_run  e6
  cases x7h : q5.1 with
  | inl x7 =>
    rw [x7h] at h y9
    dsimp only at h
    refine R_call (pc := 17) (rr := []) (show z_pt 107 17 = some (2, .invokevirtual 79, [0, 136, 1, 2113, 2115, 1, 1001, 2116]) by decide +kernel) rfl (show z_r2 136 = some (9, 2, true) by decide +kernel) rfl rfl (Or.inr ⟨_, _, rfl, (by decide +kernel)⟩) y9 (by omega) ?_
    refine R_at2 (pc := 20) (st := [.int x7]) ?_
    cases h
    exact R_retI (show z_pt 107 20 = some (2, .ireturn, []) by decide +kernel) (by decide +kernel)
  | inr E8 =>
    rw [x7h] at h y9
    cases h
    exact R_callX (pc := 17) (rr := []) (show z_pt 107 17 = some (2, .invokevirtual 79, [0, 136, 1, 2113, 2115, 1, 1001, 2116]) by decide +kernel) rfl (show z_r2 136 = some (9, 2, true) by decide +kernel) rfl rfl (Or.inr ⟨_, _, rfl, (by decide +kernel)⟩) y9 (by decide) (by decide +kernel) (by omega)
def pG_needHoursAhead  (μ : z_Mem) (i0 : Int32) : Option (Option Nat) := (pG_isWithin μ i0 0 99).bind fun q1 => if q1 = 0 then some (some 1) else some none
theorem pG_needHoursAhead_run  {μ : z_Mem} {i0 : Int32}  {r : (Option Nat)} (h : pG_needHoursAhead μ i0 = some r) : Rn 6 144 0 [(0, .int i0)] [] μ (z_oU r) μ := by
  unfold pG_needHoursAhead at h
  refine R_pure (pc := 0) (pc' := 1) (st' := [.int i0]) (show z_pt 144 0 = some (1, .iload_n 0, []) by decide +kernel) rfl (fun _ _ _ => rfl) ?_
  refine R_const (pc := 1) (pc' := 2) (v := 0) (show z_ptc 144 1 = some (2, 0) by decide +kernel) ?_
  refine R_const (pc := 2) (pc' := 4) (v := 99) (show z_ptc 144 2 = some (4, 99) by decide +kernel) ?_
  obtain ⟨q1, e2, h⟩ := z_bs h
  refine R_call (pc := 4) (rr := []) (show z_pt 144 4 = some (1, .invokestatic 239, [1, 148, 3, 2106, 2107, 0, 1001, 2108]) by decide +kernel) rfl (show z_r2 148 = some (9, 3, true) by decide +kernel) rfl rfl (Or.inl (by decide)) (pG_isWithin_run  e2) (by omega) ?_
  refine R_at2 (pc := 7) (st := [.int q1]) ?_
  refine R_ifne (pc := 7) (t := 18) (show z_pt 144 7 = some (1, .ifCond .ne 11, []) by decide +kernel) (by decide) (fun c3 => ?_) (fun c3 => ?_)
  · rw [if_neg c3] at h
    cases h
    exact R_retV (show z_pt 144 18 = some (1, .return_, []) by decide +kernel) (by decide +kernel)
  · rw [if_pos c3] at h
    cases h
    exact R_thr (show z_thx 144 10 = some 1 by decide +kernel) (by omega)
def pG_directionAfter_L27_B (R : Int32 → Int32 → Option (Int32 ⊕ Nat))  (μ : z_Mem) (f1 : Int32) (f2 : Int32) (f3 : Int32) (K : Int32 → Int32 → Option (Int32 ⊕ Nat)) (a4 : Int32) (a5 : Int32) : Option (Int32 ⊕ Nat) := if f2 ≤ a5 then K a4 a5 else (z_rd μ 15 8 f3).bind fun v12 => (pJ_floorMod μ (a4 + v12) 3600).bind fun q14 => R q14 (a5 + 1)
def pG_directionAfter_L27 : Nat → z_Mem → Int32 → Int32 → Int32 → (Int32 → Int32 → Option (Int32 ⊕ Nat)) → Int32 → Int32 → Option (Int32 ⊕ Nat)
  | 0 => fun _ _ _ _ _ _ _ => none
  | n + 1 => fun μ f1 f2 f3 K a4 a5 => pG_directionAfter_L27_B (pG_directionAfter_L27 n μ f1 f2 f3 K) μ f1 f2 f3 K a4 a5
theorem pG_directionAfter_L27_run  (μ : z_Mem) (f1 : Int32) (f2 : Int32) (f3 : Int32) (K : Int32 → Int32 → Option (Int32 ⊕ Nat))  (D : Nat) (hD : 7 ≤ D) (hK : ∀ (a4 a5 : Int32) (r : (Int32 ⊕ Nat)), K a4 a5 = some r → Rn D 108 62 [(0, .ref 0), (1, .int f1), (2, .int f2), (3, .int f3), (4, .int a4), (5, .int a5)] [] μ (z_oX r) μ) : ∀ (n : Nat) (a4 : Int32) (a5 : Int32) (r : (Int32 ⊕ Nat)), pG_directionAfter_L27 n μ f1 f2 f3 K a4 a5 = some r → Rn D 108 27 [(0, .ref 0), (1, .int f1), (2, .int f2), (3, .int f3), (4, .int a4), (5, .int a5)] [] μ (z_oX r) μ := by
  intro n
  induction n with
  | zero => intro a4 a5 r h; cases h
  | succ n ih =>
    intro a4 a5 r h
    have h : pG_directionAfter_L27_B (pG_directionAfter_L27 n μ f1 f2 f3 K) μ f1 f2 f3 K a4 a5 = some r := h
    unfold pG_directionAfter_L27_B at h
    refine R_pure (pc := 27) (pc' := 29) (st' := [.int a5]) (show z_pt 108 27 = some (6, .iload 5, []) by decide +kernel) rfl (fun _ _ _ => rfl) ?_
    refine R_pure (pc := 29) (pc' := 30) (st' := [.int f2, .int a5]) (show z_pt 108 29 = some (6, .iload_n 2, []) by decide +kernel) rfl (fun _ _ _ => rfl) ?_
    refine R_icmge (pc := 30) (t := 62) (show z_pt 108 30 = some (6, .if_icmp .ge 32, []) by decide +kernel) (by decide) (fun c11 => ?_) (fun c11 => ?_)
    · rw [if_pos c11] at h
      exact hK _ _  _ h
    · rw [if_neg c11] at h
      refine R_pure (pc := 33) (pc' := 35) (st' := [.int a4]) (show z_pt 108 33 = some (6, .iload 4, []) by decide +kernel) rfl (fun _ _ _ => rfl) ?_
      refine R_pure (pc := 35) (pc' := 36) (st' := [.ref 0, .int a4]) (show z_pt 108 35 = some (6, .aload_n 0, []) by decide +kernel) rfl (fun _ _ _ => rfl) ?_
      refine R_getR (pc := 36) (a := 0) (b := 1) (show z_pt 108 36 = some (6, .getfield 17, [9, 0, 2037]) by decide +kernel) (by decide +kernel) ?_
      refine R_at (pc := 39) ?_
      refine R_getR (pc := 39) (a := 1) (b := 12) (show z_pt 108 39 = some (6, .getfield 185, [7, 2, 1176]) by decide +kernel) (by decide +kernel) ?_
      refine R_at (pc := 42) ?_
      refine R_getR (pc := 42) (a := 12) (b := 15) (show z_pt 108 42 = some (6, .getfield 228, [6, 5, 1133]) by decide +kernel) (by decide +kernel) ?_
      refine R_at (pc := 45) ?_
      refine R_pure (pc := 45) (pc' := 46) (st' := [.int f3, .ref 15, .int a4]) (show z_pt 108 45 = some (6, .iload_n 3, []) by decide +kernel) rfl (fun _ _ _ => rfl) ?_
      obtain ⟨v12, e13, h⟩ := z_bs h
      refine R_ialdR (pc := 46) (a := 15) (n := 8) (show z_pt 108 46 = some (6, .iaload, []) by decide +kernel) (show z_ar 15 0 8 = true by decide +kernel) e13 ?_
      refine R_at (pc := 47) ?_
      refine R_pure (pc := 47) (pc' := 48) (st' := [.int (a4 + v12)]) (show z_pt 108 47 = some (6, .iadd, []) by decide +kernel) rfl (fun _ _ _ => rfl) ?_
      refine R_const (pc := 48) (pc' := 51) (v := 3600) (show z_ptc 108 48 = some (51, 3600) by decide +kernel) ?_
      obtain ⟨q14, e15, h⟩ := z_bs h
      refine R_call (pc := 51) (rr := []) (show z_pt 108 51 = some (6, .invokestatic 231, [1, 161, 2, 3216, 3194, 0, 1008, 3195]) by decide +kernel) rfl (show z_r2 161 = some (12, 3, true) by decide +kernel) rfl rfl (Or.inl (by decide)) (pJ_floorMod_run  e15) (by omega) ?_
      refine R_at2 (pc := 54) (st := [.int q14]) ?_
      refine R_pure (pc := 54) (pc' := 56) (ls' := [(0, .ref 0), (1, .int f1), (2, .int f2), (3, .int f3), (4, .int q14), (5, .int a5)]) (st' := []) (show z_pt 108 54 = some (6, .istore 4, []) by decide +kernel) rfl (fun _ _ _ => rfl) ?_
      refine R_inc (pc := 56) (pc' := 59) (ls' := [(0, .ref 0), (1, .int f1), (2, .int f2), (3, .int f3), (4, .int q14), (5, .int (a5 + 1))]) (c := 1) (show z_pt 108 56 = some (6, .iinc 5 1, []) by decide +kernel) (by decide) rfl rfl ?_
      refine R_pure (pc := 59) (pc' := 27) (ls' := [(0, .ref 0), (1, .int f1), (2, .int f2), (3, .int f3), (4, .int q14), (5, .int (a5 + 1))]) (st' := []) (show z_pt 108 59 = some (6, .goto (-32), [6]) by decide +kernel) rfl (fun _ _ _ => rfl) ?_
      exact ih _ _ _  h
def pG_directionAfter  (μ : z_Mem) (i1 : Int32) (i2 : Int32) : Option (Int32 ⊕ Nat) := (pG_neededStar μ i1).bind fun q1 => (match q1 with | .inl x3 => (pG_needHoursAhead μ i2).bind fun q5 => (match q5 with | none => (z_rd μ 14 8 x3).bind fun v9 => pG_directionAfter_L27 z_fu μ i1 i2 x3 (fun k16 k17 => some (.inl k16)) v9 0 | some E8 => some (.inr E8)) | .inr E4 => some (.inr E4))
theorem pG_directionAfter_run  {μ : z_Mem} {i1 : Int32} {i2 : Int32}  {r : (Int32 ⊕ Nat)} (h : pG_directionAfter μ i1 i2 = some r) : Rn 7 108 0 [(0, .ref 0), (1, .int i1), (2, .int i2)] [] μ (z_oX r) μ := by
  unfold pG_directionAfter at h
  refine R_pure (pc := 0) (pc' := 1) (st' := [.ref 0]) (show z_pt 108 0 = some (6, .aload_n 0, []) by decide +kernel) rfl (fun _ _ _ => rfl) ?_
  refine R_pure (pc := 1) (pc' := 2) (st' := [.int i1, .ref 0]) (show z_pt 108 1 = some (6, .iload_n 1, []) by decide +kernel) rfl (fun _ _ _ => rfl) ?_
  obtain ⟨q1, e2, h⟩ := z_bs h
  have y19 := pG_neededStar_run  e2
  cases x3h : q1 with
  | inl x3 =>
    rw [x3h] at h y19
    dsimp only at h
    refine R_call (pc := 2) (rr := []) (show z_pt 108 2 = some (6, .invokevirtual 194, [0, 143, 1, 3200, 3202, 13, 1001, 3203]) by decide +kernel) rfl (show z_r2 143 = some (9, 3, true) by decide +kernel) rfl rfl (Or.inr ⟨_, _, rfl, (by decide +kernel)⟩) y19 (by omega) ?_
    refine R_at2 (pc := 5) (st := [.int x3]) ?_
    refine R_pure (pc := 5) (pc' := 6) (ls' := [(0, .ref 0), (1, .int i1), (2, .int i2), (3, .int x3)]) (st' := []) (show z_pt 108 5 = some (6, .istore_n 3, []) by decide +kernel) rfl (fun _ _ _ => rfl) ?_
    refine R_pure (pc := 6) (pc' := 7) (st' := [.int i2]) (show z_pt 108 6 = some (6, .iload_n 2, []) by decide +kernel) rfl (fun _ _ _ => rfl) ?_
    obtain ⟨q5, e6, h⟩ := z_bs h
    have y18 := pG_needHoursAhead_run  e6
    cases x7h : q5 with
    | none =>
      rw [x7h] at h y18
      dsimp only at h
      refine R_call (pc := 7) (rr := []) (show z_pt 108 7 = some (6, .invokestatic 225, [1, 144, 1, 4049, 4050, 0, 1001, 4051]) by decide +kernel) rfl (show z_r2 144 = some (9, 1, true) by decide +kernel) rfl rfl (Or.inl (by decide)) y18 (by omega) ?_
      refine R_at2 (pc := 10) (st := []) ?_
      refine R_pure (pc := 10) (pc' := 11) (st' := [.ref 0]) (show z_pt 108 10 = some (6, .aload_n 0, []) by decide +kernel) rfl (fun _ _ _ => rfl) ?_
      refine R_getR (pc := 11) (a := 0) (b := 1) (show z_pt 108 11 = some (6, .getfield 17, [9, 0, 2037]) by decide +kernel) (by decide +kernel) ?_
      refine R_at (pc := 14) ?_
      refine R_getR (pc := 14) (a := 1) (b := 12) (show z_pt 108 14 = some (6, .getfield 185, [7, 2, 1176]) by decide +kernel) (by decide +kernel) ?_
      refine R_at (pc := 17) ?_
      refine R_getR (pc := 17) (a := 12) (b := 14) (show z_pt 108 17 = some (6, .getfield 189, [6, 4, 1131]) by decide +kernel) (by decide +kernel) ?_
      refine R_at (pc := 20) ?_
      refine R_pure (pc := 20) (pc' := 21) (st' := [.int x3, .ref 14]) (show z_pt 108 20 = some (6, .iload_n 3, []) by decide +kernel) rfl (fun _ _ _ => rfl) ?_
      obtain ⟨v9, e10, h⟩ := z_bs h
      refine R_ialdR (pc := 21) (a := 14) (n := 8) (show z_pt 108 21 = some (6, .iaload, []) by decide +kernel) (show z_ar 14 0 8 = true by decide +kernel) e10 ?_
      refine R_at (pc := 22) ?_
      refine R_pure (pc := 22) (pc' := 24) (ls' := [(0, .ref 0), (1, .int i1), (2, .int i2), (3, .int x3), (4, .int v9)]) (st' := []) (show z_pt 108 22 = some (6, .istore 4, []) by decide +kernel) rfl (fun _ _ _ => rfl) ?_
      refine R_const (pc := 24) (pc' := 25) (v := 0) (show z_ptc 108 24 = some (25, 0) by decide +kernel) ?_
      refine R_pure (pc := 25) (pc' := 27) (ls' := [(0, .ref 0), (1, .int i1), (2, .int i2), (3, .int x3), (4, .int v9), (5, .int 0)]) (st' := []) (show z_pt 108 25 = some (6, .istore 5, []) by decide +kernel) rfl (fun _ _ _ => rfl) ?_
      refine pG_directionAfter_L27_run  _ _ _ _ _  _ (by omega) ?_ _ _ _ _ h
      intro k16 k17 r h
      refine R_pure (pc := 62) (pc' := 64) (st' := [.int k16]) (show z_pt 108 62 = some (6, .iload 4, []) by decide +kernel) rfl (fun _ _ _ => rfl) ?_
      cases h
      exact R_retI (show z_pt 108 64 = some (6, .ireturn, []) by decide +kernel) (by decide +kernel)
    | some E8 =>
      rw [x7h] at h y18
      cases h
      exact R_callX (pc := 7) (rr := []) (show z_pt 108 7 = some (6, .invokestatic 225, [1, 144, 1, 4049, 4050, 0, 1001, 4051]) by decide +kernel) rfl (show z_r2 144 = some (9, 1, true) by decide +kernel) rfl rfl (Or.inl (by decide)) y18 (by decide) (by decide +kernel) (by omega)
  | inr E4 =>
    rw [x3h] at h y19
    cases h
    exact R_callX (pc := 2) (rr := []) (show z_pt 108 2 = some (6, .invokevirtual 194, [0, 143, 1, 3200, 3202, 13, 1001, 3203]) by decide +kernel) rfl (show z_r2 143 = some (9, 3, true) by decide +kernel) rfl rfl (Or.inr ⟨_, _, rfl, (by decide +kernel)⟩) y19 (by decide) (by decide +kernel) (by omega)
def pG_directionAfterAtOnce  (μ : z_Mem) (i1 : Int32) (i2 : Int32) : Option (Int32 ⊕ Nat) := (pG_neededStar μ i1).bind fun q1 => (match q1 with | .inl x3 => (pG_needHoursAhead μ i2).bind fun q5 => (match q5 with | none => (pY_directionLater μ x3 i2).bind fun q9 => some (.inl q9) | some E8 => some (.inr E8)) | .inr E4 => some (.inr E4))
theorem pG_directionAfterAtOnce_run  {μ : z_Mem} {i1 : Int32} {i2 : Int32}  {r : (Int32 ⊕ Nat)} (h : pG_directionAfterAtOnce μ i1 i2 = some r) : Rn 7 109 0 [(0, .ref 0), (1, .int i1), (2, .int i2)] [] μ (z_oX r) μ := by
  unfold pG_directionAfterAtOnce at h
  refine R_pure (pc := 0) (pc' := 1) (st' := [.ref 0]) (show z_pt 109 0 = some (4, .aload_n 0, []) by decide +kernel) rfl (fun _ _ _ => rfl) ?_
  refine R_pure (pc := 1) (pc' := 2) (st' := [.int i1, .ref 0]) (show z_pt 109 1 = some (4, .iload_n 1, []) by decide +kernel) rfl (fun _ _ _ => rfl) ?_
  obtain ⟨q1, e2, h⟩ := z_bs h
  have y12 := pG_neededStar_run  e2
  cases x3h : q1 with
  | inl x3 =>
    rw [x3h] at h y12
    dsimp only at h
    refine R_call (pc := 2) (rr := []) (show z_pt 109 2 = some (4, .invokevirtual 194, [0, 143, 1, 3200, 3202, 13, 1001, 3203]) by decide +kernel) rfl (show z_r2 143 = some (9, 3, true) by decide +kernel) rfl rfl (Or.inr ⟨_, _, rfl, (by decide +kernel)⟩) y12 (by omega) ?_
    refine R_at2 (pc := 5) (st := [.int x3]) ?_
    refine R_pure (pc := 5) (pc' := 6) (ls' := [(0, .ref 0), (1, .int i1), (2, .int i2), (3, .int x3)]) (st' := []) (show z_pt 109 5 = some (4, .istore_n 3, []) by decide +kernel) rfl (fun _ _ _ => rfl) ?_
    refine R_pure (pc := 6) (pc' := 7) (st' := [.int i2]) (show z_pt 109 6 = some (4, .iload_n 2, []) by decide +kernel) rfl (fun _ _ _ => rfl) ?_
    obtain ⟨q5, e6, h⟩ := z_bs h
    have y11 := pG_needHoursAhead_run  e6
    cases x7h : q5 with
    | none =>
      rw [x7h] at h y11
      dsimp only at h
      refine R_call (pc := 7) (rr := []) (show z_pt 109 7 = some (4, .invokestatic 225, [1, 144, 1, 4049, 4050, 0, 1001, 4051]) by decide +kernel) rfl (show z_r2 144 = some (9, 1, true) by decide +kernel) rfl rfl (Or.inl (by decide)) y11 (by omega) ?_
      refine R_at2 (pc := 10) (st := []) ?_
      refine R_pure (pc := 10) (pc' := 11) (st' := [.ref 0]) (show z_pt 109 10 = some (4, .aload_n 0, []) by decide +kernel) rfl (fun _ _ _ => rfl) ?_
      refine R_getR (pc := 11) (a := 0) (b := 1) (show z_pt 109 11 = some (4, .getfield 17, [9, 0, 2037]) by decide +kernel) (by decide +kernel) ?_
      refine R_at (pc := 14) ?_
      refine R_getR (pc := 14) (a := 1) (b := 12) (show z_pt 109 14 = some (4, .getfield 185, [7, 2, 1176]) by decide +kernel) (by decide +kernel) ?_
      refine R_at (pc := 17) ?_
      refine R_pure (pc := 17) (pc' := 18) (st' := [.int x3, .ref 12]) (show z_pt 109 17 = some (4, .iload_n 3, []) by decide +kernel) rfl (fun _ _ _ => rfl) ?_
      refine R_pure (pc := 18) (pc' := 19) (st' := [.int i2, .int x3, .ref 12]) (show z_pt 109 18 = some (4, .iload_n 2, []) by decide +kernel) rfl (fun _ _ _ => rfl) ?_
      obtain ⟨q9, e10, h⟩ := z_bs h
      refine R_call (pc := 19) (rr := []) (show z_pt 109 19 = some (4, .invokevirtual 236, [0, 62, 2, 4056, 4041, 4042, 1005, 4043]) by decide +kernel) rfl (show z_r2 62 = some (6, 3, true) by decide +kernel) rfl rfl (Or.inr ⟨_, _, rfl, (by decide +kernel)⟩) (pY_directionLater_run  e10) (by omega) ?_
      refine R_at2 (pc := 22) (st := [.int q9]) ?_
      cases h
      exact R_retI (show z_pt 109 22 = some (4, .ireturn, []) by decide +kernel) (by decide +kernel)
    | some E8 =>
      rw [x7h] at h y11
      cases h
      exact R_callX (pc := 7) (rr := []) (show z_pt 109 7 = some (4, .invokestatic 225, [1, 144, 1, 4049, 4050, 0, 1001, 4051]) by decide +kernel) rfl (show z_r2 144 = some (9, 1, true) by decide +kernel) rfl rfl (Or.inl (by decide)) y11 (by decide) (by decide +kernel) (by omega)
  | inr E4 =>
    rw [x3h] at h y12
    cases h
    exact R_callX (pc := 2) (rr := []) (show z_pt 109 2 = some (4, .invokevirtual 194, [0, 143, 1, 3200, 3202, 13, 1001, 3203]) by decide +kernel) rfl (show z_r2 143 = some (9, 3, true) by decide +kernel) rfl rfl (Or.inr ⟨_, _, rfl, (by decide +kernel)⟩) y12 (by decide) (by decide +kernel) (by omega)
def pG_nearestStar  (μ : z_Mem) (i1 : Int32) : Option (Int32 ⊕ Nat) := (pG_isWithin μ i1 0 3599).bind fun q1 => if q1 = 0 then some (.inr 1) else if (μ 12 0) = 0 then some (.inr 3) else (pY_idNearest μ i1).bind fun q5 => some (.inl q5)
theorem pG_nearestStar_run  {μ : z_Mem} {i1 : Int32}  {r : (Int32 ⊕ Nat)} (h : pG_nearestStar μ i1 = some r) : Rn 6 110 0 [(0, .ref 0), (1, .int i1)] [] μ (z_oX r) μ := by
  unfold pG_nearestStar at h
  refine R_pure (pc := 0) (pc' := 1) (st' := [.int i1]) (show z_pt 110 0 = some (2, .iload_n 1, []) by decide +kernel) rfl (fun _ _ _ => rfl) ?_
  refine R_const (pc := 1) (pc' := 2) (v := 0) (show z_ptc 110 1 = some (2, 0) by decide +kernel) ?_
  refine R_const (pc := 2) (pc' := 5) (v := 3599) (show z_ptc 110 2 = some (5, 3599) by decide +kernel) ?_
  obtain ⟨q1, e2, h⟩ := z_bs h
  refine R_call (pc := 5) (rr := []) (show z_pt 110 5 = some (2, .invokestatic 239, [1, 148, 3, 2106, 2107, 0, 1001, 2108]) by decide +kernel) rfl (show z_r2 148 = some (9, 3, true) by decide +kernel) rfl rfl (Or.inl (by decide)) (pG_isWithin_run  e2) (by omega) ?_
  refine R_at2 (pc := 8) (st := [.int q1]) ?_
  refine R_ifne (pc := 8) (t := 19) (show z_pt 110 8 = some (2, .ifCond .ne 11, []) by decide +kernel) (by decide) (fun c3 => ?_) (fun c3 => ?_)
  · rw [if_neg c3] at h
    refine R_pure (pc := 19) (pc' := 20) (st' := [.ref 0]) (show z_pt 110 19 = some (2, .aload_n 0, []) by decide +kernel) rfl (fun _ _ _ => rfl) ?_
    refine R_getR (pc := 20) (a := 0) (b := 1) (show z_pt 110 20 = some (2, .getfield 17, [9, 0, 2037]) by decide +kernel) (by decide +kernel) ?_
    refine R_at (pc := 23) ?_
    refine R_getR (pc := 23) (a := 1) (b := 12) (show z_pt 110 23 = some (2, .getfield 185, [7, 2, 1176]) by decide +kernel) (by decide +kernel) ?_
    refine R_at (pc := 26) ?_
    refine R_getI (pc := 26) (a := 12) (show z_pt 110 26 = some (2, .getfield 215, [6, 0, 1124]) by decide +kernel) (by decide +kernel) ?_
    refine R_at (pc := 29) ?_
    refine R_ifne (pc := 29) (t := 40) (show z_pt 110 29 = some (2, .ifCond .ne 11, []) by decide +kernel) (by decide) (fun c4 => ?_) (fun c4 => ?_)
    · rw [if_neg c4] at h
      refine R_pure (pc := 40) (pc' := 41) (st' := [.ref 0]) (show z_pt 110 40 = some (2, .aload_n 0, []) by decide +kernel) rfl (fun _ _ _ => rfl) ?_
      refine R_getR (pc := 41) (a := 0) (b := 1) (show z_pt 110 41 = some (2, .getfield 17, [9, 0, 2037]) by decide +kernel) (by decide +kernel) ?_
      refine R_at (pc := 44) ?_
      refine R_getR (pc := 44) (a := 1) (b := 12) (show z_pt 110 44 = some (2, .getfield 185, [7, 2, 1176]) by decide +kernel) (by decide +kernel) ?_
      refine R_at (pc := 47) ?_
      refine R_pure (pc := 47) (pc' := 48) (st' := [.int i1, .ref 12]) (show z_pt 110 47 = some (2, .iload_n 1, []) by decide +kernel) rfl (fun _ _ _ => rfl) ?_
      obtain ⟨q5, e6, h⟩ := z_bs h
      refine R_call (pc := 48) (rr := []) (show z_pt 110 48 = some (2, .invokevirtual 246, [0, 63, 1, 4061, 4062, 4063, 1005, 4064]) by decide +kernel) rfl (show z_r2 63 = some (6, 6, true) by decide +kernel) rfl rfl (Or.inr ⟨_, _, rfl, (by decide +kernel)⟩) (pY_idNearest_run  e6) (by omega) ?_
      refine R_at2 (pc := 51) (st := [.int q5]) ?_
      cases h
      exact R_retI (show z_pt 110 51 = some (2, .ireturn, []) by decide +kernel) (by decide +kernel)
    · rw [if_pos c4] at h
      cases h
      exact R_thr (show z_thx 110 32 = some 3 by decide +kernel) (by omega)
  · rw [if_pos c3] at h
    cases h
    exact R_thr (show z_thx 110 11 = some 1 by decide +kernel) (by omega)
def pG_isKey  (μ : z_Mem) (i0 : Int32) (i1 : Int32) : Option Int32 := (pG_isWithin μ i0 97 122).bind fun q1 => if q1 = 0 then some 0 else (pG_isWithin μ i1 0 9).bind fun q4 => if q4 = 0 then some 0 else some 1
theorem pG_isKey_run  {μ : z_Mem} {i0 : Int32} {i1 : Int32}  {r : Int32} (h : pG_isKey μ i0 i1 = some r) : Rn 1 147 0 [(0, .int i0), (1, .int i1)] [] μ (.inl (some (.int r))) μ := by
  unfold pG_isKey at h
  refine R_pure (pc := 0) (pc' := 1) (st' := [.int i0]) (show z_pt 147 0 = some (2, .iload_n 0, []) by decide +kernel) rfl (fun _ _ _ => rfl) ?_
  refine R_const (pc := 1) (pc' := 3) (v := 97) (show z_ptc 147 1 = some (3, 97) by decide +kernel) ?_
  refine R_const (pc := 3) (pc' := 5) (v := 122) (show z_ptc 147 3 = some (5, 122) by decide +kernel) ?_
  obtain ⟨q1, e2, h⟩ := z_bs h
  refine R_call (pc := 5) (rr := []) (show z_pt 147 5 = some (2, .invokestatic 239, [1, 148, 3, 2106, 2107, 0, 1001, 2108]) by decide +kernel) rfl (show z_r2 148 = some (9, 3, true) by decide +kernel) rfl rfl (Or.inl (by decide)) (pG_isWithin_run  e2) (by omega) ?_
  refine R_at2 (pc := 8) (st := [.int q1]) ?_
  refine R_ifeq (pc := 8) (t := 25) (show z_pt 147 8 = some (2, .ifCond .eq 17, []) by decide +kernel) (by decide) (fun c3 => ?_) (fun c3 => ?_)
  · rw [if_pos c3] at h
    refine R_const (pc := 25) (pc' := 26) (v := 0) (show z_ptc 147 25 = some (26, 0) by decide +kernel) ?_
    cases h
    exact R_retZ (show z_pt 147 26 = some (2, .ireturn, []) by decide +kernel) (t := .boolean) (by decide +kernel) (by decide)
  · rw [if_neg c3] at h
    refine R_pure (pc := 11) (pc' := 12) (st' := [.int i1]) (show z_pt 147 11 = some (2, .iload_n 1, []) by decide +kernel) rfl (fun _ _ _ => rfl) ?_
    refine R_const (pc := 12) (pc' := 13) (v := 0) (show z_ptc 147 12 = some (13, 0) by decide +kernel) ?_
    refine R_const (pc := 13) (pc' := 15) (v := 9) (show z_ptc 147 13 = some (15, 9) by decide +kernel) ?_
    obtain ⟨q4, e5, h⟩ := z_bs h
    refine R_call (pc := 15) (rr := []) (show z_pt 147 15 = some (2, .invokestatic 239, [1, 148, 3, 2106, 2107, 0, 1001, 2108]) by decide +kernel) rfl (show z_r2 148 = some (9, 3, true) by decide +kernel) rfl rfl (Or.inl (by decide)) (pG_isWithin_run  e5) (by omega) ?_
    refine R_at2 (pc := 18) (st := [.int q4]) ?_
    refine R_ifeq (pc := 18) (t := 25) (show z_pt 147 18 = some (2, .ifCond .eq 7, []) by decide +kernel) (by decide) (fun c6 => ?_) (fun c6 => ?_)
    · rw [if_pos c6] at h
      refine R_const (pc := 25) (pc' := 26) (v := 0) (show z_ptc 147 25 = some (26, 0) by decide +kernel) ?_
      cases h
      exact R_retZ (show z_pt 147 26 = some (2, .ireturn, []) by decide +kernel) (t := .boolean) (by decide +kernel) (by decide)
    · rw [if_neg c6] at h
      refine R_const (pc := 21) (pc' := 22) (v := 1) (show z_ptc 147 21 = some (22, 1) by decide +kernel) ?_
      refine R_pure (pc := 22) (pc' := 26) (show z_pt 147 22 = some (2, .goto 4, []) by decide +kernel) rfl (fun _ _ _ => rfl) ?_
      cases h
      exact R_retZ (show z_pt 147 26 = some (2, .ireturn, []) by decide +kernel) (t := .boolean) (by decide +kernel) (by decide)
def pG_tryEntry  (μ : z_Mem) (i1 : Int32) (i2 : Int32) : Option (Int32 × z_Mem) := (pG_isKey μ i1 i2).bind fun q1 => if q1 = 0 then some ((-2), μ) else (pE_placeOf μ i1 i2).bind fun q4 => if q4 = (-1) then if (μ 16 0) < 6 then (pE_write μ i1 i2).bind fun q10 => some (q10.1, q10.2) else some ((-3), μ) else (pE_write μ i1 i2).bind fun q7 => some (q7.1, q7.2)
theorem pG_tryEntry_run  {μ : z_Mem} {i1 : Int32} {i2 : Int32}  {r : (Int32 × z_Mem)} (h : pG_tryEntry μ i1 i2 = some r) : Rn 2 134 0 [(0, .ref 0), (1, .int i1), (2, .int i2)] [] μ (.inl (some (.int r.1))) r.2 := by
  unfold pG_tryEntry at h
  refine R_pure (pc := 0) (pc' := 1) (st' := [.int i1]) (show z_pt 134 0 = some (3, .iload_n 1, []) by decide +kernel) rfl (fun _ _ _ => rfl) ?_
  refine R_pure (pc := 1) (pc' := 2) (st' := [.int i2, .int i1]) (show z_pt 134 1 = some (3, .iload_n 2, []) by decide +kernel) rfl (fun _ _ _ => rfl) ?_
  obtain ⟨q1, e2, h⟩ := z_bs h
  refine R_call (pc := 2) (rr := []) (show z_pt 134 2 = some (3, .invokestatic 369, [1, 147, 2, 4074, 4075, 0, 1001, 4076]) by decide +kernel) rfl (show z_r2 147 = some (9, 2, true) by decide +kernel) rfl rfl (Or.inl (by decide)) (pG_isKey_run  e2) (by omega) ?_
  refine R_at2 (pc := 5) (st := [.int q1]) ?_
  refine R_ifne (pc := 5) (t := 11) (show z_pt 134 5 = some (3, .ifCond .ne 6, []) by decide +kernel) (by decide) (fun c3 => ?_) (fun c3 => ?_)
  · rw [if_neg c3] at h
    refine R_pure (pc := 11) (pc' := 12) (st' := [.ref 0]) (show z_pt 134 11 = some (3, .aload_n 0, []) by decide +kernel) rfl (fun _ _ _ => rfl) ?_
    refine R_getR (pc := 12) (a := 0) (b := 1) (show z_pt 134 12 = some (3, .getfield 17, [9, 0, 2037]) by decide +kernel) (by decide +kernel) ?_
    refine R_at (pc := 15) ?_
    refine R_getR (pc := 15) (a := 1) (b := 16) (show z_pt 134 15 = some (3, .getfield 260, [7, 3, 1178]) by decide +kernel) (by decide +kernel) ?_
    refine R_at (pc := 18) ?_
    refine R_pure (pc := 18) (pc' := 19) (st' := [.int i1, .ref 16]) (show z_pt 134 18 = some (3, .iload_n 1, []) by decide +kernel) rfl (fun _ _ _ => rfl) ?_
    refine R_pure (pc := 19) (pc' := 20) (st' := [.int i2, .int i1, .ref 16]) (show z_pt 134 19 = some (3, .iload_n 2, []) by decide +kernel) rfl (fun _ _ _ => rfl) ?_
    obtain ⟨q4, e5, h⟩ := z_bs h
    refine R_call (pc := 20) (rr := []) (show z_pt 134 20 = some (3, .invokevirtual 264, [0, 16, 2, 4077, 4078, 4079, 1006, 4080]) by decide +kernel) rfl (show z_r2 16 = some (1, 4, true) by decide +kernel) rfl rfl (Or.inr ⟨_, _, rfl, (by decide +kernel)⟩) (pE_placeOf_run  e5) (by omega) ?_
    refine R_at2 (pc := 23) (st := [.int q4]) ?_
    refine R_const (pc := 23) (pc' := 24) (v := (-1)) (show z_ptc 134 23 = some (24, (-1)) by decide +kernel) ?_
    refine R_icmne (pc := 24) (t := 45) (show z_pt 134 24 = some (3, .if_icmp .ne 21, []) by decide +kernel) (by decide) (fun c6 => ?_) (fun c6 => ?_)
    · rw [if_neg c6] at h
      refine R_pure (pc := 45) (pc' := 46) (st' := [.ref 0]) (show z_pt 134 45 = some (3, .aload_n 0, []) by decide +kernel) rfl (fun _ _ _ => rfl) ?_
      refine R_getR (pc := 46) (a := 0) (b := 1) (show z_pt 134 46 = some (3, .getfield 17, [9, 0, 2037]) by decide +kernel) (by decide +kernel) ?_
      refine R_at (pc := 49) ?_
      refine R_getR (pc := 49) (a := 1) (b := 16) (show z_pt 134 49 = some (3, .getfield 260, [7, 3, 1178]) by decide +kernel) (by decide +kernel) ?_
      refine R_at (pc := 52) ?_
      refine R_pure (pc := 52) (pc' := 53) (st' := [.int i1, .ref 16]) (show z_pt 134 52 = some (3, .iload_n 1, []) by decide +kernel) rfl (fun _ _ _ => rfl) ?_
      refine R_pure (pc := 53) (pc' := 54) (st' := [.int i2, .int i1, .ref 16]) (show z_pt 134 53 = some (3, .iload_n 2, []) by decide +kernel) rfl (fun _ _ _ => rfl) ?_
      refine R_pure (pc := 54) (pc' := 55) (st' := [.ref 0, .int i2, .int i1, .ref 16]) (show z_pt 134 54 = some (3, .aload_n 0, []) by decide +kernel) rfl (fun _ _ _ => rfl) ?_
      refine R_getR (pc := 55) (a := 0) (b := 1) (show z_pt 134 55 = some (3, .getfield 17, [9, 0, 2037]) by decide +kernel) (by decide +kernel) ?_
      refine R_at (pc := 58) ?_
      refine R_getR (pc := 58) (a := 1) (b := 2) (show z_pt 134 58 = some (3, .getfield 23, [7, 0, 1172]) by decide +kernel) (by decide +kernel) ?_
      refine R_at (pc := 61) ?_
      obtain ⟨q7, e8, h⟩ := z_bs h
      refine R_call (pc := 61) (rr := []) (show z_pt 134 61 = some (3, .invokevirtual 374, [0, 17, 3, 4081, 4082, 4083, 1006, 4084]) by decide +kernel) rfl (show z_r2 17 = some (1, 5, true) by decide +kernel) rfl rfl (Or.inr ⟨_, _, rfl, (by decide +kernel)⟩) (pE_write_run  e8) (by omega) ?_
      refine R_at2 (pc := 64) (st := [.int q7.1]) ?_
      cases h
      exact R_retI (show z_pt 134 64 = some (3, .ireturn, []) by decide +kernel) (by decide +kernel)
    · rw [if_pos c6] at h
      refine R_pure (pc := 27) (pc' := 28) (st' := [.ref 0]) (show z_pt 134 27 = some (3, .aload_n 0, []) by decide +kernel) rfl (fun _ _ _ => rfl) ?_
      refine R_getR (pc := 28) (a := 0) (b := 1) (show z_pt 134 28 = some (3, .getfield 17, [9, 0, 2037]) by decide +kernel) (by decide +kernel) ?_
      refine R_at (pc := 31) ?_
      refine R_getR (pc := 31) (a := 1) (b := 16) (show z_pt 134 31 = some (3, .getfield 260, [7, 3, 1178]) by decide +kernel) (by decide +kernel) ?_
      refine R_at (pc := 34) ?_
      refine R_getI (pc := 34) (a := 16) (show z_pt 134 34 = some (3, .getfield 373, [1, 0, 1154]) by decide +kernel) (by decide +kernel) ?_
      refine R_at (pc := 37) ?_
      refine R_const (pc := 37) (pc' := 39) (v := 6) (show z_ptc 134 37 = some (39, 6) by decide +kernel) ?_
      refine R_icmlt (pc := 39) (t := 45) (show z_pt 134 39 = some (3, .if_icmp .lt 6, []) by decide +kernel) (by decide) (fun c9 => ?_) (fun c9 => ?_)
      · rw [if_pos c9] at h
        refine R_pure (pc := 45) (pc' := 46) (st' := [.ref 0]) (show z_pt 134 45 = some (3, .aload_n 0, []) by decide +kernel) rfl (fun _ _ _ => rfl) ?_
        refine R_getR (pc := 46) (a := 0) (b := 1) (show z_pt 134 46 = some (3, .getfield 17, [9, 0, 2037]) by decide +kernel) (by decide +kernel) ?_
        refine R_at (pc := 49) ?_
        refine R_getR (pc := 49) (a := 1) (b := 16) (show z_pt 134 49 = some (3, .getfield 260, [7, 3, 1178]) by decide +kernel) (by decide +kernel) ?_
        refine R_at (pc := 52) ?_
        refine R_pure (pc := 52) (pc' := 53) (st' := [.int i1, .ref 16]) (show z_pt 134 52 = some (3, .iload_n 1, []) by decide +kernel) rfl (fun _ _ _ => rfl) ?_
        refine R_pure (pc := 53) (pc' := 54) (st' := [.int i2, .int i1, .ref 16]) (show z_pt 134 53 = some (3, .iload_n 2, []) by decide +kernel) rfl (fun _ _ _ => rfl) ?_
        refine R_pure (pc := 54) (pc' := 55) (st' := [.ref 0, .int i2, .int i1, .ref 16]) (show z_pt 134 54 = some (3, .aload_n 0, []) by decide +kernel) rfl (fun _ _ _ => rfl) ?_
        refine R_getR (pc := 55) (a := 0) (b := 1) (show z_pt 134 55 = some (3, .getfield 17, [9, 0, 2037]) by decide +kernel) (by decide +kernel) ?_
        refine R_at (pc := 58) ?_
        refine R_getR (pc := 58) (a := 1) (b := 2) (show z_pt 134 58 = some (3, .getfield 23, [7, 0, 1172]) by decide +kernel) (by decide +kernel) ?_
        refine R_at (pc := 61) ?_
        obtain ⟨q10, e11, h⟩ := z_bs h
        refine R_call (pc := 61) (rr := []) (show z_pt 134 61 = some (3, .invokevirtual 374, [0, 17, 3, 4081, 4082, 4083, 1006, 4084]) by decide +kernel) rfl (show z_r2 17 = some (1, 5, true) by decide +kernel) rfl rfl (Or.inr ⟨_, _, rfl, (by decide +kernel)⟩) (pE_write_run  e11) (by omega) ?_
        refine R_at2 (pc := 64) (st := [.int q10.1]) ?_
        cases h
        exact R_retI (show z_pt 134 64 = some (3, .ireturn, []) by decide +kernel) (by decide +kernel)
      · rw [if_neg c9] at h
        refine R_const (pc := 42) (pc' := 44) (v := (-3)) (show z_ptc 134 42 = some (44, (-3)) by decide +kernel) ?_
        cases h
        exact R_retI (show z_pt 134 44 = some (3, .ireturn, []) by decide +kernel) (by decide +kernel)
  · rw [if_pos c3] at h
    refine R_const (pc := 8) (pc' := 10) (v := (-2)) (show z_ptc 134 8 = some (10, (-2)) by decide +kernel) ?_
    cases h
    exact R_retI (show z_pt 134 10 = some (3, .ireturn, []) by decide +kernel) (by decide +kernel)
def pG_catalogue  (μ : z_Mem) (i1 : Int32) (i2 : Int32) : Option ((Int32 ⊕ Nat) × z_Mem) := (pH_begin μ).bind fun q1 => (pG_tryEntry q1 i1 i2).bind fun q3 => (pG_settled q3.2 q3.1).bind fun q5 => (match q5.1 with | .inl x7 => some ((.inl x7), q5.2) | .inr E8 => some ((.inr E8), q5.2))
theorem pG_catalogue_run  {μ : z_Mem} {i1 : Int32} {i2 : Int32}  {r : ((Int32 ⊕ Nat) × z_Mem)} (h : pG_catalogue μ i1 i2 = some r) : Rn 7 111 0 [(0, .ref 0), (1, .int i1), (2, .int i2)] [] μ (z_oX r.1) r.2 := by
  unfold pG_catalogue at h
  refine R_pure (pc := 0) (pc' := 1) (st' := [.ref 0]) (show z_pt 111 0 = some (3, .aload_n 0, []) by decide +kernel) rfl (fun _ _ _ => rfl) ?_
  refine R_getR (pc := 1) (a := 0) (b := 57) (show z_pt 111 1 = some (3, .getfield 53, [9, 2, 2039]) by decide +kernel) (by decide +kernel) ?_
  refine R_at (pc := 4) ?_
  refine R_pure (pc := 4) (pc' := 5) (st' := [.ref 0, .ref 57]) (show z_pt 111 4 = some (3, .aload_n 0, []) by decide +kernel) rfl (fun _ _ _ => rfl) ?_
  refine R_getR (pc := 5) (a := 0) (b := 1) (show z_pt 111 5 = some (3, .getfield 17, [9, 0, 2037]) by decide +kernel) (by decide +kernel) ?_
  refine R_at (pc := 8) ?_
  obtain ⟨q1, e2, h⟩ := z_bs h
  refine R_call (pc := 8) (rr := []) (show z_pt 111 8 = some (3, .invokevirtual 71, [0, 49, 1, 2072, 2073, 2074, 1011, 2075]) by decide +kernel) rfl (show z_r2 49 = some (4, 3, true) by decide +kernel) rfl rfl (Or.inr ⟨_, _, rfl, (by decide +kernel)⟩) (pH_begin_run  e2) (by omega) ?_
  refine R_at2 (pc := 11) (st := []) ?_
  refine R_pure (pc := 11) (pc' := 12) (st' := [.ref 0]) (show z_pt 111 11 = some (3, .aload_n 0, []) by decide +kernel) rfl (fun _ _ _ => rfl) ?_
  refine R_pure (pc := 12) (pc' := 13) (st' := [.ref 0, .ref 0]) (show z_pt 111 12 = some (3, .aload_n 0, []) by decide +kernel) rfl (fun _ _ _ => rfl) ?_
  refine R_pure (pc := 13) (pc' := 14) (st' := [.int i1, .ref 0, .ref 0]) (show z_pt 111 13 = some (3, .iload_n 1, []) by decide +kernel) rfl (fun _ _ _ => rfl) ?_
  refine R_pure (pc := 14) (pc' := 15) (st' := [.int i2, .int i1, .ref 0, .ref 0]) (show z_pt 111 14 = some (3, .iload_n 2, []) by decide +kernel) rfl (fun _ _ _ => rfl) ?_
  obtain ⟨q3, e4, h⟩ := z_bs h
  refine R_call (pc := 15) (rr := [.ref 0]) (show z_pt 111 15 = some (3, .invokevirtual 249, [0, 134, 2, 4070, 4072, 18, 1001, 4073]) by decide +kernel) rfl (show z_r2 134 = some (9, 3, true) by decide +kernel) rfl rfl (Or.inr ⟨_, _, rfl, (by decide +kernel)⟩) (pG_tryEntry_run  e4) (by omega) ?_
  refine R_at2 (pc := 18) (st := [.int q3.1, .ref 0]) ?_
  obtain ⟨q5, e6, h⟩ := z_bs h
  have y9 := pG_settled_run  e6
  cases x7h : q5.1 with
  | inl x7 =>
    rw [x7h] at h y9
    dsimp only at h
    refine R_call (pc := 18) (rr := []) (show z_pt 111 18 = some (3, .invokevirtual 79, [0, 136, 1, 2113, 2115, 1, 1001, 2116]) by decide +kernel) rfl (show z_r2 136 = some (9, 2, true) by decide +kernel) rfl rfl (Or.inr ⟨_, _, rfl, (by decide +kernel)⟩) y9 (by omega) ?_
    refine R_at2 (pc := 21) (st := [.int x7]) ?_
    cases h
    exact R_retI (show z_pt 111 21 = some (3, .ireturn, []) by decide +kernel) (by decide +kernel)
  | inr E8 =>
    rw [x7h] at h y9
    cases h
    exact R_callX (pc := 18) (rr := []) (show z_pt 111 18 = some (3, .invokevirtual 79, [0, 136, 1, 2113, 2115, 1, 1001, 2116]) by decide +kernel) rfl (show z_r2 136 = some (9, 2, true) by decide +kernel) rfl rfl (Or.inr ⟨_, _, rfl, (by decide +kernel)⟩) y9 (by decide) (by decide +kernel) (by omega)
def pG_tryForgetting  (μ : z_Mem) (i1 : Int32) (i2 : Int32) : Option (Int32 × z_Mem) := (pG_isKey μ i1 i2).bind fun q1 => if q1 = 0 then some ((-2), μ) else (pE_placeOf μ i1 i2).bind fun q4 => if q4 = (-1) then some ((-4), μ) else (pE_removeAt μ q4).bind fun q7 => some (q7.1, q7.2)
theorem pG_tryForgetting_run  {μ : z_Mem} {i1 : Int32} {i2 : Int32}  {r : (Int32 × z_Mem)} (h : pG_tryForgetting μ i1 i2 = some r) : Rn 2 135 0 [(0, .ref 0), (1, .int i1), (2, .int i2)] [] μ (.inl (some (.int r.1))) r.2 := by
  unfold pG_tryForgetting at h
  refine R_pure (pc := 0) (pc' := 1) (st' := [.int i1]) (show z_pt 135 0 = some (4, .iload_n 1, []) by decide +kernel) rfl (fun _ _ _ => rfl) ?_
  refine R_pure (pc := 1) (pc' := 2) (st' := [.int i2, .int i1]) (show z_pt 135 1 = some (4, .iload_n 2, []) by decide +kernel) rfl (fun _ _ _ => rfl) ?_
  obtain ⟨q1, e2, h⟩ := z_bs h
  refine R_call (pc := 2) (rr := []) (show z_pt 135 2 = some (4, .invokestatic 369, [1, 147, 2, 4074, 4075, 0, 1001, 4076]) by decide +kernel) rfl (show z_r2 147 = some (9, 2, true) by decide +kernel) rfl rfl (Or.inl (by decide)) (pG_isKey_run  e2) (by omega) ?_
  refine R_at2 (pc := 5) (st := [.int q1]) ?_
  refine R_ifne (pc := 5) (t := 11) (show z_pt 135 5 = some (4, .ifCond .ne 6, []) by decide +kernel) (by decide) (fun c3 => ?_) (fun c3 => ?_)
  · rw [if_neg c3] at h
    refine R_pure (pc := 11) (pc' := 12) (st' := [.ref 0]) (show z_pt 135 11 = some (4, .aload_n 0, []) by decide +kernel) rfl (fun _ _ _ => rfl) ?_
    refine R_getR (pc := 12) (a := 0) (b := 1) (show z_pt 135 12 = some (4, .getfield 17, [9, 0, 2037]) by decide +kernel) (by decide +kernel) ?_
    refine R_at (pc := 15) ?_
    refine R_getR (pc := 15) (a := 1) (b := 16) (show z_pt 135 15 = some (4, .getfield 260, [7, 3, 1178]) by decide +kernel) (by decide +kernel) ?_
    refine R_at (pc := 18) ?_
    refine R_pure (pc := 18) (pc' := 19) (st' := [.int i1, .ref 16]) (show z_pt 135 18 = some (4, .iload_n 1, []) by decide +kernel) rfl (fun _ _ _ => rfl) ?_
    refine R_pure (pc := 19) (pc' := 20) (st' := [.int i2, .int i1, .ref 16]) (show z_pt 135 19 = some (4, .iload_n 2, []) by decide +kernel) rfl (fun _ _ _ => rfl) ?_
    obtain ⟨q4, e5, h⟩ := z_bs h
    refine R_call (pc := 20) (rr := []) (show z_pt 135 20 = some (4, .invokevirtual 264, [0, 16, 2, 4077, 4078, 4079, 1006, 4080]) by decide +kernel) rfl (show z_r2 16 = some (1, 4, true) by decide +kernel) rfl rfl (Or.inr ⟨_, _, rfl, (by decide +kernel)⟩) (pE_placeOf_run  e5) (by omega) ?_
    refine R_at2 (pc := 23) (st := [.int q4]) ?_
    refine R_pure (pc := 23) (pc' := 24) (ls' := [(0, .ref 0), (1, .int i1), (2, .int i2), (3, .int q4)]) (st' := []) (show z_pt 135 23 = some (4, .istore_n 3, []) by decide +kernel) rfl (fun _ _ _ => rfl) ?_
    refine R_pure (pc := 24) (pc' := 25) (st' := [.int q4]) (show z_pt 135 24 = some (4, .iload_n 3, []) by decide +kernel) rfl (fun _ _ _ => rfl) ?_
    refine R_const (pc := 25) (pc' := 26) (v := (-1)) (show z_ptc 135 25 = some (26, (-1)) by decide +kernel) ?_
    refine R_icmne (pc := 26) (t := 34) (show z_pt 135 26 = some (4, .if_icmp .ne 8, []) by decide +kernel) (by decide) (fun c6 => ?_) (fun c6 => ?_)
    · rw [if_neg c6] at h
      refine R_pure (pc := 34) (pc' := 35) (st' := [.ref 0]) (show z_pt 135 34 = some (4, .aload_n 0, []) by decide +kernel) rfl (fun _ _ _ => rfl) ?_
      refine R_getR (pc := 35) (a := 0) (b := 1) (show z_pt 135 35 = some (4, .getfield 17, [9, 0, 2037]) by decide +kernel) (by decide +kernel) ?_
      refine R_at (pc := 38) ?_
      refine R_getR (pc := 38) (a := 1) (b := 16) (show z_pt 135 38 = some (4, .getfield 260, [7, 3, 1178]) by decide +kernel) (by decide +kernel) ?_
      refine R_at (pc := 41) ?_
      refine R_pure (pc := 41) (pc' := 42) (st' := [.int q4, .ref 16]) (show z_pt 135 41 = some (4, .iload_n 3, []) by decide +kernel) rfl (fun _ _ _ => rfl) ?_
      obtain ⟨q7, e8, h⟩ := z_bs h
      refine R_call (pc := 42) (rr := []) (show z_pt 135 42 = some (4, .invokevirtual 378, [0, 18, 1, 4094, 4095, 4096, 1006, 4097]) by decide +kernel) rfl (show z_r2 18 = some (1, 2, true) by decide +kernel) rfl rfl (Or.inr ⟨_, _, rfl, (by decide +kernel)⟩) (pE_removeAt_run  e8) (by omega) ?_
      refine R_at2 (pc := 45) (st := [.int q7.1]) ?_
      cases h
      exact R_retI (show z_pt 135 45 = some (4, .ireturn, []) by decide +kernel) (by decide +kernel)
    · rw [if_pos c6] at h
      refine R_const (pc := 29) (pc' := 31) (v := (-4)) (show z_ptc 135 29 = some (31, (-4)) by decide +kernel) ?_
      refine R_pure (pc := 31) (pc' := 45) (show z_pt 135 31 = some (4, .goto 14, []) by decide +kernel) rfl (fun _ _ _ => rfl) ?_
      cases h
      exact R_retI (show z_pt 135 45 = some (4, .ireturn, []) by decide +kernel) (by decide +kernel)
  · rw [if_pos c3] at h
    refine R_const (pc := 8) (pc' := 10) (v := (-2)) (show z_ptc 135 8 = some (10, (-2)) by decide +kernel) ?_
    cases h
    exact R_retI (show z_pt 135 10 = some (4, .ireturn, []) by decide +kernel) (by decide +kernel)
def pG_forget  (μ : z_Mem) (i1 : Int32) (i2 : Int32) : Option ((Int32 ⊕ Nat) × z_Mem) := (pH_begin μ).bind fun q1 => (pG_tryForgetting q1 i1 i2).bind fun q3 => (pG_settled q3.2 q3.1).bind fun q5 => (match q5.1 with | .inl x7 => some ((.inl x7), q5.2) | .inr E8 => some ((.inr E8), q5.2))
theorem pG_forget_run  {μ : z_Mem} {i1 : Int32} {i2 : Int32}  {r : ((Int32 ⊕ Nat) × z_Mem)} (h : pG_forget μ i1 i2 = some r) : Rn 7 112 0 [(0, .ref 0), (1, .int i1), (2, .int i2)] [] μ (z_oX r.1) r.2 := by
  unfold pG_forget at h
  refine R_pure (pc := 0) (pc' := 1) (st' := [.ref 0]) (show z_pt 112 0 = some (3, .aload_n 0, []) by decide +kernel) rfl (fun _ _ _ => rfl) ?_
  refine R_getR (pc := 1) (a := 0) (b := 57) (show z_pt 112 1 = some (3, .getfield 53, [9, 2, 2039]) by decide +kernel) (by decide +kernel) ?_
  refine R_at (pc := 4) ?_
  refine R_pure (pc := 4) (pc' := 5) (st' := [.ref 0, .ref 57]) (show z_pt 112 4 = some (3, .aload_n 0, []) by decide +kernel) rfl (fun _ _ _ => rfl) ?_
  refine R_getR (pc := 5) (a := 0) (b := 1) (show z_pt 112 5 = some (3, .getfield 17, [9, 0, 2037]) by decide +kernel) (by decide +kernel) ?_
  refine R_at (pc := 8) ?_
  obtain ⟨q1, e2, h⟩ := z_bs h
  refine R_call (pc := 8) (rr := []) (show z_pt 112 8 = some (3, .invokevirtual 71, [0, 49, 1, 2072, 2073, 2074, 1011, 2075]) by decide +kernel) rfl (show z_r2 49 = some (4, 3, true) by decide +kernel) rfl rfl (Or.inr ⟨_, _, rfl, (by decide +kernel)⟩) (pH_begin_run  e2) (by omega) ?_
  refine R_at2 (pc := 11) (st := []) ?_
  refine R_pure (pc := 11) (pc' := 12) (st' := [.ref 0]) (show z_pt 112 11 = some (3, .aload_n 0, []) by decide +kernel) rfl (fun _ _ _ => rfl) ?_
  refine R_pure (pc := 12) (pc' := 13) (st' := [.ref 0, .ref 0]) (show z_pt 112 12 = some (3, .aload_n 0, []) by decide +kernel) rfl (fun _ _ _ => rfl) ?_
  refine R_pure (pc := 13) (pc' := 14) (st' := [.int i1, .ref 0, .ref 0]) (show z_pt 112 13 = some (3, .iload_n 1, []) by decide +kernel) rfl (fun _ _ _ => rfl) ?_
  refine R_pure (pc := 14) (pc' := 15) (st' := [.int i2, .int i1, .ref 0, .ref 0]) (show z_pt 112 14 = some (3, .iload_n 2, []) by decide +kernel) rfl (fun _ _ _ => rfl) ?_
  obtain ⟨q3, e4, h⟩ := z_bs h
  refine R_call (pc := 15) (rr := [.ref 0]) (show z_pt 112 15 = some (3, .invokevirtual 253, [0, 135, 2, 4090, 4092, 19, 1001, 4093]) by decide +kernel) rfl (show z_r2 135 = some (9, 4, true) by decide +kernel) rfl rfl (Or.inr ⟨_, _, rfl, (by decide +kernel)⟩) (pG_tryForgetting_run  e4) (by omega) ?_
  refine R_at2 (pc := 18) (st := [.int q3.1, .ref 0]) ?_
  obtain ⟨q5, e6, h⟩ := z_bs h
  have y9 := pG_settled_run  e6
  cases x7h : q5.1 with
  | inl x7 =>
    rw [x7h] at h y9
    dsimp only at h
    refine R_call (pc := 18) (rr := []) (show z_pt 112 18 = some (3, .invokevirtual 79, [0, 136, 1, 2113, 2115, 1, 1001, 2116]) by decide +kernel) rfl (show z_r2 136 = some (9, 2, true) by decide +kernel) rfl rfl (Or.inr ⟨_, _, rfl, (by decide +kernel)⟩) y9 (by omega) ?_
    refine R_at2 (pc := 21) (st := [.int x7]) ?_
    cases h
    exact R_retI (show z_pt 112 21 = some (3, .ireturn, []) by decide +kernel) (by decide +kernel)
  | inr E8 =>
    rw [x7h] at h y9
    cases h
    exact R_callX (pc := 18) (rr := []) (show z_pt 112 18 = some (3, .invokevirtual 79, [0, 136, 1, 2113, 2115, 1, 1001, 2116]) by decide +kernel) rfl (show z_r2 136 = some (9, 2, true) by decide +kernel) rfl rfl (Or.inr ⟨_, _, rfl, (by decide +kernel)⟩) y9 (by decide) (by decide +kernel) (by omega)
def pG_needKey  (μ : z_Mem) (i0 : Int32) (i1 : Int32) : Option (Option Nat) := (pG_isKey μ i0 i1).bind fun q1 => if q1 = 0 then some (some 1) else some none
theorem pG_needKey_run  {μ : z_Mem} {i0 : Int32} {i1 : Int32}  {r : (Option Nat)} (h : pG_needKey μ i0 i1 = some r) : Rn 6 145 0 [(0, .int i0), (1, .int i1)] [] μ (z_oU r) μ := by
  unfold pG_needKey at h
  refine R_pure (pc := 0) (pc' := 1) (st' := [.int i0]) (show z_pt 145 0 = some (2, .iload_n 0, []) by decide +kernel) rfl (fun _ _ _ => rfl) ?_
  refine R_pure (pc := 1) (pc' := 2) (st' := [.int i1, .int i0]) (show z_pt 145 1 = some (2, .iload_n 1, []) by decide +kernel) rfl (fun _ _ _ => rfl) ?_
  obtain ⟨q1, e2, h⟩ := z_bs h
  refine R_call (pc := 2) (rr := []) (show z_pt 145 2 = some (2, .invokestatic 369, [1, 147, 2, 4074, 4075, 0, 1001, 4076]) by decide +kernel) rfl (show z_r2 147 = some (9, 2, true) by decide +kernel) rfl rfl (Or.inl (by decide)) (pG_isKey_run  e2) (by omega) ?_
  refine R_at2 (pc := 5) (st := [.int q1]) ?_
  refine R_ifne (pc := 5) (t := 16) (show z_pt 145 5 = some (2, .ifCond .ne 11, []) by decide +kernel) (by decide) (fun c3 => ?_) (fun c3 => ?_)
  · rw [if_neg c3] at h
    cases h
    exact R_retV (show z_pt 145 16 = some (2, .return_, []) by decide +kernel) (by decide +kernel)
  · rw [if_pos c3] at h
    cases h
    exact R_thr (show z_thx 145 8 = some 1 by decide +kernel) (by omega)
def pG_isCatalogued  (μ : z_Mem) (i1 : Int32) (i2 : Int32) : Option (Int32 ⊕ Nat) := (pG_needKey μ i1 i2).bind fun q1 => (match q1 with | none => (pE_placeOf μ i1 i2).bind fun q5 => if q5 = (-1) then some (.inl 0) else some (.inl 1) | some E4 => some (.inr E4))
theorem pG_isCatalogued_run  {μ : z_Mem} {i1 : Int32} {i2 : Int32}  {r : (Int32 ⊕ Nat)} (h : pG_isCatalogued μ i1 i2 = some r) : Rn 7 113 0 [(0, .ref 0), (1, .int i1), (2, .int i2)] [] μ (z_oX r) μ := by
  unfold pG_isCatalogued at h
  refine R_pure (pc := 0) (pc' := 1) (st' := [.int i1]) (show z_pt 113 0 = some (3, .iload_n 1, []) by decide +kernel) rfl (fun _ _ _ => rfl) ?_
  refine R_pure (pc := 1) (pc' := 2) (st' := [.int i2, .int i1]) (show z_pt 113 1 = some (3, .iload_n 2, []) by decide +kernel) rfl (fun _ _ _ => rfl) ?_
  obtain ⟨q1, e2, h⟩ := z_bs h
  have y8 := pG_needKey_run  e2
  cases x3h : q1 with
  | none =>
    rw [x3h] at h y8
    dsimp only at h
    refine R_call (pc := 2) (rr := []) (show z_pt 113 2 = some (3, .invokestatic 256, [1, 145, 2, 4102, 4103, 0, 1001, 4104]) by decide +kernel) rfl (show z_r2 145 = some (9, 2, true) by decide +kernel) rfl rfl (Or.inl (by decide)) y8 (by omega) ?_
    refine R_at2 (pc := 5) (st := []) ?_
    refine R_pure (pc := 5) (pc' := 6) (st' := [.ref 0]) (show z_pt 113 5 = some (3, .aload_n 0, []) by decide +kernel) rfl (fun _ _ _ => rfl) ?_
    refine R_getR (pc := 6) (a := 0) (b := 1) (show z_pt 113 6 = some (3, .getfield 17, [9, 0, 2037]) by decide +kernel) (by decide +kernel) ?_
    refine R_at (pc := 9) ?_
    refine R_getR (pc := 9) (a := 1) (b := 16) (show z_pt 113 9 = some (3, .getfield 260, [7, 3, 1178]) by decide +kernel) (by decide +kernel) ?_
    refine R_at (pc := 12) ?_
    refine R_pure (pc := 12) (pc' := 13) (st' := [.int i1, .ref 16]) (show z_pt 113 12 = some (3, .iload_n 1, []) by decide +kernel) rfl (fun _ _ _ => rfl) ?_
    refine R_pure (pc := 13) (pc' := 14) (st' := [.int i2, .int i1, .ref 16]) (show z_pt 113 13 = some (3, .iload_n 2, []) by decide +kernel) rfl (fun _ _ _ => rfl) ?_
    obtain ⟨q5, e6, h⟩ := z_bs h
    refine R_call (pc := 14) (rr := []) (show z_pt 113 14 = some (3, .invokevirtual 264, [0, 16, 2, 4077, 4078, 4079, 1006, 4080]) by decide +kernel) rfl (show z_r2 16 = some (1, 4, true) by decide +kernel) rfl rfl (Or.inr ⟨_, _, rfl, (by decide +kernel)⟩) (pE_placeOf_run  e6) (by omega) ?_
    refine R_at2 (pc := 17) (st := [.int q5]) ?_
    refine R_const (pc := 17) (pc' := 18) (v := (-1)) (show z_ptc 113 17 = some (18, (-1)) by decide +kernel) ?_
    refine R_icmeq (pc := 18) (t := 25) (show z_pt 113 18 = some (3, .if_icmp .eq 7, []) by decide +kernel) (by decide) (fun c7 => ?_) (fun c7 => ?_)
    · rw [if_pos c7] at h
      refine R_const (pc := 25) (pc' := 26) (v := 0) (show z_ptc 113 25 = some (26, 0) by decide +kernel) ?_
      cases h
      exact R_retZ (show z_pt 113 26 = some (3, .ireturn, []) by decide +kernel) (t := .boolean) (by decide +kernel) (by decide)
    · rw [if_neg c7] at h
      refine R_const (pc := 21) (pc' := 22) (v := 1) (show z_ptc 113 21 = some (22, 1) by decide +kernel) ?_
      refine R_pure (pc := 22) (pc' := 26) (show z_pt 113 22 = some (3, .goto 4, []) by decide +kernel) rfl (fun _ _ _ => rfl) ?_
      cases h
      exact R_retZ (show z_pt 113 26 = some (3, .ireturn, []) by decide +kernel) (t := .boolean) (by decide +kernel) (by decide)
  | some E4 =>
    rw [x3h] at h y8
    cases h
    exact R_callX (pc := 2) (rr := []) (show z_pt 113 2 = some (3, .invokestatic 256, [1, 145, 2, 4102, 4103, 0, 1001, 4104]) by decide +kernel) rfl (show z_r2 145 = some (9, 2, true) by decide +kernel) rfl rfl (Or.inl (by decide)) y8 (by decide) (by decide +kernel) (by omega)
def pG_neededEntry  (μ : z_Mem) (i1 : Int32) (i2 : Int32) : Option (Int32 ⊕ Nat) := (pG_needKey μ i1 i2).bind fun q1 => (match q1 with | none => (pE_placeOf μ i1 i2).bind fun q5 => if q5 = (-1) then some (.inr 3) else some (.inl q5) | some E4 => some (.inr E4))
theorem pG_neededEntry_run  {μ : z_Mem} {i1 : Int32} {i2 : Int32}  {r : (Int32 ⊕ Nat)} (h : pG_neededEntry μ i1 i2 = some r) : Rn 7 146 0 [(0, .ref 0), (1, .int i1), (2, .int i2)] [] μ (z_oX r) μ := by
  unfold pG_neededEntry at h
  refine R_pure (pc := 0) (pc' := 1) (st' := [.int i1]) (show z_pt 146 0 = some (4, .iload_n 1, []) by decide +kernel) rfl (fun _ _ _ => rfl) ?_
  refine R_pure (pc := 1) (pc' := 2) (st' := [.int i2, .int i1]) (show z_pt 146 1 = some (4, .iload_n 2, []) by decide +kernel) rfl (fun _ _ _ => rfl) ?_
  obtain ⟨q1, e2, h⟩ := z_bs h
  have y8 := pG_needKey_run  e2
  cases x3h : q1 with
  | none =>
    rw [x3h] at h y8
    dsimp only at h
    refine R_call (pc := 2) (rr := []) (show z_pt 146 2 = some (4, .invokestatic 256, [1, 145, 2, 4102, 4103, 0, 1001, 4104]) by decide +kernel) rfl (show z_r2 145 = some (9, 2, true) by decide +kernel) rfl rfl (Or.inl (by decide)) y8 (by omega) ?_
    refine R_at2 (pc := 5) (st := []) ?_
    refine R_pure (pc := 5) (pc' := 6) (st' := [.ref 0]) (show z_pt 146 5 = some (4, .aload_n 0, []) by decide +kernel) rfl (fun _ _ _ => rfl) ?_
    refine R_getR (pc := 6) (a := 0) (b := 1) (show z_pt 146 6 = some (4, .getfield 17, [9, 0, 2037]) by decide +kernel) (by decide +kernel) ?_
    refine R_at (pc := 9) ?_
    refine R_getR (pc := 9) (a := 1) (b := 16) (show z_pt 146 9 = some (4, .getfield 260, [7, 3, 1178]) by decide +kernel) (by decide +kernel) ?_
    refine R_at (pc := 12) ?_
    refine R_pure (pc := 12) (pc' := 13) (st' := [.int i1, .ref 16]) (show z_pt 146 12 = some (4, .iload_n 1, []) by decide +kernel) rfl (fun _ _ _ => rfl) ?_
    refine R_pure (pc := 13) (pc' := 14) (st' := [.int i2, .int i1, .ref 16]) (show z_pt 146 13 = some (4, .iload_n 2, []) by decide +kernel) rfl (fun _ _ _ => rfl) ?_
    obtain ⟨q5, e6, h⟩ := z_bs h
    refine R_call (pc := 14) (rr := []) (show z_pt 146 14 = some (4, .invokevirtual 264, [0, 16, 2, 4077, 4078, 4079, 1006, 4080]) by decide +kernel) rfl (show z_r2 16 = some (1, 4, true) by decide +kernel) rfl rfl (Or.inr ⟨_, _, rfl, (by decide +kernel)⟩) (pE_placeOf_run  e6) (by omega) ?_
    refine R_at2 (pc := 17) (st := [.int q5]) ?_
    refine R_pure (pc := 17) (pc' := 18) (ls' := [(0, .ref 0), (1, .int i1), (2, .int i2), (3, .int q5)]) (st' := []) (show z_pt 146 17 = some (4, .istore_n 3, []) by decide +kernel) rfl (fun _ _ _ => rfl) ?_
    refine R_pure (pc := 18) (pc' := 19) (st' := [.int q5]) (show z_pt 146 18 = some (4, .iload_n 3, []) by decide +kernel) rfl (fun _ _ _ => rfl) ?_
    refine R_const (pc := 19) (pc' := 20) (v := (-1)) (show z_ptc 146 19 = some (20, (-1)) by decide +kernel) ?_
    refine R_icmne (pc := 20) (t := 31) (show z_pt 146 20 = some (4, .if_icmp .ne 11, []) by decide +kernel) (by decide) (fun c7 => ?_) (fun c7 => ?_)
    · rw [if_neg c7] at h
      refine R_pure (pc := 31) (pc' := 32) (st' := [.int q5]) (show z_pt 146 31 = some (4, .iload_n 3, []) by decide +kernel) rfl (fun _ _ _ => rfl) ?_
      cases h
      exact R_retI (show z_pt 146 32 = some (4, .ireturn, []) by decide +kernel) (by decide +kernel)
    · rw [if_pos c7] at h
      cases h
      exact R_thr (show z_thx 146 23 = some 3 by decide +kernel) (by omega)
  | some E4 =>
    rw [x3h] at h y8
    cases h
    exact R_callX (pc := 2) (rr := []) (show z_pt 146 2 = some (4, .invokestatic 256, [1, 145, 2, 4102, 4103, 0, 1001, 4104]) by decide +kernel) rfl (show z_r2 145 = some (9, 2, true) by decide +kernel) rfl rfl (Or.inl (by decide)) y8 (by decide) (by decide +kernel) (by omega)
def pG_entryPosition  (μ : z_Mem) (i1 : Int32) (i2 : Int32) (i3 : Int32) : Option (Int32 ⊕ Nat) := (pG_neededEntry μ i1 i2).bind fun q1 => (match q1 with | .inl x3 => if i3 < 0 then some (.inr 3) else (z_rd μ 19 6 x3).bind fun v6 => if i3 < v6 then (pE_positionIn μ x3 i3).bind fun q9 => some (.inl q9) else some (.inr 3) | .inr E4 => some (.inr E4))
theorem pG_entryPosition_run  {μ : z_Mem} {i1 : Int32} {i2 : Int32} {i3 : Int32}  {r : (Int32 ⊕ Nat)} (h : pG_entryPosition μ i1 i2 i3 = some r) : Rn 8 114 0 [(0, .ref 0), (1, .int i1), (2, .int i2), (3, .int i3)] [] μ (z_oX r) μ := by
  unfold pG_entryPosition at h
  refine R_pure (pc := 0) (pc' := 1) (st' := [.ref 0]) (show z_pt 114 0 = some (5, .aload_n 0, []) by decide +kernel) rfl (fun _ _ _ => rfl) ?_
  refine R_pure (pc := 1) (pc' := 2) (st' := [.int i1, .ref 0]) (show z_pt 114 1 = some (5, .iload_n 1, []) by decide +kernel) rfl (fun _ _ _ => rfl) ?_
  refine R_pure (pc := 2) (pc' := 3) (st' := [.int i2, .int i1, .ref 0]) (show z_pt 114 2 = some (5, .iload_n 2, []) by decide +kernel) rfl (fun _ _ _ => rfl) ?_
  obtain ⟨q1, e2, h⟩ := z_bs h
  have y11 := pG_neededEntry_run  e2
  cases x3h : q1 with
  | inl x3 =>
    rw [x3h] at h y11
    dsimp only at h
    refine R_call (pc := 3) (rr := []) (show z_pt 114 3 = some (5, .invokevirtual 269, [0, 146, 2, 4109, 4111, 20, 1001, 4112]) by decide +kernel) rfl (show z_r2 146 = some (9, 4, true) by decide +kernel) rfl rfl (Or.inr ⟨_, _, rfl, (by decide +kernel)⟩) y11 (by omega) ?_
    refine R_at2 (pc := 6) (st := [.int x3]) ?_
    refine R_pure (pc := 6) (pc' := 8) (ls' := [(0, .ref 0), (1, .int i1), (2, .int i2), (3, .int i3), (4, .int x3)]) (st' := []) (show z_pt 114 6 = some (5, .istore 4, []) by decide +kernel) rfl (fun _ _ _ => rfl) ?_
    refine R_pure (pc := 8) (pc' := 9) (st' := [.int i3]) (show z_pt 114 8 = some (5, .iload_n 3, []) by decide +kernel) rfl (fun _ _ _ => rfl) ?_
    refine R_iflt (pc := 9) (t := 29) (show z_pt 114 9 = some (5, .ifCond .lt 20, []) by decide +kernel) (by decide) (fun c5 => ?_) (fun c5 => ?_)
    · rw [if_pos c5] at h
      cases h
      exact R_thr (show z_thx 114 29 = some 3 by decide +kernel) (by omega)
    · rw [if_neg c5] at h
      refine R_pure (pc := 12) (pc' := 13) (st' := [.int i3]) (show z_pt 114 12 = some (5, .iload_n 3, []) by decide +kernel) rfl (fun _ _ _ => rfl) ?_
      refine R_pure (pc := 13) (pc' := 14) (st' := [.ref 0, .int i3]) (show z_pt 114 13 = some (5, .aload_n 0, []) by decide +kernel) rfl (fun _ _ _ => rfl) ?_
      refine R_getR (pc := 14) (a := 0) (b := 1) (show z_pt 114 14 = some (5, .getfield 17, [9, 0, 2037]) by decide +kernel) (by decide +kernel) ?_
      refine R_at (pc := 17) ?_
      refine R_getR (pc := 17) (a := 1) (b := 16) (show z_pt 114 17 = some (5, .getfield 260, [7, 3, 1178]) by decide +kernel) (by decide +kernel) ?_
      refine R_at (pc := 20) ?_
      refine R_getR (pc := 20) (a := 16) (b := 19) (show z_pt 114 20 = some (5, .getfield 272, [1, 3, 1158]) by decide +kernel) (by decide +kernel) ?_
      refine R_at (pc := 23) ?_
      refine R_pure (pc := 23) (pc' := 25) (st' := [.int x3, .ref 19, .int i3]) (show z_pt 114 23 = some (5, .iload 4, []) by decide +kernel) rfl (fun _ _ _ => rfl) ?_
      obtain ⟨v6, e7, h⟩ := z_bs h
      refine R_ialdR (pc := 25) (a := 19) (n := 6) (show z_pt 114 25 = some (5, .iaload, []) by decide +kernel) (show z_ar 19 0 6 = true by decide +kernel) e7 ?_
      refine R_at (pc := 26) ?_
      refine R_icmlt (pc := 26) (t := 37) (show z_pt 114 26 = some (5, .if_icmp .lt 11, []) by decide +kernel) (by decide) (fun c8 => ?_) (fun c8 => ?_)
      · rw [if_pos c8] at h
        refine R_pure (pc := 37) (pc' := 38) (st' := [.ref 0]) (show z_pt 114 37 = some (5, .aload_n 0, []) by decide +kernel) rfl (fun _ _ _ => rfl) ?_
        refine R_getR (pc := 38) (a := 0) (b := 1) (show z_pt 114 38 = some (5, .getfield 17, [9, 0, 2037]) by decide +kernel) (by decide +kernel) ?_
        refine R_at (pc := 41) ?_
        refine R_getR (pc := 41) (a := 1) (b := 16) (show z_pt 114 41 = some (5, .getfield 260, [7, 3, 1178]) by decide +kernel) (by decide +kernel) ?_
        refine R_at (pc := 44) ?_
        refine R_pure (pc := 44) (pc' := 46) (st' := [.int x3, .ref 16]) (show z_pt 114 44 = some (5, .iload 4, []) by decide +kernel) rfl (fun _ _ _ => rfl) ?_
        refine R_pure (pc := 46) (pc' := 47) (st' := [.int i3, .int x3, .ref 16]) (show z_pt 114 46 = some (5, .iload_n 3, []) by decide +kernel) rfl (fun _ _ _ => rfl) ?_
        obtain ⟨q9, e10, h⟩ := z_bs h
        refine R_call (pc := 47) (rr := []) (show z_pt 114 47 = some (5, .invokevirtual 274, [0, 19, 2, 4113, 4114, 4115, 1006, 4116]) by decide +kernel) rfl (show z_r2 19 = some (1, 3, true) by decide +kernel) rfl rfl (Or.inr ⟨_, _, rfl, (by decide +kernel)⟩) (pE_positionIn_run  e10) (by omega) ?_
        refine R_at2 (pc := 50) (st := [.int q9]) ?_
        cases h
        exact R_retI (show z_pt 114 50 = some (5, .ireturn, []) by decide +kernel) (by decide +kernel)
      · rw [if_neg c8] at h
        cases h
        exact R_thr (show z_thx 114 29 = some 3 by decide +kernel) (by omega)
  | inr E4 =>
    rw [x3h] at h y11
    cases h
    exact R_callX (pc := 3) (rr := []) (show z_pt 114 3 = some (5, .invokevirtual 269, [0, 146, 2, 4109, 4111, 20, 1001, 4112]) by decide +kernel) rfl (show z_r2 146 = some (9, 4, true) by decide +kernel) rfl rfl (Or.inr ⟨_, _, rfl, (by decide +kernel)⟩) y11 (by decide) (by decide +kernel) (by omega)
def pG_changedSince  (μ : z_Mem) (i1 : Int32) (i2 : Int32) : Option (Int32 ⊕ Nat) := (pG_neededEntry μ i1 i2).bind fun q1 => (match q1 with | .inl x3 => (pE_differencesTo μ x3).bind fun q5 => some (.inl q5) | .inr E4 => some (.inr E4))
theorem pG_changedSince_run  {μ : z_Mem} {i1 : Int32} {i2 : Int32}  {r : (Int32 ⊕ Nat)} (h : pG_changedSince μ i1 i2 = some r) : Rn 8 115 0 [(0, .ref 0), (1, .int i1), (2, .int i2)] [] μ (z_oX r) μ := by
  unfold pG_changedSince at h
  refine R_pure (pc := 0) (pc' := 1) (st' := [.ref 0]) (show z_pt 115 0 = some (3, .aload_n 0, []) by decide +kernel) rfl (fun _ _ _ => rfl) ?_
  refine R_getR (pc := 1) (a := 0) (b := 1) (show z_pt 115 1 = some (3, .getfield 17, [9, 0, 2037]) by decide +kernel) (by decide +kernel) ?_
  refine R_at (pc := 4) ?_
  refine R_getR (pc := 4) (a := 1) (b := 16) (show z_pt 115 4 = some (3, .getfield 260, [7, 3, 1178]) by decide +kernel) (by decide +kernel) ?_
  refine R_at (pc := 7) ?_
  refine R_pure (pc := 7) (pc' := 8) (st' := [.ref 0, .ref 16]) (show z_pt 115 7 = some (3, .aload_n 0, []) by decide +kernel) rfl (fun _ _ _ => rfl) ?_
  refine R_getR (pc := 8) (a := 0) (b := 1) (show z_pt 115 8 = some (3, .getfield 17, [9, 0, 2037]) by decide +kernel) (by decide +kernel) ?_
  refine R_at (pc := 11) ?_
  refine R_getR (pc := 11) (a := 1) (b := 2) (show z_pt 115 11 = some (3, .getfield 23, [7, 0, 1172]) by decide +kernel) (by decide +kernel) ?_
  refine R_at (pc := 14) ?_
  refine R_pure (pc := 14) (pc' := 15) (st' := [.ref 0, .ref 2, .ref 16]) (show z_pt 115 14 = some (3, .aload_n 0, []) by decide +kernel) rfl (fun _ _ _ => rfl) ?_
  refine R_pure (pc := 15) (pc' := 16) (st' := [.int i1, .ref 0, .ref 2, .ref 16]) (show z_pt 115 15 = some (3, .iload_n 1, []) by decide +kernel) rfl (fun _ _ _ => rfl) ?_
  refine R_pure (pc := 16) (pc' := 17) (st' := [.int i2, .int i1, .ref 0, .ref 2, .ref 16]) (show z_pt 115 16 = some (3, .iload_n 2, []) by decide +kernel) rfl (fun _ _ _ => rfl) ?_
  obtain ⟨q1, e2, h⟩ := z_bs h
  have y7 := pG_neededEntry_run  e2
  cases x3h : q1 with
  | inl x3 =>
    rw [x3h] at h y7
    dsimp only at h
    refine R_call (pc := 17) (rr := [.ref 2, .ref 16]) (show z_pt 115 17 = some (3, .invokevirtual 269, [0, 146, 2, 4109, 4111, 20, 1001, 4112]) by decide +kernel) rfl (show z_r2 146 = some (9, 4, true) by decide +kernel) rfl rfl (Or.inr ⟨_, _, rfl, (by decide +kernel)⟩) y7 (by omega) ?_
    refine R_at2 (pc := 20) (st := [.int x3, .ref 2, .ref 16]) ?_
    obtain ⟨q5, e6, h⟩ := z_bs h
    refine R_call (pc := 20) (rr := []) (show z_pt 115 20 = some (3, .invokevirtual 277, [0, 20, 2, 4121, 4122, 4123, 1006, 4124]) by decide +kernel) rfl (show z_r2 20 = some (1, 5, true) by decide +kernel) rfl rfl (Or.inr ⟨_, _, rfl, (by decide +kernel)⟩) (pE_differencesTo_run  e6) (by omega) ?_
    refine R_at2 (pc := 23) (st := [.int q5]) ?_
    cases h
    exact R_retI (show z_pt 115 23 = some (3, .ireturn, []) by decide +kernel) (by decide +kernel)
  | inr E4 =>
    rw [x3h] at h y7
    cases h
    exact R_callX (pc := 17) (rr := [.ref 2, .ref 16]) (show z_pt 115 17 = some (3, .invokevirtual 269, [0, 146, 2, 4109, 4111, 20, 1001, 4112]) by decide +kernel) rfl (show z_r2 146 = some (9, 4, true) by decide +kernel) rfl rfl (Or.inr ⟨_, _, rfl, (by decide +kernel)⟩) y7 (by decide) (by decide +kernel) (by omega)
def pG_alignedFraction_L47_B (R : Int32 → Int32 → Option (UInt32 ⊕ Nat))  (μ : z_Mem) (f1 : Int32) (f2 : Int32) (K : Int32 → Int32 → Option (UInt32 ⊕ Nat)) (a3 : Int32) (a4 : Int32) : Option (UInt32 ⊕ Nat) := if f2 ≤ a4 then K a3 a4 else (pA_isAligned μ a4 f1).bind fun q6 => if q6 = 0 then R a3 (a4 + 1) else R (a3 + 1) (a4 + 1)
def pG_alignedFraction_L47 : Nat → z_Mem → Int32 → Int32 → (Int32 → Int32 → Option (UInt32 ⊕ Nat)) → Int32 → Int32 → Option (UInt32 ⊕ Nat)
  | 0 => fun _ _ _ _ _ _ => none
  | n + 1 => fun μ f1 f2 K a3 a4 => pG_alignedFraction_L47_B (pG_alignedFraction_L47 n μ f1 f2 K) μ f1 f2 K a3 a4
theorem pG_alignedFraction_L47_run  (μ : z_Mem) (f1 : Int32) (f2 : Int32) (K : Int32 → Int32 → Option (UInt32 ⊕ Nat))  (D : Nat) (hD : 6 ≤ D) (hK : ∀ (a3 a4 : Int32) (r : (UInt32 ⊕ Nat)), K a3 a4 = some r → Rn D 116 75 [(0, .ref 0), (1, .int f1), (2, .int f2), (3, .int a3), (4, .int a4)] [] μ (z_oF r) μ) : ∀ (n : Nat) (a3 : Int32) (a4 : Int32) (r : (UInt32 ⊕ Nat)), pG_alignedFraction_L47 n μ f1 f2 K a3 a4 = some r → Rn D 116 47 [(0, .ref 0), (1, .int f1), (2, .int f2), (3, .int a3), (4, .int a4)] [] μ (z_oF r) μ := by
  intro n
  induction n with
  | zero => intro a3 a4 r h; cases h
  | succ n ih =>
    intro a3 a4 r h
    have h : pG_alignedFraction_L47_B (pG_alignedFraction_L47 n μ f1 f2 K) μ f1 f2 K a3 a4 = some r := h
    unfold pG_alignedFraction_L47_B at h
    refine R_pure (pc := 47) (pc' := 49) (st' := [.int a4]) (show z_pt 116 47 = some (5, .iload 4, []) by decide +kernel) rfl (fun _ _ _ => rfl) ?_
    refine R_pure (pc := 49) (pc' := 50) (st' := [.int f2, .int a4]) (show z_pt 116 49 = some (5, .iload_n 2, []) by decide +kernel) rfl (fun _ _ _ => rfl) ?_
    refine R_icmge (pc := 50) (t := 75) (show z_pt 116 50 = some (5, .if_icmp .ge 25, []) by decide +kernel) (by decide) (fun c5 => ?_) (fun c5 => ?_)
    · rw [if_pos c5] at h
      exact hK _ _  _ h
    · rw [if_neg c5] at h
      refine R_pure (pc := 53) (pc' := 54) (st' := [.ref 0]) (show z_pt 116 53 = some (5, .aload_n 0, []) by decide +kernel) rfl (fun _ _ _ => rfl) ?_
      refine R_getR (pc := 54) (a := 0) (b := 1) (show z_pt 116 54 = some (5, .getfield 17, [9, 0, 2037]) by decide +kernel) (by decide +kernel) ?_
      refine R_at (pc := 57) ?_
      refine R_pure (pc := 57) (pc' := 59) (st' := [.int a4, .ref 1]) (show z_pt 116 57 = some (5, .iload 4, []) by decide +kernel) rfl (fun _ _ _ => rfl) ?_
      refine R_pure (pc := 59) (pc' := 60) (st' := [.int f1, .int a4, .ref 1]) (show z_pt 116 59 = some (5, .iload_n 1, []) by decide +kernel) rfl (fun _ _ _ => rfl) ?_
      obtain ⟨q6, e7, h⟩ := z_bs h
      refine R_call (pc := 60) (rr := []) (show z_pt 116 60 = some (5, .invokevirtual 284, [0, 69, 2, 4145, 4146, 4147, 1002, 4148]) by decide +kernel) rfl (show z_r2 69 = some (7, 4, true) by decide +kernel) rfl rfl (Or.inr ⟨_, _, rfl, (by decide +kernel)⟩) (pA_isAligned_run  e7) (by omega) ?_
      refine R_at2 (pc := 63) (st := [.int q6]) ?_
      refine R_ifeq (pc := 63) (t := 69) (show z_pt 116 63 = some (5, .ifCond .eq 6, []) by decide +kernel) (by decide) (fun c8 => ?_) (fun c8 => ?_)
      · rw [if_pos c8] at h
        refine R_inc (pc := 69) (pc' := 72) (ls' := [(0, .ref 0), (1, .int f1), (2, .int f2), (3, .int a3), (4, .int (a4 + 1))]) (c := 1) (show z_pt 116 69 = some (5, .iinc 4 1, []) by decide +kernel) (by decide) rfl rfl ?_
        refine R_pure (pc := 72) (pc' := 47) (ls' := [(0, .ref 0), (1, .int f1), (2, .int f2), (3, .int a3), (4, .int (a4 + 1))]) (st' := []) (show z_pt 116 72 = some (5, .goto (-25), [5]) by decide +kernel) rfl (fun _ _ _ => rfl) ?_
        exact ih _ _ _  h
      · rw [if_neg c8] at h
        refine R_inc (pc := 66) (pc' := 69) (ls' := [(0, .ref 0), (1, .int f1), (2, .int f2), (3, .int (a3 + 1)), (4, .int a4)]) (c := 1) (show z_pt 116 66 = some (5, .iinc 3 1, []) by decide +kernel) (by decide) rfl rfl ?_
        refine R_inc (pc := 69) (pc' := 72) (ls' := [(0, .ref 0), (1, .int f1), (2, .int f2), (3, .int (a3 + 1)), (4, .int (a4 + 1))]) (c := 1) (show z_pt 116 69 = some (5, .iinc 4 1, []) by decide +kernel) (by decide) rfl rfl ?_
        refine R_pure (pc := 72) (pc' := 47) (ls' := [(0, .ref 0), (1, .int f1), (2, .int f2), (3, .int (a3 + 1)), (4, .int (a4 + 1))]) (st' := []) (show z_pt 116 72 = some (5, .goto (-25), [5]) by decide +kernel) rfl (fun _ _ _ => rfl) ?_
        exact ih _ _ _  h
def pG_alignedFraction  (μ : z_Mem) (i1 : Int32) : Option (UInt32 ⊕ Nat) := (pG_isWithin μ i1 0 1800).bind fun q1 => if q1 = 0 then some (.inr 1) else if (μ 9 0) = 0 then some (.inr 4) else pG_alignedFraction_L47 z_fu μ i1 (μ 9 0) (fun k9 k10 => if z_n32 (FP.fdiv (FP.i2f k9) (FP.i2f (μ 9 0))) = true then some (.inl (FP.fdiv (FP.i2f k9) (FP.i2f (μ 9 0)))) else none) 0 0
theorem pG_alignedFraction_run  {μ : z_Mem} {i1 : Int32}  {r : (UInt32 ⊕ Nat)} (h : pG_alignedFraction μ i1 = some r) : Rn 6 116 0 [(0, .ref 0), (1, .int i1)] [] μ (z_oF r) μ := by
  unfold pG_alignedFraction at h
  refine R_pure (pc := 0) (pc' := 1) (st' := [.int i1]) (show z_pt 116 0 = some (5, .iload_n 1, []) by decide +kernel) rfl (fun _ _ _ => rfl) ?_
  refine R_const (pc := 1) (pc' := 2) (v := 0) (show z_ptc 116 1 = some (2, 0) by decide +kernel) ?_
  refine R_const (pc := 2) (pc' := 5) (v := 1800) (show z_ptc 116 2 = some (5, 1800) by decide +kernel) ?_
  obtain ⟨q1, e2, h⟩ := z_bs h
  refine R_call (pc := 5) (rr := []) (show z_pt 116 5 = some (5, .invokestatic 239, [1, 148, 3, 2106, 2107, 0, 1001, 2108]) by decide +kernel) rfl (show z_r2 148 = some (9, 3, true) by decide +kernel) rfl rfl (Or.inl (by decide)) (pG_isWithin_run  e2) (by omega) ?_
  refine R_at2 (pc := 8) (st := [.int q1]) ?_
  refine R_ifne (pc := 8) (t := 19) (show z_pt 116 8 = some (5, .ifCond .ne 11, []) by decide +kernel) (by decide) (fun c3 => ?_) (fun c3 => ?_)
  · rw [if_neg c3] at h
    refine R_pure (pc := 19) (pc' := 20) (st' := [.ref 0]) (show z_pt 116 19 = some (5, .aload_n 0, []) by decide +kernel) rfl (fun _ _ _ => rfl) ?_
    refine R_getR (pc := 20) (a := 0) (b := 1) (show z_pt 116 20 = some (5, .getfield 17, [9, 0, 2037]) by decide +kernel) (by decide +kernel) ?_
    refine R_at (pc := 23) ?_
    refine R_getR (pc := 23) (a := 1) (b := 9) (show z_pt 116 23 = some (5, .getfield 161, [7, 1, 1174]) by decide +kernel) (by decide +kernel) ?_
    refine R_at (pc := 26) ?_
    refine R_getI (pc := 26) (a := 9) (show z_pt 116 26 = some (5, .getfield 165, [8, 0, 1102]) by decide +kernel) (by decide +kernel) ?_
    refine R_at (pc := 29) ?_
    refine R_pure (pc := 29) (pc' := 30) (ls' := [(0, .ref 0), (1, .int i1), (2, .int (μ 9 0))]) (st' := []) (show z_pt 116 29 = some (5, .istore_n 2, []) by decide +kernel) rfl (fun _ _ _ => rfl) ?_
    refine R_pure (pc := 30) (pc' := 31) (st' := [.int (μ 9 0)]) (show z_pt 116 30 = some (5, .iload_n 2, []) by decide +kernel) rfl (fun _ _ _ => rfl) ?_
    refine R_ifne (pc := 31) (t := 42) (show z_pt 116 31 = some (5, .ifCond .ne 11, []) by decide +kernel) (by decide) (fun c4 => ?_) (fun c4 => ?_)
    · rw [if_neg c4] at h
      refine R_const (pc := 42) (pc' := 43) (v := 0) (show z_ptc 116 42 = some (43, 0) by decide +kernel) ?_
      refine R_pure (pc := 43) (pc' := 44) (ls' := [(0, .ref 0), (1, .int i1), (2, .int (μ 9 0)), (3, .int 0)]) (st' := []) (show z_pt 116 43 = some (5, .istore_n 3, []) by decide +kernel) rfl (fun _ _ _ => rfl) ?_
      refine R_const (pc := 44) (pc' := 45) (v := 0) (show z_ptc 116 44 = some (45, 0) by decide +kernel) ?_
      refine R_pure (pc := 45) (pc' := 47) (ls' := [(0, .ref 0), (1, .int i1), (2, .int (μ 9 0)), (3, .int 0), (4, .int 0)]) (st' := []) (show z_pt 116 45 = some (5, .istore 4, []) by decide +kernel) rfl (fun _ _ _ => rfl) ?_
      refine pG_alignedFraction_L47_run  _ _ _ _  _ (by omega) ?_ _ _ _ _ h
      intro k9 k10 r h
      refine R_pure (pc := 75) (pc' := 76) (st' := [.int k9]) (show z_pt 116 75 = some (5, .iload_n 3, []) by decide +kernel) rfl (fun _ _ _ => rfl) ?_
      refine R_pure (pc := 76) (pc' := 77) (st' := [.float (FP.i2f k9)]) (show z_pt 116 76 = some (5, .i2f, []) by decide +kernel) rfl (fun _ _ _ => rfl) ?_
      refine R_pure (pc := 77) (pc' := 78) (st' := [.int (μ 9 0), .float (FP.i2f k9)]) (show z_pt 116 77 = some (5, .iload_n 2, []) by decide +kernel) rfl (fun _ _ _ => rfl) ?_
      refine R_pure (pc := 78) (pc' := 79) (st' := [.float (FP.i2f (μ 9 0)), .float (FP.i2f k9)]) (show z_pt 116 78 = some (5, .i2f, []) by decide +kernel) rfl (fun _ _ _ => rfl) ?_
      obtain ⟨g11, h⟩ := z_ig h
      refine R_fdiv (show z_pt 116 79 = some (5, .fdiv, []) by decide +kernel) g11 ?_
      cases h
      exact R_retF (show z_pt 116 80 = some (5, .freturn, []) by decide +kernel) (by decide +kernel)
    · rw [if_pos c4] at h
      cases h
      exact R_thr (show z_thx 116 34 = some 4 by decide +kernel) (by omega)
  · rw [if_pos c3] at h
    cases h
    exact R_thr (show z_thx 116 11 = some 1 by decide +kernel) (by omega)
def pG_isConsistent_L44_B (R : z_Mem → Int32 → Int32 → Option (Int32 × z_Mem))  (f1 : Int32) (f3 : Int32) (K : z_Mem → Int32 → Int32 → Option (Int32 × z_Mem)) (μ : z_Mem) (a2 : Int32) (a4 : Int32) : Option (Int32 × z_Mem) := if f1 ≤ a4 then K μ a2 a4 else if a2 = 0 then R μ 0 (a4 + 1) else (pW_methodsAgreeFor μ f3 a4).bind fun q9 => if q9.1 = 0 then R q9.2 0 (a4 + 1) else R q9.2 1 (a4 + 1)
def pG_isConsistent_L44 : Nat → Int32 → Int32 → (z_Mem → Int32 → Int32 → Option (Int32 × z_Mem)) → z_Mem → Int32 → Int32 → Option (Int32 × z_Mem)
  | 0 => fun _ _ _ _ _ _ => none
  | n + 1 => fun f1 f3 K μ a2 a4 => pG_isConsistent_L44_B (pG_isConsistent_L44 n f1 f3 K) f1 f3 K μ a2 a4
theorem pG_isConsistent_L44_run  (f1 : Int32) (f3 : Int32) (K : z_Mem → Int32 → Int32 → Option (Int32 × z_Mem))  (D : Nat) (hD : 18 ≤ D) (hK : ∀ (μ : z_Mem) (a2 a4 : Int32) (r : (Int32 × z_Mem)), K μ a2 a4 = some r → Rn D 117 79 [(0, .ref 0), (1, .int f1), (2, .int a2), (3, .int f3), (4, .int a4)] [] μ (.inl (some (.int r.1))) r.2) : ∀ (n : Nat) (μ : z_Mem) (a2 : Int32) (a4 : Int32) (r : (Int32 × z_Mem)), pG_isConsistent_L44 n f1 f3 K μ a2 a4 = some r → Rn D 117 44 [(0, .ref 0), (1, .int f1), (2, .int a2), (3, .int f3), (4, .int a4)] [] μ (.inl (some (.int r.1))) r.2 := by
  intro n
  induction n with
  | zero => intro μ a2 a4 r h; cases h
  | succ n ih =>
    intro μ a2 a4 r h
    have h : pG_isConsistent_L44_B (pG_isConsistent_L44 n f1 f3 K) f1 f3 K μ a2 a4 = some r := h
    unfold pG_isConsistent_L44_B at h
    refine R_pure (pc := 44) (pc' := 46) (st' := [.int a4]) (show z_pt 117 44 = some (5, .iload 4, []) by decide +kernel) rfl (fun _ _ _ => rfl) ?_
    refine R_pure (pc := 46) (pc' := 47) (st' := [.int f1, .int a4]) (show z_pt 117 46 = some (5, .iload_n 1, []) by decide +kernel) rfl (fun _ _ _ => rfl) ?_
    refine R_icmge (pc := 47) (t := 79) (show z_pt 117 47 = some (5, .if_icmp .ge 32, []) by decide +kernel) (by decide) (fun c7 => ?_) (fun c7 => ?_)
    · rw [if_pos c7] at h
      exact hK _ _ _  _ h
    · rw [if_neg c7] at h
      refine R_pure (pc := 50) (pc' := 51) (st' := [.int a2]) (show z_pt 117 50 = some (5, .iload_n 2, []) by decide +kernel) rfl (fun _ _ _ => rfl) ?_
      refine R_ifeq (pc := 51) (t := 71) (show z_pt 117 51 = some (5, .ifCond .eq 20, []) by decide +kernel) (by decide) (fun c8 => ?_) (fun c8 => ?_)
      · rw [if_pos c8] at h
        refine R_const (pc := 71) (pc' := 72) (v := 0) (show z_ptc 117 71 = some (72, 0) by decide +kernel) ?_
        refine R_pure (pc := 72) (pc' := 73) (ls' := [(0, .ref 0), (1, .int f1), (2, .int 0), (3, .int f3), (4, .int a4)]) (st' := []) (show z_pt 117 72 = some (5, .istore_n 2, []) by decide +kernel) rfl (fun _ _ _ => rfl) ?_
        refine R_inc (pc := 73) (pc' := 76) (ls' := [(0, .ref 0), (1, .int f1), (2, .int 0), (3, .int f3), (4, .int (a4 + 1))]) (c := 1) (show z_pt 117 73 = some (5, .iinc 4 1, []) by decide +kernel) (by decide) rfl rfl ?_
        refine R_pure (pc := 76) (pc' := 44) (ls' := [(0, .ref 0), (1, .int f1), (2, .int 0), (3, .int f3), (4, .int (a4 + 1))]) (st' := []) (show z_pt 117 76 = some (5, .goto (-32), [5]) by decide +kernel) rfl (fun _ _ _ => rfl) ?_
        exact ih _ _ _ _  h
      · rw [if_neg c8] at h
        refine R_pure (pc := 54) (pc' := 55) (st' := [.ref 0]) (show z_pt 117 54 = some (5, .aload_n 0, []) by decide +kernel) rfl (fun _ _ _ => rfl) ?_
        refine R_getR (pc := 55) (a := 0) (b := 23) (show z_pt 117 55 = some (5, .getfield 30, [9, 3, 2040]) by decide +kernel) (by decide +kernel) ?_
        refine R_at (pc := 58) ?_
        refine R_pure (pc := 58) (pc' := 59) (st' := [.int f3, .ref 23]) (show z_pt 117 58 = some (5, .iload_n 3, []) by decide +kernel) rfl (fun _ _ _ => rfl) ?_
        refine R_pure (pc := 59) (pc' := 61) (st' := [.int a4, .int f3, .ref 23]) (show z_pt 117 59 = some (5, .iload 4, []) by decide +kernel) rfl (fun _ _ _ => rfl) ?_
        obtain ⟨q9, e10, h⟩ := z_bs h
        refine R_call (pc := 61) (rr := []) (show z_pt 117 61 = some (5, .invokevirtual 305, [0, 47, 2, 4153, 4154, 4155, 1009, 4156]) by decide +kernel) rfl (show z_r2 47 = some (3, 3, true) by decide +kernel) rfl rfl (Or.inr ⟨_, _, rfl, (by decide +kernel)⟩) (pW_methodsAgreeFor_run  e10) (by omega) ?_
        refine R_at2 (pc := 64) (st := [.int q9.1]) ?_
        refine R_ifeq (pc := 64) (t := 71) (show z_pt 117 64 = some (5, .ifCond .eq 7, []) by decide +kernel) (by decide) (fun c11 => ?_) (fun c11 => ?_)
        · rw [if_pos c11] at h
          refine R_const (pc := 71) (pc' := 72) (v := 0) (show z_ptc 117 71 = some (72, 0) by decide +kernel) ?_
          refine R_pure (pc := 72) (pc' := 73) (ls' := [(0, .ref 0), (1, .int f1), (2, .int 0), (3, .int f3), (4, .int a4)]) (st' := []) (show z_pt 117 72 = some (5, .istore_n 2, []) by decide +kernel) rfl (fun _ _ _ => rfl) ?_
          refine R_inc (pc := 73) (pc' := 76) (ls' := [(0, .ref 0), (1, .int f1), (2, .int 0), (3, .int f3), (4, .int (a4 + 1))]) (c := 1) (show z_pt 117 73 = some (5, .iinc 4 1, []) by decide +kernel) (by decide) rfl rfl ?_
          refine R_pure (pc := 76) (pc' := 44) (ls' := [(0, .ref 0), (1, .int f1), (2, .int 0), (3, .int f3), (4, .int (a4 + 1))]) (st' := []) (show z_pt 117 76 = some (5, .goto (-32), [5]) by decide +kernel) rfl (fun _ _ _ => rfl) ?_
          exact ih _ _ _ _  h
        · rw [if_neg c11] at h
          refine R_const (pc := 67) (pc' := 68) (v := 1) (show z_ptc 117 67 = some (68, 1) by decide +kernel) ?_
          refine R_pure (pc := 68) (pc' := 72) (show z_pt 117 68 = some (5, .goto 4, []) by decide +kernel) rfl (fun _ _ _ => rfl) ?_
          refine R_pure (pc := 72) (pc' := 73) (ls' := [(0, .ref 0), (1, .int f1), (2, .int 1), (3, .int f3), (4, .int a4)]) (st' := []) (show z_pt 117 72 = some (5, .istore_n 2, []) by decide +kernel) rfl (fun _ _ _ => rfl) ?_
          refine R_inc (pc := 73) (pc' := 76) (ls' := [(0, .ref 0), (1, .int f1), (2, .int 1), (3, .int f3), (4, .int (a4 + 1))]) (c := 1) (show z_pt 117 73 = some (5, .iinc 4 1, []) by decide +kernel) (by decide) rfl rfl ?_
          refine R_pure (pc := 76) (pc' := 44) (ls' := [(0, .ref 0), (1, .int f1), (2, .int 1), (3, .int f3), (4, .int (a4 + 1))]) (st' := []) (show z_pt 117 76 = some (5, .goto (-32), [5]) by decide +kernel) rfl (fun _ _ _ => rfl) ?_
          exact ih _ _ _ _  h
def pG_isConsistent_L36_B (R : z_Mem → Int32 → Int32 → Option (Int32 × z_Mem))  (f1 : Int32) (K : z_Mem → Int32 → Int32 → Option (Int32 × z_Mem)) (μ : z_Mem) (a2 : Int32) (a3 : Int32) : Option (Int32 × z_Mem) := if f1 ≤ a3 then K μ a2 a3 else pG_isConsistent_L44 z_fu f1 a3 (fun M14 k12 k13 => R M14 k12 (a3 + 1)) μ a2 0
def pG_isConsistent_L36 : Nat → Int32 → (z_Mem → Int32 → Int32 → Option (Int32 × z_Mem)) → z_Mem → Int32 → Int32 → Option (Int32 × z_Mem)
  | 0 => fun _ _ _ _ _ => none
  | n + 1 => fun f1 K μ a2 a3 => pG_isConsistent_L36_B (pG_isConsistent_L36 n f1 K) f1 K μ a2 a3
theorem pG_isConsistent_L36_run  (f1 : Int32) (K : z_Mem → Int32 → Int32 → Option (Int32 × z_Mem))  (D : Nat) (hD : 18 ≤ D) (hK : ∀ (μ : z_Mem) (a2 a3 : Int32) (r : (Int32 × z_Mem)), K μ a2 a3 = some r → Rn D 117 85 [(0, .ref 0), (1, .int f1), (2, .int a2), (3, .int a3)] [] μ (.inl (some (.int r.1))) r.2) : ∀ (n : Nat) (μ : z_Mem) (a2 : Int32) (a3 : Int32) (r : (Int32 × z_Mem)), pG_isConsistent_L36 n f1 K μ a2 a3 = some r → Rn D 117 36 [(0, .ref 0), (1, .int f1), (2, .int a2), (3, .int a3)] [] μ (.inl (some (.int r.1))) r.2 := by
  intro n
  induction n with
  | zero => intro μ a2 a3 r h; cases h
  | succ n ih =>
    intro μ a2 a3 r h
    have h : pG_isConsistent_L36_B (pG_isConsistent_L36 n f1 K) f1 K μ a2 a3 = some r := h
    unfold pG_isConsistent_L36_B at h
    refine R_pure (pc := 36) (pc' := 37) (st' := [.int a3]) (show z_pt 117 36 = some (5, .iload_n 3, []) by decide +kernel) rfl (fun _ _ _ => rfl) ?_
    refine R_pure (pc := 37) (pc' := 38) (st' := [.int f1, .int a3]) (show z_pt 117 37 = some (5, .iload_n 1, []) by decide +kernel) rfl (fun _ _ _ => rfl) ?_
    refine R_icmge (pc := 38) (t := 85) (show z_pt 117 38 = some (5, .if_icmp .ge 47, []) by decide +kernel) (by decide) (fun c6 => ?_) (fun c6 => ?_)
    · rw [if_pos c6] at h
      exact hK _ _ _  _ h
    · rw [if_neg c6] at h
      refine R_const (pc := 41) (pc' := 42) (v := 0) (show z_ptc 117 41 = some (42, 0) by decide +kernel) ?_
      refine R_pure (pc := 42) (pc' := 44) (ls' := [(0, .ref 0), (1, .int f1), (2, .int a2), (3, .int a3), (4, .int 0)]) (st' := []) (show z_pt 117 42 = some (5, .istore 4, []) by decide +kernel) rfl (fun _ _ _ => rfl) ?_
      refine pG_isConsistent_L44_run  _ _ _  _ (by omega) ?_ _ _ _ _ _ h
      intro M14 k12 k13 r h
      refine R_inc (pc := 79) (pc' := 82) (ls' := [(0, .ref 0), (1, .int f1), (2, .int k12), (3, .int (a3 + 1)), (4, .int k13)]) (c := 1) (show z_pt 117 79 = some (5, .iinc 3 1, []) by decide +kernel) (by decide) rfl rfl ?_
      refine R_pure (pc := 82) (pc' := 36) (ls' := [(0, .ref 0), (1, .int f1), (2, .int k12), (3, .int (a3 + 1))]) (st' := []) (show z_pt 117 82 = some (5, .goto (-46), [4]) by decide +kernel) rfl (fun _ _ _ => rfl) ?_
      exact ih _ _ _ _  h
def pG_isConsistent  (μ : z_Mem)  : Option (Int32 × z_Mem) := (pW_countByWalks μ).bind fun q1 => (pW_countByUniting q1.2).bind fun q3 => if q1.1 = q3.1 then pG_isConsistent_L36 z_fu (μ 2 0) (fun M21 k19 k20 => if vp_nar .boolean k19 = k19 then some (k19, M21) else none) q3.2 1 0 else pG_isConsistent_L36 z_fu (μ 2 0) (fun M17 k15 k16 => if vp_nar .boolean k15 = k15 then some (k15, M17) else none) q3.2 0 0
theorem pG_isConsistent_run  {μ : z_Mem}   {r : (Int32 × z_Mem)} (h : pG_isConsistent μ = some r) : Rn 18 117 0 [(0, .ref 0)] [] μ (.inl (some (.int r.1))) r.2 := by
  unfold pG_isConsistent at h
  refine R_pure (pc := 0) (pc' := 1) (st' := [.ref 0]) (show z_pt 117 0 = some (5, .aload_n 0, []) by decide +kernel) rfl (fun _ _ _ => rfl) ?_
  refine R_getR (pc := 1) (a := 0) (b := 1) (show z_pt 117 1 = some (5, .getfield 17, [9, 0, 2037]) by decide +kernel) (by decide +kernel) ?_
  refine R_at (pc := 4) ?_
  refine R_getR (pc := 4) (a := 1) (b := 2) (show z_pt 117 4 = some (5, .getfield 23, [7, 0, 1172]) by decide +kernel) (by decide +kernel) ?_
  refine R_at (pc := 7) ?_
  refine R_getI (pc := 7) (a := 2) (show z_pt 117 7 = some (5, .getfield 93, [2, 0, 1050]) by decide +kernel) (by decide +kernel) ?_
  refine R_at (pc := 10) ?_
  refine R_pure (pc := 10) (pc' := 11) (ls' := [(0, .ref 0), (1, .int (μ 2 0))]) (st' := []) (show z_pt 117 10 = some (5, .istore_n 1, []) by decide +kernel) rfl (fun _ _ _ => rfl) ?_
  refine R_pure (pc := 11) (pc' := 12) (st' := [.ref 0]) (show z_pt 117 11 = some (5, .aload_n 0, []) by decide +kernel) rfl (fun _ _ _ => rfl) ?_
  refine R_getR (pc := 12) (a := 0) (b := 23) (show z_pt 117 12 = some (5, .getfield 30, [9, 3, 2040]) by decide +kernel) (by decide +kernel) ?_
  refine R_at (pc := 15) ?_
  obtain ⟨q1, e2, h⟩ := z_bs h
  refine R_call (pc := 15) (rr := []) (show z_pt 117 15 = some (5, .invokevirtual 129, [0, 36, 0, 3086, 3087, 3088, 1009, 3089]) by decide +kernel) rfl (show z_r2 36 = some (3, 3, true) by decide +kernel) rfl rfl (Or.inr ⟨_, _, rfl, (by decide +kernel)⟩) (pW_countByWalks_run  e2) (by omega) ?_
  refine R_at2 (pc := 18) (st := [.int q1.1]) ?_
  refine R_pure (pc := 18) (pc' := 19) (st' := [.ref 0, .int q1.1]) (show z_pt 117 18 = some (5, .aload_n 0, []) by decide +kernel) rfl (fun _ _ _ => rfl) ?_
  refine R_getR (pc := 19) (a := 0) (b := 23) (show z_pt 117 19 = some (5, .getfield 30, [9, 3, 2040]) by decide +kernel) (by decide +kernel) ?_
  refine R_at (pc := 22) ?_
  obtain ⟨q3, e4, h⟩ := z_bs h
  refine R_call (pc := 22) (rr := [.int q1.1]) (show z_pt 117 22 = some (5, .invokevirtual 133, [0, 39, 0, 3094, 3095, 3096, 1009, 3097]) by decide +kernel) rfl (show z_r2 39 = some (3, 5, true) by decide +kernel) rfl rfl (Or.inr ⟨_, _, rfl, (by decide +kernel)⟩) (pW_countByUniting_run  e4) (by omega) ?_
  refine R_at2 (pc := 25) (st := [.int q3.1, .int q1.1]) ?_
  refine R_icmne (pc := 25) (t := 32) (show z_pt 117 25 = some (5, .if_icmp .ne 7, []) by decide +kernel) (by decide) (fun c5 => ?_) (fun c5 => ?_)
  · rw [if_neg c5] at h
    refine R_const (pc := 32) (pc' := 33) (v := 0) (show z_ptc 117 32 = some (33, 0) by decide +kernel) ?_
    refine R_pure (pc := 33) (pc' := 34) (ls' := [(0, .ref 0), (1, .int (μ 2 0)), (2, .int 0)]) (st' := []) (show z_pt 117 33 = some (5, .istore_n 2, []) by decide +kernel) rfl (fun _ _ _ => rfl) ?_
    refine R_const (pc := 34) (pc' := 35) (v := 0) (show z_ptc 117 34 = some (35, 0) by decide +kernel) ?_
    refine R_pure (pc := 35) (pc' := 36) (ls' := [(0, .ref 0), (1, .int (μ 2 0)), (2, .int 0), (3, .int 0)]) (st' := []) (show z_pt 117 35 = some (5, .istore_n 3, []) by decide +kernel) rfl (fun _ _ _ => rfl) ?_
    refine pG_isConsistent_L36_run  _ _  _ (by omega) ?_ _ _ _ _ _ h
    intro M17 k15 k16 r h
    refine R_pure (pc := 85) (pc' := 86) (st' := [.int k15]) (show z_pt 117 85 = some (5, .iload_n 2, []) by decide +kernel) rfl (fun _ _ _ => rfl) ?_
    obtain ⟨g18, h⟩ := z_ig h
    cases h
    exact R_retZ (show z_pt 117 86 = some (5, .ireturn, []) by decide +kernel) (t := .boolean) (by decide +kernel) (z_nrZ g18)
  · rw [if_pos c5] at h
    refine R_const (pc := 28) (pc' := 29) (v := 1) (show z_ptc 117 28 = some (29, 1) by decide +kernel) ?_
    refine R_pure (pc := 29) (pc' := 33) (show z_pt 117 29 = some (5, .goto 4, []) by decide +kernel) rfl (fun _ _ _ => rfl) ?_
    refine R_pure (pc := 33) (pc' := 34) (ls' := [(0, .ref 0), (1, .int (μ 2 0)), (2, .int 1)]) (st' := []) (show z_pt 117 33 = some (5, .istore_n 2, []) by decide +kernel) rfl (fun _ _ _ => rfl) ?_
    refine R_const (pc := 34) (pc' := 35) (v := 0) (show z_ptc 117 34 = some (35, 0) by decide +kernel) ?_
    refine R_pure (pc := 35) (pc' := 36) (ls' := [(0, .ref 0), (1, .int (μ 2 0)), (2, .int 1), (3, .int 0)]) (st' := []) (show z_pt 117 35 = some (5, .istore_n 3, []) by decide +kernel) rfl (fun _ _ _ => rfl) ?_
    refine pG_isConsistent_L36_run  _ _  _ (by omega) ?_ _ _ _ _ _ h
    intro M21 k19 k20 r h
    refine R_pure (pc := 85) (pc' := 86) (st' := [.int k19]) (show z_pt 117 85 = some (5, .iload_n 2, []) by decide +kernel) rfl (fun _ _ _ => rfl) ?_
    obtain ⟨g22, h⟩ := z_ig h
    cases h
    exact R_retZ (show z_pt 117 86 = some (5, .ireturn, []) by decide +kernel) (t := .boolean) (by decide +kernel) (z_nrZ g22)
def pG_feed  (μ : z_Mem) (i1 : Int32) : Option ((Int32 ⊕ Nat) × z_Mem) := (pS_put 21 60 μ i1).bind fun q1 => if q1.1 = 0 then some ((.inr 2), q1.2) else some ((.inl (q1.2 21 0)), q1.2)
theorem pG_feed_run  {μ : z_Mem} {i1 : Int32}  {r : ((Int32 ⊕ Nat) × z_Mem)} (h : pG_feed μ i1 = some r) : Rn 6 118 0 [(0, .ref 0), (1, .int i1)] [] μ (z_oX r.1) r.2 := by
  unfold pG_feed at h
  refine R_pure (pc := 0) (pc' := 1) (st' := [.ref 0]) (show z_pt 118 0 = some (2, .aload_n 0, []) by decide +kernel) rfl (fun _ _ _ => rfl) ?_
  refine R_getR (pc := 1) (a := 0) (b := 21) (show z_pt 118 1 = some (2, .getfield 34, [9, 4, 2041]) by decide +kernel) (by decide +kernel) ?_
  refine R_at (pc := 4) ?_
  refine R_pure (pc := 4) (pc' := 5) (st' := [.int i1, .ref 21]) (show z_pt 118 4 = some (2, .iload_n 1, []) by decide +kernel) rfl (fun _ _ _ => rfl) ?_
  obtain ⟨q1, e2, h⟩ := z_bs h
  refine R_call (pc := 5) (rr := []) (show z_pt 118 5 = some (2, .invokevirtual 294, [0, 55, 1, 5105, 5106, 5107, 1007, 5108]) by decide +kernel) rfl (show z_r2 55 = some (5, 2, true) by decide +kernel) rfl rfl (Or.inr ⟨_, _, rfl, (by decide +kernel)⟩) (pS_put_run (show zSg 21 60 = true by decide +kernel) e2) (by omega) ?_
  refine R_at2 (pc := 8) (st := [.int q1.1]) ?_
  refine R_ifne (pc := 8) (t := 19) (show z_pt 118 8 = some (2, .ifCond .ne 11, []) by decide +kernel) (by decide) (fun c3 => ?_) (fun c3 => ?_)
  · rw [if_neg c3] at h
    refine R_pure (pc := 19) (pc' := 20) (st' := [.ref 0]) (show z_pt 118 19 = some (2, .aload_n 0, []) by decide +kernel) rfl (fun _ _ _ => rfl) ?_
    refine R_getR (pc := 20) (a := 0) (b := 21) (show z_pt 118 20 = some (2, .getfield 34, [9, 4, 2041]) by decide +kernel) (by decide +kernel) ?_
    refine R_at (pc := 23) ?_
    refine R_getI (pc := 23) (a := 21) (show z_pt 118 23 = some (2, .getfield 298, [5, 0, 1199]) by decide +kernel) (by decide +kernel) ?_
    refine R_at (pc := 26) ?_
    cases h
    exact R_retI (show z_pt 118 26 = some (2, .ireturn, []) by decide +kernel) (by decide +kernel)
  · rw [if_pos c3] at h
    cases h
    exact R_thr (show z_thx 118 11 = some 2 by decide +kernel) (by omega)
def pG_perform  (μ : z_Mem) (i1 : Int32) : Option (Int32 × z_Mem) := (pR_valueOf μ i1 0).bind fun q1 => (pR_valueOf μ i1 1).bind fun q3 => (pR_valueOf μ i1 2).bind fun q5 => (pR_kindOf μ i1).bind fun q7 => if q7 = 103 then (pG_tryGear μ q1).bind fun q10 => some (q10.1, q10.2) else if q7 = 104 then (pG_tryHours μ q1).bind fun q13 => some (q13.1, q13.2) else if q7 = 109 then (pG_tryMesh μ q1 q3 q5).bind fun q16 => some (q16.1, q16.2) else if q7 = 110 then (pG_tryEntry μ (((q1 : Int32).toUInt32 % 65536).toInt32) q3).bind fun q19 => some (q19.1, q19.2) else if q7 = 116 then (pG_tryTurn μ q1 q3).bind fun q22 => some (q22.1, q22.2) else if q7 = 119 then (pG_tryWheel μ q1 q3).bind fun q25 => some (q25.1, q25.2) else some ((-3), μ)
theorem pG_perform_run  {μ : z_Mem} {i1 : Int32}  {r : (Int32 × z_Mem)} (h : pG_perform μ i1 = some r) : Rn 17 138 0 [(0, .ref 0), (1, .int i1)] [] μ (.inl (some (.int r.1))) r.2 := by
  unfold pG_perform at h
  refine R_pure (pc := 0) (pc' := 1) (st' := [.ref 0]) (show z_pt 138 0 = some (5, .aload_n 0, []) by decide +kernel) rfl (fun _ _ _ => rfl) ?_
  refine R_getR (pc := 1) (a := 0) (b := 34) (show z_pt 138 1 = some (5, .getfield 43, [9, 6, 2043]) by decide +kernel) (by decide +kernel) ?_
  refine R_at (pc := 4) ?_
  refine R_pure (pc := 4) (pc' := 5) (st' := [.int i1, .ref 34]) (show z_pt 138 4 = some (5, .iload_n 1, []) by decide +kernel) rfl (fun _ _ _ => rfl) ?_
  refine R_const (pc := 5) (pc' := 6) (v := 0) (show z_ptc 138 5 = some (6, 0) by decide +kernel) ?_
  obtain ⟨q1, e2, h⟩ := z_bs h
  refine R_call (pc := 6) (rr := []) (show z_pt 138 6 = some (5, .invokevirtual 382, [0, 3, 2, 5035, 5036, 5037, 1010, 5038]) by decide +kernel) rfl (show z_r2 3 = some (0, 3, true) by decide +kernel) rfl rfl (Or.inr ⟨_, _, rfl, (by decide +kernel)⟩) (pR_valueOf_run  e2) (by omega) ?_
  refine R_at2 (pc := 9) (st := [.int q1]) ?_
  refine R_pure (pc := 9) (pc' := 10) (ls' := [(0, .ref 0), (1, .int i1), (2, .int q1)]) (st' := []) (show z_pt 138 9 = some (5, .istore_n 2, []) by decide +kernel) rfl (fun _ _ _ => rfl) ?_
  refine R_pure (pc := 10) (pc' := 11) (st' := [.ref 0]) (show z_pt 138 10 = some (5, .aload_n 0, []) by decide +kernel) rfl (fun _ _ _ => rfl) ?_
  refine R_getR (pc := 11) (a := 0) (b := 34) (show z_pt 138 11 = some (5, .getfield 43, [9, 6, 2043]) by decide +kernel) (by decide +kernel) ?_
  refine R_at (pc := 14) ?_
  refine R_pure (pc := 14) (pc' := 15) (st' := [.int i1, .ref 34]) (show z_pt 138 14 = some (5, .iload_n 1, []) by decide +kernel) rfl (fun _ _ _ => rfl) ?_
  refine R_const (pc := 15) (pc' := 16) (v := 1) (show z_ptc 138 15 = some (16, 1) by decide +kernel) ?_
  obtain ⟨q3, e4, h⟩ := z_bs h
  refine R_call (pc := 16) (rr := []) (show z_pt 138 16 = some (5, .invokevirtual 382, [0, 3, 2, 5035, 5036, 5037, 1010, 5038]) by decide +kernel) rfl (show z_r2 3 = some (0, 3, true) by decide +kernel) rfl rfl (Or.inr ⟨_, _, rfl, (by decide +kernel)⟩) (pR_valueOf_run  e4) (by omega) ?_
  refine R_at2 (pc := 19) (st := [.int q3]) ?_
  refine R_pure (pc := 19) (pc' := 20) (ls' := [(0, .ref 0), (1, .int i1), (2, .int q1), (3, .int q3)]) (st' := []) (show z_pt 138 19 = some (5, .istore_n 3, []) by decide +kernel) rfl (fun _ _ _ => rfl) ?_
  refine R_pure (pc := 20) (pc' := 21) (st' := [.ref 0]) (show z_pt 138 20 = some (5, .aload_n 0, []) by decide +kernel) rfl (fun _ _ _ => rfl) ?_
  refine R_getR (pc := 21) (a := 0) (b := 34) (show z_pt 138 21 = some (5, .getfield 43, [9, 6, 2043]) by decide +kernel) (by decide +kernel) ?_
  refine R_at (pc := 24) ?_
  refine R_pure (pc := 24) (pc' := 25) (st' := [.int i1, .ref 34]) (show z_pt 138 24 = some (5, .iload_n 1, []) by decide +kernel) rfl (fun _ _ _ => rfl) ?_
  refine R_const (pc := 25) (pc' := 26) (v := 2) (show z_ptc 138 25 = some (26, 2) by decide +kernel) ?_
  obtain ⟨q5, e6, h⟩ := z_bs h
  refine R_call (pc := 26) (rr := []) (show z_pt 138 26 = some (5, .invokevirtual 382, [0, 3, 2, 5035, 5036, 5037, 1010, 5038]) by decide +kernel) rfl (show z_r2 3 = some (0, 3, true) by decide +kernel) rfl rfl (Or.inr ⟨_, _, rfl, (by decide +kernel)⟩) (pR_valueOf_run  e6) (by omega) ?_
  refine R_at2 (pc := 29) (st := [.int q5]) ?_
  refine R_pure (pc := 29) (pc' := 31) (ls' := [(0, .ref 0), (1, .int i1), (2, .int q1), (3, .int q3), (4, .int q5)]) (st' := []) (show z_pt 138 29 = some (5, .istore 4, []) by decide +kernel) rfl (fun _ _ _ => rfl) ?_
  refine R_pure (pc := 31) (pc' := 32) (st' := [.ref 0]) (show z_pt 138 31 = some (5, .aload_n 0, []) by decide +kernel) rfl (fun _ _ _ => rfl) ?_
  refine R_getR (pc := 32) (a := 0) (b := 34) (show z_pt 138 32 = some (5, .getfield 43, [9, 6, 2043]) by decide +kernel) (by decide +kernel) ?_
  refine R_at (pc := 35) ?_
  refine R_pure (pc := 35) (pc' := 36) (st' := [.int i1, .ref 34]) (show z_pt 138 35 = some (5, .iload_n 1, []) by decide +kernel) rfl (fun _ _ _ => rfl) ?_
  obtain ⟨q7, e8, h⟩ := z_bs h
  refine R_call (pc := 36) (rr := []) (show z_pt 138 36 = some (5, .invokevirtual 385, [0, 2, 1, 5039, 5040, 5041, 1010, 5042]) by decide +kernel) rfl (show z_r2 2 = some (0, 2, true) by decide +kernel) rfl rfl (Or.inr ⟨_, _, rfl, (by decide +kernel)⟩) (pR_kindOf_run  e8) (by omega) ?_
  refine R_at2 (pc := 39) (st := [.int q7]) ?_
  by_cases c9 : q7 = 103
  · rw [if_pos c9] at h
    refine R_sw (pc := 39) (t := 120) (v := 103) (show z_pt 138 39 = some (5, .tableswitch 124 103 119 #[81, 118, 124, 124, 124, 124, 87, 110, 124, 124, 124, 124, 124, 96, 124, 124, 103], []) by decide +kernel) c9 (show z_swt 138 39 103 = some 120 by decide +kernel) ?_
    refine R_pure (pc := 120) (pc' := 121) (st' := [.ref 0]) (show z_pt 138 120 = some (5, .aload_n 0, []) by decide +kernel) rfl (fun _ _ _ => rfl) ?_
    refine R_pure (pc := 121) (pc' := 122) (st' := [.int q1, .ref 0]) (show z_pt 138 121 = some (5, .iload_n 2, []) by decide +kernel) rfl (fun _ _ _ => rfl) ?_
    obtain ⟨q10, e11, h⟩ := z_bs h
    refine R_call (pc := 122) (rr := []) (show z_pt 138 122 = some (5, .invokevirtual 75, [0, 125, 1, 2102, 2104, 0, 1001, 2105]) by decide +kernel) rfl (show z_r2 125 = some (9, 2, true) by decide +kernel) rfl rfl (Or.inr ⟨_, _, rfl, (by decide +kernel)⟩) (pG_tryGear_run  e11) (by omega) ?_
    refine R_at2 (pc := 125) (st := [.int q10.1]) ?_
    cases h
    exact R_retI (show z_pt 138 125 = some (5, .ireturn, []) by decide +kernel) (by decide +kernel)
  rw [if_neg c9] at h
  by_cases c12 : q7 = 104
  · rw [if_pos c12] at h
    refine R_sw (pc := 39) (t := 157) (v := 104) (show z_pt 138 39 = some (5, .tableswitch 124 103 119 #[81, 118, 124, 124, 124, 124, 87, 110, 124, 124, 124, 124, 124, 96, 124, 124, 103], []) by decide +kernel) c12 (show z_swt 138 39 104 = some 157 by decide +kernel) ?_
    refine R_pure (pc := 157) (pc' := 158) (st' := [.ref 0]) (show z_pt 138 157 = some (5, .aload_n 0, []) by decide +kernel) rfl (fun _ _ _ => rfl) ?_
    refine R_pure (pc := 158) (pc' := 159) (st' := [.int q1, .ref 0]) (show z_pt 138 158 = some (5, .iload_n 2, []) by decide +kernel) rfl (fun _ _ _ => rfl) ?_
    obtain ⟨q13, e14, h⟩ := z_bs h
    refine R_call (pc := 159) (rr := []) (show z_pt 138 159 = some (5, .invokevirtual 222, [0, 133, 1, 4032, 4034, 17, 1001, 4035]) by decide +kernel) rfl (show z_r2 133 = some (9, 2, true) by decide +kernel) rfl rfl (Or.inr ⟨_, _, rfl, (by decide +kernel)⟩) (pG_tryHours_run  e14) (by omega) ?_
    refine R_at2 (pc := 162) (st := [.int q13.1]) ?_
    cases h
    exact R_retI (show z_pt 138 162 = some (5, .ireturn, []) by decide +kernel) (by decide +kernel)
  rw [if_neg c12] at h
  by_cases c15 : q7 = 109
  · rw [if_pos c15] at h
    refine R_sw (pc := 39) (t := 126) (v := 109) (show z_pt 138 39 = some (5, .tableswitch 124 103 119 #[81, 118, 124, 124, 124, 124, 87, 110, 124, 124, 124, 124, 124, 96, 124, 124, 103], []) by decide +kernel) c15 (show z_swt 138 39 109 = some 126 by decide +kernel) ?_
    refine R_pure (pc := 126) (pc' := 127) (st' := [.ref 0]) (show z_pt 138 126 = some (5, .aload_n 0, []) by decide +kernel) rfl (fun _ _ _ => rfl) ?_
    refine R_pure (pc := 127) (pc' := 128) (st' := [.int q1, .ref 0]) (show z_pt 138 127 = some (5, .iload_n 2, []) by decide +kernel) rfl (fun _ _ _ => rfl) ?_
    refine R_pure (pc := 128) (pc' := 129) (st' := [.int q3, .int q1, .ref 0]) (show z_pt 138 128 = some (5, .iload_n 3, []) by decide +kernel) rfl (fun _ _ _ => rfl) ?_
    refine R_pure (pc := 129) (pc' := 131) (st' := [.int q5, .int q3, .int q1, .ref 0]) (show z_pt 138 129 = some (5, .iload 4, []) by decide +kernel) rfl (fun _ _ _ => rfl) ?_
    obtain ⟨q16, e17, h⟩ := z_bs h
    refine R_call (pc := 131) (rr := []) (show z_pt 138 131 = some (5, .invokevirtual 82, [0, 126, 3, 5043, 5045, 33, 1001, 5046]) by decide +kernel) rfl (show z_r2 126 = some (9, 4, true) by decide +kernel) rfl rfl (Or.inr ⟨_, _, rfl, (by decide +kernel)⟩) (pG_tryMesh_run  e17) (by omega) ?_
    refine R_at2 (pc := 134) (st := [.int q16.1]) ?_
    cases h
    exact R_retI (show z_pt 138 134 = some (5, .ireturn, []) by decide +kernel) (by decide +kernel)
  rw [if_neg c15] at h
  by_cases c18 : q7 = 110
  · rw [if_pos c18] at h
    refine R_sw (pc := 39) (t := 149) (v := 110) (show z_pt 138 39 = some (5, .tableswitch 124 103 119 #[81, 118, 124, 124, 124, 124, 87, 110, 124, 124, 124, 124, 124, 96, 124, 124, 103], []) by decide +kernel) c18 (show z_swt 138 39 110 = some 149 by decide +kernel) ?_
    refine R_pure (pc := 149) (pc' := 150) (st' := [.ref 0]) (show z_pt 138 149 = some (5, .aload_n 0, []) by decide +kernel) rfl (fun _ _ _ => rfl) ?_
    refine R_pure (pc := 150) (pc' := 151) (st' := [.int q1, .ref 0]) (show z_pt 138 150 = some (5, .iload_n 2, []) by decide +kernel) rfl (fun _ _ _ => rfl) ?_
    refine R_pure (pc := 151) (pc' := 152) (st' := [.int (((q1 : Int32).toUInt32 % 65536).toInt32), .ref 0]) (show z_pt 138 151 = some (5, .i2c, []) by decide +kernel) rfl (fun _ _ _ => rfl) ?_
    refine R_pure (pc := 152) (pc' := 153) (st' := [.int q3, .int (((q1 : Int32).toUInt32 % 65536).toInt32), .ref 0]) (show z_pt 138 152 = some (5, .iload_n 3, []) by decide +kernel) rfl (fun _ _ _ => rfl) ?_
    obtain ⟨q19, e20, h⟩ := z_bs h
    refine R_call (pc := 153) (rr := []) (show z_pt 138 153 = some (5, .invokevirtual 249, [0, 134, 2, 4070, 4072, 18, 1001, 4073]) by decide +kernel) rfl (show z_r2 134 = some (9, 3, true) by decide +kernel) rfl rfl (Or.inr ⟨_, _, rfl, (by decide +kernel)⟩) (pG_tryEntry_run  e20) (by omega) ?_
    refine R_at2 (pc := 156) (st := [.int q19.1]) ?_
    cases h
    exact R_retI (show z_pt 138 156 = some (5, .ireturn, []) by decide +kernel) (by decide +kernel)
  rw [if_neg c18] at h
  by_cases c21 : q7 = 116
  · rw [if_pos c21] at h
    refine R_sw (pc := 39) (t := 135) (v := 116) (show z_pt 138 39 = some (5, .tableswitch 124 103 119 #[81, 118, 124, 124, 124, 124, 87, 110, 124, 124, 124, 124, 124, 96, 124, 124, 103], []) by decide +kernel) c21 (show z_swt 138 39 116 = some 135 by decide +kernel) ?_
    refine R_pure (pc := 135) (pc' := 136) (st' := [.ref 0]) (show z_pt 138 135 = some (5, .aload_n 0, []) by decide +kernel) rfl (fun _ _ _ => rfl) ?_
    refine R_pure (pc := 136) (pc' := 137) (st' := [.int q1, .ref 0]) (show z_pt 138 136 = some (5, .iload_n 2, []) by decide +kernel) rfl (fun _ _ _ => rfl) ?_
    refine R_pure (pc := 137) (pc' := 138) (st' := [.int q3, .int q1, .ref 0]) (show z_pt 138 137 = some (5, .iload_n 3, []) by decide +kernel) rfl (fun _ _ _ => rfl) ?_
    obtain ⟨q22, e23, h⟩ := z_bs h
    refine R_call (pc := 138) (rr := []) (show z_pt 138 138 = some (5, .invokevirtual 90, [0, 128, 2, 3025, 3027, 4, 1001, 3028]) by decide +kernel) rfl (show z_r2 128 = some (9, 3, true) by decide +kernel) rfl rfl (Or.inr ⟨_, _, rfl, (by decide +kernel)⟩) (pG_tryTurn_run  e23) (by omega) ?_
    refine R_at2 (pc := 141) (st := [.int q22.1]) ?_
    cases h
    exact R_retI (show z_pt 138 141 = some (5, .ireturn, []) by decide +kernel) (by decide +kernel)
  rw [if_neg c21] at h
  by_cases c24 : q7 = 119
  · rw [if_pos c24] at h
    refine R_sw (pc := 39) (t := 142) (v := 119) (show z_pt 138 39 = some (5, .tableswitch 124 103 119 #[81, 118, 124, 124, 124, 124, 87, 110, 124, 124, 124, 124, 124, 96, 124, 124, 103], []) by decide +kernel) c24 (show z_swt 138 39 119 = some 142 by decide +kernel) ?_
    refine R_pure (pc := 142) (pc' := 143) (st' := [.ref 0]) (show z_pt 138 142 = some (5, .aload_n 0, []) by decide +kernel) rfl (fun _ _ _ => rfl) ?_
    refine R_pure (pc := 143) (pc' := 144) (st' := [.int q1, .ref 0]) (show z_pt 138 143 = some (5, .iload_n 2, []) by decide +kernel) rfl (fun _ _ _ => rfl) ?_
    refine R_pure (pc := 144) (pc' := 145) (st' := [.int q3, .int q1, .ref 0]) (show z_pt 138 144 = some (5, .iload_n 3, []) by decide +kernel) rfl (fun _ _ _ => rfl) ?_
    obtain ⟨q25, e26, h⟩ := z_bs h
    refine R_call (pc := 145) (rr := []) (show z_pt 138 145 = some (5, .invokevirtual 158, [0, 129, 2, 3169, 3171, 11, 1001, 3172]) by decide +kernel) rfl (show z_r2 129 = some (9, 3, true) by decide +kernel) rfl rfl (Or.inr ⟨_, _, rfl, (by decide +kernel)⟩) (pG_tryWheel_run  e26) (by omega) ?_
    refine R_at2 (pc := 148) (st := [.int q25.1]) ?_
    cases h
    exact R_retI (show z_pt 138 148 = some (5, .ireturn, []) by decide +kernel) (by decide +kernel)
  rw [if_neg c24] at h
  refine R_swd (pc := 39) (t := 163) (cs := [103, 104, 109, 110, 116, 119]) (show z_pt 138 39 = some (5, .tableswitch 124 103 119 #[81, 118, 124, 124, 124, 124, 87, 110, 124, 124, 124, 124, 124, 96, 124, 124, 103], []) by decide +kernel) (show z_swd 138 39 [103, 104, 109, 110, 116, 119] = some 163 by decide +kernel) (z_nc c9 (z_nc c12 (z_nc c15 (z_nc c18 (z_nc c21 (z_nc c24 (z_nn _))))))) ?_
  refine R_const (pc := 163) (pc' := 165) (v := (-3)) (show z_ptc 138 163 = some (165, (-3)) by decide +kernel) ?_
  cases h
  exact R_retI (show z_pt 138 165 = some (5, .ireturn, []) by decide +kernel) (by decide +kernel)
end ZP4
