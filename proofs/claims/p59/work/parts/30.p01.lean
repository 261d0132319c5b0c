section ZP1
def pT_copyFrom (t : Nat) (u : Nat) (μ : z_Mem)  : Option z_Mem := some (z_cp (z_cp (z_cp (z_cp (z_cp (z_cp (z_u (z_u (z_u μ t 0 (μ u 0)) t 1 ((z_u μ t 0 (μ u 0)) u 1)) t 2 ((z_u (z_u μ t 0 (μ u 0)) t 1 ((z_u μ t 0 (μ u 0)) u 1)) u 2)) (u + 1) (t + 1) 0 0 10) (u + 2) (t + 2) 0 0 10) (u + 3) (t + 3) 0 0 9) (u + 4) (t + 4) 0 0 9) (u + 5) (t + 5) 0 0 9) (u + 6) (t + 6) 0 0 9)
theorem pT_copyFrom_run {t : Nat} {u : Nat} {μ : z_Mem}  (ht : zTr t = true) (hu : zTr u = true) {r : z_Mem} (h : pT_copyFrom t u μ = some r) : Rn 1 22 0 [(0, .ref t), (1, .ref u)] [] μ (.inl none) r := by
  unfold pT_copyFrom at h
  refine R_pure (pc := 0) (pc' := 1) (st' := [.ref t]) (show z_pt 22 0 = some (2, .aload_n 0, []) by decide +kernel) rfl (fun _ _ _ => rfl) ?_
  refine R_pure (pc := 1) (pc' := 2) (st' := [.ref u, .ref t]) (show z_pt 22 1 = some (2, .aload_n 1, []) by decide +kernel) rfl (fun _ _ _ => rfl) ?_
  refine R_getI (pc := 2) (a := u) (show z_pt 22 2 = some (2, .getfield 30, [2, 0, 1047]) by decide +kernel) (zTr_all hu).2.1 ?_
  refine R_at (pc := 5) ?_
  refine R_putI (pc := 5) (a := t) (show z_pt 22 5 = some (2, .putfield 30, [2, 0, 1047]) by decide +kernel) (zTr_all ht).2.1 ⟨rfl, rfl⟩ ?_
  refine R_at (pc := 8) ?_
  refine R_pure (pc := 8) (pc' := 9) (st' := [.ref t]) (show z_pt 22 8 = some (2, .aload_n 0, []) by decide +kernel) rfl (fun _ _ _ => rfl) ?_
  refine R_pure (pc := 9) (pc' := 10) (st' := [.ref u, .ref t]) (show z_pt 22 9 = some (2, .aload_n 1, []) by decide +kernel) rfl (fun _ _ _ => rfl) ?_
  refine R_getI (pc := 10) (a := u) (show z_pt 22 10 = some (2, .getfield 34, [2, 1, 1051]) by decide +kernel) (zTr_all hu).2.2.1 ?_
  refine R_at (pc := 13) ?_
  refine R_putI (pc := 13) (a := t) (show z_pt 22 13 = some (2, .putfield 34, [2, 1, 1051]) by decide +kernel) (zTr_all ht).2.2.1 ⟨rfl, rfl⟩ ?_
  refine R_at (pc := 16) ?_
  refine R_pure (pc := 16) (pc' := 17) (st' := [.ref t]) (show z_pt 22 16 = some (2, .aload_n 0, []) by decide +kernel) rfl (fun _ _ _ => rfl) ?_
  refine R_pure (pc := 17) (pc' := 18) (st' := [.ref u, .ref t]) (show z_pt 22 17 = some (2, .aload_n 1, []) by decide +kernel) rfl (fun _ _ _ => rfl) ?_
  refine R_getI (pc := 18) (a := u) (show z_pt 22 18 = some (2, .getfield 37, [2, 2, 1054]) by decide +kernel) (zTr_all hu).2.2.2.1 ?_
  refine R_at (pc := 21) ?_
  refine R_putI (pc := 21) (a := t) (show z_pt 22 21 = some (2, .putfield 37, [2, 2, 1054]) by decide +kernel) (zTr_all ht).2.2.2.1 ⟨rfl, rfl⟩ ?_
  refine R_at (pc := 24) ?_
  refine R_pure (pc := 24) (pc' := 25) (st' := [.ref u]) (show z_pt 22 24 = some (2, .aload_n 1, []) by decide +kernel) rfl (fun _ _ _ => rfl) ?_
  refine R_getR (pc := 25) (a := u) (b := (u + 1)) (show z_pt 22 25 = some (2, .getfield 9, [2, 3, 1056]) by decide +kernel) (zTr_all hu).2.2.2.2.1 ?_
  refine R_at (pc := 28) ?_
  refine R_const (pc := 28) (pc' := 29) (v := 0) (show z_ptc 22 28 = some (29, 0) by decide +kernel) ?_
  refine R_pure (pc := 29) (pc' := 30) (st' := [.ref t, .int 0, .ref (u + 1)]) (show z_pt 22 29 = some (2, .aload_n 0, []) by decide +kernel) rfl (fun _ _ _ => rfl) ?_
  refine R_getR (pc := 30) (a := t) (b := (t + 1)) (show z_pt 22 30 = some (2, .getfield 9, [2, 3, 1056]) by decide +kernel) (zTr_all ht).2.2.2.2.1 ?_
  refine R_at (pc := 33) ?_
  refine R_const (pc := 33) (pc' := 34) (v := 0) (show z_ptc 22 33 = some (34, 0) by decide +kernel) ?_
  refine R_const (pc := 34) (pc' := 36) (v := 10) (show z_ptc 22 34 = some (36, 10) by decide +kernel) ?_
  refine R_cpyK (t0 := 0) (t1 := 0) (pc := 36) (b := (u + 1)) (a := (t + 1)) (n0 := 10) (n1 := 10) (sn := 0) (dn := 0) (nn := 10) (show z_pt 22 36 = some (2, .invokestatic 40, [7, 0, 5, 2084, 2086, 2085, 1018]) by decide +kernel) rfl (by omega) (zTr_all hu).2.2.2.2.2.2.2.2.2.2.1 (zTr_all ht).2.2.2.2.2.2.2.2.2.2.1 rfl (by decide) ?_
  refine R_at (pc := 39) ?_
  refine R_pure (pc := 39) (pc' := 40) (st' := [.ref u]) (show z_pt 22 39 = some (2, .aload_n 1, []) by decide +kernel) rfl (fun _ _ _ => rfl) ?_
  refine R_getR (pc := 40) (a := u) (b := (u + 2)) (show z_pt 22 40 = some (2, .getfield 15, [2, 4, 1060]) by decide +kernel) (zTr_all hu).2.2.2.2.2.1 ?_
  refine R_at (pc := 43) ?_
  refine R_const (pc := 43) (pc' := 44) (v := 0) (show z_ptc 22 43 = some (44, 0) by decide +kernel) ?_
  refine R_pure (pc := 44) (pc' := 45) (st' := [.ref t, .int 0, .ref (u + 2)]) (show z_pt 22 44 = some (2, .aload_n 0, []) by decide +kernel) rfl (fun _ _ _ => rfl) ?_
  refine R_getR (pc := 45) (a := t) (b := (t + 2)) (show z_pt 22 45 = some (2, .getfield 15, [2, 4, 1060]) by decide +kernel) (zTr_all ht).2.2.2.2.2.1 ?_
  refine R_at (pc := 48) ?_
  refine R_const (pc := 48) (pc' := 49) (v := 0) (show z_ptc 22 48 = some (49, 0) by decide +kernel) ?_
  refine R_const (pc := 49) (pc' := 51) (v := 10) (show z_ptc 22 49 = some (51, 10) by decide +kernel) ?_
  refine R_cpyK (t0 := 0) (t1 := 0) (pc := 51) (b := (u + 2)) (a := (t + 2)) (n0 := 10) (n1 := 10) (sn := 0) (dn := 0) (nn := 10) (show z_pt 22 51 = some (2, .invokestatic 40, [7, 0, 5, 2084, 2086, 2085, 1018]) by decide +kernel) rfl (by omega) (zTr_all hu).2.2.2.2.2.2.2.2.2.2.2.1 (zTr_all ht).2.2.2.2.2.2.2.2.2.2.2.1 rfl (by decide) ?_
  refine R_at (pc := 54) ?_
  refine R_pure (pc := 54) (pc' := 55) (st' := [.ref u]) (show z_pt 22 54 = some (2, .aload_n 1, []) by decide +kernel) rfl (fun _ _ _ => rfl) ?_
  refine R_getR (pc := 55) (a := u) (b := (u + 3)) (show z_pt 22 55 = some (2, .getfield 18, [2, 5, 1065]) by decide +kernel) (zTr_all hu).2.2.2.2.2.2.1 ?_
  refine R_at (pc := 58) ?_
  refine R_const (pc := 58) (pc' := 59) (v := 0) (show z_ptc 22 58 = some (59, 0) by decide +kernel) ?_
  refine R_pure (pc := 59) (pc' := 60) (st' := [.ref t, .int 0, .ref (u + 3)]) (show z_pt 22 59 = some (2, .aload_n 0, []) by decide +kernel) rfl (fun _ _ _ => rfl) ?_
  refine R_getR (pc := 60) (a := t) (b := (t + 3)) (show z_pt 22 60 = some (2, .getfield 18, [2, 5, 1065]) by decide +kernel) (zTr_all ht).2.2.2.2.2.2.1 ?_
  refine R_at (pc := 63) ?_
  refine R_const (pc := 63) (pc' := 64) (v := 0) (show z_ptc 22 63 = some (64, 0) by decide +kernel) ?_
  refine R_const (pc := 64) (pc' := 66) (v := 9) (show z_ptc 22 64 = some (66, 9) by decide +kernel) ?_
  refine R_cpyK (t0 := 0) (t1 := 0) (pc := 66) (b := (u + 3)) (a := (t + 3)) (n0 := 9) (n1 := 9) (sn := 0) (dn := 0) (nn := 9) (show z_pt 22 66 = some (2, .invokestatic 40, [7, 0, 5, 2084, 2086, 2085, 1018]) by decide +kernel) rfl (by omega) (zTr_all hu).2.2.2.2.2.2.2.2.2.2.2.2.1 (zTr_all ht).2.2.2.2.2.2.2.2.2.2.2.2.1 rfl (by decide) ?_
  refine R_at (pc := 69) ?_
  refine R_pure (pc := 69) (pc' := 70) (st' := [.ref u]) (show z_pt 22 69 = some (2, .aload_n 1, []) by decide +kernel) rfl (fun _ _ _ => rfl) ?_
  refine R_getR (pc := 70) (a := u) (b := (u + 4)) (show z_pt 22 70 = some (2, .getfield 21, [2, 6, 1067]) by decide +kernel) (zTr_all hu).2.2.2.2.2.2.2.1 ?_
  refine R_at (pc := 73) ?_
  refine R_const (pc := 73) (pc' := 74) (v := 0) (show z_ptc 22 73 = some (74, 0) by decide +kernel) ?_
  refine R_pure (pc := 74) (pc' := 75) (st' := [.ref t, .int 0, .ref (u + 4)]) (show z_pt 22 74 = some (2, .aload_n 0, []) by decide +kernel) rfl (fun _ _ _ => rfl) ?_
  refine R_getR (pc := 75) (a := t) (b := (t + 4)) (show z_pt 22 75 = some (2, .getfield 21, [2, 6, 1067]) by decide +kernel) (zTr_all ht).2.2.2.2.2.2.2.1 ?_
  refine R_at (pc := 78) ?_
  refine R_const (pc := 78) (pc' := 79) (v := 0) (show z_ptc 22 78 = some (79, 0) by decide +kernel) ?_
  refine R_const (pc := 79) (pc' := 81) (v := 9) (show z_ptc 22 79 = some (81, 9) by decide +kernel) ?_
  refine R_cpyK (t0 := 0) (t1 := 0) (pc := 81) (b := (u + 4)) (a := (t + 4)) (n0 := 9) (n1 := 9) (sn := 0) (dn := 0) (nn := 9) (show z_pt 22 81 = some (2, .invokestatic 40, [7, 0, 5, 2084, 2086, 2085, 1018]) by decide +kernel) rfl (by omega) (zTr_all hu).2.2.2.2.2.2.2.2.2.2.2.2.2.1 (zTr_all ht).2.2.2.2.2.2.2.2.2.2.2.2.2.1 rfl (by decide) ?_
  refine R_at (pc := 84) ?_
  refine R_pure (pc := 84) (pc' := 85) (st' := [.ref u]) (show z_pt 22 84 = some (2, .aload_n 1, []) by decide +kernel) rfl (fun _ _ _ => rfl) ?_
  refine R_getR (pc := 85) (a := u) (b := (u + 5)) (show z_pt 22 85 = some (2, .getfield 24, [2, 7, 1069]) by decide +kernel) (zTr_all hu).2.2.2.2.2.2.2.2.1 ?_
  refine R_at (pc := 88) ?_
  refine R_const (pc := 88) (pc' := 89) (v := 0) (show z_ptc 22 88 = some (89, 0) by decide +kernel) ?_
  refine R_pure (pc := 89) (pc' := 90) (st' := [.ref t, .int 0, .ref (u + 5)]) (show z_pt 22 89 = some (2, .aload_n 0, []) by decide +kernel) rfl (fun _ _ _ => rfl) ?_
  refine R_getR (pc := 90) (a := t) (b := (t + 5)) (show z_pt 22 90 = some (2, .getfield 24, [2, 7, 1069]) by decide +kernel) (zTr_all ht).2.2.2.2.2.2.2.2.1 ?_
  refine R_at (pc := 93) ?_
  refine R_const (pc := 93) (pc' := 94) (v := 0) (show z_ptc 22 93 = some (94, 0) by decide +kernel) ?_
  refine R_const (pc := 94) (pc' := 96) (v := 9) (show z_ptc 22 94 = some (96, 9) by decide +kernel) ?_
  refine R_cpyK (t0 := 0) (t1 := 0) (pc := 96) (b := (u + 5)) (a := (t + 5)) (n0 := 9) (n1 := 9) (sn := 0) (dn := 0) (nn := 9) (show z_pt 22 96 = some (2, .invokestatic 40, [7, 0, 5, 2084, 2086, 2085, 1018]) by decide +kernel) rfl (by omega) (zTr_all hu).2.2.2.2.2.2.2.2.2.2.2.2.2.2.1 (zTr_all ht).2.2.2.2.2.2.2.2.2.2.2.2.2.2.1 rfl (by decide) ?_
  refine R_at (pc := 99) ?_
  refine R_pure (pc := 99) (pc' := 100) (st' := [.ref u]) (show z_pt 22 99 = some (2, .aload_n 1, []) by decide +kernel) rfl (fun _ _ _ => rfl) ?_
  refine R_getR (pc := 100) (a := u) (b := (u + 6)) (show z_pt 22 100 = some (2, .getfield 27, [2, 8, 1072]) by decide +kernel) (zTr_all hu).2.2.2.2.2.2.2.2.2.1 ?_
  refine R_at (pc := 103) ?_
  refine R_const (pc := 103) (pc' := 104) (v := 0) (show z_ptc 22 103 = some (104, 0) by decide +kernel) ?_
  refine R_pure (pc := 104) (pc' := 105) (st' := [.ref t, .int 0, .ref (u + 6)]) (show z_pt 22 104 = some (2, .aload_n 0, []) by decide +kernel) rfl (fun _ _ _ => rfl) ?_
  refine R_getR (pc := 105) (a := t) (b := (t + 6)) (show z_pt 22 105 = some (2, .getfield 27, [2, 8, 1072]) by decide +kernel) (zTr_all ht).2.2.2.2.2.2.2.2.2.1 ?_
  refine R_at (pc := 108) ?_
  refine R_const (pc := 108) (pc' := 109) (v := 0) (show z_ptc 22 108 = some (109, 0) by decide +kernel) ?_
  refine R_const (pc := 109) (pc' := 111) (v := 9) (show z_ptc 22 109 = some (111, 9) by decide +kernel) ?_
  refine R_cpyK (t0 := 0) (t1 := 0) (pc := 111) (b := (u + 6)) (a := (t + 6)) (n0 := 9) (n1 := 9) (sn := 0) (dn := 0) (nn := 9) (show z_pt 22 111 = some (2, .invokestatic 40, [7, 0, 5, 2084, 2086, 2085, 1018]) by decide +kernel) rfl (by omega) (zTr_all hu).2.2.2.2.2.2.2.2.2.2.2.2.2.2.2 (zTr_all ht).2.2.2.2.2.2.2.2.2.2.2.2.2.2.2 rfl (by decide) ?_
  refine R_at (pc := 114) ?_
  cases h
  exact R_retV (show z_pt 22 114 = some (2, .return_, []) by decide +kernel) (by decide +kernel)
def pT_hasGear (t : Nat) (μ : z_Mem) (i1 : Int32) : Option Int32 := if i1 < 0 then some 0 else if (μ t 0) ≤ i1 then some 0 else some 1
theorem pT_hasGear_run {t : Nat} {μ : z_Mem} {i1 : Int32} (ht : zTr t = true) {r : Int32} (h : pT_hasGear t μ i1 = some r) : Rn 0 23 0 [(0, .ref t), (1, .int i1)] [] μ (.inl (some (.int r))) μ := by
  unfold pT_hasGear at h
  refine R_pure (pc := 0) (pc' := 1) (st' := [.int i1]) (show z_pt 23 0 = some (2, .iload_n 1, []) by decide +kernel) rfl (fun _ _ _ => rfl) ?_
  refine R_iflt (pc := 1) (t := 16) (show z_pt 23 1 = some (2, .ifCond .lt 15, []) by decide +kernel) (by decide) (fun c1 => ?_) (fun c1 => ?_)
  · rw [if_pos c1] at h
    refine R_const (pc := 16) (pc' := 17) (v := 0) (show z_ptc 23 16 = some (17, 0) by decide +kernel) ?_
    cases h
    exact R_retZ (show z_pt 23 17 = some (2, .ireturn, []) by decide +kernel) (t := .boolean) (by decide +kernel) (by decide)
  · rw [if_neg c1] at h
    refine R_pure (pc := 4) (pc' := 5) (st' := [.int i1]) (show z_pt 23 4 = some (2, .iload_n 1, []) by decide +kernel) rfl (fun _ _ _ => rfl) ?_
    refine R_pure (pc := 5) (pc' := 6) (st' := [.ref t, .int i1]) (show z_pt 23 5 = some (2, .aload_n 0, []) by decide +kernel) rfl (fun _ _ _ => rfl) ?_
    refine R_getI (pc := 6) (a := t) (show z_pt 23 6 = some (2, .getfield 30, [2, 0, 1047]) by decide +kernel) (zTr_all ht).2.1 ?_
    refine R_at (pc := 9) ?_
    refine R_icmge (pc := 9) (t := 16) (show z_pt 23 9 = some (2, .if_icmp .ge 7, []) by decide +kernel) (by decide) (fun c2 => ?_) (fun c2 => ?_)
    · rw [if_pos c2] at h
      refine R_const (pc := 16) (pc' := 17) (v := 0) (show z_ptc 23 16 = some (17, 0) by decide +kernel) ?_
      cases h
      exact R_retZ (show z_pt 23 17 = some (2, .ireturn, []) by decide +kernel) (t := .boolean) (by decide +kernel) (by decide)
    · rw [if_neg c2] at h
      refine R_const (pc := 12) (pc' := 13) (v := 1) (show z_ptc 23 12 = some (13, 1) by decide +kernel) ?_
      refine R_pure (pc := 13) (pc' := 17) (show z_pt 23 13 = some (2, .goto 4, []) by decide +kernel) rfl (fun _ _ _ => rfl) ?_
      cases h
      exact R_retZ (show z_pt 23 17 = some (2, .ireturn, []) by decide +kernel) (t := .boolean) (by decide +kernel) (by decide)
def pT_addGearOf  (μ : z_Mem) (i1 : Int32) : Option (Int32 × z_Mem) := if 10 ≤ (μ 2 0) then some ((μ 2 0), μ) else if z_inb (μ 2 0) 10 = true then if z_inb (μ 2 0) 10 = true then some ((μ 2 0), (z_u (z_u (z_u μ 3 (μ 2 0).toNatClampNeg i1) 4 (μ 2 0).toNatClampNeg 0) 2 0 (((z_u (z_u μ 3 (μ 2 0).toNatClampNeg i1) 4 (μ 2 0).toNatClampNeg 0) 2 0) + 1))) else none else none
theorem pT_addGearOf_run  {μ : z_Mem} {i1 : Int32}  {r : (Int32 × z_Mem)} (h : pT_addGearOf μ i1 = some r) : Rn 0 24 0 [(0, .ref 2), (1, .int i1)] [] μ (.inl (some (.int r.1))) r.2 := by
  unfold pT_addGearOf at h
  refine R_pure (pc := 0) (pc' := 1) (st' := [.ref 2]) (show z_pt 24 0 = some (3, .aload_n 0, []) by decide +kernel) rfl (fun _ _ _ => rfl) ?_
  refine R_getI (pc := 1) (a := 2) (show z_pt 24 1 = some (3, .getfield 30, [2, 0, 1047]) by decide +kernel) (by decide +kernel) ?_
  refine R_at (pc := 4) ?_
  refine R_pure (pc := 4) (pc' := 5) (ls' := [(0, .ref 2), (1, .int i1), (2, .int (μ 2 0))]) (st' := []) (show z_pt 24 4 = some (3, .istore_n 2, []) by decide +kernel) rfl (fun _ _ _ => rfl) ?_
  refine R_pure (pc := 5) (pc' := 6) (st' := [.int (μ 2 0)]) (show z_pt 24 5 = some (3, .iload_n 2, []) by decide +kernel) rfl (fun _ _ _ => rfl) ?_
  refine R_const (pc := 6) (pc' := 8) (v := 10) (show z_ptc 24 6 = some (8, 10) by decide +kernel) ?_
  refine R_icmge (pc := 8) (t := 35) (show z_pt 24 8 = some (3, .if_icmp .ge 27, []) by decide +kernel) (by decide) (fun c1 => ?_) (fun c1 => ?_)
  · rw [if_pos c1] at h
    refine R_pure (pc := 35) (pc' := 36) (st' := [.int (μ 2 0)]) (show z_pt 24 35 = some (3, .iload_n 2, []) by decide +kernel) rfl (fun _ _ _ => rfl) ?_
    cases h
    exact R_retI (show z_pt 24 36 = some (3, .ireturn, []) by decide +kernel) (by decide +kernel)
  · rw [if_neg c1] at h
    refine R_pure (pc := 11) (pc' := 12) (st' := [.ref 2]) (show z_pt 24 11 = some (3, .aload_n 0, []) by decide +kernel) rfl (fun _ _ _ => rfl) ?_
    refine R_getR (pc := 12) (a := 2) (b := 3) (show z_pt 24 12 = some (3, .getfield 9, [2, 3, 1056]) by decide +kernel) (by decide +kernel) ?_
    refine R_at (pc := 15) ?_
    refine R_pure (pc := 15) (pc' := 16) (st' := [.int (μ 2 0), .ref 3]) (show z_pt 24 15 = some (3, .iload_n 2, []) by decide +kernel) rfl (fun _ _ _ => rfl) ?_
    refine R_pure (pc := 16) (pc' := 17) (st' := [.int i1, .int (μ 2 0), .ref 3]) (show z_pt 24 16 = some (3, .iload_n 1, []) by decide +kernel) rfl (fun _ _ _ => rfl) ?_
    obtain ⟨g2, h⟩ := z_ig h
    refine R_iast (pc := 17) (a := 3) (n := 10) (show z_pt 24 17 = some (3, .iastore, []) by decide +kernel) (show z_ar 3 0 10 = true by decide +kernel) g2 ?_
    refine R_at (pc := 18) ?_
    refine R_pure (pc := 18) (pc' := 19) (st' := [.ref 2]) (show z_pt 24 18 = some (3, .aload_n 0, []) by decide +kernel) rfl (fun _ _ _ => rfl) ?_
    refine R_getR (pc := 19) (a := 2) (b := 4) (show z_pt 24 19 = some (3, .getfield 15, [2, 4, 1060]) by decide +kernel) (by decide +kernel) ?_
    refine R_at (pc := 22) ?_
    refine R_pure (pc := 22) (pc' := 23) (st' := [.int (μ 2 0), .ref 4]) (show z_pt 24 22 = some (3, .iload_n 2, []) by decide +kernel) rfl (fun _ _ _ => rfl) ?_
    refine R_const (pc := 23) (pc' := 24) (v := 0) (show z_ptc 24 23 = some (24, 0) by decide +kernel) ?_
    obtain ⟨g3, h⟩ := z_ig h
    refine R_iast (pc := 24) (a := 4) (n := 10) (show z_pt 24 24 = some (3, .iastore, []) by decide +kernel) (show z_ar 4 0 10 = true by decide +kernel) g3 ?_
    refine R_at (pc := 25) ?_
    refine R_pure (pc := 25) (pc' := 26) (st' := [.ref 2]) (show z_pt 24 25 = some (3, .aload_n 0, []) by decide +kernel) rfl (fun _ _ _ => rfl) ?_
    refine R_pure (pc := 26) (pc' := 27) (st' := [.ref 2, .ref 2]) (show z_pt 24 26 = some (3, .dup, []) by decide +kernel) rfl (fun _ _ _ => rfl) ?_
    refine R_getI (pc := 27) (a := 2) (show z_pt 24 27 = some (3, .getfield 30, [2, 0, 1047]) by decide +kernel) (by decide +kernel) ?_
    refine R_at (pc := 30) ?_
    refine R_const (pc := 30) (pc' := 31) (v := 1) (show z_ptc 24 30 = some (31, 1) by decide +kernel) ?_
    refine R_pure (pc := 31) (pc' := 32) (st' := [.int (((z_u (z_u μ 3 (μ 2 0).toNatClampNeg i1) 4 (μ 2 0).toNatClampNeg 0) 2 0) + 1), .ref 2]) (show z_pt 24 31 = some (3, .iadd, []) by decide +kernel) rfl (fun _ _ _ => rfl) ?_
    refine R_putI (pc := 32) (a := 2) (show z_pt 24 32 = some (3, .putfield 30, [2, 0, 1047]) by decide +kernel) (by decide +kernel) ⟨rfl, rfl⟩ ?_
    refine R_at (pc := 35) ?_
    refine R_pure (pc := 35) (pc' := 36) (st' := [.int (μ 2 0)]) (show z_pt 24 35 = some (3, .iload_n 2, []) by decide +kernel) rfl (fun _ _ _ => rfl) ?_
    cases h
    exact R_retI (show z_pt 24 36 = some (3, .ireturn, []) by decide +kernel) (by decide +kernel)
def pT_join  (μ : z_Mem) (i1 : Int32) (i2 : Int32) (i3 : Int32) : Option (Int32 × z_Mem) := if 9 ≤ (μ 2 1) then some ((μ 2 1), μ) else if z_inb (μ 2 1) 9 = true then if z_inb ((z_u μ 5 (μ 2 1).toNatClampNeg i1) 2 1) 9 = true then if z_inb ((z_u (z_u μ 5 (μ 2 1).toNatClampNeg i1) 6 ((z_u μ 5 (μ 2 1).toNatClampNeg i1) 2 1).toNatClampNeg i2) 2 1) 9 = true then if z_inb ((z_u (z_u (z_u μ 5 (μ 2 1).toNatClampNeg i1) 6 ((z_u μ 5 (μ 2 1).toNatClampNeg i1) 2 1).toNatClampNeg i2) 7 ((z_u (z_u μ 5 (μ 2 1).toNatClampNeg i1) 6 ((z_u μ 5 (μ 2 1).toNatClampNeg i1) 2 1).toNatClampNeg i2) 2 1).toNatClampNeg i3) 2 1) 9 = true then some (((z_u (z_u (z_u (z_u (z_u μ 5 (μ 2 1).toNatClampNeg i1) 6 ((z_u μ 5 (μ 2 1).toNatClampNeg i1) 2 1).toNatClampNeg i2) 7 ((z_u (z_u μ 5 (μ 2 1).toNatClampNeg i1) 6 ((z_u μ 5 (μ 2 1).toNatClampNeg i1) 2 1).toNatClampNeg i2) 2 1).toNatClampNeg i3) 8 ((z_u (z_u (z_u μ 5 (μ 2 1).toNatClampNeg i1) 6 ((z_u μ 5 (μ 2 1).toNatClampNeg i1) 2 1).toNatClampNeg i2) 7 ((z_u (z_u μ 5 (μ 2 1).toNatClampNeg i1) 6 ((z_u μ 5 (μ 2 1).toNatClampNeg i1) 2 1).toNatClampNeg i2) 2 1).toNatClampNeg i3) 2 1).toNatClampNeg 0) 2 1 (((z_u (z_u (z_u (z_u μ 5 (μ 2 1).toNatClampNeg i1) 6 ((z_u μ 5 (μ 2 1).toNatClampNeg i1) 2 1).toNatClampNeg i2) 7 ((z_u (z_u μ 5 (μ 2 1).toNatClampNeg i1) 6 ((z_u μ 5 (μ 2 1).toNatClampNeg i1) 2 1).toNatClampNeg i2) 2 1).toNatClampNeg i3) 8 ((z_u (z_u (z_u μ 5 (μ 2 1).toNatClampNeg i1) 6 ((z_u μ 5 (μ 2 1).toNatClampNeg i1) 2 1).toNatClampNeg i2) 7 ((z_u (z_u μ 5 (μ 2 1).toNatClampNeg i1) 6 ((z_u μ 5 (μ 2 1).toNatClampNeg i1) 2 1).toNatClampNeg i2) 2 1).toNatClampNeg i3) 2 1).toNatClampNeg 0) 2 1) + 1)) 2 1), (z_u (z_u (z_u (z_u (z_u μ 5 (μ 2 1).toNatClampNeg i1) 6 ((z_u μ 5 (μ 2 1).toNatClampNeg i1) 2 1).toNatClampNeg i2) 7 ((z_u (z_u μ 5 (μ 2 1).toNatClampNeg i1) 6 ((z_u μ 5 (μ 2 1).toNatClampNeg i1) 2 1).toNatClampNeg i2) 2 1).toNatClampNeg i3) 8 ((z_u (z_u (z_u μ 5 (μ 2 1).toNatClampNeg i1) 6 ((z_u μ 5 (μ 2 1).toNatClampNeg i1) 2 1).toNatClampNeg i2) 7 ((z_u (z_u μ 5 (μ 2 1).toNatClampNeg i1) 6 ((z_u μ 5 (μ 2 1).toNatClampNeg i1) 2 1).toNatClampNeg i2) 2 1).toNatClampNeg i3) 2 1).toNatClampNeg 0) 2 1 (((z_u (z_u (z_u (z_u μ 5 (μ 2 1).toNatClampNeg i1) 6 ((z_u μ 5 (μ 2 1).toNatClampNeg i1) 2 1).toNatClampNeg i2) 7 ((z_u (z_u μ 5 (μ 2 1).toNatClampNeg i1) 6 ((z_u μ 5 (μ 2 1).toNatClampNeg i1) 2 1).toNatClampNeg i2) 2 1).toNatClampNeg i3) 8 ((z_u (z_u (z_u μ 5 (μ 2 1).toNatClampNeg i1) 6 ((z_u μ 5 (μ 2 1).toNatClampNeg i1) 2 1).toNatClampNeg i2) 7 ((z_u (z_u μ 5 (μ 2 1).toNatClampNeg i1) 6 ((z_u μ 5 (μ 2 1).toNatClampNeg i1) 2 1).toNatClampNeg i2) 2 1).toNatClampNeg i3) 2 1).toNatClampNeg 0) 2 1) + 1))) else none else none else none else none
theorem pT_join_run  {μ : z_Mem} {i1 : Int32} {i2 : Int32} {i3 : Int32}  {r : (Int32 × z_Mem)} (h : pT_join μ i1 i2 i3 = some r) : Rn 0 25 0 [(0, .ref 2), (1, .int i1), (2, .int i2), (3, .int i3)] [] μ (.inl (some (.int r.1))) r.2 := by
  unfold pT_join at h
  refine R_pure (pc := 0) (pc' := 1) (st' := [.ref 2]) (show z_pt 25 0 = some (4, .aload_n 0, []) by decide +kernel) rfl (fun _ _ _ => rfl) ?_
  refine R_getI (pc := 1) (a := 2) (show z_pt 25 1 = some (4, .getfield 34, [2, 1, 1051]) by decide +kernel) (by decide +kernel) ?_
  refine R_at (pc := 4) ?_
  refine R_const (pc := 4) (pc' := 6) (v := 9) (show z_ptc 25 4 = some (6, 9) by decide +kernel) ?_
  refine R_icmge (pc := 6) (t := 59) (show z_pt 25 6 = some (4, .if_icmp .ge 53, []) by decide +kernel) (by decide) (fun c1 => ?_) (fun c1 => ?_)
  · rw [if_pos c1] at h
    refine R_pure (pc := 59) (pc' := 60) (st' := [.ref 2]) (show z_pt 25 59 = some (4, .aload_n 0, []) by decide +kernel) rfl (fun _ _ _ => rfl) ?_
    refine R_getI (pc := 60) (a := 2) (show z_pt 25 60 = some (4, .getfield 34, [2, 1, 1051]) by decide +kernel) (by decide +kernel) ?_
    refine R_at (pc := 63) ?_
    cases h
    exact R_retI (show z_pt 25 63 = some (4, .ireturn, []) by decide +kernel) (by decide +kernel)
  · rw [if_neg c1] at h
    refine R_pure (pc := 9) (pc' := 10) (st' := [.ref 2]) (show z_pt 25 9 = some (4, .aload_n 0, []) by decide +kernel) rfl (fun _ _ _ => rfl) ?_
    refine R_getR (pc := 10) (a := 2) (b := 5) (show z_pt 25 10 = some (4, .getfield 18, [2, 5, 1065]) by decide +kernel) (by decide +kernel) ?_
    refine R_at (pc := 13) ?_
    refine R_pure (pc := 13) (pc' := 14) (st' := [.ref 2, .ref 5]) (show z_pt 25 13 = some (4, .aload_n 0, []) by decide +kernel) rfl (fun _ _ _ => rfl) ?_
    refine R_getI (pc := 14) (a := 2) (show z_pt 25 14 = some (4, .getfield 34, [2, 1, 1051]) by decide +kernel) (by decide +kernel) ?_
    refine R_at (pc := 17) ?_
    refine R_pure (pc := 17) (pc' := 18) (st' := [.int i1, .int (μ 2 1), .ref 5]) (show z_pt 25 17 = some (4, .iload_n 1, []) by decide +kernel) rfl (fun _ _ _ => rfl) ?_
    obtain ⟨g2, h⟩ := z_ig h
    refine R_iast (pc := 18) (a := 5) (n := 9) (show z_pt 25 18 = some (4, .iastore, []) by decide +kernel) (show z_ar 5 0 9 = true by decide +kernel) g2 ?_
    refine R_at (pc := 19) ?_
    refine R_pure (pc := 19) (pc' := 20) (st' := [.ref 2]) (show z_pt 25 19 = some (4, .aload_n 0, []) by decide +kernel) rfl (fun _ _ _ => rfl) ?_
    refine R_getR (pc := 20) (a := 2) (b := 6) (show z_pt 25 20 = some (4, .getfield 21, [2, 6, 1067]) by decide +kernel) (by decide +kernel) ?_
    refine R_at (pc := 23) ?_
    refine R_pure (pc := 23) (pc' := 24) (st' := [.ref 2, .ref 6]) (show z_pt 25 23 = some (4, .aload_n 0, []) by decide +kernel) rfl (fun _ _ _ => rfl) ?_
    refine R_getI (pc := 24) (a := 2) (show z_pt 25 24 = some (4, .getfield 34, [2, 1, 1051]) by decide +kernel) (by decide +kernel) ?_
    refine R_at (pc := 27) ?_
    refine R_pure (pc := 27) (pc' := 28) (st' := [.int i2, .int ((z_u μ 5 (μ 2 1).toNatClampNeg i1) 2 1), .ref 6]) (show z_pt 25 27 = some (4, .iload_n 2, []) by decide +kernel) rfl (fun _ _ _ => rfl) ?_
    obtain ⟨g3, h⟩ := z_ig h
    refine R_iast (pc := 28) (a := 6) (n := 9) (show z_pt 25 28 = some (4, .iastore, []) by decide +kernel) (show z_ar 6 0 9 = true by decide +kernel) g3 ?_
    refine R_at (pc := 29) ?_
    refine R_pure (pc := 29) (pc' := 30) (st' := [.ref 2]) (show z_pt 25 29 = some (4, .aload_n 0, []) by decide +kernel) rfl (fun _ _ _ => rfl) ?_
    refine R_getR (pc := 30) (a := 2) (b := 7) (show z_pt 25 30 = some (4, .getfield 24, [2, 7, 1069]) by decide +kernel) (by decide +kernel) ?_
    refine R_at (pc := 33) ?_
    refine R_pure (pc := 33) (pc' := 34) (st' := [.ref 2, .ref 7]) (show z_pt 25 33 = some (4, .aload_n 0, []) by decide +kernel) rfl (fun _ _ _ => rfl) ?_
    refine R_getI (pc := 34) (a := 2) (show z_pt 25 34 = some (4, .getfield 34, [2, 1, 1051]) by decide +kernel) (by decide +kernel) ?_
    refine R_at (pc := 37) ?_
    refine R_pure (pc := 37) (pc' := 38) (st' := [.int i3, .int ((z_u (z_u μ 5 (μ 2 1).toNatClampNeg i1) 6 ((z_u μ 5 (μ 2 1).toNatClampNeg i1) 2 1).toNatClampNeg i2) 2 1), .ref 7]) (show z_pt 25 37 = some (4, .iload_n 3, []) by decide +kernel) rfl (fun _ _ _ => rfl) ?_
    obtain ⟨g4, h⟩ := z_ig h
    refine R_iast (pc := 38) (a := 7) (n := 9) (show z_pt 25 38 = some (4, .iastore, []) by decide +kernel) (show z_ar 7 0 9 = true by decide +kernel) g4 ?_
    refine R_at (pc := 39) ?_
    refine R_pure (pc := 39) (pc' := 40) (st' := [.ref 2]) (show z_pt 25 39 = some (4, .aload_n 0, []) by decide +kernel) rfl (fun _ _ _ => rfl) ?_
    refine R_getR (pc := 40) (a := 2) (b := 8) (show z_pt 25 40 = some (4, .getfield 27, [2, 8, 1072]) by decide +kernel) (by decide +kernel) ?_
    refine R_at (pc := 43) ?_
    refine R_pure (pc := 43) (pc' := 44) (st' := [.ref 2, .ref 8]) (show z_pt 25 43 = some (4, .aload_n 0, []) by decide +kernel) rfl (fun _ _ _ => rfl) ?_
    refine R_getI (pc := 44) (a := 2) (show z_pt 25 44 = some (4, .getfield 34, [2, 1, 1051]) by decide +kernel) (by decide +kernel) ?_
    refine R_at (pc := 47) ?_
    refine R_const (pc := 47) (pc' := 48) (v := 0) (show z_ptc 25 47 = some (48, 0) by decide +kernel) ?_
    obtain ⟨g5, h⟩ := z_ig h
    refine R_iast (pc := 48) (a := 8) (n := 9) (show z_pt 25 48 = some (4, .iastore, []) by decide +kernel) (show z_ar 8 0 9 = true by decide +kernel) g5 ?_
    refine R_at (pc := 49) ?_
    refine R_pure (pc := 49) (pc' := 50) (st' := [.ref 2]) (show z_pt 25 49 = some (4, .aload_n 0, []) by decide +kernel) rfl (fun _ _ _ => rfl) ?_
    refine R_pure (pc := 50) (pc' := 51) (st' := [.ref 2, .ref 2]) (show z_pt 25 50 = some (4, .dup, []) by decide +kernel) rfl (fun _ _ _ => rfl) ?_
    refine R_getI (pc := 51) (a := 2) (show z_pt 25 51 = some (4, .getfield 34, [2, 1, 1051]) by decide +kernel) (by decide +kernel) ?_
    refine R_at (pc := 54) ?_
    refine R_const (pc := 54) (pc' := 55) (v := 1) (show z_ptc 25 54 = some (55, 1) by decide +kernel) ?_
    refine R_pure (pc := 55) (pc' := 56) (st' := [.int (((z_u (z_u (z_u (z_u μ 5 (μ 2 1).toNatClampNeg i1) 6 ((z_u μ 5 (μ 2 1).toNatClampNeg i1) 2 1).toNatClampNeg i2) 7 ((z_u (z_u μ 5 (μ 2 1).toNatClampNeg i1) 6 ((z_u μ 5 (μ 2 1).toNatClampNeg i1) 2 1).toNatClampNeg i2) 2 1).toNatClampNeg i3) 8 ((z_u (z_u (z_u μ 5 (μ 2 1).toNatClampNeg i1) 6 ((z_u μ 5 (μ 2 1).toNatClampNeg i1) 2 1).toNatClampNeg i2) 7 ((z_u (z_u μ 5 (μ 2 1).toNatClampNeg i1) 6 ((z_u μ 5 (μ 2 1).toNatClampNeg i1) 2 1).toNatClampNeg i2) 2 1).toNatClampNeg i3) 2 1).toNatClampNeg 0) 2 1) + 1), .ref 2]) (show z_pt 25 55 = some (4, .iadd, []) by decide +kernel) rfl (fun _ _ _ => rfl) ?_
    refine R_putI (pc := 56) (a := 2) (show z_pt 25 56 = some (4, .putfield 34, [2, 1, 1051]) by decide +kernel) (by decide +kernel) ⟨rfl, rfl⟩ ?_
    refine R_at (pc := 59) ?_
    refine R_pure (pc := 59) (pc' := 60) (st' := [.ref 2]) (show z_pt 25 59 = some (4, .aload_n 0, []) by decide +kernel) rfl (fun _ _ _ => rfl) ?_
    refine R_getI (pc := 60) (a := 2) (show z_pt 25 60 = some (4, .getfield 34, [2, 1, 1051]) by decide +kernel) (by decide +kernel) ?_
    refine R_at (pc := 63) ?_
    cases h
    exact R_retI (show z_pt 25 63 = some (4, .ireturn, []) by decide +kernel) (by decide +kernel)
def pT_separate_L19_B (R : z_Mem → Int32 → Option (Int32 × z_Mem))  (f1 : Int32) (f2 : Int32) (K : z_Mem → Int32 → Option (Int32 × z_Mem)) (μ : z_Mem) (a3 : Int32) : Option (Int32 × z_Mem) := if (μ 2 1) ≤ a3 then K μ a3 else (z_rd μ 5 9 (a3 + 1)).bind fun v4 => if z_inb a3 9 = true then (z_rd (z_u μ 5 a3.toNatClampNeg v4) 6 9 (a3 + 1)).bind fun v7 => if z_inb a3 9 = true then (z_rd (z_u (z_u μ 5 a3.toNatClampNeg v4) 6 a3.toNatClampNeg v7) 7 9 (a3 + 1)).bind fun v10 => if z_inb a3 9 = true then (z_rd (z_u (z_u (z_u μ 5 a3.toNatClampNeg v4) 6 a3.toNatClampNeg v7) 7 a3.toNatClampNeg v10) 8 9 (a3 + 1)).bind fun v13 => if z_inb a3 9 = true then R (z_u (z_u (z_u (z_u μ 5 a3.toNatClampNeg v4) 6 a3.toNatClampNeg v7) 7 a3.toNatClampNeg v10) 8 a3.toNatClampNeg v13) (a3 + 1) else none else none else none else none
def pT_separate_L19 : Nat → Int32 → Int32 → (z_Mem → Int32 → Option (Int32 × z_Mem)) → z_Mem → Int32 → Option (Int32 × z_Mem)
  | 0 => fun _ _ _ _ _ => none
  | n + 1 => fun f1 f2 K μ a3 => pT_separate_L19_B (pT_separate_L19 n f1 f2 K) f1 f2 K μ a3
theorem pT_separate_L19_run  (f1 : Int32) (f2 : Int32) (K : z_Mem → Int32 → Option (Int32 × z_Mem))  (D : Nat) (hD : 0 ≤ D) (hK : ∀ (μ : z_Mem) (a3 : Int32) (r : (Int32 × z_Mem)), K μ a3 = some r → Rn D 26 89 [(0, .ref 2), (1, .int f1), (2, .int f2), (3, .int a3)] [] μ (.inl (some (.int r.1))) r.2) : ∀ (n : Nat) (μ : z_Mem) (a3 : Int32) (r : (Int32 × z_Mem)), pT_separate_L19 n f1 f2 K μ a3 = some r → Rn D 26 19 [(0, .ref 2), (1, .int f1), (2, .int f2), (3, .int a3)] [] μ (.inl (some (.int r.1))) r.2 := by
  intro n
  induction n with
  | zero => intro μ a3 r h; cases h
  | succ n ih =>
    intro μ a3 r h
    have h : pT_separate_L19_B (pT_separate_L19 n f1 f2 K) f1 f2 K μ a3 = some r := h
    unfold pT_separate_L19_B at h
    refine R_pure (pc := 19) (pc' := 20) (st' := [.int a3]) (show z_pt 26 19 = some (4, .iload_n 3, []) by decide +kernel) rfl (fun _ _ _ => rfl) ?_
    refine R_pure (pc := 20) (pc' := 21) (st' := [.ref 2, .int a3]) (show z_pt 26 20 = some (4, .aload_n 0, []) by decide +kernel) rfl (fun _ _ _ => rfl) ?_
    refine R_getI (pc := 21) (a := 2) (show z_pt 26 21 = some (4, .getfield 34, [2, 1, 1051]) by decide +kernel) (by decide +kernel) ?_
    refine R_at (pc := 24) ?_
    refine R_icmge (pc := 24) (t := 89) (show z_pt 26 24 = some (4, .if_icmp .ge 65, []) by decide +kernel) (by decide) (fun c3 => ?_) (fun c3 => ?_)
    · rw [if_pos c3] at h
      exact hK _ _  _ h
    · rw [if_neg c3] at h
      refine R_pure (pc := 27) (pc' := 28) (st' := [.ref 2]) (show z_pt 26 27 = some (4, .aload_n 0, []) by decide +kernel) rfl (fun _ _ _ => rfl) ?_
      refine R_getR (pc := 28) (a := 2) (b := 5) (show z_pt 26 28 = some (4, .getfield 18, [2, 5, 1065]) by decide +kernel) (by decide +kernel) ?_
      refine R_at (pc := 31) ?_
      refine R_pure (pc := 31) (pc' := 32) (st' := [.int a3, .ref 5]) (show z_pt 26 31 = some (4, .iload_n 3, []) by decide +kernel) rfl (fun _ _ _ => rfl) ?_
      refine R_pure (pc := 32) (pc' := 33) (st' := [.ref 2, .int a3, .ref 5]) (show z_pt 26 32 = some (4, .aload_n 0, []) by decide +kernel) rfl (fun _ _ _ => rfl) ?_
      refine R_getR (pc := 33) (a := 2) (b := 5) (show z_pt 26 33 = some (4, .getfield 18, [2, 5, 1065]) by decide +kernel) (by decide +kernel) ?_
      refine R_at (pc := 36) ?_
      refine R_pure (pc := 36) (pc' := 37) (st' := [.int a3, .ref 5, .int a3, .ref 5]) (show z_pt 26 36 = some (4, .iload_n 3, []) by decide +kernel) rfl (fun _ _ _ => rfl) ?_
      refine R_const (pc := 37) (pc' := 38) (v := 1) (show z_ptc 26 37 = some (38, 1) by decide +kernel) ?_
      refine R_pure (pc := 38) (pc' := 39) (st' := [.int (a3 + 1), .ref 5, .int a3, .ref 5]) (show z_pt 26 38 = some (4, .iadd, []) by decide +kernel) rfl (fun _ _ _ => rfl) ?_
      obtain ⟨v4, e5, h⟩ := z_bs h
      refine R_ialdR (pc := 39) (a := 5) (n := 9) (show z_pt 26 39 = some (4, .iaload, []) by decide +kernel) (show z_ar 5 0 9 = true by decide +kernel) e5 ?_
      refine R_at (pc := 40) ?_
      obtain ⟨g6, h⟩ := z_ig h
      refine R_iast (pc := 40) (a := 5) (n := 9) (show z_pt 26 40 = some (4, .iastore, []) by decide +kernel) (show z_ar 5 0 9 = true by decide +kernel) g6 ?_
      refine R_at (pc := 41) ?_
      refine R_pure (pc := 41) (pc' := 42) (st' := [.ref 2]) (show z_pt 26 41 = some (4, .aload_n 0, []) by decide +kernel) rfl (fun _ _ _ => rfl) ?_
      refine R_getR (pc := 42) (a := 2) (b := 6) (show z_pt 26 42 = some (4, .getfield 21, [2, 6, 1067]) by decide +kernel) (by decide +kernel) ?_
      refine R_at (pc := 45) ?_
      refine R_pure (pc := 45) (pc' := 46) (st' := [.int a3, .ref 6]) (show z_pt 26 45 = some (4, .iload_n 3, []) by decide +kernel) rfl (fun _ _ _ => rfl) ?_
      refine R_pure (pc := 46) (pc' := 47) (st' := [.ref 2, .int a3, .ref 6]) (show z_pt 26 46 = some (4, .aload_n 0, []) by decide +kernel) rfl (fun _ _ _ => rfl) ?_
      refine R_getR (pc := 47) (a := 2) (b := 6) (show z_pt 26 47 = some (4, .getfield 21, [2, 6, 1067]) by decide +kernel) (by decide +kernel) ?_
      refine R_at (pc := 50) ?_
      refine R_pure (pc := 50) (pc' := 51) (st' := [.int a3, .ref 6, .int a3, .ref 6]) (show z_pt 26 50 = some (4, .iload_n 3, []) by decide +kernel) rfl (fun _ _ _ => rfl) ?_
      refine R_const (pc := 51) (pc' := 52) (v := 1) (show z_ptc 26 51 = some (52, 1) by decide +kernel) ?_
      refine R_pure (pc := 52) (pc' := 53) (st' := [.int (a3 + 1), .ref 6, .int a3, .ref 6]) (show z_pt 26 52 = some (4, .iadd, []) by decide +kernel) rfl (fun _ _ _ => rfl) ?_
      obtain ⟨v7, e8, h⟩ := z_bs h
      refine R_ialdR (pc := 53) (a := 6) (n := 9) (show z_pt 26 53 = some (4, .iaload, []) by decide +kernel) (show z_ar 6 0 9 = true by decide +kernel) e8 ?_
      refine R_at (pc := 54) ?_
      obtain ⟨g9, h⟩ := z_ig h
      refine R_iast (pc := 54) (a := 6) (n := 9) (show z_pt 26 54 = some (4, .iastore, []) by decide +kernel) (show z_ar 6 0 9 = true by decide +kernel) g9 ?_
      refine R_at (pc := 55) ?_
      refine R_pure (pc := 55) (pc' := 56) (st' := [.ref 2]) (show z_pt 26 55 = some (4, .aload_n 0, []) by decide +kernel) rfl (fun _ _ _ => rfl) ?_
      refine R_getR (pc := 56) (a := 2) (b := 7) (show z_pt 26 56 = some (4, .getfield 24, [2, 7, 1069]) by decide +kernel) (by decide +kernel) ?_
      refine R_at (pc := 59) ?_
      refine R_pure (pc := 59) (pc' := 60) (st' := [.int a3, .ref 7]) (show z_pt 26 59 = some (4, .iload_n 3, []) by decide +kernel) rfl (fun _ _ _ => rfl) ?_
      refine R_pure (pc := 60) (pc' := 61) (st' := [.ref 2, .int a3, .ref 7]) (show z_pt 26 60 = some (4, .aload_n 0, []) by decide +kernel) rfl (fun _ _ _ => rfl) ?_
      refine R_getR (pc := 61) (a := 2) (b := 7) (show z_pt 26 61 = some (4, .getfield 24, [2, 7, 1069]) by decide +kernel) (by decide +kernel) ?_
      refine R_at (pc := 64) ?_
      refine R_pure (pc := 64) (pc' := 65) (st' := [.int a3, .ref 7, .int a3, .ref 7]) (show z_pt 26 64 = some (4, .iload_n 3, []) by decide +kernel) rfl (fun _ _ _ => rfl) ?_
      refine R_const (pc := 65) (pc' := 66) (v := 1) (show z_ptc 26 65 = some (66, 1) by decide +kernel) ?_
      refine R_pure (pc := 66) (pc' := 67) (st' := [.int (a3 + 1), .ref 7, .int a3, .ref 7]) (show z_pt 26 66 = some (4, .iadd, []) by decide +kernel) rfl (fun _ _ _ => rfl) ?_
      obtain ⟨v10, e11, h⟩ := z_bs h
      refine R_ialdR (pc := 67) (a := 7) (n := 9) (show z_pt 26 67 = some (4, .iaload, []) by decide +kernel) (show z_ar 7 0 9 = true by decide +kernel) e11 ?_
      refine R_at (pc := 68) ?_
      obtain ⟨g12, h⟩ := z_ig h
      refine R_iast (pc := 68) (a := 7) (n := 9) (show z_pt 26 68 = some (4, .iastore, []) by decide +kernel) (show z_ar 7 0 9 = true by decide +kernel) g12 ?_
      refine R_at (pc := 69) ?_
      refine R_pure (pc := 69) (pc' := 70) (st' := [.ref 2]) (show z_pt 26 69 = some (4, .aload_n 0, []) by decide +kernel) rfl (fun _ _ _ => rfl) ?_
      refine R_getR (pc := 70) (a := 2) (b := 8) (show z_pt 26 70 = some (4, .getfield 27, [2, 8, 1072]) by decide +kernel) (by decide +kernel) ?_
      refine R_at (pc := 73) ?_
      refine R_pure (pc := 73) (pc' := 74) (st' := [.int a3, .ref 8]) (show z_pt 26 73 = some (4, .iload_n 3, []) by decide +kernel) rfl (fun _ _ _ => rfl) ?_
      refine R_pure (pc := 74) (pc' := 75) (st' := [.ref 2, .int a3, .ref 8]) (show z_pt 26 74 = some (4, .aload_n 0, []) by decide +kernel) rfl (fun _ _ _ => rfl) ?_
      refine R_getR (pc := 75) (a := 2) (b := 8) (show z_pt 26 75 = some (4, .getfield 27, [2, 8, 1072]) by decide +kernel) (by decide +kernel) ?_
      refine R_at (pc := 78) ?_
      refine R_pure (pc := 78) (pc' := 79) (st' := [.int a3, .ref 8, .int a3, .ref 8]) (show z_pt 26 78 = some (4, .iload_n 3, []) by decide +kernel) rfl (fun _ _ _ => rfl) ?_
      refine R_const (pc := 79) (pc' := 80) (v := 1) (show z_ptc 26 79 = some (80, 1) by decide +kernel) ?_
      refine R_pure (pc := 80) (pc' := 81) (st' := [.int (a3 + 1), .ref 8, .int a3, .ref 8]) (show z_pt 26 80 = some (4, .iadd, []) by decide +kernel) rfl (fun _ _ _ => rfl) ?_
      obtain ⟨v13, e14, h⟩ := z_bs h
      refine R_ialdR (pc := 81) (a := 8) (n := 9) (show z_pt 26 81 = some (4, .iaload, []) by decide +kernel) (show z_ar 8 0 9 = true by decide +kernel) e14 ?_
      refine R_at (pc := 82) ?_
      obtain ⟨g15, h⟩ := z_ig h
      refine R_iast (pc := 82) (a := 8) (n := 9) (show z_pt 26 82 = some (4, .iastore, []) by decide +kernel) (show z_ar 8 0 9 = true by decide +kernel) g15 ?_
      refine R_at (pc := 83) ?_
      refine R_inc (pc := 83) (pc' := 86) (ls' := [(0, .ref 2), (1, .int f1), (2, .int f2), (3, .int (a3 + 1))]) (c := 1) (show z_pt 26 83 = some (4, .iinc 3 1, []) by decide +kernel) (by decide) rfl rfl ?_
      refine R_pure (pc := 86) (pc' := 19) (ls' := [(0, .ref 2), (1, .int f1), (2, .int f2), (3, .int (a3 + 1))]) (st' := []) (show z_pt 26 86 = some (4, .goto (-67), [4]) by decide +kernel) rfl (fun _ _ _ => rfl) ?_
      exact ih _ _ _  h
def pT_separate  (μ : z_Mem) (i1 : Int32) : Option (Int32 × z_Mem) := (z_rd μ 8 9 i1).bind fun v1 => pT_separate_L19 z_fu i1 v1 (fun M17 k16 => some (v1, M17)) (z_u μ 2 1 ((μ 2 1) - 1)) i1
theorem pT_separate_run  {μ : z_Mem} {i1 : Int32}  {r : (Int32 × z_Mem)} (h : pT_separate μ i1 = some r) : Rn 0 26 0 [(0, .ref 2), (1, .int i1)] [] μ (.inl (some (.int r.1))) r.2 := by
  unfold pT_separate at h
  refine R_pure (pc := 0) (pc' := 1) (st' := [.ref 2]) (show z_pt 26 0 = some (4, .aload_n 0, []) by decide +kernel) rfl (fun _ _ _ => rfl) ?_
  refine R_getR (pc := 1) (a := 2) (b := 8) (show z_pt 26 1 = some (4, .getfield 27, [2, 8, 1072]) by decide +kernel) (by decide +kernel) ?_
  refine R_at (pc := 4) ?_
  refine R_pure (pc := 4) (pc' := 5) (st' := [.int i1, .ref 8]) (show z_pt 26 4 = some (4, .iload_n 1, []) by decide +kernel) rfl (fun _ _ _ => rfl) ?_
  obtain ⟨v1, e2, h⟩ := z_bs h
  refine R_ialdR (pc := 5) (a := 8) (n := 9) (show z_pt 26 5 = some (4, .iaload, []) by decide +kernel) (show z_ar 8 0 9 = true by decide +kernel) e2 ?_
  refine R_at (pc := 6) ?_
  refine R_pure (pc := 6) (pc' := 7) (ls' := [(0, .ref 2), (1, .int i1), (2, .int v1)]) (st' := []) (show z_pt 26 6 = some (4, .istore_n 2, []) by decide +kernel) rfl (fun _ _ _ => rfl) ?_
  refine R_pure (pc := 7) (pc' := 8) (st' := [.ref 2]) (show z_pt 26 7 = some (4, .aload_n 0, []) by decide +kernel) rfl (fun _ _ _ => rfl) ?_
  refine R_pure (pc := 8) (pc' := 9) (st' := [.ref 2, .ref 2]) (show z_pt 26 8 = some (4, .dup, []) by decide +kernel) rfl (fun _ _ _ => rfl) ?_
  refine R_getI (pc := 9) (a := 2) (show z_pt 26 9 = some (4, .getfield 34, [2, 1, 1051]) by decide +kernel) (by decide +kernel) ?_
  refine R_at (pc := 12) ?_
  refine R_const (pc := 12) (pc' := 13) (v := 1) (show z_ptc 26 12 = some (13, 1) by decide +kernel) ?_
  refine R_pure (pc := 13) (pc' := 14) (st' := [.int ((μ 2 1) - 1), .ref 2]) (show z_pt 26 13 = some (4, .isub, []) by decide +kernel) rfl (fun _ _ _ => rfl) ?_
  refine R_putI (pc := 14) (a := 2) (show z_pt 26 14 = some (4, .putfield 34, [2, 1, 1051]) by decide +kernel) (by decide +kernel) ⟨rfl, rfl⟩ ?_
  refine R_at (pc := 17) ?_
  refine R_pure (pc := 17) (pc' := 18) (st' := [.int i1]) (show z_pt 26 17 = some (4, .iload_n 1, []) by decide +kernel) rfl (fun _ _ _ => rfl) ?_
  refine R_pure (pc := 18) (pc' := 19) (ls' := [(0, .ref 2), (1, .int i1), (2, .int v1), (3, .int i1)]) (st' := []) (show z_pt 26 18 = some (4, .istore_n 3, []) by decide +kernel) rfl (fun _ _ _ => rfl) ?_
  refine pT_separate_L19_run  _ _ _  _ (by omega) ?_ _ _ _ _ h
  intro M17 k16 r h
  refine R_pure (pc := 89) (pc' := 90) (st' := [.int v1]) (show z_pt 26 89 = some (4, .iload_n 2, []) by decide +kernel) rfl (fun _ _ _ => rfl) ?_
  cases h
  exact R_retI (show z_pt 26 90 = some (4, .ireturn, []) by decide +kernel) (by decide +kernel)
def pT_acrossFrom (t : Nat) (μ : z_Mem) (i1 : Int32) (i2 : Int32) : Option Int32 := (z_rd μ (t + 3) 9 i2).bind fun v1 => if v1 = i1 then (z_rd μ (t + 4) 9 i2).bind fun v9 => some v9 else (z_rd μ (t + 4) 9 i2).bind fun v4 => if v4 = i1 then (z_rd μ (t + 3) 9 i2).bind fun v7 => some v7 else some (-1)
theorem pT_acrossFrom_run {t : Nat} {μ : z_Mem} {i1 : Int32} {i2 : Int32} (ht : zTr t = true) {r : Int32} (h : pT_acrossFrom t μ i1 i2 = some r) : Rn 0 27 0 [(0, .ref t), (1, .int i1), (2, .int i2)] [] μ (.inl (some (.int r))) μ := by
  unfold pT_acrossFrom at h
  refine R_pure (pc := 0) (pc' := 1) (st' := [.ref t]) (show z_pt 27 0 = some (3, .aload_n 0, []) by decide +kernel) rfl (fun _ _ _ => rfl) ?_
  refine R_getR (pc := 1) (a := t) (b := (t + 3)) (show z_pt 27 1 = some (3, .getfield 18, [2, 5, 1065]) by decide +kernel) (zTr_all ht).2.2.2.2.2.2.1 ?_
  refine R_at (pc := 4) ?_
  refine R_pure (pc := 4) (pc' := 5) (st' := [.int i2, .ref (t + 3)]) (show z_pt 27 4 = some (3, .iload_n 2, []) by decide +kernel) rfl (fun _ _ _ => rfl) ?_
  obtain ⟨v1, e2, h⟩ := z_bs h
  refine R_ialdR (pc := 5) (a := (t + 3)) (n := 9) (show z_pt 27 5 = some (3, .iaload, []) by decide +kernel) (zTr_all ht).2.2.2.2.2.2.2.2.2.2.2.2.1 e2 ?_
  refine R_at (pc := 6) ?_
  refine R_pure (pc := 6) (pc' := 7) (st' := [.int i1, .int v1]) (show z_pt 27 6 = some (3, .iload_n 1, []) by decide +kernel) rfl (fun _ _ _ => rfl) ?_
  refine R_icmne (pc := 7) (t := 17) (show z_pt 27 7 = some (3, .if_icmp .ne 10, []) by decide +kernel) (by decide) (fun c3 => ?_) (fun c3 => ?_)
  · rw [if_neg c3] at h
    refine R_pure (pc := 17) (pc' := 18) (st' := [.ref t]) (show z_pt 27 17 = some (3, .aload_n 0, []) by decide +kernel) rfl (fun _ _ _ => rfl) ?_
    refine R_getR (pc := 18) (a := t) (b := (t + 4)) (show z_pt 27 18 = some (3, .getfield 21, [2, 6, 1067]) by decide +kernel) (zTr_all ht).2.2.2.2.2.2.2.1 ?_
    refine R_at (pc := 21) ?_
    refine R_pure (pc := 21) (pc' := 22) (st' := [.int i2, .ref (t + 4)]) (show z_pt 27 21 = some (3, .iload_n 2, []) by decide +kernel) rfl (fun _ _ _ => rfl) ?_
    obtain ⟨v4, e5, h⟩ := z_bs h
    refine R_ialdR (pc := 22) (a := (t + 4)) (n := 9) (show z_pt 27 22 = some (3, .iaload, []) by decide +kernel) (zTr_all ht).2.2.2.2.2.2.2.2.2.2.2.2.2.1 e5 ?_
    refine R_at (pc := 23) ?_
    refine R_pure (pc := 23) (pc' := 24) (st' := [.int i1, .int v4]) (show z_pt 27 23 = some (3, .iload_n 1, []) by decide +kernel) rfl (fun _ _ _ => rfl) ?_
    refine R_icmne (pc := 24) (t := 36) (show z_pt 27 24 = some (3, .if_icmp .ne 12, []) by decide +kernel) (by decide) (fun c6 => ?_) (fun c6 => ?_)
    · rw [if_neg c6] at h
      refine R_const (pc := 36) (pc' := 37) (v := (-1)) (show z_ptc 27 36 = some (37, (-1)) by decide +kernel) ?_
      cases h
      exact R_retI (show z_pt 27 37 = some (3, .ireturn, []) by decide +kernel) (by decide +kernel)
    · rw [if_pos c6] at h
      refine R_pure (pc := 27) (pc' := 28) (st' := [.ref t]) (show z_pt 27 27 = some (3, .aload_n 0, []) by decide +kernel) rfl (fun _ _ _ => rfl) ?_
      refine R_getR (pc := 28) (a := t) (b := (t + 3)) (show z_pt 27 28 = some (3, .getfield 18, [2, 5, 1065]) by decide +kernel) (zTr_all ht).2.2.2.2.2.2.1 ?_
      refine R_at (pc := 31) ?_
      refine R_pure (pc := 31) (pc' := 32) (st' := [.int i2, .ref (t + 3)]) (show z_pt 27 31 = some (3, .iload_n 2, []) by decide +kernel) rfl (fun _ _ _ => rfl) ?_
      obtain ⟨v7, e8, h⟩ := z_bs h
      refine R_ialdR (pc := 32) (a := (t + 3)) (n := 9) (show z_pt 27 32 = some (3, .iaload, []) by decide +kernel) (zTr_all ht).2.2.2.2.2.2.2.2.2.2.2.2.1 e8 ?_
      refine R_at (pc := 33) ?_
      refine R_pure (pc := 33) (pc' := 37) (show z_pt 27 33 = some (3, .goto 4, []) by decide +kernel) rfl (fun _ _ _ => rfl) ?_
      cases h
      exact R_retI (show z_pt 27 37 = some (3, .ireturn, []) by decide +kernel) (by decide +kernel)
  · rw [if_pos c3] at h
    refine R_pure (pc := 10) (pc' := 11) (st' := [.ref t]) (show z_pt 27 10 = some (3, .aload_n 0, []) by decide +kernel) rfl (fun _ _ _ => rfl) ?_
    refine R_getR (pc := 11) (a := t) (b := (t + 4)) (show z_pt 27 11 = some (3, .getfield 21, [2, 6, 1067]) by decide +kernel) (zTr_all ht).2.2.2.2.2.2.2.1 ?_
    refine R_at (pc := 14) ?_
    refine R_pure (pc := 14) (pc' := 15) (st' := [.int i2, .ref (t + 4)]) (show z_pt 27 14 = some (3, .iload_n 2, []) by decide +kernel) rfl (fun _ _ _ => rfl) ?_
    obtain ⟨v9, e10, h⟩ := z_bs h
    refine R_ialdR (pc := 15) (a := (t + 4)) (n := 9) (show z_pt 27 15 = some (3, .iaload, []) by decide +kernel) (zTr_all ht).2.2.2.2.2.2.2.2.2.2.2.2.2.1 e10 ?_
    refine R_at (pc := 16) ?_
    cases h
    exact R_retI (show z_pt 27 16 = some (3, .ireturn, []) by decide +kernel) (by decide +kernel)
def pT_meshBetween_L2_B (R : Int32 → Option Int32)  (μ : z_Mem) (f1 : Int32) (f2 : Int32) (K : Int32 → Option Int32) (a3 : Int32) : Option Int32 := if (μ 2 1) ≤ a3 then K a3 else (pT_acrossFrom 2 μ f1 a3).bind fun q2 => if q2 = f2 then some a3 else R (a3 + 1)
def pT_meshBetween_L2 : Nat → z_Mem → Int32 → Int32 → (Int32 → Option Int32) → Int32 → Option Int32
  | 0 => fun _ _ _ _ _ => none
  | n + 1 => fun μ f1 f2 K a3 => pT_meshBetween_L2_B (pT_meshBetween_L2 n μ f1 f2 K) μ f1 f2 K a3
theorem pT_meshBetween_L2_run  (μ : z_Mem) (f1 : Int32) (f2 : Int32) (K : Int32 → Option Int32)  (D : Nat) (hD : 1 ≤ D) (hK : ∀ (a3 : Int32) (r : Int32), K a3 = some r → Rn D 28 28 [(0, .ref 2), (1, .int f1), (2, .int f2), (3, .int a3)] [] μ (.inl (some (.int r))) μ) : ∀ (n : Nat) (a3 : Int32) (r : Int32), pT_meshBetween_L2 n μ f1 f2 K a3 = some r → Rn D 28 2 [(0, .ref 2), (1, .int f1), (2, .int f2), (3, .int a3)] [] μ (.inl (some (.int r))) μ := by
  intro n
  induction n with
  | zero => intro a3 r h; cases h
  | succ n ih =>
    intro a3 r h
    have h : pT_meshBetween_L2_B (pT_meshBetween_L2 n μ f1 f2 K) μ f1 f2 K a3 = some r := h
    unfold pT_meshBetween_L2_B at h
    refine R_pure (pc := 2) (pc' := 3) (st' := [.int a3]) (show z_pt 28 2 = some (4, .iload_n 3, []) by decide +kernel) rfl (fun _ _ _ => rfl) ?_
    refine R_pure (pc := 3) (pc' := 4) (st' := [.ref 2, .int a3]) (show z_pt 28 3 = some (4, .aload_n 0, []) by decide +kernel) rfl (fun _ _ _ => rfl) ?_
    refine R_getI (pc := 4) (a := 2) (show z_pt 28 4 = some (4, .getfield 34, [2, 1, 1051]) by decide +kernel) (by decide +kernel) ?_
    refine R_at (pc := 7) ?_
    refine R_icmge (pc := 7) (t := 28) (show z_pt 28 7 = some (4, .if_icmp .ge 21, []) by decide +kernel) (by decide) (fun c1 => ?_) (fun c1 => ?_)
    · rw [if_pos c1] at h
      exact hK _  _ h
    · rw [if_neg c1] at h
      refine R_pure (pc := 10) (pc' := 11) (st' := [.ref 2]) (show z_pt 28 10 = some (4, .aload_n 0, []) by decide +kernel) rfl (fun _ _ _ => rfl) ?_
      refine R_pure (pc := 11) (pc' := 12) (st' := [.int f1, .ref 2]) (show z_pt 28 11 = some (4, .iload_n 1, []) by decide +kernel) rfl (fun _ _ _ => rfl) ?_
      refine R_pure (pc := 12) (pc' := 13) (st' := [.int a3, .int f1, .ref 2]) (show z_pt 28 12 = some (4, .iload_n 3, []) by decide +kernel) rfl (fun _ _ _ => rfl) ?_
      obtain ⟨q2, e3, h⟩ := z_bs h
      refine R_call (pc := 13) (rr := []) (show z_pt 28 13 = some (4, .invokevirtual 46, [0, 27, 2, 3013, 3014, 3015, 1003, 3016]) by decide +kernel) rfl (show z_r2 27 = some (2, 3, true) by decide +kernel) rfl rfl (Or.inr ⟨_, _, rfl, (by decide +kernel)⟩) (pT_acrossFrom_run (show zTr 2 = true by decide +kernel) e3) (by omega) ?_
      refine R_at2 (pc := 16) (st := [.int q2]) ?_
      refine R_pure (pc := 16) (pc' := 17) (st' := [.int f2, .int q2]) (show z_pt 28 16 = some (4, .iload_n 2, []) by decide +kernel) rfl (fun _ _ _ => rfl) ?_
      refine R_icmne (pc := 17) (t := 22) (show z_pt 28 17 = some (4, .if_icmp .ne 5, []) by decide +kernel) (by decide) (fun c4 => ?_) (fun c4 => ?_)
      · rw [if_neg c4] at h
        refine R_inc (pc := 22) (pc' := 25) (ls' := [(0, .ref 2), (1, .int f1), (2, .int f2), (3, .int (a3 + 1))]) (c := 1) (show z_pt 28 22 = some (4, .iinc 3 1, []) by decide +kernel) (by decide) rfl rfl ?_
        refine R_pure (pc := 25) (pc' := 2) (ls' := [(0, .ref 2), (1, .int f1), (2, .int f2), (3, .int (a3 + 1))]) (st' := []) (show z_pt 28 25 = some (4, .goto (-23), [4]) by decide +kernel) rfl (fun _ _ _ => rfl) ?_
        exact ih _ _  h
      · rw [if_pos c4] at h
        refine R_pure (pc := 20) (pc' := 21) (st' := [.int a3]) (show z_pt 28 20 = some (4, .iload_n 3, []) by decide +kernel) rfl (fun _ _ _ => rfl) ?_
        cases h
        exact R_retI (show z_pt 28 21 = some (4, .ireturn, []) by decide +kernel) (by decide +kernel)
def pT_meshBetween  (μ : z_Mem) (i1 : Int32) (i2 : Int32) : Option Int32 := pT_meshBetween_L2 z_fu μ i1 i2 (fun k5 => some (-1)) 0
theorem pT_meshBetween_run  {μ : z_Mem} {i1 : Int32} {i2 : Int32}  {r : Int32} (h : pT_meshBetween μ i1 i2 = some r) : Rn 1 28 0 [(0, .ref 2), (1, .int i1), (2, .int i2)] [] μ (.inl (some (.int r))) μ := by
  unfold pT_meshBetween at h
  refine R_const (pc := 0) (pc' := 1) (v := 0) (show z_ptc 28 0 = some (1, 0) by decide +kernel) ?_
  refine R_pure (pc := 1) (pc' := 2) (ls' := [(0, .ref 2), (1, .int i1), (2, .int i2), (3, .int 0)]) (st' := []) (show z_pt 28 1 = some (4, .istore_n 3, []) by decide +kernel) rfl (fun _ _ _ => rfl) ?_
  refine pT_meshBetween_L2_run  _ _ _ _  _ (by omega) ?_ _ _ _ h
  intro k5 r h
  refine R_const (pc := 28) (pc' := 29) (v := (-1)) (show z_ptc 28 28 = some (29, (-1)) by decide +kernel) ?_
  cases h
  exact R_retI (show z_pt 28 29 = some (4, .ireturn, []) by decide +kernel) (by decide +kernel)
def pJ_min  (μ : z_Mem) (i0 : Int32) (i1 : Int32) : Option Int32 := if i1 < i0 then some i1 else some i0
theorem pJ_min_run  {μ : z_Mem} {i0 : Int32} {i1 : Int32}  {r : Int32} (h : pJ_min μ i0 i1 = some r) : Rn 0 160 0 [(0, .int i0), (1, .int i1)] [] μ (.inl (some (.int r))) μ := by
  unfold pJ_min at h
  refine R_pure (pc := 0) (pc' := 1) (st' := [.int i0]) (show z_pt 160 0 = some (2, .iload_n 0, []) by decide +kernel) rfl (fun _ _ _ => rfl) ?_
  refine R_pure (pc := 1) (pc' := 2) (st' := [.int i1, .int i0]) (show z_pt 160 1 = some (2, .iload_n 1, []) by decide +kernel) rfl (fun _ _ _ => rfl) ?_
  refine R_icmgt (pc := 2) (t := 9) (show z_pt 160 2 = some (2, .if_icmp .gt 7, []) by decide +kernel) (by decide) (fun c1 => ?_) (fun c1 => ?_)
  · rw [if_pos c1] at h
    refine R_pure (pc := 9) (pc' := 10) (st' := [.int i1]) (show z_pt 160 9 = some (2, .iload_n 1, []) by decide +kernel) rfl (fun _ _ _ => rfl) ?_
    cases h
    exact R_retI (show z_pt 160 10 = some (2, .ireturn, []) by decide +kernel) (by decide +kernel)
  · rw [if_neg c1] at h
    refine R_pure (pc := 5) (pc' := 6) (st' := [.int i0]) (show z_pt 160 5 = some (2, .iload_n 0, []) by decide +kernel) rfl (fun _ _ _ => rfl) ?_
    refine R_pure (pc := 6) (pc' := 10) (show z_pt 160 6 = some (2, .goto 4, []) by decide +kernel) rfl (fun _ _ _ => rfl) ?_
    cases h
    exact R_retI (show z_pt 160 10 = some (2, .ireturn, []) by decide +kernel) (by decide +kernel)
def pT_restAfterGap (t : Nat) (μ : z_Mem) (i1 : Int32) (i2 : Int32) : Option (Int32 × z_Mem) := if i2 ≤ 0 then (z_rd μ (t + 5) 9 i1).bind fun v2 => (z_rd μ (t + 6) 9 i1).bind fun v4 => (pJ_min μ (-i2) (v2 - v4)).bind fun q6 => (z_rd μ (t + 6) 9 i1).bind fun v8 => if z_inb i1 9 = true then some ((i2 + q6), (z_u μ (t + 6) i1.toNatClampNeg (v8 + q6))) else none else (z_rd μ (t + 6) 9 i1).bind fun v11 => (pJ_min μ i2 v11).bind fun q13 => (z_rd μ (t + 6) 9 i1).bind fun v15 => if z_inb i1 9 = true then some ((i2 - q13), (z_u μ (t + 6) i1.toNatClampNeg (v15 - q13))) else none
theorem pT_restAfterGap_run {t : Nat} {μ : z_Mem} {i1 : Int32} {i2 : Int32} (ht : zTr t = true) {r : (Int32 × z_Mem)} (h : pT_restAfterGap t μ i1 i2 = some r) : Rn 1 31 0 [(0, .ref t), (1, .int i1), (2, .int i2)] [] μ (.inl (some (.int r.1))) r.2 := by
  unfold pT_restAfterGap at h
  refine R_pure (pc := 0) (pc' := 1) (st' := [.int i2]) (show z_pt 31 0 = some (4, .iload_n 2, []) by decide +kernel) rfl (fun _ _ _ => rfl) ?_
  refine R_ifle (pc := 1) (t := 29) (show z_pt 31 1 = some (4, .ifCond .le 28, []) by decide +kernel) (by decide) (fun c1 => ?_) (fun c1 => ?_)
  · rw [if_pos c1] at h
    refine R_pure (pc := 29) (pc' := 30) (st' := [.int i2]) (show z_pt 31 29 = some (4, .iload_n 2, []) by decide +kernel) rfl (fun _ _ _ => rfl) ?_
    refine R_pure (pc := 30) (pc' := 31) (st' := [.int (-i2)]) (show z_pt 31 30 = some (4, .ineg, []) by decide +kernel) rfl (fun _ _ _ => rfl) ?_
    refine R_pure (pc := 31) (pc' := 32) (st' := [.ref t, .int (-i2)]) (show z_pt 31 31 = some (4, .aload_n 0, []) by decide +kernel) rfl (fun _ _ _ => rfl) ?_
    refine R_getR (pc := 32) (a := t) (b := (t + 5)) (show z_pt 31 32 = some (4, .getfield 24, [2, 7, 1069]) by decide +kernel) (zTr_all ht).2.2.2.2.2.2.2.2.1 ?_
    refine R_at (pc := 35) ?_
    refine R_pure (pc := 35) (pc' := 36) (st' := [.int i1, .ref (t + 5), .int (-i2)]) (show z_pt 31 35 = some (4, .iload_n 1, []) by decide +kernel) rfl (fun _ _ _ => rfl) ?_
    obtain ⟨v2, e3, h⟩ := z_bs h
    refine R_ialdR (pc := 36) (a := (t + 5)) (n := 9) (show z_pt 31 36 = some (4, .iaload, []) by decide +kernel) (zTr_all ht).2.2.2.2.2.2.2.2.2.2.2.2.2.2.1 e3 ?_
    refine R_at (pc := 37) ?_
    refine R_pure (pc := 37) (pc' := 38) (st' := [.ref t, .int v2, .int (-i2)]) (show z_pt 31 37 = some (4, .aload_n 0, []) by decide +kernel) rfl (fun _ _ _ => rfl) ?_
    refine R_getR (pc := 38) (a := t) (b := (t + 6)) (show z_pt 31 38 = some (4, .getfield 27, [2, 8, 1072]) by decide +kernel) (zTr_all ht).2.2.2.2.2.2.2.2.2.1 ?_
    refine R_at (pc := 41) ?_
    refine R_pure (pc := 41) (pc' := 42) (st' := [.int i1, .ref (t + 6), .int v2, .int (-i2)]) (show z_pt 31 41 = some (4, .iload_n 1, []) by decide +kernel) rfl (fun _ _ _ => rfl) ?_
    obtain ⟨v4, e5, h⟩ := z_bs h
    refine R_ialdR (pc := 42) (a := (t + 6)) (n := 9) (show z_pt 31 42 = some (4, .iaload, []) by decide +kernel) (zTr_all ht).2.2.2.2.2.2.2.2.2.2.2.2.2.2.2 e5 ?_
    refine R_at (pc := 43) ?_
    refine R_pure (pc := 43) (pc' := 44) (st' := [.int (v2 - v4), .int (-i2)]) (show z_pt 31 43 = some (4, .isub, []) by decide +kernel) rfl (fun _ _ _ => rfl) ?_
    obtain ⟨q6, e7, h⟩ := z_bs h
    refine R_call (pc := 44) (rr := []) (show z_pt 31 44 = some (4, .invokestatic 67, [1, 160, 2, 3044, 2235, 0, 1008, 2236]) by decide +kernel) rfl (show z_r2 160 = some (12, 2, true) by decide +kernel) rfl rfl (Or.inl (by decide)) (pJ_min_run  e7) (by omega) ?_
    refine R_at2 (pc := 47) (st := [.int q6]) ?_
    refine R_pure (pc := 47) (pc' := 48) (ls' := [(0, .ref t), (1, .int i1), (2, .int i2), (3, .int q6)]) (st' := []) (show z_pt 31 47 = some (4, .istore_n 3, []) by decide +kernel) rfl (fun _ _ _ => rfl) ?_
    refine R_pure (pc := 48) (pc' := 49) (st' := [.ref t]) (show z_pt 31 48 = some (4, .aload_n 0, []) by decide +kernel) rfl (fun _ _ _ => rfl) ?_
    refine R_getR (pc := 49) (a := t) (b := (t + 6)) (show z_pt 31 49 = some (4, .getfield 27, [2, 8, 1072]) by decide +kernel) (zTr_all ht).2.2.2.2.2.2.2.2.2.1 ?_
    refine R_at (pc := 52) ?_
    refine R_pure (pc := 52) (pc' := 53) (st' := [.int i1, .ref (t + 6)]) (show z_pt 31 52 = some (4, .iload_n 1, []) by decide +kernel) rfl (fun _ _ _ => rfl) ?_
    refine R_pure (pc := 53) (pc' := 54) (st' := [.int i1, .ref (t + 6), .int i1, .ref (t + 6)]) (show z_pt 31 53 = some (4, .dup2, []) by decide +kernel) rfl (fun _ _ _ => rfl) ?_
    obtain ⟨v8, e9, h⟩ := z_bs h
    refine R_ialdR (pc := 54) (a := (t + 6)) (n := 9) (show z_pt 31 54 = some (4, .iaload, []) by decide +kernel) (zTr_all ht).2.2.2.2.2.2.2.2.2.2.2.2.2.2.2 e9 ?_
    refine R_at (pc := 55) ?_
    refine R_pure (pc := 55) (pc' := 56) (st' := [.int q6, .int v8, .int i1, .ref (t + 6)]) (show z_pt 31 55 = some (4, .iload_n 3, []) by decide +kernel) rfl (fun _ _ _ => rfl) ?_
    refine R_pure (pc := 56) (pc' := 57) (st' := [.int (v8 + q6), .int i1, .ref (t + 6)]) (show z_pt 31 56 = some (4, .iadd, []) by decide +kernel) rfl (fun _ _ _ => rfl) ?_
    obtain ⟨g10, h⟩ := z_ig h
    refine R_iast (pc := 57) (a := (t + 6)) (n := 9) (show z_pt 31 57 = some (4, .iastore, []) by decide +kernel) (zTr_all ht).2.2.2.2.2.2.2.2.2.2.2.2.2.2.2 g10 ?_
    refine R_at (pc := 58) ?_
    refine R_pure (pc := 58) (pc' := 59) (st' := [.int i2]) (show z_pt 31 58 = some (4, .iload_n 2, []) by decide +kernel) rfl (fun _ _ _ => rfl) ?_
    refine R_pure (pc := 59) (pc' := 60) (st' := [.int q6, .int i2]) (show z_pt 31 59 = some (4, .iload_n 3, []) by decide +kernel) rfl (fun _ _ _ => rfl) ?_
    refine R_pure (pc := 60) (pc' := 61) (st' := [.int (i2 + q6)]) (show z_pt 31 60 = some (4, .iadd, []) by decide +kernel) rfl (fun _ _ _ => rfl) ?_
    cases h
    exact R_retI (show z_pt 31 61 = some (4, .ireturn, []) by decide +kernel) (by decide +kernel)
  · rw [if_neg c1] at h
    refine R_pure (pc := 4) (pc' := 5) (st' := [.int i2]) (show z_pt 31 4 = some (4, .iload_n 2, []) by decide +kernel) rfl (fun _ _ _ => rfl) ?_
    refine R_pure (pc := 5) (pc' := 6) (st' := [.ref t, .int i2]) (show z_pt 31 5 = some (4, .aload_n 0, []) by decide +kernel) rfl (fun _ _ _ => rfl) ?_
    refine R_getR (pc := 6) (a := t) (b := (t + 6)) (show z_pt 31 6 = some (4, .getfield 27, [2, 8, 1072]) by decide +kernel) (zTr_all ht).2.2.2.2.2.2.2.2.2.1 ?_
    refine R_at (pc := 9) ?_
    refine R_pure (pc := 9) (pc' := 10) (st' := [.int i1, .ref (t + 6), .int i2]) (show z_pt 31 9 = some (4, .iload_n 1, []) by decide +kernel) rfl (fun _ _ _ => rfl) ?_
    obtain ⟨v11, e12, h⟩ := z_bs h
    refine R_ialdR (pc := 10) (a := (t + 6)) (n := 9) (show z_pt 31 10 = some (4, .iaload, []) by decide +kernel) (zTr_all ht).2.2.2.2.2.2.2.2.2.2.2.2.2.2.2 e12 ?_
    refine R_at (pc := 11) ?_
    obtain ⟨q13, e14, h⟩ := z_bs h
    refine R_call (pc := 11) (rr := []) (show z_pt 31 11 = some (4, .invokestatic 67, [1, 160, 2, 3044, 2235, 0, 1008, 2236]) by decide +kernel) rfl (show z_r2 160 = some (12, 2, true) by decide +kernel) rfl rfl (Or.inl (by decide)) (pJ_min_run  e14) (by omega) ?_
    refine R_at2 (pc := 14) (st := [.int q13]) ?_
    refine R_pure (pc := 14) (pc' := 15) (ls' := [(0, .ref t), (1, .int i1), (2, .int i2), (3, .int q13)]) (st' := []) (show z_pt 31 14 = some (4, .istore_n 3, []) by decide +kernel) rfl (fun _ _ _ => rfl) ?_
    refine R_pure (pc := 15) (pc' := 16) (st' := [.ref t]) (show z_pt 31 15 = some (4, .aload_n 0, []) by decide +kernel) rfl (fun _ _ _ => rfl) ?_
    refine R_getR (pc := 16) (a := t) (b := (t + 6)) (show z_pt 31 16 = some (4, .getfield 27, [2, 8, 1072]) by decide +kernel) (zTr_all ht).2.2.2.2.2.2.2.2.2.1 ?_
    refine R_at (pc := 19) ?_
    refine R_pure (pc := 19) (pc' := 20) (st' := [.int i1, .ref (t + 6)]) (show z_pt 31 19 = some (4, .iload_n 1, []) by decide +kernel) rfl (fun _ _ _ => rfl) ?_
    refine R_pure (pc := 20) (pc' := 21) (st' := [.int i1, .ref (t + 6), .int i1, .ref (t + 6)]) (show z_pt 31 20 = some (4, .dup2, []) by decide +kernel) rfl (fun _ _ _ => rfl) ?_
    obtain ⟨v15, e16, h⟩ := z_bs h
    refine R_ialdR (pc := 21) (a := (t + 6)) (n := 9) (show z_pt 31 21 = some (4, .iaload, []) by decide +kernel) (zTr_all ht).2.2.2.2.2.2.2.2.2.2.2.2.2.2.2 e16 ?_
    refine R_at (pc := 22) ?_
    refine R_pure (pc := 22) (pc' := 23) (st' := [.int q13, .int v15, .int i1, .ref (t + 6)]) (show z_pt 31 22 = some (4, .iload_n 3, []) by decide +kernel) rfl (fun _ _ _ => rfl) ?_
    refine R_pure (pc := 23) (pc' := 24) (st' := [.int (v15 - q13), .int i1, .ref (t + 6)]) (show z_pt 31 23 = some (4, .isub, []) by decide +kernel) rfl (fun _ _ _ => rfl) ?_
    obtain ⟨g17, h⟩ := z_ig h
    refine R_iast (pc := 24) (a := (t + 6)) (n := 9) (show z_pt 31 24 = some (4, .iastore, []) by decide +kernel) (zTr_all ht).2.2.2.2.2.2.2.2.2.2.2.2.2.2.2 g17 ?_
    refine R_at (pc := 25) ?_
    refine R_pure (pc := 25) (pc' := 26) (st' := [.int i2]) (show z_pt 31 25 = some (4, .iload_n 2, []) by decide +kernel) rfl (fun _ _ _ => rfl) ?_
    refine R_pure (pc := 26) (pc' := 27) (st' := [.int q13, .int i2]) (show z_pt 31 26 = some (4, .iload_n 3, []) by decide +kernel) rfl (fun _ _ _ => rfl) ?_
    refine R_pure (pc := 27) (pc' := 28) (st' := [.int (i2 - q13)]) (show z_pt 31 27 = some (4, .isub, []) by decide +kernel) rfl (fun _ _ _ => rfl) ?_
    cases h
    exact R_retI (show z_pt 31 28 = some (4, .ireturn, []) by decide +kernel) (by decide +kernel)
def pJ_abs  (μ : z_Mem) (i0 : Int32) : Option Int32 := if 0 ≤ i0 then some i0 else some (-i0)
theorem pJ_abs_run  {μ : z_Mem} {i0 : Int32}  {r : Int32} (h : pJ_abs μ i0 = some r) : Rn 0 158 0 [(0, .int i0)] [] μ (.inl (some (.int r))) μ := by
  unfold pJ_abs at h
  refine R_pure (pc := 0) (pc' := 1) (st' := [.int i0]) (show z_pt 158 0 = some (1, .iload_n 0, []) by decide +kernel) rfl (fun _ _ _ => rfl) ?_
  refine R_ifge (pc := 1) (t := 9) (show z_pt 158 1 = some (1, .ifCond .ge 8, []) by decide +kernel) (by decide) (fun c1 => ?_) (fun c1 => ?_)
  · rw [if_pos c1] at h
    refine R_pure (pc := 9) (pc' := 10) (st' := [.int i0]) (show z_pt 158 9 = some (1, .iload_n 0, []) by decide +kernel) rfl (fun _ _ _ => rfl) ?_
    cases h
    exact R_retI (show z_pt 158 10 = some (1, .ireturn, []) by decide +kernel) (by decide +kernel)
  · rw [if_neg c1] at h
    refine R_pure (pc := 4) (pc' := 5) (st' := [.int i0]) (show z_pt 158 4 = some (1, .iload_n 0, []) by decide +kernel) rfl (fun _ _ _ => rfl) ?_
    refine R_pure (pc := 5) (pc' := 6) (st' := [.int (-i0)]) (show z_pt 158 5 = some (1, .ineg, []) by decide +kernel) rfl (fun _ _ _ => rfl) ?_
    refine R_pure (pc := 6) (pc' := 10) (show z_pt 158 6 = some (1, .goto 4, []) by decide +kernel) rfl (fun _ _ _ => rfl) ?_
    cases h
    exact R_retI (show z_pt 158 10 = some (1, .ireturn, []) by decide +kernel) (by decide +kernel)
def pT_turnOnwards_L46_B (R : z_Mem → Int32 → Int32 → Option (Int32 × z_Mem)) (F : z_Mem → Int32 → Int32 → Int32 → Int32 → Option (Int32 × z_Mem)) (t : Nat) (f1 : Int32) (f2 : Int32) (f3 : Int32) (f4 : Int32) (K : z_Mem → Int32 → Int32 → Option (Int32 × z_Mem)) (μ : z_Mem) (a5 : Int32) (a6 : Int32) : Option (Int32 × z_Mem) := if (μ t 1) ≤ a6 then K μ a5 a6 else (pT_acrossFrom t μ f1 a6).bind fun q11 => if q11 = (-1) then R μ a5 (a6 + 1) else if q11 = f3 then R μ a5 (a6 + 1) else (pT_restAfterGap t μ a6 f2).bind fun q15 => if q15.1 = 0 then R q15.2 a5 (a6 + 1) else (F q15.2 q11 (-q15.1) f1 (f4 + 1)).bind fun q18 => R q18.2 (a5 + q18.1) (a6 + 1)
def pT_turnOnwards_L46 : Nat → (z_Mem → Int32 → Int32 → Int32 → Int32 → Option (Int32 × z_Mem)) → Nat → Int32 → Int32 → Int32 → Int32 → (z_Mem → Int32 → Int32 → Option (Int32 × z_Mem)) → z_Mem → Int32 → Int32 → Option (Int32 × z_Mem)
  | 0 => fun _ _ _ _ _ _ _ _ _ _ => none
  | n + 1 => fun F t f1 f2 f3 f4 K μ a5 a6 => pT_turnOnwards_L46_B (pT_turnOnwards_L46 n F t f1 f2 f3 f4 K) F t f1 f2 f3 f4 K μ a5 a6
theorem pT_turnOnwards_L46_run (F : z_Mem → Int32 → Int32 → Int32 → Int32 → Option (Int32 × z_Mem)) (t : Nat) (f1 : Int32) (f2 : Int32) (f3 : Int32) (f4 : Int32) (K : z_Mem → Int32 → Int32 → Option (Int32 × z_Mem)) (ht : zTr t = true) (D : Nat) (hD : 2 ≤ D) (D2 : Nat) (hD2 : D2 + 1 ≤ D) (hF : ∀ {μ : z_Mem} {i1 i2 i3 i4 : Int32} {r : (Int32 × z_Mem)}, F μ i1 i2 i3 i4 = some r → Rn D2 30 0 [(0, .ref t), (1, .int i1), (2, .int i2), (3, .int i3), (4, .int i4)] [] μ (.inl (some (.int r.1))) r.2) (hK : ∀ (μ : z_Mem) (a5 a6 : Int32) (r : (Int32 × z_Mem)), K μ a5 a6 = some r → Rn D 30 115 [(0, .ref t), (1, .int f1), (2, .int f2), (3, .int f3), (4, .int f4), (5, .int a5), (6, .int a6)] [] μ (.inl (some (.int r.1))) r.2) : ∀ (n : Nat) (μ : z_Mem) (a5 : Int32) (a6 : Int32) (r : (Int32 × z_Mem)), pT_turnOnwards_L46 n F t f1 f2 f3 f4 K μ a5 a6 = some r → Rn D 30 46 [(0, .ref t), (1, .int f1), (2, .int f2), (3, .int f3), (4, .int f4), (5, .int a5), (6, .int a6)] [] μ (.inl (some (.int r.1))) r.2 := by
  intro n
  induction n with
  | zero => intro μ a5 a6 r h; cases h
  | succ n ih =>
    intro μ a5 a6 r h
    have h : pT_turnOnwards_L46_B (pT_turnOnwards_L46 n F t f1 f2 f3 f4 K) F t f1 f2 f3 f4 K μ a5 a6 = some r := h
    unfold pT_turnOnwards_L46_B at h
    refine R_pure (pc := 46) (pc' := 48) (st' := [.int a6]) (show z_pt 30 46 = some (9, .iload 6, []) by decide +kernel) rfl (fun _ _ _ => rfl) ?_
    refine R_pure (pc := 48) (pc' := 49) (st' := [.ref t, .int a6]) (show z_pt 30 48 = some (9, .aload_n 0, []) by decide +kernel) rfl (fun _ _ _ => rfl) ?_
    refine R_getI (pc := 49) (a := t) (show z_pt 30 49 = some (9, .getfield 34, [2, 1, 1051]) by decide +kernel) (zTr_all ht).2.2.1 ?_
    refine R_at (pc := 52) ?_
    refine R_icmge (pc := 52) (t := 115) (show z_pt 30 52 = some (9, .if_icmp .ge 63, []) by decide +kernel) (by decide) (fun c10 => ?_) (fun c10 => ?_)
    · rw [if_pos c10] at h
      exact hK _ _ _  _ h
    · rw [if_neg c10] at h
      refine R_pure (pc := 55) (pc' := 56) (st' := [.ref t]) (show z_pt 30 55 = some (9, .aload_n 0, []) by decide +kernel) rfl (fun _ _ _ => rfl) ?_
      refine R_pure (pc := 56) (pc' := 57) (st' := [.int f1, .ref t]) (show z_pt 30 56 = some (9, .iload_n 1, []) by decide +kernel) rfl (fun _ _ _ => rfl) ?_
      refine R_pure (pc := 57) (pc' := 59) (st' := [.int a6, .int f1, .ref t]) (show z_pt 30 57 = some (9, .iload 6, []) by decide +kernel) rfl (fun _ _ _ => rfl) ?_
      obtain ⟨q11, e12, h⟩ := z_bs h
      refine R_call (pc := 59) (rr := []) (show z_pt 30 59 = some (9, .invokevirtual 46, [0, 27, 2, 3013, 3014, 3015, 1003, 3016]) by decide +kernel) rfl (show z_r2 27 = some (2, 3, true) by decide +kernel) rfl rfl (Or.inr ⟨_, _, rfl, (zTr_all ht).1⟩) (pT_acrossFrom_run ht e12) (by omega) ?_
      refine R_at2 (pc := 62) (st := [.int q11]) ?_
      refine R_pure (pc := 62) (pc' := 64) (ls' := [(0, .ref t), (1, .int f1), (2, .int f2), (3, .int f3), (4, .int f4), (5, .int a5), (6, .int a6), (7, .int q11)]) (st' := []) (show z_pt 30 62 = some (9, .istore 7, []) by decide +kernel) rfl (fun _ _ _ => rfl) ?_
      refine R_pure (pc := 64) (pc' := 66) (st' := [.int q11]) (show z_pt 30 64 = some (9, .iload 7, []) by decide +kernel) rfl (fun _ _ _ => rfl) ?_
      refine R_const (pc := 66) (pc' := 67) (v := (-1)) (show z_ptc 30 66 = some (67, (-1)) by decide +kernel) ?_
      refine R_icmeq (pc := 67) (t := 109) (show z_pt 30 67 = some (9, .if_icmp .eq 42, []) by decide +kernel) (by decide) (fun c13 => ?_) (fun c13 => ?_)
      · rw [if_pos c13] at h
        refine R_inc (pc := 109) (pc' := 112) (ls' := [(0, .ref t), (1, .int f1), (2, .int f2), (3, .int f3), (4, .int f4), (5, .int a5), (6, .int (a6 + 1)), (7, .int q11)]) (c := 1) (show z_pt 30 109 = some (9, .iinc 6 1, []) by decide +kernel) (by decide) rfl rfl ?_
        refine R_pure (pc := 112) (pc' := 46) (ls' := [(0, .ref t), (1, .int f1), (2, .int f2), (3, .int f3), (4, .int f4), (5, .int a5), (6, .int (a6 + 1))]) (st' := []) (show z_pt 30 112 = some (9, .goto (-66), [7]) by decide +kernel) rfl (fun _ _ _ => rfl) ?_
        exact ih _ _ _ _  h
      · rw [if_neg c13] at h
        refine R_pure (pc := 70) (pc' := 72) (st' := [.int q11]) (show z_pt 30 70 = some (9, .iload 7, []) by decide +kernel) rfl (fun _ _ _ => rfl) ?_
        refine R_pure (pc := 72) (pc' := 73) (st' := [.int f3, .int q11]) (show z_pt 30 72 = some (9, .iload_n 3, []) by decide +kernel) rfl (fun _ _ _ => rfl) ?_
        refine R_icmeq (pc := 73) (t := 109) (show z_pt 30 73 = some (9, .if_icmp .eq 36, []) by decide +kernel) (by decide) (fun c14 => ?_) (fun c14 => ?_)
        · rw [if_pos c14] at h
          refine R_inc (pc := 109) (pc' := 112) (ls' := [(0, .ref t), (1, .int f1), (2, .int f2), (3, .int f3), (4, .int f4), (5, .int a5), (6, .int (a6 + 1)), (7, .int q11)]) (c := 1) (show z_pt 30 109 = some (9, .iinc 6 1, []) by decide +kernel) (by decide) rfl rfl ?_
          refine R_pure (pc := 112) (pc' := 46) (ls' := [(0, .ref t), (1, .int f1), (2, .int f2), (3, .int f3), (4, .int f4), (5, .int a5), (6, .int (a6 + 1))]) (st' := []) (show z_pt 30 112 = some (9, .goto (-66), [7]) by decide +kernel) rfl (fun _ _ _ => rfl) ?_
          exact ih _ _ _ _  h
        · rw [if_neg c14] at h
          refine R_pure (pc := 76) (pc' := 77) (st' := [.ref t]) (show z_pt 30 76 = some (9, .aload_n 0, []) by decide +kernel) rfl (fun _ _ _ => rfl) ?_
          refine R_pure (pc := 77) (pc' := 79) (st' := [.int a6, .ref t]) (show z_pt 30 77 = some (9, .iload 6, []) by decide +kernel) rfl (fun _ _ _ => rfl) ?_
          refine R_pure (pc := 79) (pc' := 80) (st' := [.int f2, .int a6, .ref t]) (show z_pt 30 79 = some (9, .iload_n 2, []) by decide +kernel) rfl (fun _ _ _ => rfl) ?_
          obtain ⟨q15, e16, h⟩ := z_bs h
          refine R_call (pc := 80) (rr := []) (show z_pt 30 80 = some (9, .invokevirtual 64, [0, 31, 2, 3040, 3042, 5, 1003, 3043]) by decide +kernel) rfl (show z_r2 31 = some (2, 4, true) by decide +kernel) rfl rfl (Or.inr ⟨_, _, rfl, (zTr_all ht).1⟩) (pT_restAfterGap_run ht e16) (by omega) ?_
          refine R_at2 (pc := 83) (st := [.int q15.1]) ?_
          refine R_pure (pc := 83) (pc' := 85) (ls' := [(0, .ref t), (1, .int f1), (2, .int f2), (3, .int f3), (4, .int f4), (5, .int a5), (6, .int a6), (7, .int q11), (8, .int q15.1)]) (st' := []) (show z_pt 30 83 = some (9, .istore 8, []) by decide +kernel) rfl (fun _ _ _ => rfl) ?_
          refine R_pure (pc := 85) (pc' := 87) (st' := [.int q15.1]) (show z_pt 30 85 = some (9, .iload 8, []) by decide +kernel) rfl (fun _ _ _ => rfl) ?_
          refine R_ifeq (pc := 87) (t := 109) (show z_pt 30 87 = some (9, .ifCond .eq 22, []) by decide +kernel) (by decide) (fun c17 => ?_) (fun c17 => ?_)
          · rw [if_pos c17] at h
            refine R_inc (pc := 109) (pc' := 112) (ls' := [(0, .ref t), (1, .int f1), (2, .int f2), (3, .int f3), (4, .int f4), (5, .int a5), (6, .int (a6 + 1)), (7, .int q11), (8, .int q15.1)]) (c := 1) (show z_pt 30 109 = some (9, .iinc 6 1, []) by decide +kernel) (by decide) rfl rfl ?_
            refine R_pure (pc := 112) (pc' := 46) (ls' := [(0, .ref t), (1, .int f1), (2, .int f2), (3, .int f3), (4, .int f4), (5, .int a5), (6, .int (a6 + 1))]) (st' := []) (show z_pt 30 112 = some (9, .goto (-66), [7]) by decide +kernel) rfl (fun _ _ _ => rfl) ?_
            exact ih _ _ _ _  h
          · rw [if_neg c17] at h
            refine R_pure (pc := 90) (pc' := 92) (st' := [.int a5]) (show z_pt 30 90 = some (9, .iload 5, []) by decide +kernel) rfl (fun _ _ _ => rfl) ?_
            refine R_pure (pc := 92) (pc' := 93) (st' := [.ref t, .int a5]) (show z_pt 30 92 = some (9, .aload_n 0, []) by decide +kernel) rfl (fun _ _ _ => rfl) ?_
            refine R_pure (pc := 93) (pc' := 95) (st' := [.int q11, .ref t, .int a5]) (show z_pt 30 93 = some (9, .iload 7, []) by decide +kernel) rfl (fun _ _ _ => rfl) ?_
            refine R_pure (pc := 95) (pc' := 97) (st' := [.int q15.1, .int q11, .ref t, .int a5]) (show z_pt 30 95 = some (9, .iload 8, []) by decide +kernel) rfl (fun _ _ _ => rfl) ?_
            refine R_pure (pc := 97) (pc' := 98) (st' := [.int (-q15.1), .int q11, .ref t, .int a5]) (show z_pt 30 97 = some (9, .ineg, []) by decide +kernel) rfl (fun _ _ _ => rfl) ?_
            refine R_pure (pc := 98) (pc' := 99) (st' := [.int f1, .int (-q15.1), .int q11, .ref t, .int a5]) (show z_pt 30 98 = some (9, .iload_n 1, []) by decide +kernel) rfl (fun _ _ _ => rfl) ?_
            refine R_pure (pc := 99) (pc' := 101) (st' := [.int f4, .int f1, .int (-q15.1), .int q11, .ref t, .int a5]) (show z_pt 30 99 = some (9, .iload 4, []) by decide +kernel) rfl (fun _ _ _ => rfl) ?_
            refine R_const (pc := 101) (pc' := 102) (v := 1) (show z_ptc 30 101 = some (102, 1) by decide +kernel) ?_
            refine R_pure (pc := 102) (pc' := 103) (st' := [.int (f4 + 1), .int f1, .int (-q15.1), .int q11, .ref t, .int a5]) (show z_pt 30 102 = some (9, .iadd, []) by decide +kernel) rfl (fun _ _ _ => rfl) ?_
            obtain ⟨q18, e19, h⟩ := z_bs h
            refine R_call (pc := 103) (rr := [.int a5]) (show z_pt 30 103 = some (9, .invokestatic 50, [1, 30, 5, 3033, 3034, 0, 1003, 3035]) by decide +kernel) rfl (show z_r2 30 = some (2, 9, true) by decide +kernel) rfl rfl (Or.inl (by decide)) (hF e19) (by omega) ?_
            refine R_at2 (pc := 106) (st := [.int q18.1, .int a5]) ?_
            refine R_pure (pc := 106) (pc' := 107) (st' := [.int (a5 + q18.1)]) (show z_pt 30 106 = some (9, .iadd, []) by decide +kernel) rfl (fun _ _ _ => rfl) ?_
            refine R_pure (pc := 107) (pc' := 109) (ls' := [(0, .ref t), (1, .int f1), (2, .int f2), (3, .int f3), (4, .int f4), (5, .int (a5 + q18.1)), (6, .int a6), (7, .int q11), (8, .int q15.1)]) (st' := []) (show z_pt 30 107 = some (9, .istore 5, []) by decide +kernel) rfl (fun _ _ _ => rfl) ?_
            refine R_inc (pc := 109) (pc' := 112) (ls' := [(0, .ref t), (1, .int f1), (2, .int f2), (3, .int f3), (4, .int f4), (5, .int (a5 + q18.1)), (6, .int (a6 + 1)), (7, .int q11), (8, .int q15.1)]) (c := 1) (show z_pt 30 109 = some (9, .iinc 6 1, []) by decide +kernel) (by decide) rfl rfl ?_
            refine R_pure (pc := 112) (pc' := 46) (ls' := [(0, .ref t), (1, .int f1), (2, .int f2), (3, .int f3), (4, .int f4), (5, .int (a5 + q18.1)), (6, .int (a6 + 1))]) (st' := []) (show z_pt 30 112 = some (9, .goto (-66), [7]) by decide +kernel) rfl (fun _ _ _ => rfl) ?_
            exact ih _ _ _ _  h
def pT_turnOnwards_B (F : z_Mem → Int32 → Int32 → Int32 → Int32 → Option (Int32 × z_Mem)) (t : Nat) (μ : z_Mem) (i1 : Int32) (i2 : Int32) (i3 : Int32) (i4 : Int32) : Option (Int32 × z_Mem) := if 10 ≤ i4 then some (0, μ) else (pT_hasGear t μ i1).bind fun q2 => if q2 = 0 then some (0, μ) else (z_rd μ (t + 2) 10 i1).bind fun v5 => if z_inb i1 10 = true then (pJ_abs (z_u μ (t + 2) i1.toNatClampNeg (v5 + i2)) i2).bind fun q8 => pT_turnOnwards_L46 z_fu F t i1 i2 i3 i4 (fun M22 k20 k21 => some (k20, M22)) (z_u (z_u μ (t + 2) i1.toNatClampNeg (v5 + i2)) t 2 (((z_u μ (t + 2) i1.toNatClampNeg (v5 + i2)) t 2) + q8)) 1 0 else none
def pT_turnOnwards : Nat → Nat → z_Mem → Int32 → Int32 → Int32 → Int32 → Option (Int32 × z_Mem)
  | 0 => fun _ _ _ _ _ _ => none
  | nf + 1 => fun t μ i1 i2 i3 i4 => pT_turnOnwards_B (fun μ i1 i2 i3 i4 => pT_turnOnwards nf t μ i1 i2 i3 i4) t μ i1 i2 i3 i4
theorem pT_turnOnwards_run {t : Nat} (ht : zTr t = true) : ∀ {nf : Nat} {μ : z_Mem} {i1 i2 i3 i4 : Int32} {r : (Int32 × z_Mem)}, pT_turnOnwards nf t μ i1 i2 i3 i4 = some r → Rn (2 + nf) 30 0 [(0, .ref t), (1, .int i1), (2, .int i2), (3, .int i3), (4, .int i4)] [] μ (.inl (some (.int r.1))) r.2 := by
  intro nf
  induction nf with
  | zero => intro μ i1 i2 i3 i4 r h; cases h
  | succ nf ih =>
    intro μ i1 i2 i3 i4 r h
    have h : pT_turnOnwards_B (fun μ i1 i2 i3 i4 => pT_turnOnwards nf t μ i1 i2 i3 i4) t μ i1 i2 i3 i4 = some r := h
    unfold pT_turnOnwards_B at h
    refine R_pure (pc := 0) (pc' := 2) (st' := [.int i4]) (show z_pt 30 0 = some (9, .iload 4, []) by decide +kernel) rfl (fun _ _ _ => rfl) ?_
    refine R_const (pc := 2) (pc' := 4) (v := 10) (show z_ptc 30 2 = some (4, 10) by decide +kernel) ?_
    refine R_icmge (pc := 4) (t := 15) (show z_pt 30 4 = some (9, .if_icmp .ge 11, []) by decide +kernel) (by decide) (fun c1 => ?_) (fun c1 => ?_)
    · rw [if_pos c1] at h
      refine R_const (pc := 15) (pc' := 16) (v := 0) (show z_ptc 30 15 = some (16, 0) by decide +kernel) ?_
      cases h
      exact R_retI (show z_pt 30 16 = some (9, .ireturn, []) by decide +kernel) (by decide +kernel)
    · rw [if_neg c1] at h
      refine R_pure (pc := 7) (pc' := 8) (st' := [.ref t]) (show z_pt 30 7 = some (9, .aload_n 0, []) by decide +kernel) rfl (fun _ _ _ => rfl) ?_
      refine R_pure (pc := 8) (pc' := 9) (st' := [.int i1, .ref t]) (show z_pt 30 8 = some (9, .iload_n 1, []) by decide +kernel) rfl (fun _ _ _ => rfl) ?_
      obtain ⟨q2, e3, h⟩ := z_bs h
      refine R_call (pc := 9) (rr := []) (show z_pt 30 9 = some (9, .invokevirtual 54, [0, 23, 1, 3036, 3006, 3007, 1003, 3008]) by decide +kernel) rfl (show z_r2 23 = some (2, 2, true) by decide +kernel) rfl rfl (Or.inr ⟨_, _, rfl, (zTr_all ht).1⟩) (pT_hasGear_run ht e3) (by omega) ?_
      refine R_at2 (pc := 12) (st := [.int q2]) ?_
      refine R_ifne (pc := 12) (t := 17) (show z_pt 30 12 = some (9, .ifCond .ne 5, []) by decide +kernel) (by decide) (fun c4 => ?_) (fun c4 => ?_)
      · rw [if_neg c4] at h
        refine R_pure (pc := 17) (pc' := 18) (st' := [.ref t]) (show z_pt 30 17 = some (9, .aload_n 0, []) by decide +kernel) rfl (fun _ _ _ => rfl) ?_
        refine R_getR (pc := 18) (a := t) (b := (t + 2)) (show z_pt 30 18 = some (9, .getfield 15, [2, 4, 1060]) by decide +kernel) (zTr_all ht).2.2.2.2.2.1 ?_
        refine R_at (pc := 21) ?_
        refine R_pure (pc := 21) (pc' := 22) (st' := [.int i1, .ref (t + 2)]) (show z_pt 30 21 = some (9, .iload_n 1, []) by decide +kernel) rfl (fun _ _ _ => rfl) ?_
        refine R_pure (pc := 22) (pc' := 23) (st' := [.int i1, .ref (t + 2), .int i1, .ref (t + 2)]) (show z_pt 30 22 = some (9, .dup2, []) by decide +kernel) rfl (fun _ _ _ => rfl) ?_
        obtain ⟨v5, e6, h⟩ := z_bs h
        refine R_ialdR (pc := 23) (a := (t + 2)) (n := 10) (show z_pt 30 23 = some (9, .iaload, []) by decide +kernel) (zTr_all ht).2.2.2.2.2.2.2.2.2.2.2.1 e6 ?_
        refine R_at (pc := 24) ?_
        refine R_pure (pc := 24) (pc' := 25) (st' := [.int i2, .int v5, .int i1, .ref (t + 2)]) (show z_pt 30 24 = some (9, .iload_n 2, []) by decide +kernel) rfl (fun _ _ _ => rfl) ?_
        refine R_pure (pc := 25) (pc' := 26) (st' := [.int (v5 + i2), .int i1, .ref (t + 2)]) (show z_pt 30 25 = some (9, .iadd, []) by decide +kernel) rfl (fun _ _ _ => rfl) ?_
        obtain ⟨g7, h⟩ := z_ig h
        refine R_iast (pc := 26) (a := (t + 2)) (n := 10) (show z_pt 30 26 = some (9, .iastore, []) by decide +kernel) (zTr_all ht).2.2.2.2.2.2.2.2.2.2.2.1 g7 ?_
        refine R_at (pc := 27) ?_
        refine R_pure (pc := 27) (pc' := 28) (st' := [.ref t]) (show z_pt 30 27 = some (9, .aload_n 0, []) by decide +kernel) rfl (fun _ _ _ => rfl) ?_
        refine R_pure (pc := 28) (pc' := 29) (st' := [.ref t, .ref t]) (show z_pt 30 28 = some (9, .dup, []) by decide +kernel) rfl (fun _ _ _ => rfl) ?_
        refine R_getI (pc := 29) (a := t) (show z_pt 30 29 = some (9, .getfield 37, [2, 2, 1054]) by decide +kernel) (zTr_all ht).2.2.2.1 ?_
        refine R_at (pc := 32) ?_
        refine R_pure (pc := 32) (pc' := 33) (st' := [.int i2, .int ((z_u μ (t + 2) i1.toNatClampNeg (v5 + i2)) t 2), .ref t]) (show z_pt 30 32 = some (9, .iload_n 2, []) by decide +kernel) rfl (fun _ _ _ => rfl) ?_
        obtain ⟨q8, e9, h⟩ := z_bs h
        refine R_call (pc := 33) (rr := [.int ((z_u μ (t + 2) i1.toNatClampNeg (v5 + i2)) t 2), .ref t]) (show z_pt 30 33 = some (9, .invokestatic 58, [1, 158, 1, 3037, 3038, 0, 1008, 3039]) by decide +kernel) rfl (show z_r2 158 = some (12, 1, true) by decide +kernel) rfl rfl (Or.inl (by decide)) (pJ_abs_run  e9) (by omega) ?_
        refine R_at2 (pc := 36) (st := [.int q8, .int ((z_u μ (t + 2) i1.toNatClampNeg (v5 + i2)) t 2), .ref t]) ?_
        refine R_pure (pc := 36) (pc' := 37) (st' := [.int (((z_u μ (t + 2) i1.toNatClampNeg (v5 + i2)) t 2) + q8), .ref t]) (show z_pt 30 36 = some (9, .iadd, []) by decide +kernel) rfl (fun _ _ _ => rfl) ?_
        refine R_putI (pc := 37) (a := t) (show z_pt 30 37 = some (9, .putfield 37, [2, 2, 1054]) by decide +kernel) (zTr_all ht).2.2.2.1 ⟨rfl, rfl⟩ ?_
        refine R_at (pc := 40) ?_
        refine R_const (pc := 40) (pc' := 41) (v := 1) (show z_ptc 30 40 = some (41, 1) by decide +kernel) ?_
        refine R_pure (pc := 41) (pc' := 43) (ls' := [(0, .ref t), (1, .int i1), (2, .int i2), (3, .int i3), (4, .int i4), (5, .int 1)]) (st' := []) (show z_pt 30 41 = some (9, .istore 5, []) by decide +kernel) rfl (fun _ _ _ => rfl) ?_
        refine R_const (pc := 43) (pc' := 44) (v := 0) (show z_ptc 30 43 = some (44, 0) by decide +kernel) ?_
        refine R_pure (pc := 44) (pc' := 46) (ls' := [(0, .ref t), (1, .int i1), (2, .int i2), (3, .int i3), (4, .int i4), (5, .int 1), (6, .int 0)]) (st' := []) (show z_pt 30 44 = some (9, .istore 6, []) by decide +kernel) rfl (fun _ _ _ => rfl) ?_
        refine pT_turnOnwards_L46_run _ _ _ _ _ _ _ ht _ (by omega) (2 + nf) (by omega) (fun h => ih h) ?_ _ _ _ _ _ h
        intro M22 k20 k21 r h
        refine R_pure (pc := 115) (pc' := 117) (st' := [.int k20]) (show z_pt 30 115 = some (9, .iload 5, []) by decide +kernel) rfl (fun _ _ _ => rfl) ?_
        cases h
        exact R_retI (show z_pt 30 117 = some (9, .ireturn, []) by decide +kernel) (by decide +kernel)
      · rw [if_pos c4] at h
        refine R_const (pc := 15) (pc' := 16) (v := 0) (show z_ptc 30 15 = some (16, 0) by decide +kernel) ?_
        cases h
        exact R_retI (show z_pt 30 16 = some (9, .ireturn, []) by decide +kernel) (by decide +kernel)
def pT_turnGear (t : Nat) (μ : z_Mem) (i1 : Int32) (i2 : Int32) : Option (Int32 × z_Mem) := (pT_turnOnwards 12 t μ i1 i2 (-1) 0).bind fun q1 => some (q1.1, q1.2)
theorem pT_turnGear_run {t : Nat} {μ : z_Mem} {i1 : Int32} {i2 : Int32} (ht : zTr t = true) {r : (Int32 × z_Mem)} (h : pT_turnGear t μ i1 i2 = some r) : Rn 15 29 0 [(0, .ref t), (1, .int i1), (2, .int i2)] [] μ (.inl (some (.int r.1))) r.2 := by
  unfold pT_turnGear at h
  refine R_pure (pc := 0) (pc' := 1) (st' := [.ref t]) (show z_pt 29 0 = some (3, .aload_n 0, []) by decide +kernel) rfl (fun _ _ _ => rfl) ?_
  refine R_pure (pc := 1) (pc' := 2) (st' := [.int i1, .ref t]) (show z_pt 29 1 = some (3, .iload_n 1, []) by decide +kernel) rfl (fun _ _ _ => rfl) ?_
  refine R_pure (pc := 2) (pc' := 3) (st' := [.int i2, .int i1, .ref t]) (show z_pt 29 2 = some (3, .iload_n 2, []) by decide +kernel) rfl (fun _ _ _ => rfl) ?_
  refine R_const (pc := 3) (pc' := 4) (v := (-1)) (show z_ptc 29 3 = some (4, (-1)) by decide +kernel) ?_
  refine R_const (pc := 4) (pc' := 5) (v := 0) (show z_ptc 29 4 = some (5, 0) by decide +kernel) ?_
  obtain ⟨q1, e2, h⟩ := z_bs h
  refine R_call (pc := 5) (rr := []) (show z_pt 29 5 = some (3, .invokestatic 50, [1, 30, 5, 3033, 3034, 0, 1003, 3035]) by decide +kernel) rfl (show z_r2 30 = some (2, 9, true) by decide +kernel) rfl rfl (Or.inl (by decide)) (pT_turnOnwards_run ht e2) (by omega) ?_
  refine R_at2 (pc := 8) (st := [.int q1.1]) ?_
  cases h
  exact R_retI (show z_pt 29 8 = some (3, .ireturn, []) by decide +kernel) (by decide +kernel)
def pW_extendChain_L25_B (R : z_Mem → Int32 → Option (Int32 × z_Mem)) (F : z_Mem → Int32 → Int32 → Int32 → Int32 → Option (Int32 × z_Mem)) (f2 : Int32) (f3 : Int32) (f4 : Int32) (f5 : Int32) (K : z_Mem → Int32 → Option (Int32 × z_Mem)) (μ : z_Mem) (a6 : Int32) : Option (Int32 × z_Mem) := if (μ 2 1) ≤ a6 then K μ a6 else (pT_acrossFrom 2 μ f2 a6).bind fun q5 => if q5 = (-1) then R μ (a6 + 1) else if q5 = f4 then R μ (a6 + 1) else (F μ q5 f3 f2 (f5 + 1)).bind fun q9 => if q9.1 = (-1) then R q9.2 (a6 + 1) else some (q9.1, q9.2)
def pW_extendChain_L25 : Nat → (z_Mem → Int32 → Int32 → Int32 → Int32 → Option (Int32 × z_Mem)) → Int32 → Int32 → Int32 → Int32 → (z_Mem → Int32 → Option (Int32 × z_Mem)) → z_Mem → Int32 → Option (Int32 × z_Mem)
  | 0 => fun _ _ _ _ _ _ _ _ => none
  | n + 1 => fun F f2 f3 f4 f5 K μ a6 => pW_extendChain_L25_B (pW_extendChain_L25 n F f2 f3 f4 f5 K) F f2 f3 f4 f5 K μ a6
theorem pW_extendChain_L25_run (F : z_Mem → Int32 → Int32 → Int32 → Int32 → Option (Int32 × z_Mem)) (f2 : Int32) (f3 : Int32) (f4 : Int32) (f5 : Int32) (K : z_Mem → Int32 → Option (Int32 × z_Mem))  (D : Nat) (hD : 1 ≤ D) (D2 : Nat) (hD2 : D2 + 1 ≤ D) (hF : ∀ {μ : z_Mem} {i2 i3 i4 i5 : Int32} {r : (Int32 × z_Mem)}, F μ i2 i3 i4 i5 = some r → Rn D2 34 0 [(0, .ref 2), (1, .ref 31), (2, .int i2), (3, .int i3), (4, .int i4), (5, .int i5)] [] μ (.inl (some (.int r.1))) r.2) (hK : ∀ (μ : z_Mem) (a6 : Int32) (r : (Int32 × z_Mem)), K μ a6 = some r → Rn D 34 86 [(0, .ref 2), (1, .ref 31), (2, .int f2), (3, .int f3), (4, .int f4), (5, .int f5), (6, .int a6)] [] μ (.inl (some (.int r.1))) r.2) : ∀ (n : Nat) (μ : z_Mem) (a6 : Int32) (r : (Int32 × z_Mem)), pW_extendChain_L25 n F f2 f3 f4 f5 K μ a6 = some r → Rn D 34 25 [(0, .ref 2), (1, .ref 31), (2, .int f2), (3, .int f3), (4, .int f4), (5, .int f5), (6, .int a6)] [] μ (.inl (some (.int r.1))) r.2 := by
  intro n
  induction n with
  | zero => intro μ a6 r h; cases h
  | succ n ih =>
    intro μ a6 r h
    have h : pW_extendChain_L25_B (pW_extendChain_L25 n F f2 f3 f4 f5 K) F f2 f3 f4 f5 K μ a6 = some r := h
    unfold pW_extendChain_L25_B at h
    refine R_pure (pc := 25) (pc' := 27) (st' := [.int a6]) (show z_pt 34 25 = some (9, .iload 6, []) by decide +kernel) rfl (fun _ _ _ => rfl) ?_
    refine R_pure (pc := 27) (pc' := 28) (st' := [.ref 2, .int a6]) (show z_pt 34 27 = some (9, .aload_n 0, []) by decide +kernel) rfl (fun _ _ _ => rfl) ?_
    refine R_getI (pc := 28) (a := 2) (show z_pt 34 28 = some (9, .getfield 36, [2, 1, 1052]) by decide +kernel) (by decide +kernel) ?_
    refine R_at (pc := 31) ?_
    refine R_icmge (pc := 31) (t := 86) (show z_pt 34 31 = some (9, .if_icmp .ge 55, []) by decide +kernel) (by decide) (fun c4 => ?_) (fun c4 => ?_)
    · rw [if_pos c4] at h
      exact hK _ _  _ h
    · rw [if_neg c4] at h
      refine R_pure (pc := 34) (pc' := 35) (st' := [.ref 2]) (show z_pt 34 34 = some (9, .aload_n 0, []) by decide +kernel) rfl (fun _ _ _ => rfl) ?_
      refine R_pure (pc := 35) (pc' := 36) (st' := [.int f2, .ref 2]) (show z_pt 34 35 = some (9, .iload_n 2, []) by decide +kernel) rfl (fun _ _ _ => rfl) ?_
      refine R_pure (pc := 36) (pc' := 38) (st' := [.int a6, .int f2, .ref 2]) (show z_pt 34 36 = some (9, .iload 6, []) by decide +kernel) rfl (fun _ _ _ => rfl) ?_
      obtain ⟨q5, e6, h⟩ := z_bs h
      refine R_call (pc := 38) (rr := []) (show z_pt 34 38 = some (9, .invokevirtual 40, [0, 27, 2, 3081, 3014, 3015, 1003, 3016]) by decide +kernel) rfl (show z_r2 27 = some (2, 3, true) by decide +kernel) rfl rfl (Or.inr ⟨_, _, rfl, (by decide +kernel)⟩) (pT_acrossFrom_run (show zTr 2 = true by decide +kernel) e6) (by omega) ?_
      refine R_at2 (pc := 41) (st := [.int q5]) ?_
      refine R_pure (pc := 41) (pc' := 43) (ls' := [(0, .ref 2), (1, .ref 31), (2, .int f2), (3, .int f3), (4, .int f4), (5, .int f5), (6, .int a6), (7, .int q5)]) (st' := []) (show z_pt 34 41 = some (9, .istore 7, []) by decide +kernel) rfl (fun _ _ _ => rfl) ?_
      refine R_pure (pc := 43) (pc' := 45) (st' := [.int q5]) (show z_pt 34 43 = some (9, .iload 7, []) by decide +kernel) rfl (fun _ _ _ => rfl) ?_
      refine R_const (pc := 45) (pc' := 46) (v := (-1)) (show z_ptc 34 45 = some (46, (-1)) by decide +kernel) ?_
      refine R_icmeq (pc := 46) (t := 80) (show z_pt 34 46 = some (9, .if_icmp .eq 34, []) by decide +kernel) (by decide) (fun c7 => ?_) (fun c7 => ?_)
      · rw [if_pos c7] at h
        refine R_inc (pc := 80) (pc' := 83) (ls' := [(0, .ref 2), (1, .ref 31), (2, .int f2), (3, .int f3), (4, .int f4), (5, .int f5), (6, .int (a6 + 1)), (7, .int q5)]) (c := 1) (show z_pt 34 80 = some (9, .iinc 6 1, []) by decide +kernel) (by decide) rfl rfl ?_
        refine R_pure (pc := 83) (pc' := 25) (ls' := [(0, .ref 2), (1, .ref 31), (2, .int f2), (3, .int f3), (4, .int f4), (5, .int f5), (6, .int (a6 + 1))]) (st' := []) (show z_pt 34 83 = some (9, .goto (-58), [7]) by decide +kernel) rfl (fun _ _ _ => rfl) ?_
        exact ih _ _ _  h
      · rw [if_neg c7] at h
        refine R_pure (pc := 49) (pc' := 51) (st' := [.int q5]) (show z_pt 34 49 = some (9, .iload 7, []) by decide +kernel) rfl (fun _ _ _ => rfl) ?_
        refine R_pure (pc := 51) (pc' := 53) (st' := [.int f4, .int q5]) (show z_pt 34 51 = some (9, .iload 4, []) by decide +kernel) rfl (fun _ _ _ => rfl) ?_
        refine R_icmeq (pc := 53) (t := 80) (show z_pt 34 53 = some (9, .if_icmp .eq 27, []) by decide +kernel) (by decide) (fun c8 => ?_) (fun c8 => ?_)
        · rw [if_pos c8] at h
          refine R_inc (pc := 80) (pc' := 83) (ls' := [(0, .ref 2), (1, .ref 31), (2, .int f2), (3, .int f3), (4, .int f4), (5, .int f5), (6, .int (a6 + 1)), (7, .int q5)]) (c := 1) (show z_pt 34 80 = some (9, .iinc 6 1, []) by decide +kernel) (by decide) rfl rfl ?_
          refine R_pure (pc := 83) (pc' := 25) (ls' := [(0, .ref 2), (1, .ref 31), (2, .int f2), (3, .int f3), (4, .int f4), (5, .int f5), (6, .int (a6 + 1))]) (st' := []) (show z_pt 34 83 = some (9, .goto (-58), [7]) by decide +kernel) rfl (fun _ _ _ => rfl) ?_
          exact ih _ _ _  h
        · rw [if_neg c8] at h
          refine R_pure (pc := 56) (pc' := 57) (st' := [.ref 2]) (show z_pt 34 56 = some (9, .aload_n 0, []) by decide +kernel) rfl (fun _ _ _ => rfl) ?_
          refine R_pure (pc := 57) (pc' := 58) (st' := [.ref 31, .ref 2]) (show z_pt 34 57 = some (9, .aload_n 1, []) by decide +kernel) rfl (fun _ _ _ => rfl) ?_
          refine R_pure (pc := 58) (pc' := 60) (st' := [.int q5, .ref 31, .ref 2]) (show z_pt 34 58 = some (9, .iload 7, []) by decide +kernel) rfl (fun _ _ _ => rfl) ?_
          refine R_pure (pc := 60) (pc' := 61) (st' := [.int f3, .int q5, .ref 31, .ref 2]) (show z_pt 34 60 = some (9, .iload_n 3, []) by decide +kernel) rfl (fun _ _ _ => rfl) ?_
          refine R_pure (pc := 61) (pc' := 62) (st' := [.int f2, .int f3, .int q5, .ref 31, .ref 2]) (show z_pt 34 61 = some (9, .iload_n 2, []) by decide +kernel) rfl (fun _ _ _ => rfl) ?_
          refine R_pure (pc := 62) (pc' := 64) (st' := [.int f5, .int f2, .int f3, .int q5, .ref 31, .ref 2]) (show z_pt 34 62 = some (9, .iload 5, []) by decide +kernel) rfl (fun _ _ _ => rfl) ?_
          refine R_const (pc := 64) (pc' := 65) (v := 1) (show z_ptc 34 64 = some (65, 1) by decide +kernel) ?_
          refine R_pure (pc := 65) (pc' := 66) (st' := [.int (f5 + 1), .int f2, .int f3, .int q5, .ref 31, .ref 2]) (show z_pt 34 65 = some (9, .iadd, []) by decide +kernel) rfl (fun _ _ _ => rfl) ?_
          obtain ⟨q9, e10, h⟩ := z_bs h
          refine R_call (pc := 66) (rr := []) (show z_pt 34 66 = some (9, .invokestatic 32, [1, 34, 6, 3118, 3119, 0, 1009, 3120]) by decide +kernel) rfl (show z_r2 34 = some (3, 9, true) by decide +kernel) rfl rfl (Or.inl (by decide)) (hF e10) (by omega) ?_
          refine R_at2 (pc := 69) (st := [.int q9.1]) ?_
          refine R_pure (pc := 69) (pc' := 71) (ls' := [(0, .ref 2), (1, .ref 31), (2, .int f2), (3, .int f3), (4, .int f4), (5, .int f5), (6, .int a6), (7, .int q5), (8, .int q9.1)]) (st' := []) (show z_pt 34 69 = some (9, .istore 8, []) by decide +kernel) rfl (fun _ _ _ => rfl) ?_
          refine R_pure (pc := 71) (pc' := 73) (st' := [.int q9.1]) (show z_pt 34 71 = some (9, .iload 8, []) by decide +kernel) rfl (fun _ _ _ => rfl) ?_
          refine R_const (pc := 73) (pc' := 74) (v := (-1)) (show z_ptc 34 73 = some (74, (-1)) by decide +kernel) ?_
          refine R_icmeq (pc := 74) (t := 80) (show z_pt 34 74 = some (9, .if_icmp .eq 6, []) by decide +kernel) (by decide) (fun c11 => ?_) (fun c11 => ?_)
          · rw [if_pos c11] at h
            refine R_inc (pc := 80) (pc' := 83) (ls' := [(0, .ref 2), (1, .ref 31), (2, .int f2), (3, .int f3), (4, .int f4), (5, .int f5), (6, .int (a6 + 1)), (7, .int q5), (8, .int q9.1)]) (c := 1) (show z_pt 34 80 = some (9, .iinc 6 1, []) by decide +kernel) (by decide) rfl rfl ?_
            refine R_pure (pc := 83) (pc' := 25) (ls' := [(0, .ref 2), (1, .ref 31), (2, .int f2), (3, .int f3), (4, .int f4), (5, .int f5), (6, .int (a6 + 1))]) (st' := []) (show z_pt 34 83 = some (9, .goto (-58), [7]) by decide +kernel) rfl (fun _ _ _ => rfl) ?_
            exact ih _ _ _  h
          · rw [if_neg c11] at h
            refine R_pure (pc := 77) (pc' := 79) (st' := [.int q9.1]) (show z_pt 34 77 = some (9, .iload 8, []) by decide +kernel) rfl (fun _ _ _ => rfl) ?_
            cases h
            exact R_retI (show z_pt 34 79 = some (9, .ireturn, []) by decide +kernel) (by decide +kernel)
def pW_extendChain_B (F : z_Mem → Int32 → Int32 → Int32 → Int32 → Option (Int32 × z_Mem))  (μ : z_Mem) (i2 : Int32) (i3 : Int32) (i4 : Int32) (i5 : Int32) : Option (Int32 × z_Mem) := if i5 < (Int32.ofNat 10) then if z_inb i5 10 = true then if i2 = i3 then some (i5, (z_u μ 31 i5.toNatClampNeg i2)) else pW_extendChain_L25 z_fu F i2 i3 i4 i5 (fun M13 k12 => some ((-1), M13)) (z_u μ 31 i5.toNatClampNeg i2) 0 else none else some ((-1), μ)
def pW_extendChain : Nat → z_Mem → Int32 → Int32 → Int32 → Int32 → Option (Int32 × z_Mem)
  | 0 => fun  _ _ _ _ _ => none
  | nf + 1 => fun  μ i2 i3 i4 i5 => pW_extendChain_B (fun μ i2 i3 i4 i5 => pW_extendChain nf  μ i2 i3 i4 i5)  μ i2 i3 i4 i5
theorem pW_extendChain_run   : ∀ {nf : Nat} {μ : z_Mem} {i2 i3 i4 i5 : Int32} {r : (Int32 × z_Mem)}, pW_extendChain nf  μ i2 i3 i4 i5 = some r → Rn (1 + nf) 34 0 [(0, .ref 2), (1, .ref 31), (2, .int i2), (3, .int i3), (4, .int i4), (5, .int i5)] [] μ (.inl (some (.int r.1))) r.2 := by
  intro nf
  induction nf with
  | zero => intro μ i2 i3 i4 i5 r h; cases h
  | succ nf ih =>
    intro μ i2 i3 i4 i5 r h
    have h : pW_extendChain_B (fun μ i2 i3 i4 i5 => pW_extendChain nf  μ i2 i3 i4 i5)  μ i2 i3 i4 i5 = some r := h
    unfold pW_extendChain_B at h
    refine R_pure (pc := 0) (pc' := 2) (st' := [.int i5]) (show z_pt 34 0 = some (9, .iload 5, []) by decide +kernel) rfl (fun _ _ _ => rfl) ?_
    refine R_pure (pc := 2) (pc' := 3) (st' := [.ref 31, .int i5]) (show z_pt 34 2 = some (9, .aload_n 1, []) by decide +kernel) rfl (fun _ _ _ => rfl) ?_
    refine R_len (pc := 3) (a := 31) (n := 10) (show z_pt 34 3 = some (9, .arraylength, []) by decide +kernel) (show z_ar 31 0 10 = true by decide +kernel) rfl ?_
    refine R_at (pc := 4) ?_
    refine R_icmlt (pc := 4) (t := 9) (show z_pt 34 4 = some (9, .if_icmp .lt 5, []) by decide +kernel) (by decide) (fun c1 => ?_) (fun c1 => ?_)
    · rw [if_pos c1] at h
      refine R_pure (pc := 9) (pc' := 10) (st' := [.ref 31]) (show z_pt 34 9 = some (9, .aload_n 1, []) by decide +kernel) rfl (fun _ _ _ => rfl) ?_
      refine R_pure (pc := 10) (pc' := 12) (st' := [.int i5, .ref 31]) (show z_pt 34 10 = some (9, .iload 5, []) by decide +kernel) rfl (fun _ _ _ => rfl) ?_
      refine R_pure (pc := 12) (pc' := 13) (st' := [.int i2, .int i5, .ref 31]) (show z_pt 34 12 = some (9, .iload_n 2, []) by decide +kernel) rfl (fun _ _ _ => rfl) ?_
      obtain ⟨g2, h⟩ := z_ig h
      refine R_iast (pc := 13) (a := 31) (n := 10) (show z_pt 34 13 = some (9, .iastore, []) by decide +kernel) (show z_ar 31 0 10 = true by decide +kernel) g2 ?_
      refine R_at (pc := 14) ?_
      refine R_pure (pc := 14) (pc' := 15) (st' := [.int i2]) (show z_pt 34 14 = some (9, .iload_n 2, []) by decide +kernel) rfl (fun _ _ _ => rfl) ?_
      refine R_pure (pc := 15) (pc' := 16) (st' := [.int i3, .int i2]) (show z_pt 34 15 = some (9, .iload_n 3, []) by decide +kernel) rfl (fun _ _ _ => rfl) ?_
      refine R_icmne (pc := 16) (t := 22) (show z_pt 34 16 = some (9, .if_icmp .ne 6, []) by decide +kernel) (by decide) (fun c3 => ?_) (fun c3 => ?_)
      · rw [if_neg c3] at h
        refine R_const (pc := 22) (pc' := 23) (v := 0) (show z_ptc 34 22 = some (23, 0) by decide +kernel) ?_
        refine R_pure (pc := 23) (pc' := 25) (ls' := [(0, .ref 2), (1, .ref 31), (2, .int i2), (3, .int i3), (4, .int i4), (5, .int i5), (6, .int 0)]) (st' := []) (show z_pt 34 23 = some (9, .istore 6, []) by decide +kernel) rfl (fun _ _ _ => rfl) ?_
        refine pW_extendChain_L25_run _ _ _ _ _ _  _ (by omega) (1 + nf) (by omega) (fun h => ih h) ?_ _ _ _ _ h
        intro M13 k12 r h
        refine R_const (pc := 86) (pc' := 87) (v := (-1)) (show z_ptc 34 86 = some (87, (-1)) by decide +kernel) ?_
        cases h
        exact R_retI (show z_pt 34 87 = some (9, .ireturn, []) by decide +kernel) (by decide +kernel)
      · rw [if_pos c3] at h
        refine R_pure (pc := 19) (pc' := 21) (st' := [.int i5]) (show z_pt 34 19 = some (9, .iload 5, []) by decide +kernel) rfl (fun _ _ _ => rfl) ?_
        cases h
        exact R_retI (show z_pt 34 21 = some (9, .ireturn, []) by decide +kernel) (by decide +kernel)
    · rw [if_neg c1] at h
      refine R_const (pc := 7) (pc' := 8) (v := (-1)) (show z_ptc 34 7 = some (8, (-1)) by decide +kernel) ?_
      cases h
      exact R_retI (show z_pt 34 8 = some (9, .ireturn, []) by decide +kernel) (by decide +kernel)
def pW_chainLength  (μ : z_Mem) (i1 : Int32) (i2 : Int32) : Option (Int32 × z_Mem) := (pW_extendChain 12 μ i1 i2 (-1) 0).bind fun q1 => some (q1.1, q1.2)
theorem pW_chainLength_run  {μ : z_Mem} {i1 : Int32} {i2 : Int32}  {r : (Int32 × z_Mem)} (h : pW_chainLength μ i1 i2 = some r) : Rn 14 33 0 [(0, .ref 23), (1, .int i1), (2, .int i2)] [] μ (.inl (some (.int r.1))) r.2 := by
  unfold pW_chainLength at h
  refine R_pure (pc := 0) (pc' := 1) (st' := [.ref 23]) (show z_pt 33 0 = some (3, .aload_n 0, []) by decide +kernel) rfl (fun _ _ _ => rfl) ?_
  refine R_getR (pc := 1) (a := 23) (b := 2) (show z_pt 33 1 = some (3, .getfield 29, [3, 0, 1216]) by decide +kernel) (by decide +kernel) ?_
  refine R_at (pc := 4) ?_
  refine R_pure (pc := 4) (pc' := 5) (st' := [.ref 23, .ref 2]) (show z_pt 33 4 = some (3, .aload_n 0, []) by decide +kernel) rfl (fun _ _ _ => rfl) ?_
  refine R_getR (pc := 5) (a := 23) (b := 31) (show z_pt 33 5 = some (3, .getfield 18, [3, 2, 1218]) by decide +kernel) (by decide +kernel) ?_
  refine R_at (pc := 8) ?_
  refine R_pure (pc := 8) (pc' := 9) (st' := [.int i1, .ref 31, .ref 2]) (show z_pt 33 8 = some (3, .iload_n 1, []) by decide +kernel) rfl (fun _ _ _ => rfl) ?_
  refine R_pure (pc := 9) (pc' := 10) (st' := [.int i2, .int i1, .ref 31, .ref 2]) (show z_pt 33 9 = some (3, .iload_n 2, []) by decide +kernel) rfl (fun _ _ _ => rfl) ?_
  refine R_const (pc := 10) (pc' := 11) (v := (-1)) (show z_ptc 33 10 = some (11, (-1)) by decide +kernel) ?_
  refine R_const (pc := 11) (pc' := 12) (v := 0) (show z_ptc 33 11 = some (12, 0) by decide +kernel) ?_
  obtain ⟨q1, e2, h⟩ := z_bs h
  refine R_call (pc := 12) (rr := []) (show z_pt 33 12 = some (3, .invokestatic 32, [1, 34, 6, 3118, 3119, 0, 1009, 3120]) by decide +kernel) rfl (show z_r2 34 = some (3, 9, true) by decide +kernel) rfl rfl (Or.inl (by decide)) (pW_extendChain_run  e2) (by omega) ?_
  refine R_at2 (pc := 15) (st := [.int q1.1]) ?_
  cases h
  exact R_retI (show z_pt 33 15 = some (3, .ireturn, []) by decide +kernel) (by decide +kernel)
def pW_forgetSeen_L2_B (R : z_Mem → Int32 → Option z_Mem)   (K : z_Mem → Int32 → Option z_Mem) (μ : z_Mem) (a1 : Int32) : Option z_Mem := if 10 ≤ a1 then K μ a1 else if z_inb a1 10 = true then R (z_u μ 33 a1.toNatClampNeg (vp_nar .boolean 0)) (a1 + 1) else none
def pW_forgetSeen_L2 : Nat → (z_Mem → Int32 → Option z_Mem) → z_Mem → Int32 → Option z_Mem
  | 0 => fun _ _ _ => none
  | n + 1 => fun K μ a1 => pW_forgetSeen_L2_B (pW_forgetSeen_L2 n K) K μ a1
theorem pW_forgetSeen_L2_run   (K : z_Mem → Int32 → Option z_Mem)  (D : Nat) (hD : 0 ≤ D) (hK : ∀ (μ : z_Mem) (a1 : Int32) (r : z_Mem), K μ a1 = some r → Rn D 37 21 [(0, .ref 23), (1, .int a1)] [] μ (.inl none) r) : ∀ (n : Nat) (μ : z_Mem) (a1 : Int32) (r : z_Mem), pW_forgetSeen_L2 n K μ a1 = some r → Rn D 37 2 [(0, .ref 23), (1, .int a1)] [] μ (.inl none) r := by
  intro n
  induction n with
  | zero => intro μ a1 r h; cases h
  | succ n ih =>
    intro μ a1 r h
    have h : pW_forgetSeen_L2_B (pW_forgetSeen_L2 n K) K μ a1 = some r := h
    unfold pW_forgetSeen_L2_B at h
    refine R_pure (pc := 2) (pc' := 3) (st' := [.int a1]) (show z_pt 37 2 = some (2, .iload_n 1, []) by decide +kernel) rfl (fun _ _ _ => rfl) ?_
    refine R_const (pc := 3) (pc' := 5) (v := 10) (show z_ptc 37 3 = some (5, 10) by decide +kernel) ?_
    refine R_icmge (pc := 5) (t := 21) (show z_pt 37 5 = some (2, .if_icmp .ge 16, []) by decide +kernel) (by decide) (fun c1 => ?_) (fun c1 => ?_)
    · rw [if_pos c1] at h
      exact hK _ _  _ h
    · rw [if_neg c1] at h
      refine R_pure (pc := 8) (pc' := 9) (st' := [.ref 23]) (show z_pt 37 8 = some (2, .aload_n 0, []) by decide +kernel) rfl (fun _ _ _ => rfl) ?_
      refine R_getR (pc := 9) (a := 23) (b := 33) (show z_pt 37 9 = some (2, .getfield 25, [3, 4, 1220]) by decide +kernel) (by decide +kernel) ?_
      refine R_at (pc := 12) ?_
      refine R_pure (pc := 12) (pc' := 13) (st' := [.int a1, .ref 33]) (show z_pt 37 12 = some (2, .iload_n 1, []) by decide +kernel) rfl (fun _ _ _ => rfl) ?_
      refine R_const (pc := 13) (pc' := 14) (v := 0) (show z_ptc 37 13 = some (14, 0) by decide +kernel) ?_
      obtain ⟨g2, h⟩ := z_ig h
      refine R_bast (pc := 14) (a := 33) (n := 10) (show z_pt 37 14 = some (2, .bastore, []) by decide +kernel) (show z_ar 33 2 10 = true by decide +kernel) g2 ?_
      refine R_at (pc := 15) ?_
      refine R_inc (pc := 15) (pc' := 18) (ls' := [(0, .ref 23), (1, .int (a1 + 1))]) (c := 1) (show z_pt 37 15 = some (2, .iinc 1 1, []) by decide +kernel) (by decide) rfl rfl ?_
      refine R_pure (pc := 18) (pc' := 2) (ls' := [(0, .ref 23), (1, .int (a1 + 1))]) (st' := []) (show z_pt 37 18 = some (2, .goto (-16), [2]) by decide +kernel) rfl (fun _ _ _ => rfl) ?_
      exact ih _ _ _  h
def pW_forgetSeen  (μ : z_Mem)  : Option z_Mem := pW_forgetSeen_L2 z_fu (fun M4 k3 => some M4) μ 0
theorem pW_forgetSeen_run  {μ : z_Mem}   {r : z_Mem} (h : pW_forgetSeen μ = some r) : Rn 0 37 0 [(0, .ref 23)] [] μ (.inl none) r := by
  unfold pW_forgetSeen at h
  refine R_const (pc := 0) (pc' := 1) (v := 0) (show z_ptc 37 0 = some (1, 0) by decide +kernel) ?_
  refine R_pure (pc := 1) (pc' := 2) (ls' := [(0, .ref 23), (1, .int 0)]) (st' := []) (show z_pt 37 1 = some (2, .istore_n 1, []) by decide +kernel) rfl (fun _ _ _ => rfl) ?_
  refine pW_forgetSeen_L2_run   _  _ (by omega) ?_ _ _ _ _ h
  intro M4 k3 r h
  cases h
  exact R_retV (show z_pt 37 21 = some (2, .return_, []) by decide +kernel) (by decide +kernel)
def pW_walkFrom_L32_B (R : z_Mem → Int32 → Int32 → Option (Int32 × z_Mem)) (F : z_Mem → Int32 → Int32 → Option (Int32 × z_Mem)) (f2 : Int32) (f3 : Int32) (K : z_Mem → Int32 → Int32 → Option (Int32 × z_Mem)) (μ : z_Mem) (a4 : Int32) (a5 : Int32) : Option (Int32 × z_Mem) := if (μ 2 1) ≤ a5 then K μ a4 a5 else (pT_acrossFrom 2 μ f2 a5).bind fun q10 => if q10 = (-1) then R μ a4 (a5 + 1) else (F μ q10 (f3 + 1)).bind fun q13 => R q13.2 (a4 + q13.1) (a5 + 1)
def pW_walkFrom_L32 : Nat → (z_Mem → Int32 → Int32 → Option (Int32 × z_Mem)) → Int32 → Int32 → (z_Mem → Int32 → Int32 → Option (Int32 × z_Mem)) → z_Mem → Int32 → Int32 → Option (Int32 × z_Mem)
  | 0 => fun _ _ _ _ _ _ _ => none
  | n + 1 => fun F f2 f3 K μ a4 a5 => pW_walkFrom_L32_B (pW_walkFrom_L32 n F f2 f3 K) F f2 f3 K μ a4 a5
theorem pW_walkFrom_L32_run (F : z_Mem → Int32 → Int32 → Option (Int32 × z_Mem)) (f2 : Int32) (f3 : Int32) (K : z_Mem → Int32 → Int32 → Option (Int32 × z_Mem))  (D : Nat) (hD : 1 ≤ D) (D2 : Nat) (hD2 : D2 + 1 ≤ D) (hF : ∀ {μ : z_Mem} {i2 i3 : Int32} {r : (Int32 × z_Mem)}, F μ i2 i3 = some r → Rn D2 38 0 [(0, .ref 2), (1, .ref 33), (2, .int i2), (3, .int i3)] [] μ (.inl (some (.int r.1))) r.2) (hK : ∀ (μ : z_Mem) (a4 a5 : Int32) (r : (Int32 × z_Mem)), K μ a4 a5 = some r → Rn D 38 77 [(0, .ref 2), (1, .ref 33), (2, .int f2), (3, .int f3), (4, .int a4), (5, .int a5)] [] μ (.inl (some (.int r.1))) r.2) : ∀ (n : Nat) (μ : z_Mem) (a4 : Int32) (a5 : Int32) (r : (Int32 × z_Mem)), pW_walkFrom_L32 n F f2 f3 K μ a4 a5 = some r → Rn D 38 32 [(0, .ref 2), (1, .ref 33), (2, .int f2), (3, .int f3), (4, .int a4), (5, .int a5)] [] μ (.inl (some (.int r.1))) r.2 := by
  intro n
  induction n with
  | zero => intro μ a4 a5 r h; cases h
  | succ n ih =>
    intro μ a4 a5 r h
    have h : pW_walkFrom_L32_B (pW_walkFrom_L32 n F f2 f3 K) F f2 f3 K μ a4 a5 = some r := h
    unfold pW_walkFrom_L32_B at h
    refine R_pure (pc := 32) (pc' := 34) (st' := [.int a5]) (show z_pt 38 32 = some (7, .iload 5, []) by decide +kernel) rfl (fun _ _ _ => rfl) ?_
    refine R_pure (pc := 34) (pc' := 35) (st' := [.ref 2, .int a5]) (show z_pt 38 34 = some (7, .aload_n 0, []) by decide +kernel) rfl (fun _ _ _ => rfl) ?_
    refine R_getI (pc := 35) (a := 2) (show z_pt 38 35 = some (7, .getfield 36, [2, 1, 1052]) by decide +kernel) (by decide +kernel) ?_
    refine R_at (pc := 38) ?_
    refine R_icmge (pc := 38) (t := 77) (show z_pt 38 38 = some (7, .if_icmp .ge 39, []) by decide +kernel) (by decide) (fun c9 => ?_) (fun c9 => ?_)
    · rw [if_pos c9] at h
      exact hK _ _ _  _ h
    · rw [if_neg c9] at h
      refine R_pure (pc := 41) (pc' := 42) (st' := [.ref 2]) (show z_pt 38 41 = some (7, .aload_n 0, []) by decide +kernel) rfl (fun _ _ _ => rfl) ?_
      refine R_pure (pc := 42) (pc' := 43) (st' := [.int f2, .ref 2]) (show z_pt 38 42 = some (7, .iload_n 2, []) by decide +kernel) rfl (fun _ _ _ => rfl) ?_
      refine R_pure (pc := 43) (pc' := 45) (st' := [.int a5, .int f2, .ref 2]) (show z_pt 38 43 = some (7, .iload 5, []) by decide +kernel) rfl (fun _ _ _ => rfl) ?_
      obtain ⟨q10, e11, h⟩ := z_bs h
      refine R_call (pc := 45) (rr := []) (show z_pt 38 45 = some (7, .invokevirtual 40, [0, 27, 2, 3081, 3014, 3015, 1003, 3016]) by decide +kernel) rfl (show z_r2 27 = some (2, 3, true) by decide +kernel) rfl rfl (Or.inr ⟨_, _, rfl, (by decide +kernel)⟩) (pT_acrossFrom_run (show zTr 2 = true by decide +kernel) e11) (by omega) ?_
      refine R_at2 (pc := 48) (st := [.int q10]) ?_
      refine R_pure (pc := 48) (pc' := 50) (ls' := [(0, .ref 2), (1, .ref 33), (2, .int f2), (3, .int f3), (4, .int a4), (5, .int a5), (6, .int q10)]) (st' := []) (show z_pt 38 48 = some (7, .istore 6, []) by decide +kernel) rfl (fun _ _ _ => rfl) ?_
      refine R_pure (pc := 50) (pc' := 52) (st' := [.int q10]) (show z_pt 38 50 = some (7, .iload 6, []) by decide +kernel) rfl (fun _ _ _ => rfl) ?_
      refine R_const (pc := 52) (pc' := 53) (v := (-1)) (show z_ptc 38 52 = some (53, (-1)) by decide +kernel) ?_
      refine R_icmeq (pc := 53) (t := 71) (show z_pt 38 53 = some (7, .if_icmp .eq 18, []) by decide +kernel) (by decide) (fun c12 => ?_) (fun c12 => ?_)
      · rw [if_pos c12] at h
        refine R_inc (pc := 71) (pc' := 74) (ls' := [(0, .ref 2), (1, .ref 33), (2, .int f2), (3, .int f3), (4, .int a4), (5, .int (a5 + 1)), (6, .int q10)]) (c := 1) (show z_pt 38 71 = some (7, .iinc 5 1, []) by decide +kernel) (by decide) rfl rfl ?_
        refine R_pure (pc := 74) (pc' := 32) (ls' := [(0, .ref 2), (1, .ref 33), (2, .int f2), (3, .int f3), (4, .int a4), (5, .int (a5 + 1))]) (st' := []) (show z_pt 38 74 = some (7, .goto (-42), [6]) by decide +kernel) rfl (fun _ _ _ => rfl) ?_
        exact ih _ _ _ _  h
      · rw [if_neg c12] at h
        refine R_pure (pc := 56) (pc' := 58) (st' := [.int a4]) (show z_pt 38 56 = some (7, .iload 4, []) by decide +kernel) rfl (fun _ _ _ => rfl) ?_
        refine R_pure (pc := 58) (pc' := 59) (st' := [.ref 2, .int a4]) (show z_pt 38 58 = some (7, .aload_n 0, []) by decide +kernel) rfl (fun _ _ _ => rfl) ?_
        refine R_pure (pc := 59) (pc' := 60) (st' := [.ref 33, .ref 2, .int a4]) (show z_pt 38 59 = some (7, .aload_n 1, []) by decide +kernel) rfl (fun _ _ _ => rfl) ?_
        refine R_pure (pc := 60) (pc' := 62) (st' := [.int q10, .ref 33, .ref 2, .int a4]) (show z_pt 38 60 = some (7, .iload 6, []) by decide +kernel) rfl (fun _ _ _ => rfl) ?_
        refine R_pure (pc := 62) (pc' := 63) (st' := [.int f3, .int q10, .ref 33, .ref 2, .int a4]) (show z_pt 38 62 = some (7, .iload_n 3, []) by decide +kernel) rfl (fun _ _ _ => rfl) ?_
        refine R_const (pc := 63) (pc' := 64) (v := 1) (show z_ptc 38 63 = some (64, 1) by decide +kernel) ?_
        refine R_pure (pc := 64) (pc' := 65) (st' := [.int (f3 + 1), .int q10, .ref 33, .ref 2, .int a4]) (show z_pt 38 64 = some (7, .iadd, []) by decide +kernel) rfl (fun _ _ _ => rfl) ?_
        obtain ⟨q13, e14, h⟩ := z_bs h
        refine R_call (pc := 65) (rr := [.int a4]) (show z_pt 38 65 = some (7, .invokestatic 47, [1, 38, 4, 3077, 3078, 0, 1009, 3079]) by decide +kernel) rfl (show z_r2 38 = some (3, 7, true) by decide +kernel) rfl rfl (Or.inl (by decide)) (hF e14) (by omega) ?_
        refine R_at2 (pc := 68) (st := [.int q13.1, .int a4]) ?_
        refine R_pure (pc := 68) (pc' := 69) (st' := [.int (a4 + q13.1)]) (show z_pt 38 68 = some (7, .iadd, []) by decide +kernel) rfl (fun _ _ _ => rfl) ?_
        refine R_pure (pc := 69) (pc' := 71) (ls' := [(0, .ref 2), (1, .ref 33), (2, .int f2), (3, .int f3), (4, .int (a4 + q13.1)), (5, .int a5), (6, .int q10)]) (st' := []) (show z_pt 38 69 = some (7, .istore 4, []) by decide +kernel) rfl (fun _ _ _ => rfl) ?_
        refine R_inc (pc := 71) (pc' := 74) (ls' := [(0, .ref 2), (1, .ref 33), (2, .int f2), (3, .int f3), (4, .int (a4 + q13.1)), (5, .int (a5 + 1)), (6, .int q10)]) (c := 1) (show z_pt 38 71 = some (7, .iinc 5 1, []) by decide +kernel) (by decide) rfl rfl ?_
        refine R_pure (pc := 74) (pc' := 32) (ls' := [(0, .ref 2), (1, .ref 33), (2, .int f2), (3, .int f3), (4, .int (a4 + q13.1)), (5, .int (a5 + 1))]) (st' := []) (show z_pt 38 74 = some (7, .goto (-42), [6]) by decide +kernel) rfl (fun _ _ _ => rfl) ?_
        exact ih _ _ _ _  h
def pW_walkFrom_B (F : z_Mem → Int32 → Int32 → Option (Int32 × z_Mem))  (μ : z_Mem) (i2 : Int32) (i3 : Int32) : Option (Int32 × z_Mem) := if 10 ≤ i3 then some (0, μ) else (pT_hasGear 2 μ i2).bind fun q2 => if q2 = 0 then some (0, μ) else (z_rd μ 33 10 i2).bind fun v5 => if v5 = 0 then if z_inb i2 10 = true then pW_walkFrom_L32 z_fu F i2 i3 (fun M17 k15 k16 => some (k15, M17)) (z_u μ 33 i2.toNatClampNeg (vp_nar .boolean 1)) 1 0 else none else some (0, μ)
def pW_walkFrom : Nat → z_Mem → Int32 → Int32 → Option (Int32 × z_Mem)
  | 0 => fun  _ _ _ => none
  | nf + 1 => fun  μ i2 i3 => pW_walkFrom_B (fun μ i2 i3 => pW_walkFrom nf  μ i2 i3)  μ i2 i3
theorem pW_walkFrom_run   : ∀ {nf : Nat} {μ : z_Mem} {i2 i3 : Int32} {r : (Int32 × z_Mem)}, pW_walkFrom nf  μ i2 i3 = some r → Rn (1 + nf) 38 0 [(0, .ref 2), (1, .ref 33), (2, .int i2), (3, .int i3)] [] μ (.inl (some (.int r.1))) r.2 := by
  intro nf
  induction nf with
  | zero => intro μ i2 i3 r h; cases h
  | succ nf ih =>
    intro μ i2 i3 r h
    have h : pW_walkFrom_B (fun μ i2 i3 => pW_walkFrom nf  μ i2 i3)  μ i2 i3 = some r := h
    unfold pW_walkFrom_B at h
    refine R_pure (pc := 0) (pc' := 1) (st' := [.int i3]) (show z_pt 38 0 = some (7, .iload_n 3, []) by decide +kernel) rfl (fun _ _ _ => rfl) ?_
    refine R_const (pc := 1) (pc' := 3) (v := 10) (show z_ptc 38 1 = some (3, 10) by decide +kernel) ?_
    refine R_icmge (pc := 3) (t := 20) (show z_pt 38 3 = some (7, .if_icmp .ge 17, []) by decide +kernel) (by decide) (fun c1 => ?_) (fun c1 => ?_)
    · rw [if_pos c1] at h
      refine R_const (pc := 20) (pc' := 21) (v := 0) (show z_ptc 38 20 = some (21, 0) by decide +kernel) ?_
      cases h
      exact R_retI (show z_pt 38 21 = some (7, .ireturn, []) by decide +kernel) (by decide +kernel)
    · rw [if_neg c1] at h
      refine R_pure (pc := 6) (pc' := 7) (st' := [.ref 2]) (show z_pt 38 6 = some (7, .aload_n 0, []) by decide +kernel) rfl (fun _ _ _ => rfl) ?_
      refine R_pure (pc := 7) (pc' := 8) (st' := [.int i2, .ref 2]) (show z_pt 38 7 = some (7, .iload_n 2, []) by decide +kernel) rfl (fun _ _ _ => rfl) ?_
      obtain ⟨q2, e3, h⟩ := z_bs h
      refine R_call (pc := 8) (rr := []) (show z_pt 38 8 = some (7, .invokevirtual 54, [0, 23, 1, 3080, 3006, 3007, 1003, 3008]) by decide +kernel) rfl (show z_r2 23 = some (2, 2, true) by decide +kernel) rfl rfl (Or.inr ⟨_, _, rfl, (by decide +kernel)⟩) (pT_hasGear_run (show zTr 2 = true by decide +kernel) e3) (by omega) ?_
      refine R_at2 (pc := 11) (st := [.int q2]) ?_
      refine R_ifeq (pc := 11) (t := 20) (show z_pt 38 11 = some (7, .ifCond .eq 9, []) by decide +kernel) (by decide) (fun c4 => ?_) (fun c4 => ?_)
      · rw [if_pos c4] at h
        refine R_const (pc := 20) (pc' := 21) (v := 0) (show z_ptc 38 20 = some (21, 0) by decide +kernel) ?_
        cases h
        exact R_retI (show z_pt 38 21 = some (7, .ireturn, []) by decide +kernel) (by decide +kernel)
      · rw [if_neg c4] at h
        refine R_pure (pc := 14) (pc' := 15) (st' := [.ref 33]) (show z_pt 38 14 = some (7, .aload_n 1, []) by decide +kernel) rfl (fun _ _ _ => rfl) ?_
        refine R_pure (pc := 15) (pc' := 16) (st' := [.int i2, .ref 33]) (show z_pt 38 15 = some (7, .iload_n 2, []) by decide +kernel) rfl (fun _ _ _ => rfl) ?_
        obtain ⟨v5, e6, h⟩ := z_bs h
        refine R_baldR (pc := 16) (a := 33) (n := 10) (show z_pt 38 16 = some (7, .baload, []) by decide +kernel) (show z_ar 33 2 10 = true by decide +kernel) e6 ?_
        refine R_at (pc := 17) ?_
        refine R_ifeq (pc := 17) (t := 22) (show z_pt 38 17 = some (7, .ifCond .eq 5, []) by decide +kernel) (by decide) (fun c7 => ?_) (fun c7 => ?_)
        · rw [if_pos c7] at h
          refine R_pure (pc := 22) (pc' := 23) (st' := [.ref 33]) (show z_pt 38 22 = some (7, .aload_n 1, []) by decide +kernel) rfl (fun _ _ _ => rfl) ?_
          refine R_pure (pc := 23) (pc' := 24) (st' := [.int i2, .ref 33]) (show z_pt 38 23 = some (7, .iload_n 2, []) by decide +kernel) rfl (fun _ _ _ => rfl) ?_
          refine R_const (pc := 24) (pc' := 25) (v := 1) (show z_ptc 38 24 = some (25, 1) by decide +kernel) ?_
          obtain ⟨g8, h⟩ := z_ig h
          refine R_bast (pc := 25) (a := 33) (n := 10) (show z_pt 38 25 = some (7, .bastore, []) by decide +kernel) (show z_ar 33 2 10 = true by decide +kernel) g8 ?_
          refine R_at (pc := 26) ?_
          refine R_const (pc := 26) (pc' := 27) (v := 1) (show z_ptc 38 26 = some (27, 1) by decide +kernel) ?_
          refine R_pure (pc := 27) (pc' := 29) (ls' := [(0, .ref 2), (1, .ref 33), (2, .int i2), (3, .int i3), (4, .int 1)]) (st' := []) (show z_pt 38 27 = some (7, .istore 4, []) by decide +kernel) rfl (fun _ _ _ => rfl) ?_
          refine R_const (pc := 29) (pc' := 30) (v := 0) (show z_ptc 38 29 = some (30, 0) by decide +kernel) ?_
          refine R_pure (pc := 30) (pc' := 32) (ls' := [(0, .ref 2), (1, .ref 33), (2, .int i2), (3, .int i3), (4, .int 1), (5, .int 0)]) (st' := []) (show z_pt 38 30 = some (7, .istore 5, []) by decide +kernel) rfl (fun _ _ _ => rfl) ?_
          refine pW_walkFrom_L32_run _ _ _ _  _ (by omega) (1 + nf) (by omega) (fun h => ih h) ?_ _ _ _ _ _ h
          intro M17 k15 k16 r h
          refine R_pure (pc := 77) (pc' := 79) (st' := [.int k15]) (show z_pt 38 77 = some (7, .iload 4, []) by decide +kernel) rfl (fun _ _ _ => rfl) ?_
          cases h
          exact R_retI (show z_pt 38 79 = some (7, .ireturn, []) by decide +kernel) (by decide +kernel)
        · rw [if_neg c7] at h
          refine R_const (pc := 20) (pc' := 21) (v := 0) (show z_ptc 38 20 = some (21, 0) by decide +kernel) ?_
          cases h
          exact R_retI (show z_pt 38 21 = some (7, .ireturn, []) by decide +kernel) (by decide +kernel)
def pW_sizeOfTrain  (μ : z_Mem) (i1 : Int32) : Option (Int32 × z_Mem) := (pW_forgetSeen μ).bind fun q1 => (pW_walkFrom 12 q1 i1 0).bind fun q3 => some (q3.1, q3.2)
theorem pW_sizeOfTrain_run  {μ : z_Mem} {i1 : Int32}  {r : (Int32 × z_Mem)} (h : pW_sizeOfTrain μ i1 = some r) : Rn 14 35 0 [(0, .ref 23), (1, .int i1)] [] μ (.inl (some (.int r.1))) r.2 := by
  unfold pW_sizeOfTrain at h
  refine R_pure (pc := 0) (pc' := 1) (st' := [.ref 23]) (show z_pt 35 0 = some (2, .aload_n 0, []) by decide +kernel) rfl (fun _ _ _ => rfl) ?_
  obtain ⟨q1, e2, h⟩ := z_bs h
  refine R_call (pc := 1) (rr := []) (show z_pt 35 1 = some (2, .invokevirtual 44, [0, 37, 0, 3073, 3075, 8, 1009, 3076]) by decide +kernel) rfl (show z_r2 37 = some (3, 2, true) by decide +kernel) rfl rfl (Or.inr ⟨_, _, rfl, (by decide +kernel)⟩) (pW_forgetSeen_run  e2) (by omega) ?_
  refine R_at2 (pc := 4) (st := []) ?_
  refine R_pure (pc := 4) (pc' := 5) (st' := [.ref 23]) (show z_pt 35 4 = some (2, .aload_n 0, []) by decide +kernel) rfl (fun _ _ _ => rfl) ?_
  refine R_getR (pc := 5) (a := 23) (b := 2) (show z_pt 35 5 = some (2, .getfield 29, [3, 0, 1216]) by decide +kernel) (by decide +kernel) ?_
  refine R_at (pc := 8) ?_
  refine R_pure (pc := 8) (pc' := 9) (st' := [.ref 23, .ref 2]) (show z_pt 35 8 = some (2, .aload_n 0, []) by decide +kernel) rfl (fun _ _ _ => rfl) ?_
  refine R_getR (pc := 9) (a := 23) (b := 33) (show z_pt 35 9 = some (2, .getfield 25, [3, 4, 1220]) by decide +kernel) (by decide +kernel) ?_
  refine R_at (pc := 12) ?_
  refine R_pure (pc := 12) (pc' := 13) (st' := [.int i1, .ref 33, .ref 2]) (show z_pt 35 12 = some (2, .iload_n 1, []) by decide +kernel) rfl (fun _ _ _ => rfl) ?_
  refine R_const (pc := 13) (pc' := 14) (v := 0) (show z_ptc 35 13 = some (14, 0) by decide +kernel) ?_
  obtain ⟨q3, e4, h⟩ := z_bs h
  refine R_call (pc := 14) (rr := []) (show z_pt 35 14 = some (2, .invokestatic 47, [1, 38, 4, 3077, 3078, 0, 1009, 3079]) by decide +kernel) rfl (show z_r2 38 = some (3, 7, true) by decide +kernel) rfl rfl (Or.inl (by decide)) (pW_walkFrom_run  e4) (by omega) ?_
  refine R_at2 (pc := 17) (st := [.int q3.1]) ?_
  cases h
  exact R_retI (show z_pt 35 17 = some (2, .ireturn, []) by decide +kernel) (by decide +kernel)
def pW_countByWalks_L8_B (R : z_Mem → Int32 → Int32 → Option (Int32 × z_Mem))   (K : z_Mem → Int32 → Int32 → Option (Int32 × z_Mem)) (μ : z_Mem) (a1 : Int32) (a2 : Int32) : Option (Int32 × z_Mem) := if (μ 2 0) ≤ a2 then K μ a1 a2 else (pW_walkFrom 12 μ a2 0).bind fun q4 => if q4.1 ≤ 0 then R q4.2 a1 (a2 + 1) else R q4.2 (a1 + 1) (a2 + 1)
def pW_countByWalks_L8 : Nat → (z_Mem → Int32 → Int32 → Option (Int32 × z_Mem)) → z_Mem → Int32 → Int32 → Option (Int32 × z_Mem)
  | 0 => fun _ _ _ _ => none
  | n + 1 => fun K μ a1 a2 => pW_countByWalks_L8_B (pW_countByWalks_L8 n K) K μ a1 a2
theorem pW_countByWalks_L8_run   (K : z_Mem → Int32 → Int32 → Option (Int32 × z_Mem))  (D : Nat) (hD : 14 ≤ D) (hK : ∀ (μ : z_Mem) (a1 a2 : Int32) (r : (Int32 × z_Mem)), K μ a1 a2 = some r → Rn D 36 44 [(0, .ref 23), (1, .int a1), (2, .int a2)] [] μ (.inl (some (.int r.1))) r.2) : ∀ (n : Nat) (μ : z_Mem) (a1 : Int32) (a2 : Int32) (r : (Int32 × z_Mem)), pW_countByWalks_L8 n K μ a1 a2 = some r → Rn D 36 8 [(0, .ref 23), (1, .int a1), (2, .int a2)] [] μ (.inl (some (.int r.1))) r.2 := by
  intro n
  induction n with
  | zero => intro μ a1 a2 r h; cases h
  | succ n ih =>
    intro μ a1 a2 r h
    have h : pW_countByWalks_L8_B (pW_countByWalks_L8 n K) K μ a1 a2 = some r := h
    unfold pW_countByWalks_L8_B at h
    refine R_pure (pc := 8) (pc' := 9) (st' := [.int a2]) (show z_pt 36 8 = some (3, .iload_n 2, []) by decide +kernel) rfl (fun _ _ _ => rfl) ?_
    refine R_pure (pc := 9) (pc' := 10) (st' := [.ref 23, .int a2]) (show z_pt 36 9 = some (3, .aload_n 0, []) by decide +kernel) rfl (fun _ _ _ => rfl) ?_
    refine R_getR (pc := 10) (a := 23) (b := 2) (show z_pt 36 10 = some (3, .getfield 29, [3, 0, 1216]) by decide +kernel) (by decide +kernel) ?_
    refine R_at (pc := 13) ?_
    refine R_getI (pc := 13) (a := 2) (show z_pt 36 13 = some (3, .getfield 51, [2, 0, 1049]) by decide +kernel) (by decide +kernel) ?_
    refine R_at (pc := 16) ?_
    refine R_icmge (pc := 16) (t := 44) (show z_pt 36 16 = some (3, .if_icmp .ge 28, []) by decide +kernel) (by decide) (fun c3 => ?_) (fun c3 => ?_)
    · rw [if_pos c3] at h
      exact hK _ _ _  _ h
    · rw [if_neg c3] at h
      refine R_pure (pc := 19) (pc' := 20) (st' := [.ref 23]) (show z_pt 36 19 = some (3, .aload_n 0, []) by decide +kernel) rfl (fun _ _ _ => rfl) ?_
      refine R_getR (pc := 20) (a := 23) (b := 2) (show z_pt 36 20 = some (3, .getfield 29, [3, 0, 1216]) by decide +kernel) (by decide +kernel) ?_
      refine R_at (pc := 23) ?_
      refine R_pure (pc := 23) (pc' := 24) (st' := [.ref 23, .ref 2]) (show z_pt 36 23 = some (3, .aload_n 0, []) by decide +kernel) rfl (fun _ _ _ => rfl) ?_
      refine R_getR (pc := 24) (a := 23) (b := 33) (show z_pt 36 24 = some (3, .getfield 25, [3, 4, 1220]) by decide +kernel) (by decide +kernel) ?_
      refine R_at (pc := 27) ?_
      refine R_pure (pc := 27) (pc' := 28) (st' := [.int a2, .ref 33, .ref 2]) (show z_pt 36 27 = some (3, .iload_n 2, []) by decide +kernel) rfl (fun _ _ _ => rfl) ?_
      refine R_const (pc := 28) (pc' := 29) (v := 0) (show z_ptc 36 28 = some (29, 0) by decide +kernel) ?_
      obtain ⟨q4, e5, h⟩ := z_bs h
      refine R_call (pc := 29) (rr := []) (show z_pt 36 29 = some (3, .invokestatic 47, [1, 38, 4, 3077, 3078, 0, 1009, 3079]) by decide +kernel) rfl (show z_r2 38 = some (3, 7, true) by decide +kernel) rfl rfl (Or.inl (by decide)) (pW_walkFrom_run  e5) (by omega) ?_
      refine R_at2 (pc := 32) (st := [.int q4.1]) ?_
      refine R_ifle (pc := 32) (t := 38) (show z_pt 36 32 = some (3, .ifCond .le 6, []) by decide +kernel) (by decide) (fun c6 => ?_) (fun c6 => ?_)
      · rw [if_pos c6] at h
        refine R_inc (pc := 38) (pc' := 41) (ls' := [(0, .ref 23), (1, .int a1), (2, .int (a2 + 1))]) (c := 1) (show z_pt 36 38 = some (3, .iinc 2 1, []) by decide +kernel) (by decide) rfl rfl ?_
        refine R_pure (pc := 41) (pc' := 8) (ls' := [(0, .ref 23), (1, .int a1), (2, .int (a2 + 1))]) (st' := []) (show z_pt 36 41 = some (3, .goto (-33), [3]) by decide +kernel) rfl (fun _ _ _ => rfl) ?_
        exact ih _ _ _ _  h
      · rw [if_neg c6] at h
        refine R_inc (pc := 35) (pc' := 38) (ls' := [(0, .ref 23), (1, .int (a1 + 1)), (2, .int a2)]) (c := 1) (show z_pt 36 35 = some (3, .iinc 1 1, []) by decide +kernel) (by decide) rfl rfl ?_
        refine R_inc (pc := 38) (pc' := 41) (ls' := [(0, .ref 23), (1, .int (a1 + 1)), (2, .int (a2 + 1))]) (c := 1) (show z_pt 36 38 = some (3, .iinc 2 1, []) by decide +kernel) (by decide) rfl rfl ?_
        refine R_pure (pc := 41) (pc' := 8) (ls' := [(0, .ref 23), (1, .int (a1 + 1)), (2, .int (a2 + 1))]) (st' := []) (show z_pt 36 41 = some (3, .goto (-33), [3]) by decide +kernel) rfl (fun _ _ _ => rfl) ?_
        exact ih _ _ _ _  h
def pW_countByWalks  (μ : z_Mem)  : Option (Int32 × z_Mem) := (pW_forgetSeen μ).bind fun q1 => pW_countByWalks_L8 z_fu (fun M9 k7 k8 => some (k7, M9)) q1 0 0
theorem pW_countByWalks_run  {μ : z_Mem}   {r : (Int32 × z_Mem)} (h : pW_countByWalks μ = some r) : Rn 14 36 0 [(0, .ref 23)] [] μ (.inl (some (.int r.1))) r.2 := by
  unfold pW_countByWalks at h
  refine R_pure (pc := 0) (pc' := 1) (st' := [.ref 23]) (show z_pt 36 0 = some (3, .aload_n 0, []) by decide +kernel) rfl (fun _ _ _ => rfl) ?_
  obtain ⟨q1, e2, h⟩ := z_bs h
  refine R_call (pc := 1) (rr := []) (show z_pt 36 1 = some (3, .invokevirtual 44, [0, 37, 0, 3073, 3075, 8, 1009, 3076]) by decide +kernel) rfl (show z_r2 37 = some (3, 2, true) by decide +kernel) rfl rfl (Or.inr ⟨_, _, rfl, (by decide +kernel)⟩) (pW_forgetSeen_run  e2) (by omega) ?_
  refine R_at2 (pc := 4) (st := []) ?_
  refine R_const (pc := 4) (pc' := 5) (v := 0) (show z_ptc 36 4 = some (5, 0) by decide +kernel) ?_
  refine R_pure (pc := 5) (pc' := 6) (ls' := [(0, .ref 23), (1, .int 0)]) (st' := []) (show z_pt 36 5 = some (3, .istore_n 1, []) by decide +kernel) rfl (fun _ _ _ => rfl) ?_
  refine R_const (pc := 6) (pc' := 7) (v := 0) (show z_ptc 36 6 = some (7, 0) by decide +kernel) ?_
  refine R_pure (pc := 7) (pc' := 8) (ls' := [(0, .ref 23), (1, .int 0), (2, .int 0)]) (st' := []) (show z_pt 36 7 = some (3, .istore_n 2, []) by decide +kernel) rfl (fun _ _ _ => rfl) ?_
  refine pW_countByWalks_L8_run   _  _ (by omega) ?_ _ _ _ _ _ h
  intro M9 k7 k8 r h
  refine R_pure (pc := 44) (pc' := 45) (st' := [.int k7]) (show z_pt 36 44 = some (3, .iload_n 1, []) by decide +kernel) rfl (fun _ _ _ => rfl) ?_
  cases h
  exact R_retI (show z_pt 36 45 = some (3, .ireturn, []) by decide +kernel) (by decide +kernel)
def pW_renameSet_L2_B (R : z_Mem → Int32 → Option z_Mem)  (f1 : Int32) (f2 : Int32) (K : z_Mem → Int32 → Option z_Mem) (μ : z_Mem) (a3 : Int32) : Option z_Mem := if 10 ≤ a3 then K μ a3 else (z_rd μ 32 10 a3).bind fun v2 => if v2 = f1 then if z_inb a3 10 = true then R (z_u μ 32 a3.toNatClampNeg f2) (a3 + 1) else none else R μ (a3 + 1)
def pW_renameSet_L2 : Nat → Int32 → Int32 → (z_Mem → Int32 → Option z_Mem) → z_Mem → Int32 → Option z_Mem
  | 0 => fun _ _ _ _ _ => none
  | n + 1 => fun f1 f2 K μ a3 => pW_renameSet_L2_B (pW_renameSet_L2 n f1 f2 K) f1 f2 K μ a3
theorem pW_renameSet_L2_run  (f1 : Int32) (f2 : Int32) (K : z_Mem → Int32 → Option z_Mem)  (D : Nat) (hD : 0 ≤ D) (hK : ∀ (μ : z_Mem) (a3 : Int32) (r : z_Mem), K μ a3 = some r → Rn D 40 31 [(0, .ref 23), (1, .int f1), (2, .int f2), (3, .int a3)] [] μ (.inl none) r) : ∀ (n : Nat) (μ : z_Mem) (a3 : Int32) (r : z_Mem), pW_renameSet_L2 n f1 f2 K μ a3 = some r → Rn D 40 2 [(0, .ref 23), (1, .int f1), (2, .int f2), (3, .int a3)] [] μ (.inl none) r := by
  intro n
  induction n with
  | zero => intro μ a3 r h; cases h
  | succ n ih =>
    intro μ a3 r h
    have h : pW_renameSet_L2_B (pW_renameSet_L2 n f1 f2 K) f1 f2 K μ a3 = some r := h
    unfold pW_renameSet_L2_B at h
    refine R_pure (pc := 2) (pc' := 3) (st' := [.int a3]) (show z_pt 40 2 = some (4, .iload_n 3, []) by decide +kernel) rfl (fun _ _ _ => rfl) ?_
    refine R_const (pc := 3) (pc' := 5) (v := 10) (show z_ptc 40 3 = some (5, 10) by decide +kernel) ?_
    refine R_icmge (pc := 5) (t := 31) (show z_pt 40 5 = some (4, .if_icmp .ge 26, []) by decide +kernel) (by decide) (fun c1 => ?_) (fun c1 => ?_)
    · rw [if_pos c1] at h
      exact hK _ _  _ h
    · rw [if_neg c1] at h
      refine R_pure (pc := 8) (pc' := 9) (st' := [.ref 23]) (show z_pt 40 8 = some (4, .aload_n 0, []) by decide +kernel) rfl (fun _ _ _ => rfl) ?_
      refine R_getR (pc := 9) (a := 23) (b := 32) (show z_pt 40 9 = some (4, .getfield 22, [3, 3, 1219]) by decide +kernel) (by decide +kernel) ?_
      refine R_at (pc := 12) ?_
      refine R_pure (pc := 12) (pc' := 13) (st' := [.int a3, .ref 32]) (show z_pt 40 12 = some (4, .iload_n 3, []) by decide +kernel) rfl (fun _ _ _ => rfl) ?_
      obtain ⟨v2, e3, h⟩ := z_bs h
      refine R_ialdR (pc := 13) (a := 32) (n := 10) (show z_pt 40 13 = some (4, .iaload, []) by decide +kernel) (show z_ar 32 0 10 = true by decide +kernel) e3 ?_
      refine R_at (pc := 14) ?_
      refine R_pure (pc := 14) (pc' := 15) (st' := [.int f1, .int v2]) (show z_pt 40 14 = some (4, .iload_n 1, []) by decide +kernel) rfl (fun _ _ _ => rfl) ?_
      refine R_icmne (pc := 15) (t := 25) (show z_pt 40 15 = some (4, .if_icmp .ne 10, []) by decide +kernel) (by decide) (fun c4 => ?_) (fun c4 => ?_)
      · rw [if_neg c4] at h
        refine R_inc (pc := 25) (pc' := 28) (ls' := [(0, .ref 23), (1, .int f1), (2, .int f2), (3, .int (a3 + 1))]) (c := 1) (show z_pt 40 25 = some (4, .iinc 3 1, []) by decide +kernel) (by decide) rfl rfl ?_
        refine R_pure (pc := 28) (pc' := 2) (ls' := [(0, .ref 23), (1, .int f1), (2, .int f2), (3, .int (a3 + 1))]) (st' := []) (show z_pt 40 28 = some (4, .goto (-26), [4]) by decide +kernel) rfl (fun _ _ _ => rfl) ?_
        exact ih _ _ _  h
      · rw [if_pos c4] at h
        refine R_pure (pc := 18) (pc' := 19) (st' := [.ref 23]) (show z_pt 40 18 = some (4, .aload_n 0, []) by decide +kernel) rfl (fun _ _ _ => rfl) ?_
        refine R_getR (pc := 19) (a := 23) (b := 32) (show z_pt 40 19 = some (4, .getfield 22, [3, 3, 1219]) by decide +kernel) (by decide +kernel) ?_
        refine R_at (pc := 22) ?_
        refine R_pure (pc := 22) (pc' := 23) (st' := [.int a3, .ref 32]) (show z_pt 40 22 = some (4, .iload_n 3, []) by decide +kernel) rfl (fun _ _ _ => rfl) ?_
        refine R_pure (pc := 23) (pc' := 24) (st' := [.int f2, .int a3, .ref 32]) (show z_pt 40 23 = some (4, .iload_n 2, []) by decide +kernel) rfl (fun _ _ _ => rfl) ?_
        obtain ⟨g5, h⟩ := z_ig h
        refine R_iast (pc := 24) (a := 32) (n := 10) (show z_pt 40 24 = some (4, .iastore, []) by decide +kernel) (show z_ar 32 0 10 = true by decide +kernel) g5 ?_
        refine R_at (pc := 25) ?_
        refine R_inc (pc := 25) (pc' := 28) (ls' := [(0, .ref 23), (1, .int f1), (2, .int f2), (3, .int (a3 + 1))]) (c := 1) (show z_pt 40 25 = some (4, .iinc 3 1, []) by decide +kernel) (by decide) rfl rfl ?_
        refine R_pure (pc := 28) (pc' := 2) (ls' := [(0, .ref 23), (1, .int f1), (2, .int f2), (3, .int (a3 + 1))]) (st' := []) (show z_pt 40 28 = some (4, .goto (-26), [4]) by decide +kernel) rfl (fun _ _ _ => rfl) ?_
        exact ih _ _ _  h
def pW_renameSet  (μ : z_Mem) (i1 : Int32) (i2 : Int32) : Option z_Mem := pW_renameSet_L2 z_fu i1 i2 (fun M7 k6 => some M7) μ 0
theorem pW_renameSet_run  {μ : z_Mem} {i1 : Int32} {i2 : Int32}  {r : z_Mem} (h : pW_renameSet μ i1 i2 = some r) : Rn 0 40 0 [(0, .ref 23), (1, .int i1), (2, .int i2)] [] μ (.inl none) r := by
  unfold pW_renameSet at h
  refine R_const (pc := 0) (pc' := 1) (v := 0) (show z_ptc 40 0 = some (1, 0) by decide +kernel) ?_
  refine R_pure (pc := 1) (pc' := 2) (ls' := [(0, .ref 23), (1, .int i1), (2, .int i2), (3, .int 0)]) (st' := []) (show z_pt 40 1 = some (4, .istore_n 3, []) by decide +kernel) rfl (fun _ _ _ => rfl) ?_
  refine pW_renameSet_L2_run  _ _ _  _ (by omega) ?_ _ _ _ _ h
  intro M7 k6 r h
  cases h
  exact R_retV (show z_pt 40 31 = some (4, .return_, []) by decide +kernel) (by decide +kernel)
def pW_countByUniting_L2_B (R : z_Mem → Int32 → Option (Int32 × z_Mem))   (K : z_Mem → Int32 → Option (Int32 × z_Mem)) (μ : z_Mem) (a1 : Int32) : Option (Int32 × z_Mem) := if 10 ≤ a1 then K μ a1 else if z_inb a1 10 = true then R (z_u μ 32 a1.toNatClampNeg a1) (a1 + 1) else none
def pW_countByUniting_L2 : Nat → (z_Mem → Int32 → Option (Int32 × z_Mem)) → z_Mem → Int32 → Option (Int32 × z_Mem)
  | 0 => fun _ _ _ => none
  | n + 1 => fun K μ a1 => pW_countByUniting_L2_B (pW_countByUniting_L2 n K) K μ a1
theorem pW_countByUniting_L2_run   (K : z_Mem → Int32 → Option (Int32 × z_Mem))  (D : Nat) (hD : 1 ≤ D) (hK : ∀ (μ : z_Mem) (a1 : Int32) (r : (Int32 × z_Mem)), K μ a1 = some r → Rn D 39 21 [(0, .ref 23), (1, .int a1)] [] μ (.inl (some (.int r.1))) r.2) : ∀ (n : Nat) (μ : z_Mem) (a1 : Int32) (r : (Int32 × z_Mem)), pW_countByUniting_L2 n K μ a1 = some r → Rn D 39 2 [(0, .ref 23), (1, .int a1)] [] μ (.inl (some (.int r.1))) r.2 := by
  intro n
  induction n with
  | zero => intro μ a1 r h; cases h
  | succ n ih =>
    intro μ a1 r h
    have h : pW_countByUniting_L2_B (pW_countByUniting_L2 n K) K μ a1 = some r := h
    unfold pW_countByUniting_L2_B at h
    refine R_pure (pc := 2) (pc' := 3) (st' := [.int a1]) (show z_pt 39 2 = some (5, .iload_n 1, []) by decide +kernel) rfl (fun _ _ _ => rfl) ?_
    refine R_const (pc := 3) (pc' := 5) (v := 10) (show z_ptc 39 3 = some (5, 10) by decide +kernel) ?_
    refine R_icmge (pc := 5) (t := 21) (show z_pt 39 5 = some (5, .if_icmp .ge 16, []) by decide +kernel) (by decide) (fun c1 => ?_) (fun c1 => ?_)
    · rw [if_pos c1] at h
      exact hK _ _  _ h
    · rw [if_neg c1] at h
      refine R_pure (pc := 8) (pc' := 9) (st' := [.ref 23]) (show z_pt 39 8 = some (5, .aload_n 0, []) by decide +kernel) rfl (fun _ _ _ => rfl) ?_
      refine R_getR (pc := 9) (a := 23) (b := 32) (show z_pt 39 9 = some (5, .getfield 22, [3, 3, 1219]) by decide +kernel) (by decide +kernel) ?_
      refine R_at (pc := 12) ?_
      refine R_pure (pc := 12) (pc' := 13) (st' := [.int a1, .ref 32]) (show z_pt 39 12 = some (5, .iload_n 1, []) by decide +kernel) rfl (fun _ _ _ => rfl) ?_
      refine R_pure (pc := 13) (pc' := 14) (st' := [.int a1, .int a1, .ref 32]) (show z_pt 39 13 = some (5, .iload_n 1, []) by decide +kernel) rfl (fun _ _ _ => rfl) ?_
      obtain ⟨g2, h⟩ := z_ig h
      refine R_iast (pc := 14) (a := 32) (n := 10) (show z_pt 39 14 = some (5, .iastore, []) by decide +kernel) (show z_ar 32 0 10 = true by decide +kernel) g2 ?_
      refine R_at (pc := 15) ?_
      refine R_inc (pc := 15) (pc' := 18) (ls' := [(0, .ref 23), (1, .int (a1 + 1))]) (c := 1) (show z_pt 39 15 = some (5, .iinc 1 1, []) by decide +kernel) (by decide) rfl rfl ?_
      refine R_pure (pc := 18) (pc' := 2) (ls' := [(0, .ref 23), (1, .int (a1 + 1))]) (st' := []) (show z_pt 39 18 = some (5, .goto (-16), [2]) by decide +kernel) rfl (fun _ _ _ => rfl) ?_
      exact ih _ _ _  h
def pW_countByUniting_L31_B (R : z_Mem → Int32 → Int32 → Option (Int32 × z_Mem))   (K : z_Mem → Int32 → Int32 → Option (Int32 × z_Mem)) (μ : z_Mem) (a1 : Int32) (a2 : Int32) : Option (Int32 × z_Mem) := if (μ 2 1) ≤ a2 then K μ a1 a2 else (z_rd μ 5 9 a2).bind fun v6 => (z_rd μ 32 10 v6).bind fun v8 => (z_rd μ 6 9 a2).bind fun v10 => (z_rd μ 32 10 v10).bind fun v12 => if v8 = v12 then R μ a1 (a2 + 1) else (pW_renameSet μ v12 v8).bind fun q15 => R q15 (a1 + (-1)) (a2 + 1)
def pW_countByUniting_L31 : Nat → (z_Mem → Int32 → Int32 → Option (Int32 × z_Mem)) → z_Mem → Int32 → Int32 → Option (Int32 × z_Mem)
  | 0 => fun _ _ _ _ => none
  | n + 1 => fun K μ a1 a2 => pW_countByUniting_L31_B (pW_countByUniting_L31 n K) K μ a1 a2
theorem pW_countByUniting_L31_run   (K : z_Mem → Int32 → Int32 → Option (Int32 × z_Mem))  (D : Nat) (hD : 1 ≤ D) (hK : ∀ (μ : z_Mem) (a1 a2 : Int32) (r : (Int32 × z_Mem)), K μ a1 a2 = some r → Rn D 39 95 [(0, .ref 23), (1, .int a1), (2, .int a2)] [] μ (.inl (some (.int r.1))) r.2) : ∀ (n : Nat) (μ : z_Mem) (a1 : Int32) (a2 : Int32) (r : (Int32 × z_Mem)), pW_countByUniting_L31 n K μ a1 a2 = some r → Rn D 39 31 [(0, .ref 23), (1, .int a1), (2, .int a2)] [] μ (.inl (some (.int r.1))) r.2 := by
  intro n
  induction n with
  | zero => intro μ a1 a2 r h; cases h
  | succ n ih =>
    intro μ a1 a2 r h
    have h : pW_countByUniting_L31_B (pW_countByUniting_L31 n K) K μ a1 a2 = some r := h
    unfold pW_countByUniting_L31_B at h
    refine R_pure (pc := 31) (pc' := 32) (st' := [.int a2]) (show z_pt 39 31 = some (5, .iload_n 2, []) by decide +kernel) rfl (fun _ _ _ => rfl) ?_
    refine R_pure (pc := 32) (pc' := 33) (st' := [.ref 23, .int a2]) (show z_pt 39 32 = some (5, .aload_n 0, []) by decide +kernel) rfl (fun _ _ _ => rfl) ?_
    refine R_getR (pc := 33) (a := 23) (b := 2) (show z_pt 39 33 = some (5, .getfield 29, [3, 0, 1216]) by decide +kernel) (by decide +kernel) ?_
    refine R_at (pc := 36) ?_
    refine R_getI (pc := 36) (a := 2) (show z_pt 39 36 = some (5, .getfield 36, [2, 1, 1052]) by decide +kernel) (by decide +kernel) ?_
    refine R_at (pc := 39) ?_
    refine R_icmge (pc := 39) (t := 95) (show z_pt 39 39 = some (5, .if_icmp .ge 56, []) by decide +kernel) (by decide) (fun c5 => ?_) (fun c5 => ?_)
    · rw [if_pos c5] at h
      exact hK _ _ _  _ h
    · rw [if_neg c5] at h
      refine R_pure (pc := 42) (pc' := 43) (st' := [.ref 23]) (show z_pt 39 42 = some (5, .aload_n 0, []) by decide +kernel) rfl (fun _ _ _ => rfl) ?_
      refine R_getR (pc := 43) (a := 23) (b := 32) (show z_pt 39 43 = some (5, .getfield 22, [3, 3, 1219]) by decide +kernel) (by decide +kernel) ?_
      refine R_at (pc := 46) ?_
      refine R_pure (pc := 46) (pc' := 47) (st' := [.ref 23, .ref 32]) (show z_pt 39 46 = some (5, .aload_n 0, []) by decide +kernel) rfl (fun _ _ _ => rfl) ?_
      refine R_getR (pc := 47) (a := 23) (b := 2) (show z_pt 39 47 = some (5, .getfield 29, [3, 0, 1216]) by decide +kernel) (by decide +kernel) ?_
      refine R_at (pc := 50) ?_
      refine R_getR (pc := 50) (a := 2) (b := 5) (show z_pt 39 50 = some (5, .getfield 58, [2, 5, 1066]) by decide +kernel) (by decide +kernel) ?_
      refine R_at (pc := 53) ?_
      refine R_pure (pc := 53) (pc' := 54) (st' := [.int a2, .ref 5, .ref 32]) (show z_pt 39 53 = some (5, .iload_n 2, []) by decide +kernel) rfl (fun _ _ _ => rfl) ?_
      obtain ⟨v6, e7, h⟩ := z_bs h
      refine R_ialdR (pc := 54) (a := 5) (n := 9) (show z_pt 39 54 = some (5, .iaload, []) by decide +kernel) (show z_ar 5 0 9 = true by decide +kernel) e7 ?_
      refine R_at (pc := 55) ?_
      obtain ⟨v8, e9, h⟩ := z_bs h
      refine R_ialdR (pc := 55) (a := 32) (n := 10) (show z_pt 39 55 = some (5, .iaload, []) by decide +kernel) (show z_ar 32 0 10 = true by decide +kernel) e9 ?_
      refine R_at (pc := 56) ?_
      refine R_pure (pc := 56) (pc' := 57) (ls' := [(0, .ref 23), (1, .int a1), (2, .int a2), (3, .int v8)]) (st' := []) (show z_pt 39 56 = some (5, .istore_n 3, []) by decide +kernel) rfl (fun _ _ _ => rfl) ?_
      refine R_pure (pc := 57) (pc' := 58) (st' := [.ref 23]) (show z_pt 39 57 = some (5, .aload_n 0, []) by decide +kernel) rfl (fun _ _ _ => rfl) ?_
      refine R_getR (pc := 58) (a := 23) (b := 32) (show z_pt 39 58 = some (5, .getfield 22, [3, 3, 1219]) by decide +kernel) (by decide +kernel) ?_
      refine R_at (pc := 61) ?_
      refine R_pure (pc := 61) (pc' := 62) (st' := [.ref 23, .ref 32]) (show z_pt 39 61 = some (5, .aload_n 0, []) by decide +kernel) rfl (fun _ _ _ => rfl) ?_
      refine R_getR (pc := 62) (a := 23) (b := 2) (show z_pt 39 62 = some (5, .getfield 29, [3, 0, 1216]) by decide +kernel) (by decide +kernel) ?_
      refine R_at (pc := 65) ?_
      refine R_getR (pc := 65) (a := 2) (b := 6) (show z_pt 39 65 = some (5, .getfield 61, [2, 6, 1068]) by decide +kernel) (by decide +kernel) ?_
      refine R_at (pc := 68) ?_
      refine R_pure (pc := 68) (pc' := 69) (st' := [.int a2, .ref 6, .ref 32]) (show z_pt 39 68 = some (5, .iload_n 2, []) by decide +kernel) rfl (fun _ _ _ => rfl) ?_
      obtain ⟨v10, e11, h⟩ := z_bs h
      refine R_ialdR (pc := 69) (a := 6) (n := 9) (show z_pt 39 69 = some (5, .iaload, []) by decide +kernel) (show z_ar 6 0 9 = true by decide +kernel) e11 ?_
      refine R_at (pc := 70) ?_
      obtain ⟨v12, e13, h⟩ := z_bs h
      refine R_ialdR (pc := 70) (a := 32) (n := 10) (show z_pt 39 70 = some (5, .iaload, []) by decide +kernel) (show z_ar 32 0 10 = true by decide +kernel) e13 ?_
      refine R_at (pc := 71) ?_
      refine R_pure (pc := 71) (pc' := 73) (ls' := [(0, .ref 23), (1, .int a1), (2, .int a2), (3, .int v8), (4, .int v12)]) (st' := []) (show z_pt 39 71 = some (5, .istore 4, []) by decide +kernel) rfl (fun _ _ _ => rfl) ?_
      refine R_pure (pc := 73) (pc' := 74) (st' := [.int v8]) (show z_pt 39 73 = some (5, .iload_n 3, []) by decide +kernel) rfl (fun _ _ _ => rfl) ?_
      refine R_pure (pc := 74) (pc' := 76) (st' := [.int v12, .int v8]) (show z_pt 39 74 = some (5, .iload 4, []) by decide +kernel) rfl (fun _ _ _ => rfl) ?_
      refine R_icmeq (pc := 76) (t := 89) (show z_pt 39 76 = some (5, .if_icmp .eq 13, []) by decide +kernel) (by decide) (fun c14 => ?_) (fun c14 => ?_)
      · rw [if_pos c14] at h
        refine R_inc (pc := 89) (pc' := 92) (ls' := [(0, .ref 23), (1, .int a1), (2, .int (a2 + 1)), (3, .int v8), (4, .int v12)]) (c := 1) (show z_pt 39 89 = some (5, .iinc 2 1, []) by decide +kernel) (by decide) rfl rfl ?_
        refine R_pure (pc := 92) (pc' := 31) (ls' := [(0, .ref 23), (1, .int a1), (2, .int (a2 + 1))]) (st' := []) (show z_pt 39 92 = some (5, .goto (-61), [3]) by decide +kernel) rfl (fun _ _ _ => rfl) ?_
        exact ih _ _ _ _  h
      · rw [if_neg c14] at h
        refine R_pure (pc := 79) (pc' := 80) (st' := [.ref 23]) (show z_pt 39 79 = some (5, .aload_n 0, []) by decide +kernel) rfl (fun _ _ _ => rfl) ?_
        refine R_pure (pc := 80) (pc' := 82) (st' := [.int v12, .ref 23]) (show z_pt 39 80 = some (5, .iload 4, []) by decide +kernel) rfl (fun _ _ _ => rfl) ?_
        refine R_pure (pc := 82) (pc' := 83) (st' := [.int v8, .int v12, .ref 23]) (show z_pt 39 82 = some (5, .iload_n 3, []) by decide +kernel) rfl (fun _ _ _ => rfl) ?_
        obtain ⟨q15, e16, h⟩ := z_bs h
        refine R_call (pc := 83) (rr := []) (show z_pt 39 83 = some (5, .invokevirtual 64, [0, 40, 2, 3098, 3100, 9, 1009, 3101]) by decide +kernel) rfl (show z_r2 40 = some (3, 4, true) by decide +kernel) rfl rfl (Or.inr ⟨_, _, rfl, (by decide +kernel)⟩) (pW_renameSet_run  e16) (by omega) ?_
        refine R_at2 (pc := 86) (st := []) ?_
        refine R_inc (pc := 86) (pc' := 89) (ls' := [(0, .ref 23), (1, .int (a1 + (-1))), (2, .int a2), (3, .int v8), (4, .int v12)]) (c := (-1)) (show z_pt 39 86 = some (5, .iinc 1 (-1), []) by decide +kernel) (by decide) rfl rfl ?_
        refine R_inc (pc := 89) (pc' := 92) (ls' := [(0, .ref 23), (1, .int (a1 + (-1))), (2, .int (a2 + 1)), (3, .int v8), (4, .int v12)]) (c := 1) (show z_pt 39 89 = some (5, .iinc 2 1, []) by decide +kernel) (by decide) rfl rfl ?_
        refine R_pure (pc := 92) (pc' := 31) (ls' := [(0, .ref 23), (1, .int (a1 + (-1))), (2, .int (a2 + 1))]) (st' := []) (show z_pt 39 92 = some (5, .goto (-61), [3]) by decide +kernel) rfl (fun _ _ _ => rfl) ?_
        exact ih _ _ _ _  h
def pW_countByUniting  (μ : z_Mem)  : Option (Int32 × z_Mem) := pW_countByUniting_L2 z_fu (fun M4 k3 => pW_countByUniting_L31 z_fu (fun M19 k17 k18 => some (k17, M19)) M4 (M4 2 0) 0) μ 0
theorem pW_countByUniting_run  {μ : z_Mem}   {r : (Int32 × z_Mem)} (h : pW_countByUniting μ = some r) : Rn 1 39 0 [(0, .ref 23)] [] μ (.inl (some (.int r.1))) r.2 := by
  unfold pW_countByUniting at h
  refine R_const (pc := 0) (pc' := 1) (v := 0) (show z_ptc 39 0 = some (1, 0) by decide +kernel) ?_
  refine R_pure (pc := 1) (pc' := 2) (ls' := [(0, .ref 23), (1, .int 0)]) (st' := []) (show z_pt 39 1 = some (5, .istore_n 1, []) by decide +kernel) rfl (fun _ _ _ => rfl) ?_
  refine pW_countByUniting_L2_run   _  _ (by omega) ?_ _ _ _ _ h
  intro M4 k3 r h
  refine R_pure (pc := 21) (pc' := 22) (st' := [.ref 23]) (show z_pt 39 21 = some (5, .aload_n 0, []) by decide +kernel) rfl (fun _ _ _ => rfl) ?_
  refine R_getR (pc := 22) (a := 23) (b := 2) (show z_pt 39 22 = some (5, .getfield 29, [3, 0, 1216]) by decide +kernel) (by decide +kernel) ?_
  refine R_at (pc := 25) ?_
  refine R_getI (pc := 25) (a := 2) (show z_pt 39 25 = some (5, .getfield 51, [2, 0, 1049]) by decide +kernel) (by decide +kernel) ?_
  refine R_at (pc := 28) ?_
  refine R_pure (pc := 28) (pc' := 29) (ls' := [(0, .ref 23), (1, .int (M4 2 0))]) (st' := []) (show z_pt 39 28 = some (5, .istore_n 1, []) by decide +kernel) rfl (fun _ _ _ => rfl) ?_
  refine R_const (pc := 29) (pc' := 30) (v := 0) (show z_ptc 39 29 = some (30, 0) by decide +kernel) ?_
  refine R_pure (pc := 30) (pc' := 31) (ls' := [(0, .ref 23), (1, .int (M4 2 0)), (2, .int 0)]) (st' := []) (show z_pt 39 30 = some (5, .istore_n 2, []) by decide +kernel) rfl (fun _ _ _ => rfl) ?_
  refine pW_countByUniting_L31_run   _  _ (by omega) ?_ _ _ _ _ _ h
  intro M19 k17 k18 r h
  refine R_pure (pc := 95) (pc' := 96) (st' := [.int k17]) (show z_pt 39 95 = some (5, .iload_n 1, []) by decide +kernel) rfl (fun _ _ _ => rfl) ?_
  cases h
  exact R_retI (show z_pt 39 96 = some (5, .ireturn, []) by decide +kernel) (by decide +kernel)
end ZP1
