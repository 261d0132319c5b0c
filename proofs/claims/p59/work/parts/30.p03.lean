section ZP3
def pA_leastDistance_L8_B (R : Int32 → Int32 → Option Int32)  (μ : z_Mem) (f1 : Int32) (f2 : Int32) (f3 : Int32) (K : Int32 → Int32 → Option Int32) (a4 : Int32) (a5 : Int32) : Option Int32 := (z_rd μ 11 4 f1).bind fun v1 => if v1 ≤ a5 then K a4 a5 else (pA_directionOfSpoke μ f1 a5 f3).bind fun q4 => (pG_distanceBetween μ q4 f2).bind fun q6 => (pJ_min μ a4 q6).bind fun q8 => R q8 (a5 + 1)
def pA_leastDistance_L8 : Nat → z_Mem → Int32 → Int32 → Int32 → (Int32 → Int32 → Option Int32) → Int32 → Int32 → Option Int32
  | 0 => fun _ _ _ _ _ _ _ => none
  | n + 1 => fun μ f1 f2 f3 K a4 a5 => pA_leastDistance_L8_B (pA_leastDistance_L8 n μ f1 f2 f3 K) μ f1 f2 f3 K a4 a5
theorem pA_leastDistance_L8_run  (μ : z_Mem) (f1 : Int32) (f2 : Int32) (f3 : Int32) (K : Int32 → Int32 → Option Int32)  (D : Nat) (hD : 2 ≤ D) (hK : ∀ (a4 a5 : Int32) (r : Int32), K a4 a5 = some r → Rn D 67 47 [(0, .ref 1), (1, .int f1), (2, .int f2), (3, .int f3), (4, .int a4), (5, .int a5)] [] μ (.inl (some (.int r))) μ) : ∀ (n : Nat) (a4 : Int32) (a5 : Int32) (r : Int32), pA_leastDistance_L8 n μ f1 f2 f3 K a4 a5 = some r → Rn D 67 8 [(0, .ref 1), (1, .int f1), (2, .int f2), (3, .int f3), (4, .int a4), (5, .int a5)] [] μ (.inl (some (.int r))) μ := by
  intro n
  induction n with
  | zero => intro a4 a5 r h; cases h
  | succ n ih =>
    intro a4 a5 r h
    have h : pA_leastDistance_L8_B (pA_leastDistance_L8 n μ f1 f2 f3 K) μ f1 f2 f3 K a4 a5 = some r := h
    unfold pA_leastDistance_L8_B at h
    refine R_pure (pc := 8) (pc' := 10) (st' := [.int a5]) (show z_pt 67 8 = some (6, .iload 5, []) by decide +kernel) rfl (fun _ _ _ => rfl) ?_
    refine R_pure (pc := 10) (pc' := 11) (st' := [.ref 1, .int a5]) (show z_pt 67 10 = some (6, .aload_n 0, []) by decide +kernel) rfl (fun _ _ _ => rfl) ?_
    refine R_getR (pc := 11) (a := 1) (b := 9) (show z_pt 67 11 = some (6, .getfield 21, [7, 1, 1173]) by decide +kernel) (by decide +kernel) ?_
    refine R_at (pc := 14) ?_
    refine R_getR (pc := 14) (a := 9) (b := 11) (show z_pt 67 14 = some (6, .getfield 59, [8, 2, 1107]) by decide +kernel) (by decide +kernel) ?_
    refine R_at (pc := 17) ?_
    refine R_pure (pc := 17) (pc' := 18) (st' := [.int f1, .ref 11, .int a5]) (show z_pt 67 17 = some (6, .iload_n 1, []) by decide +kernel) rfl (fun _ _ _ => rfl) ?_
    obtain ⟨v1, e2, h⟩ := z_bs h
    refine R_ialdR (pc := 18) (a := 11) (n := 4) (show z_pt 67 18 = some (6, .iaload, []) by decide +kernel) (show z_ar 11 0 4 = true by decide +kernel) e2 ?_
    refine R_at (pc := 19) ?_
    refine R_icmge (pc := 19) (t := 47) (show z_pt 67 19 = some (6, .if_icmp .ge 28, []) by decide +kernel) (by decide) (fun c3 => ?_) (fun c3 => ?_)
    · rw [if_pos c3] at h
      exact hK _ _  _ h
    · rw [if_neg c3] at h
      refine R_pure (pc := 22) (pc' := 24) (st' := [.int a4]) (show z_pt 67 22 = some (6, .iload 4, []) by decide +kernel) rfl (fun _ _ _ => rfl) ?_
      refine R_pure (pc := 24) (pc' := 25) (st' := [.ref 1, .int a4]) (show z_pt 67 24 = some (6, .aload_n 0, []) by decide +kernel) rfl (fun _ _ _ => rfl) ?_
      refine R_pure (pc := 25) (pc' := 26) (st' := [.int f1, .ref 1, .int a4]) (show z_pt 67 25 = some (6, .iload_n 1, []) by decide +kernel) rfl (fun _ _ _ => rfl) ?_
      refine R_pure (pc := 26) (pc' := 28) (st' := [.int a5, .int f1, .ref 1, .int a4]) (show z_pt 67 26 = some (6, .iload 5, []) by decide +kernel) rfl (fun _ _ _ => rfl) ?_
      refine R_pure (pc := 28) (pc' := 29) (st' := [.int f3, .int a5, .int f1, .ref 1, .int a4]) (show z_pt 67 28 = some (6, .iload_n 3, []) by decide +kernel) rfl (fun _ _ _ => rfl) ?_
      obtain ⟨q4, e5, h⟩ := z_bs h
      refine R_call (pc := 29) (rr := [.int a4]) (show z_pt 67 29 = some (6, .invokevirtual 71, [0, 66, 3, 3212, 3190, 3191, 1002, 3192]) by decide +kernel) rfl (show z_r2 66 = some (7, 8, true) by decide +kernel) rfl rfl (Or.inr ⟨_, _, rfl, (by decide +kernel)⟩) (pA_directionOfSpoke_run  e5) (by omega) ?_
      refine R_at2 (pc := 32) (st := [.int q4, .int a4]) ?_
      refine R_pure (pc := 32) (pc' := 33) (st' := [.int f2, .int q4, .int a4]) (show z_pt 67 32 = some (6, .iload_n 2, []) by decide +kernel) rfl (fun _ _ _ => rfl) ?_
      obtain ⟨q6, e7, h⟩ := z_bs h
      refine R_call (pc := 33) (rr := [.int a4]) (show z_pt 67 33 = some (6, .invokestatic 75, [2, 149, 2, 3213, 3214, 0, 1001, 3215]) by decide +kernel) rfl (show z_r2 149 = some (9, 3, true) by decide +kernel) rfl rfl (Or.inl (by decide)) (pG_distanceBetween_run  e7) (by omega) ?_
      refine R_at2 (pc := 36) (st := [.int q6, .int a4]) ?_
      obtain ⟨q8, e9, h⟩ := z_bs h
      refine R_call (pc := 36) (rr := []) (show z_pt 67 36 = some (6, .invokestatic 78, [1, 160, 2, 3218, 2235, 0, 1008, 2236]) by decide +kernel) rfl (show z_r2 160 = some (12, 2, true) by decide +kernel) rfl rfl (Or.inl (by decide)) (pJ_min_run  e9) (by omega) ?_
      refine R_at2 (pc := 39) (st := [.int q8]) ?_
      refine R_pure (pc := 39) (pc' := 41) (ls' := [(0, .ref 1), (1, .int f1), (2, .int f2), (3, .int f3), (4, .int q8), (5, .int a5)]) (st' := []) (show z_pt 67 39 = some (6, .istore 4, []) by decide +kernel) rfl (fun _ _ _ => rfl) ?_
      refine R_inc (pc := 41) (pc' := 44) (ls' := [(0, .ref 1), (1, .int f1), (2, .int f2), (3, .int f3), (4, .int q8), (5, .int (a5 + 1))]) (c := 1) (show z_pt 67 41 = some (6, .iinc 5 1, []) by decide +kernel) (by decide) rfl rfl ?_
      refine R_pure (pc := 44) (pc' := 8) (ls' := [(0, .ref 1), (1, .int f1), (2, .int f2), (3, .int f3), (4, .int q8), (5, .int (a5 + 1))]) (st' := []) (show z_pt 67 44 = some (6, .goto (-36), [6]) by decide +kernel) rfl (fun _ _ _ => rfl) ?_
      exact ih _ _ _  h
def pA_leastDistance  (μ : z_Mem) (i1 : Int32) (i2 : Int32) (i3 : Int32) : Option Int32 := pA_leastDistance_L8 z_fu μ i1 i2 i3 (fun k10 k11 => some k10) 3600 0
theorem pA_leastDistance_run  {μ : z_Mem} {i1 : Int32} {i2 : Int32} {i3 : Int32}  {r : Int32} (h : pA_leastDistance μ i1 i2 i3 = some r) : Rn 2 67 0 [(0, .ref 1), (1, .int i1), (2, .int i2), (3, .int i3)] [] μ (.inl (some (.int r))) μ := by
  unfold pA_leastDistance at h
  refine R_const (pc := 0) (pc' := 3) (v := 3600) (show z_ptc 67 0 = some (3, 3600) by decide +kernel) ?_
  refine R_pure (pc := 3) (pc' := 5) (ls' := [(0, .ref 1), (1, .int i1), (2, .int i2), (3, .int i3), (4, .int 3600)]) (st' := []) (show z_pt 67 3 = some (6, .istore 4, []) by decide +kernel) rfl (fun _ _ _ => rfl) ?_
  refine R_const (pc := 5) (pc' := 6) (v := 0) (show z_ptc 67 5 = some (6, 0) by decide +kernel) ?_
  refine R_pure (pc := 6) (pc' := 8) (ls' := [(0, .ref 1), (1, .int i1), (2, .int i2), (3, .int i3), (4, .int 3600), (5, .int 0)]) (st' := []) (show z_pt 67 6 = some (6, .istore 5, []) by decide +kernel) rfl (fun _ _ _ => rfl) ?_
  refine pA_leastDistance_L8_run  _ _ _ _ _  _ (by omega) ?_ _ _ _ _ h
  intro k10 k11 r h
  refine R_pure (pc := 47) (pc' := 49) (st' := [.int k10]) (show z_pt 67 47 = some (6, .iload 4, []) by decide +kernel) rfl (fun _ _ _ => rfl) ?_
  cases h
  exact R_retI (show z_pt 67 49 = some (6, .ireturn, []) by decide +kernel) (by decide +kernel)
def pA_bestTurn_L29_B (R : Int32 → Int32 → Int32 → Option Int32)  (μ : z_Mem) (f1 : Int32) (f2 : Int32) (f5 : Int32) (K : Int32 → Int32 → Int32 → Option Int32) (a3 : Int32) (a4 : Int32) (a6 : Int32) : Option Int32 := if f5 ≤ a6 then K a3 a4 a6 else (pA_leastDistance μ f1 f2 a6).bind fun q6 => if a4 ≤ q6 then R a3 a4 (a6 + 1) else R a6 q6 (a6 + 1)
def pA_bestTurn_L29 : Nat → z_Mem → Int32 → Int32 → Int32 → (Int32 → Int32 → Int32 → Option Int32) → Int32 → Int32 → Int32 → Option Int32
  | 0 => fun _ _ _ _ _ _ _ _ => none
  | n + 1 => fun μ f1 f2 f5 K a3 a4 a6 => pA_bestTurn_L29_B (pA_bestTurn_L29 n μ f1 f2 f5 K) μ f1 f2 f5 K a3 a4 a6
theorem pA_bestTurn_L29_run  (μ : z_Mem) (f1 : Int32) (f2 : Int32) (f5 : Int32) (K : Int32 → Int32 → Int32 → Option Int32)  (D : Nat) (hD : 3 ≤ D) (hK : ∀ (a3 a4 a6 : Int32) (r : Int32), K a3 a4 a6 = some r → Rn D 68 66 [(0, .ref 1), (1, .int f1), (2, .int f2), (3, .int a3), (4, .int a4), (5, .int f5), (6, .int a6)] [] μ (.inl (some (.int r))) μ) : ∀ (n : Nat) (a3 : Int32) (a4 : Int32) (a6 : Int32) (r : Int32), pA_bestTurn_L29 n μ f1 f2 f5 K a3 a4 a6 = some r → Rn D 68 29 [(0, .ref 1), (1, .int f1), (2, .int f2), (3, .int a3), (4, .int a4), (5, .int f5), (6, .int a6)] [] μ (.inl (some (.int r))) μ := by
  intro n
  induction n with
  | zero => intro a3 a4 a6 r h; cases h
  | succ n ih =>
    intro a3 a4 a6 r h
    have h : pA_bestTurn_L29_B (pA_bestTurn_L29 n μ f1 f2 f5 K) μ f1 f2 f5 K a3 a4 a6 = some r := h
    unfold pA_bestTurn_L29_B at h
    refine R_pure (pc := 29) (pc' := 31) (st' := [.int a6]) (show z_pt 68 29 = some (8, .iload 6, []) by decide +kernel) rfl (fun _ _ _ => rfl) ?_
    refine R_pure (pc := 31) (pc' := 33) (st' := [.int f5, .int a6]) (show z_pt 68 31 = some (8, .iload 5, []) by decide +kernel) rfl (fun _ _ _ => rfl) ?_
    refine R_icmge (pc := 33) (t := 66) (show z_pt 68 33 = some (8, .if_icmp .ge 33, []) by decide +kernel) (by decide) (fun c5 => ?_) (fun c5 => ?_)
    · rw [if_pos c5] at h
      exact hK _ _ _  _ h
    · rw [if_neg c5] at h
      refine R_pure (pc := 36) (pc' := 37) (st' := [.ref 1]) (show z_pt 68 36 = some (8, .aload_n 0, []) by decide +kernel) rfl (fun _ _ _ => rfl) ?_
      refine R_pure (pc := 37) (pc' := 38) (st' := [.int f1, .ref 1]) (show z_pt 68 37 = some (8, .iload_n 1, []) by decide +kernel) rfl (fun _ _ _ => rfl) ?_
      refine R_pure (pc := 38) (pc' := 39) (st' := [.int f2, .int f1, .ref 1]) (show z_pt 68 38 = some (8, .iload_n 2, []) by decide +kernel) rfl (fun _ _ _ => rfl) ?_
      refine R_pure (pc := 39) (pc' := 41) (st' := [.int a6, .int f2, .int f1, .ref 1]) (show z_pt 68 39 = some (8, .iload 6, []) by decide +kernel) rfl (fun _ _ _ => rfl) ?_
      obtain ⟨q6, e7, h⟩ := z_bs h
      refine R_call (pc := 41) (rr := []) (show z_pt 68 41 = some (8, .invokevirtual 81, [0, 67, 3, 3227, 3209, 3210, 1002, 3211]) by decide +kernel) rfl (show z_r2 67 = some (7, 6, true) by decide +kernel) rfl rfl (Or.inr ⟨_, _, rfl, (by decide +kernel)⟩) (pA_leastDistance_run  e7) (by omega) ?_
      refine R_at2 (pc := 44) (st := [.int q6]) ?_
      refine R_pure (pc := 44) (pc' := 46) (ls' := [(0, .ref 1), (1, .int f1), (2, .int f2), (3, .int a3), (4, .int a4), (5, .int f5), (6, .int a6), (7, .int q6)]) (st' := []) (show z_pt 68 44 = some (8, .istore 7, []) by decide +kernel) rfl (fun _ _ _ => rfl) ?_
      refine R_pure (pc := 46) (pc' := 48) (st' := [.int q6]) (show z_pt 68 46 = some (8, .iload 7, []) by decide +kernel) rfl (fun _ _ _ => rfl) ?_
      refine R_pure (pc := 48) (pc' := 50) (st' := [.int a4, .int q6]) (show z_pt 68 48 = some (8, .iload 4, []) by decide +kernel) rfl (fun _ _ _ => rfl) ?_
      refine R_icmge (pc := 50) (t := 60) (show z_pt 68 50 = some (8, .if_icmp .ge 10, []) by decide +kernel) (by decide) (fun c8 => ?_) (fun c8 => ?_)
      · rw [if_pos c8] at h
        refine R_inc (pc := 60) (pc' := 63) (ls' := [(0, .ref 1), (1, .int f1), (2, .int f2), (3, .int a3), (4, .int a4), (5, .int f5), (6, .int (a6 + 1)), (7, .int q6)]) (c := 1) (show z_pt 68 60 = some (8, .iinc 6 1, []) by decide +kernel) (by decide) rfl rfl ?_
        refine R_pure (pc := 63) (pc' := 29) (ls' := [(0, .ref 1), (1, .int f1), (2, .int f2), (3, .int a3), (4, .int a4), (5, .int f5), (6, .int (a6 + 1))]) (st' := []) (show z_pt 68 63 = some (8, .goto (-34), [7]) by decide +kernel) rfl (fun _ _ _ => rfl) ?_
        exact ih _ _ _ _  h
      · rw [if_neg c8] at h
        refine R_pure (pc := 53) (pc' := 55) (st' := [.int q6]) (show z_pt 68 53 = some (8, .iload 7, []) by decide +kernel) rfl (fun _ _ _ => rfl) ?_
        refine R_pure (pc := 55) (pc' := 57) (ls' := [(0, .ref 1), (1, .int f1), (2, .int f2), (3, .int a3), (4, .int q6), (5, .int f5), (6, .int a6), (7, .int q6)]) (st' := []) (show z_pt 68 55 = some (8, .istore 4, []) by decide +kernel) rfl (fun _ _ _ => rfl) ?_
        refine R_pure (pc := 57) (pc' := 59) (st' := [.int a6]) (show z_pt 68 57 = some (8, .iload 6, []) by decide +kernel) rfl (fun _ _ _ => rfl) ?_
        refine R_pure (pc := 59) (pc' := 60) (ls' := [(0, .ref 1), (1, .int f1), (2, .int f2), (3, .int a6), (4, .int q6), (5, .int f5), (6, .int a6), (7, .int q6)]) (st' := []) (show z_pt 68 59 = some (8, .istore_n 3, []) by decide +kernel) rfl (fun _ _ _ => rfl) ?_
        refine R_inc (pc := 60) (pc' := 63) (ls' := [(0, .ref 1), (1, .int f1), (2, .int f2), (3, .int a6), (4, .int q6), (5, .int f5), (6, .int (a6 + 1)), (7, .int q6)]) (c := 1) (show z_pt 68 60 = some (8, .iinc 6 1, []) by decide +kernel) (by decide) rfl rfl ?_
        refine R_pure (pc := 63) (pc' := 29) (ls' := [(0, .ref 1), (1, .int f1), (2, .int f2), (3, .int a6), (4, .int q6), (5, .int f5), (6, .int (a6 + 1))]) (st' := []) (show z_pt 68 63 = some (8, .goto (-34), [7]) by decide +kernel) rfl (fun _ _ _ => rfl) ?_
        exact ih _ _ _ _  h
def pA_bestTurn  (μ : z_Mem) (i1 : Int32) (i2 : Int32) : Option Int32 := (z_rd μ 10 4 i1).bind fun v1 => (z_rd μ 3 10 v1).bind fun v3 => pA_bestTurn_L29 z_fu μ i1 i2 v3 (fun k9 k10 k11 => some k9) 0 3600 0
theorem pA_bestTurn_run  {μ : z_Mem} {i1 : Int32} {i2 : Int32}  {r : Int32} (h : pA_bestTurn μ i1 i2 = some r) : Rn 3 68 0 [(0, .ref 1), (1, .int i1), (2, .int i2)] [] μ (.inl (some (.int r))) μ := by
  unfold pA_bestTurn at h
  refine R_const (pc := 0) (pc' := 1) (v := 0) (show z_ptc 68 0 = some (1, 0) by decide +kernel) ?_
  refine R_pure (pc := 1) (pc' := 2) (ls' := [(0, .ref 1), (1, .int i1), (2, .int i2), (3, .int 0)]) (st' := []) (show z_pt 68 1 = some (8, .istore_n 3, []) by decide +kernel) rfl (fun _ _ _ => rfl) ?_
  refine R_const (pc := 2) (pc' := 5) (v := 3600) (show z_ptc 68 2 = some (5, 3600) by decide +kernel) ?_
  refine R_pure (pc := 5) (pc' := 7) (ls' := [(0, .ref 1), (1, .int i1), (2, .int i2), (3, .int 0), (4, .int 3600)]) (st' := []) (show z_pt 68 5 = some (8, .istore 4, []) by decide +kernel) rfl (fun _ _ _ => rfl) ?_
  refine R_pure (pc := 7) (pc' := 8) (st' := [.ref 1]) (show z_pt 68 7 = some (8, .aload_n 0, []) by decide +kernel) rfl (fun _ _ _ => rfl) ?_
  refine R_getR (pc := 8) (a := 1) (b := 2) (show z_pt 68 8 = some (8, .getfield 12, [7, 0, 1171]) by decide +kernel) (by decide +kernel) ?_
  refine R_at (pc := 11) ?_
  refine R_getR (pc := 11) (a := 2) (b := 3) (show z_pt 68 11 = some (8, .getfield 56, [2, 3, 1057]) by decide +kernel) (by decide +kernel) ?_
  refine R_at (pc := 14) ?_
  refine R_pure (pc := 14) (pc' := 15) (st' := [.ref 1, .ref 3]) (show z_pt 68 14 = some (8, .aload_n 0, []) by decide +kernel) rfl (fun _ _ _ => rfl) ?_
  refine R_getR (pc := 15) (a := 1) (b := 9) (show z_pt 68 15 = some (8, .getfield 21, [7, 1, 1173]) by decide +kernel) (by decide +kernel) ?_
  refine R_at (pc := 18) ?_
  refine R_getR (pc := 18) (a := 9) (b := 10) (show z_pt 68 18 = some (8, .getfield 52, [8, 1, 1104]) by decide +kernel) (by decide +kernel) ?_
  refine R_at (pc := 21) ?_
  refine R_pure (pc := 21) (pc' := 22) (st' := [.int i1, .ref 10, .ref 3]) (show z_pt 68 21 = some (8, .iload_n 1, []) by decide +kernel) rfl (fun _ _ _ => rfl) ?_
  obtain ⟨v1, e2, h⟩ := z_bs h
  refine R_ialdR (pc := 22) (a := 10) (n := 4) (show z_pt 68 22 = some (8, .iaload, []) by decide +kernel) (show z_ar 10 0 4 = true by decide +kernel) e2 ?_
  refine R_at (pc := 23) ?_
  obtain ⟨v3, e4, h⟩ := z_bs h
  refine R_ialdR (pc := 23) (a := 3) (n := 10) (show z_pt 68 23 = some (8, .iaload, []) by decide +kernel) (show z_ar 3 0 10 = true by decide +kernel) e4 ?_
  refine R_at (pc := 24) ?_
  refine R_pure (pc := 24) (pc' := 26) (ls' := [(0, .ref 1), (1, .int i1), (2, .int i2), (3, .int 0), (4, .int 3600), (5, .int v3)]) (st' := []) (show z_pt 68 24 = some (8, .istore 5, []) by decide +kernel) rfl (fun _ _ _ => rfl) ?_
  refine R_const (pc := 26) (pc' := 27) (v := 0) (show z_ptc 68 26 = some (27, 0) by decide +kernel) ?_
  refine R_pure (pc := 27) (pc' := 29) (ls' := [(0, .ref 1), (1, .int i1), (2, .int i2), (3, .int 0), (4, .int 3600), (5, .int v3), (6, .int 0)]) (st' := []) (show z_pt 68 27 = some (8, .istore 6, []) by decide +kernel) rfl (fun _ _ _ => rfl) ?_
  refine pA_bestTurn_L29_run  _ _ _ _ _  _ (by omega) ?_ _ _ _ _ _ h
  intro k9 k10 k11 r h
  refine R_pure (pc := 66) (pc' := 67) (st' := [.int k9]) (show z_pt 68 66 = some (8, .iload_n 3, []) by decide +kernel) rfl (fun _ _ _ => rfl) ?_
  cases h
  exact R_retI (show z_pt 68 67 = some (8, .ireturn, []) by decide +kernel) (by decide +kernel)
def pA_isAligned_L2_B (R : Int32 → Option Int32)  (μ : z_Mem) (f1 : Int32) (f2 : Int32) (K : Int32 → Option Int32) (a3 : Int32) : Option Int32 := if (μ 12 0) ≤ a3 then K a3 else (z_rd μ 14 8 a3).bind fun v2 => (pA_leastDistance μ f1 v2 0).bind fun q4 => if f2 < q4 then R (a3 + 1) else some 1
def pA_isAligned_L2 : Nat → z_Mem → Int32 → Int32 → (Int32 → Option Int32) → Int32 → Option Int32
  | 0 => fun _ _ _ _ _ => none
  | n + 1 => fun μ f1 f2 K a3 => pA_isAligned_L2_B (pA_isAligned_L2 n μ f1 f2 K) μ f1 f2 K a3
theorem pA_isAligned_L2_run  (μ : z_Mem) (f1 : Int32) (f2 : Int32) (K : Int32 → Option Int32)  (D : Nat) (hD : 3 ≤ D) (hK : ∀ (a3 : Int32) (r : Int32), K a3 = some r → Rn D 69 40 [(0, .ref 1), (1, .int f1), (2, .int f2), (3, .int a3)] [] μ (.inl (some (.int r))) μ) : ∀ (n : Nat) (a3 : Int32) (r : Int32), pA_isAligned_L2 n μ f1 f2 K a3 = some r → Rn D 69 2 [(0, .ref 1), (1, .int f1), (2, .int f2), (3, .int a3)] [] μ (.inl (some (.int r))) μ := by
  intro n
  induction n with
  | zero => intro a3 r h; cases h
  | succ n ih =>
    intro a3 r h
    have h : pA_isAligned_L2_B (pA_isAligned_L2 n μ f1 f2 K) μ f1 f2 K a3 = some r := h
    unfold pA_isAligned_L2_B at h
    refine R_pure (pc := 2) (pc' := 3) (st' := [.int a3]) (show z_pt 69 2 = some (4, .iload_n 3, []) by decide +kernel) rfl (fun _ _ _ => rfl) ?_
    refine R_pure (pc := 3) (pc' := 4) (st' := [.ref 1, .int a3]) (show z_pt 69 3 = some (4, .aload_n 0, []) by decide +kernel) rfl (fun _ _ _ => rfl) ?_
    refine R_getR (pc := 4) (a := 1) (b := 12) (show z_pt 69 4 = some (4, .getfield 28, [7, 2, 1175]) by decide +kernel) (by decide +kernel) ?_
    refine R_at (pc := 7) ?_
    refine R_getI (pc := 7) (a := 12) (show z_pt 69 7 = some (4, .getfield 84, [6, 0, 1123]) by decide +kernel) (by decide +kernel) ?_
    refine R_at (pc := 10) ?_
    refine R_icmge (pc := 10) (t := 40) (show z_pt 69 10 = some (4, .if_icmp .ge 30, []) by decide +kernel) (by decide) (fun c1 => ?_) (fun c1 => ?_)
    · rw [if_pos c1] at h
      exact hK _  _ h
    · rw [if_neg c1] at h
      refine R_pure (pc := 13) (pc' := 14) (st' := [.ref 1]) (show z_pt 69 13 = some (4, .aload_n 0, []) by decide +kernel) rfl (fun _ _ _ => rfl) ?_
      refine R_pure (pc := 14) (pc' := 15) (st' := [.int f1, .ref 1]) (show z_pt 69 14 = some (4, .iload_n 1, []) by decide +kernel) rfl (fun _ _ _ => rfl) ?_
      refine R_pure (pc := 15) (pc' := 16) (st' := [.ref 1, .int f1, .ref 1]) (show z_pt 69 15 = some (4, .aload_n 0, []) by decide +kernel) rfl (fun _ _ _ => rfl) ?_
      refine R_getR (pc := 16) (a := 1) (b := 12) (show z_pt 69 16 = some (4, .getfield 28, [7, 2, 1175]) by decide +kernel) (by decide +kernel) ?_
      refine R_at (pc := 19) ?_
      refine R_getR (pc := 19) (a := 12) (b := 14) (show z_pt 69 19 = some (4, .getfield 88, [6, 4, 1130]) by decide +kernel) (by decide +kernel) ?_
      refine R_at (pc := 22) ?_
      refine R_pure (pc := 22) (pc' := 23) (st' := [.int a3, .ref 14, .int f1, .ref 1]) (show z_pt 69 22 = some (4, .iload_n 3, []) by decide +kernel) rfl (fun _ _ _ => rfl) ?_
      obtain ⟨v2, e3, h⟩ := z_bs h
      refine R_ialdR (pc := 23) (a := 14) (n := 8) (show z_pt 69 23 = some (4, .iaload, []) by decide +kernel) (show z_ar 14 0 8 = true by decide +kernel) e3 ?_
      refine R_at (pc := 24) ?_
      refine R_const (pc := 24) (pc' := 25) (v := 0) (show z_ptc 69 24 = some (25, 0) by decide +kernel) ?_
      obtain ⟨q4, e5, h⟩ := z_bs h
      refine R_call (pc := 25) (rr := []) (show z_pt 69 25 = some (4, .invokevirtual 81, [0, 67, 3, 3227, 3209, 3210, 1002, 3211]) by decide +kernel) rfl (show z_r2 67 = some (7, 6, true) by decide +kernel) rfl rfl (Or.inr ⟨_, _, rfl, (by decide +kernel)⟩) (pA_leastDistance_run  e5) (by omega) ?_
      refine R_at2 (pc := 28) (st := [.int q4]) ?_
      refine R_pure (pc := 28) (pc' := 29) (st' := [.int f2, .int q4]) (show z_pt 69 28 = some (4, .iload_n 2, []) by decide +kernel) rfl (fun _ _ _ => rfl) ?_
      refine R_icmgt (pc := 29) (t := 34) (show z_pt 69 29 = some (4, .if_icmp .gt 5, []) by decide +kernel) (by decide) (fun c6 => ?_) (fun c6 => ?_)
      · rw [if_pos c6] at h
        refine R_inc (pc := 34) (pc' := 37) (ls' := [(0, .ref 1), (1, .int f1), (2, .int f2), (3, .int (a3 + 1))]) (c := 1) (show z_pt 69 34 = some (4, .iinc 3 1, []) by decide +kernel) (by decide) rfl rfl ?_
        refine R_pure (pc := 37) (pc' := 2) (ls' := [(0, .ref 1), (1, .int f1), (2, .int f2), (3, .int (a3 + 1))]) (st' := []) (show z_pt 69 37 = some (4, .goto (-35), [4]) by decide +kernel) rfl (fun _ _ _ => rfl) ?_
        exact ih _ _  h
      · rw [if_neg c6] at h
        refine R_const (pc := 32) (pc' := 33) (v := 1) (show z_ptc 69 32 = some (33, 1) by decide +kernel) ?_
        cases h
        exact R_retZ (show z_pt 69 33 = some (4, .ireturn, []) by decide +kernel) (t := .boolean) (by decide +kernel) (by decide)
def pA_isAligned  (μ : z_Mem) (i1 : Int32) (i2 : Int32) : Option Int32 := pA_isAligned_L2 z_fu μ i1 i2 (fun k7 => some 0) 0
theorem pA_isAligned_run  {μ : z_Mem} {i1 : Int32} {i2 : Int32}  {r : Int32} (h : pA_isAligned μ i1 i2 = some r) : Rn 3 69 0 [(0, .ref 1), (1, .int i1), (2, .int i2)] [] μ (.inl (some (.int r))) μ := by
  unfold pA_isAligned at h
  refine R_const (pc := 0) (pc' := 1) (v := 0) (show z_ptc 69 0 = some (1, 0) by decide +kernel) ?_
  refine R_pure (pc := 1) (pc' := 2) (ls' := [(0, .ref 1), (1, .int i1), (2, .int i2), (3, .int 0)]) (st' := []) (show z_pt 69 1 = some (4, .istore_n 3, []) by decide +kernel) rfl (fun _ _ _ => rfl) ?_
  refine pA_isAligned_L2_run  _ _ _ _  _ (by omega) ?_ _ _ _ h
  intro k7 r h
  refine R_const (pc := 40) (pc' := 41) (v := 0) (show z_ptc 69 40 = some (41, 0) by decide +kernel) ?_
  cases h
  exact R_retZ (show z_pt 69 41 = some (4, .ireturn, []) by decide +kernel) (t := .boolean) (by decide +kernel) (by decide)
def pQ_hasWheel  (μ : z_Mem) (i1 : Int32) : Option Int32 := if i1 < 0 then some 0 else if (μ 9 0) ≤ i1 then some 0 else some 1
theorem pQ_hasWheel_run  {μ : z_Mem} {i1 : Int32}  {r : Int32} (h : pQ_hasWheel μ i1 = some r) : Rn 0 72 0 [(0, .ref 9), (1, .int i1)] [] μ (.inl (some (.int r))) μ := by
  unfold pQ_hasWheel at h
  refine R_pure (pc := 0) (pc' := 1) (st' := [.int i1]) (show z_pt 72 0 = some (2, .iload_n 1, []) by decide +kernel) rfl (fun _ _ _ => rfl) ?_
  refine R_iflt (pc := 1) (t := 16) (show z_pt 72 1 = some (2, .ifCond .lt 15, []) by decide +kernel) (by decide) (fun c1 => ?_) (fun c1 => ?_)
  · rw [if_pos c1] at h
    refine R_const (pc := 16) (pc' := 17) (v := 0) (show z_ptc 72 16 = some (17, 0) by decide +kernel) ?_
    cases h
    exact R_retZ (show z_pt 72 17 = some (2, .ireturn, []) by decide +kernel) (t := .boolean) (by decide +kernel) (by decide)
  · rw [if_neg c1] at h
    refine R_pure (pc := 4) (pc' := 5) (st' := [.int i1]) (show z_pt 72 4 = some (2, .iload_n 1, []) by decide +kernel) rfl (fun _ _ _ => rfl) ?_
    refine R_pure (pc := 5) (pc' := 6) (st' := [.ref 9, .int i1]) (show z_pt 72 5 = some (2, .aload_n 0, []) by decide +kernel) rfl (fun _ _ _ => rfl) ?_
    refine R_getI (pc := 6) (a := 9) (show z_pt 72 6 = some (2, .getfield 18, [8, 0, 1101]) by decide +kernel) (by decide +kernel) ?_
    refine R_at (pc := 9) ?_
    refine R_icmge (pc := 9) (t := 16) (show z_pt 72 9 = some (2, .if_icmp .ge 7, []) by decide +kernel) (by decide) (fun c2 => ?_) (fun c2 => ?_)
    · rw [if_pos c2] at h
      refine R_const (pc := 16) (pc' := 17) (v := 0) (show z_ptc 72 16 = some (17, 0) by decide +kernel) ?_
      cases h
      exact R_retZ (show z_pt 72 17 = some (2, .ireturn, []) by decide +kernel) (t := .boolean) (by decide +kernel) (by decide)
    · rw [if_neg c2] at h
      refine R_const (pc := 12) (pc' := 13) (v := 1) (show z_ptc 72 12 = some (13, 1) by decide +kernel) ?_
      refine R_pure (pc := 13) (pc' := 17) (show z_pt 72 13 = some (2, .goto 4, []) by decide +kernel) rfl (fun _ _ _ => rfl) ?_
      cases h
      exact R_retZ (show z_pt 72 17 = some (2, .ireturn, []) by decide +kernel) (t := .boolean) (by decide +kernel) (by decide)
def pQ_add  (μ : z_Mem) (i1 : Int32) (i2 : Int32) : Option (Int32 × z_Mem) := if 4 ≤ (μ 9 0) then some ((μ 9 0), μ) else if z_inb (μ 9 0) 4 = true then if z_inb (μ 9 0) 4 = true then some ((μ 9 0), (z_u (z_u (z_u μ 10 (μ 9 0).toNatClampNeg i1) 11 (μ 9 0).toNatClampNeg i2) 9 0 (((z_u (z_u μ 10 (μ 9 0).toNatClampNeg i1) 11 (μ 9 0).toNatClampNeg i2) 9 0) + 1))) else none else none
theorem pQ_add_run  {μ : z_Mem} {i1 : Int32} {i2 : Int32}  {r : (Int32 × z_Mem)} (h : pQ_add μ i1 i2 = some r) : Rn 0 73 0 [(0, .ref 9), (1, .int i1), (2, .int i2)] [] μ (.inl (some (.int r.1))) r.2 := by
  unfold pQ_add at h
  refine R_pure (pc := 0) (pc' := 1) (st' := [.ref 9]) (show z_pt 73 0 = some (4, .aload_n 0, []) by decide +kernel) rfl (fun _ _ _ => rfl) ?_
  refine R_getI (pc := 1) (a := 9) (show z_pt 73 1 = some (4, .getfield 18, [8, 0, 1101]) by decide +kernel) (by decide +kernel) ?_
  refine R_at (pc := 4) ?_
  refine R_pure (pc := 4) (pc' := 5) (ls' := [(0, .ref 9), (1, .int i1), (2, .int i2), (3, .int (μ 9 0))]) (st' := []) (show z_pt 73 4 = some (4, .istore_n 3, []) by decide +kernel) rfl (fun _ _ _ => rfl) ?_
  refine R_pure (pc := 5) (pc' := 6) (st' := [.int (μ 9 0)]) (show z_pt 73 5 = some (4, .iload_n 3, []) by decide +kernel) rfl (fun _ _ _ => rfl) ?_
  refine R_const (pc := 6) (pc' := 7) (v := 4) (show z_ptc 73 6 = some (7, 4) by decide +kernel) ?_
  refine R_icmge (pc := 7) (t := 34) (show z_pt 73 7 = some (4, .if_icmp .ge 27, []) by decide +kernel) (by decide) (fun c1 => ?_) (fun c1 => ?_)
  · rw [if_pos c1] at h
    refine R_pure (pc := 34) (pc' := 35) (st' := [.int (μ 9 0)]) (show z_pt 73 34 = some (4, .iload_n 3, []) by decide +kernel) rfl (fun _ _ _ => rfl) ?_
    cases h
    exact R_retI (show z_pt 73 35 = some (4, .ireturn, []) by decide +kernel) (by decide +kernel)
  · rw [if_neg c1] at h
    refine R_pure (pc := 10) (pc' := 11) (st' := [.ref 9]) (show z_pt 73 10 = some (4, .aload_n 0, []) by decide +kernel) rfl (fun _ _ _ => rfl) ?_
    refine R_getR (pc := 11) (a := 9) (b := 10) (show z_pt 73 11 = some (4, .getfield 9, [8, 1, 1103]) by decide +kernel) (by decide +kernel) ?_
    refine R_at (pc := 14) ?_
    refine R_pure (pc := 14) (pc' := 15) (st' := [.int (μ 9 0), .ref 10]) (show z_pt 73 14 = some (4, .iload_n 3, []) by decide +kernel) rfl (fun _ _ _ => rfl) ?_
    refine R_pure (pc := 15) (pc' := 16) (st' := [.int i1, .int (μ 9 0), .ref 10]) (show z_pt 73 15 = some (4, .iload_n 1, []) by decide +kernel) rfl (fun _ _ _ => rfl) ?_
    obtain ⟨g2, h⟩ := z_ig h
    refine R_iast (pc := 16) (a := 10) (n := 4) (show z_pt 73 16 = some (4, .iastore, []) by decide +kernel) (show z_ar 10 0 4 = true by decide +kernel) g2 ?_
    refine R_at (pc := 17) ?_
    refine R_pure (pc := 17) (pc' := 18) (st' := [.ref 9]) (show z_pt 73 17 = some (4, .aload_n 0, []) by decide +kernel) rfl (fun _ _ _ => rfl) ?_
    refine R_getR (pc := 18) (a := 9) (b := 11) (show z_pt 73 18 = some (4, .getfield 15, [8, 2, 1106]) by decide +kernel) (by decide +kernel) ?_
    refine R_at (pc := 21) ?_
    refine R_pure (pc := 21) (pc' := 22) (st' := [.int (μ 9 0), .ref 11]) (show z_pt 73 21 = some (4, .iload_n 3, []) by decide +kernel) rfl (fun _ _ _ => rfl) ?_
    refine R_pure (pc := 22) (pc' := 23) (st' := [.int i2, .int (μ 9 0), .ref 11]) (show z_pt 73 22 = some (4, .iload_n 2, []) by decide +kernel) rfl (fun _ _ _ => rfl) ?_
    obtain ⟨g3, h⟩ := z_ig h
    refine R_iast (pc := 23) (a := 11) (n := 4) (show z_pt 73 23 = some (4, .iastore, []) by decide +kernel) (show z_ar 11 0 4 = true by decide +kernel) g3 ?_
    refine R_at (pc := 24) ?_
    refine R_pure (pc := 24) (pc' := 25) (st' := [.ref 9]) (show z_pt 73 24 = some (4, .aload_n 0, []) by decide +kernel) rfl (fun _ _ _ => rfl) ?_
    refine R_pure (pc := 25) (pc' := 26) (st' := [.ref 9, .ref 9]) (show z_pt 73 25 = some (4, .dup, []) by decide +kernel) rfl (fun _ _ _ => rfl) ?_
    refine R_getI (pc := 26) (a := 9) (show z_pt 73 26 = some (4, .getfield 18, [8, 0, 1101]) by decide +kernel) (by decide +kernel) ?_
    refine R_at (pc := 29) ?_
    refine R_const (pc := 29) (pc' := 30) (v := 1) (show z_ptc 73 29 = some (30, 1) by decide +kernel) ?_
    refine R_pure (pc := 30) (pc' := 31) (st' := [.int (((z_u (z_u μ 10 (μ 9 0).toNatClampNeg i1) 11 (μ 9 0).toNatClampNeg i2) 9 0) + 1), .ref 9]) (show z_pt 73 30 = some (4, .iadd, []) by decide +kernel) rfl (fun _ _ _ => rfl) ?_
    refine R_putI (pc := 31) (a := 9) (show z_pt 73 31 = some (4, .putfield 18, [8, 0, 1101]) by decide +kernel) (by decide +kernel) ⟨rfl, rfl⟩ ?_
    refine R_at (pc := 34) ?_
    refine R_pure (pc := 34) (pc' := 35) (st' := [.int (μ 9 0)]) (show z_pt 73 34 = some (4, .iload_n 3, []) by decide +kernel) rfl (fun _ _ _ => rfl) ?_
    cases h
    exact R_retI (show z_pt 73 35 = some (4, .ireturn, []) by decide +kernel) (by decide +kernel)
def pG_isWithin  (μ : z_Mem) (i0 : Int32) (i1 : Int32) (i2 : Int32) : Option Int32 := if i0 < i1 then some 0 else if i2 < i0 then some 0 else some 1
theorem pG_isWithin_run  {μ : z_Mem} {i0 : Int32} {i1 : Int32} {i2 : Int32}  {r : Int32} (h : pG_isWithin μ i0 i1 i2 = some r) : Rn 0 148 0 [(0, .int i0), (1, .int i1), (2, .int i2)] [] μ (.inl (some (.int r))) μ := by
  unfold pG_isWithin at h
  refine R_pure (pc := 0) (pc' := 1) (st' := [.int i0]) (show z_pt 148 0 = some (3, .iload_n 0, []) by decide +kernel) rfl (fun _ _ _ => rfl) ?_
  refine R_pure (pc := 1) (pc' := 2) (st' := [.int i1, .int i0]) (show z_pt 148 1 = some (3, .iload_n 1, []) by decide +kernel) rfl (fun _ _ _ => rfl) ?_
  refine R_icmlt (pc := 2) (t := 14) (show z_pt 148 2 = some (3, .if_icmp .lt 12, []) by decide +kernel) (by decide) (fun c1 => ?_) (fun c1 => ?_)
  · rw [if_pos c1] at h
    refine R_const (pc := 14) (pc' := 15) (v := 0) (show z_ptc 148 14 = some (15, 0) by decide +kernel) ?_
    cases h
    exact R_retZ (show z_pt 148 15 = some (3, .ireturn, []) by decide +kernel) (t := .boolean) (by decide +kernel) (by decide)
  · rw [if_neg c1] at h
    refine R_pure (pc := 5) (pc' := 6) (st' := [.int i0]) (show z_pt 148 5 = some (3, .iload_n 0, []) by decide +kernel) rfl (fun _ _ _ => rfl) ?_
    refine R_pure (pc := 6) (pc' := 7) (st' := [.int i2, .int i0]) (show z_pt 148 6 = some (3, .iload_n 2, []) by decide +kernel) rfl (fun _ _ _ => rfl) ?_
    refine R_icmgt (pc := 7) (t := 14) (show z_pt 148 7 = some (3, .if_icmp .gt 7, []) by decide +kernel) (by decide) (fun c2 => ?_) (fun c2 => ?_)
    · rw [if_pos c2] at h
      refine R_const (pc := 14) (pc' := 15) (v := 0) (show z_ptc 148 14 = some (15, 0) by decide +kernel) ?_
      cases h
      exact R_retZ (show z_pt 148 15 = some (3, .ireturn, []) by decide +kernel) (t := .boolean) (by decide +kernel) (by decide)
    · rw [if_neg c2] at h
      refine R_const (pc := 10) (pc' := 11) (v := 1) (show z_ptc 148 10 = some (11, 1) by decide +kernel) ?_
      refine R_pure (pc := 11) (pc' := 15) (show z_pt 148 11 = some (3, .goto 4, []) by decide +kernel) rfl (fun _ _ _ => rfl) ?_
      cases h
      exact R_retZ (show z_pt 148 15 = some (3, .ireturn, []) by decide +kernel) (t := .boolean) (by decide +kernel) (by decide)
def pG_tryGear  (μ : z_Mem) (i1 : Int32) : Option (Int32 × z_Mem) := (pG_isWithin μ i1 8 60).bind fun q1 => if q1 = 0 then some ((-2), μ) else if (μ 2 0) < 10 then (pT_addGearOf μ i1).bind fun q5 => some (q5.1, q5.2) else some ((-3), μ)
theorem pG_tryGear_run  {μ : z_Mem} {i1 : Int32}  {r : (Int32 × z_Mem)} (h : pG_tryGear μ i1 = some r) : Rn 1 125 0 [(0, .ref 0), (1, .int i1)] [] μ (.inl (some (.int r.1))) r.2 := by
  unfold pG_tryGear at h
  refine R_pure (pc := 0) (pc' := 1) (st' := [.int i1]) (show z_pt 125 0 = some (2, .iload_n 1, []) by decide +kernel) rfl (fun _ _ _ => rfl) ?_
  refine R_const (pc := 1) (pc' := 3) (v := 8) (show z_ptc 125 1 = some (3, 8) by decide +kernel) ?_
  refine R_const (pc := 3) (pc' := 5) (v := 60) (show z_ptc 125 3 = some (5, 60) by decide +kernel) ?_
  obtain ⟨q1, e2, h⟩ := z_bs h
  refine R_call (pc := 5) (rr := []) (show z_pt 125 5 = some (2, .invokestatic 239, [1, 148, 3, 2106, 2107, 0, 1001, 2108]) by decide +kernel) rfl (show z_r2 148 = some (9, 3, true) by decide +kernel) rfl rfl (Or.inl (by decide)) (pG_isWithin_run  e2) (by omega) ?_
  refine R_at2 (pc := 8) (st := [.int q1]) ?_
  refine R_ifne (pc := 8) (t := 14) (show z_pt 125 8 = some (2, .ifCond .ne 6, []) by decide +kernel) (by decide) (fun c3 => ?_) (fun c3 => ?_)
  · rw [if_neg c3] at h
    refine R_pure (pc := 14) (pc' := 15) (st' := [.ref 0]) (show z_pt 125 14 = some (2, .aload_n 0, []) by decide +kernel) rfl (fun _ _ _ => rfl) ?_
    refine R_getR (pc := 15) (a := 0) (b := 1) (show z_pt 125 15 = some (2, .getfield 17, [9, 0, 2037]) by decide +kernel) (by decide +kernel) ?_
    refine R_at (pc := 18) ?_
    refine R_getR (pc := 18) (a := 1) (b := 2) (show z_pt 125 18 = some (2, .getfield 23, [7, 0, 1172]) by decide +kernel) (by decide +kernel) ?_
    refine R_at (pc := 21) ?_
    refine R_getI (pc := 21) (a := 2) (show z_pt 125 21 = some (2, .getfield 93, [2, 0, 1050]) by decide +kernel) (by decide +kernel) ?_
    refine R_at (pc := 24) ?_
    refine R_const (pc := 24) (pc' := 26) (v := 10) (show z_ptc 125 24 = some (26, 10) by decide +kernel) ?_
    refine R_icmlt (pc := 26) (t := 34) (show z_pt 125 26 = some (2, .if_icmp .lt 8, []) by decide +kernel) (by decide) (fun c4 => ?_) (fun c4 => ?_)
    · rw [if_pos c4] at h
      refine R_pure (pc := 34) (pc' := 35) (st' := [.ref 0]) (show z_pt 125 34 = some (2, .aload_n 0, []) by decide +kernel) rfl (fun _ _ _ => rfl) ?_
      refine R_getR (pc := 35) (a := 0) (b := 1) (show z_pt 125 35 = some (2, .getfield 17, [9, 0, 2037]) by decide +kernel) (by decide +kernel) ?_
      refine R_at (pc := 38) ?_
      refine R_getR (pc := 38) (a := 1) (b := 2) (show z_pt 125 38 = some (2, .getfield 23, [7, 0, 1172]) by decide +kernel) (by decide +kernel) ?_
      refine R_at (pc := 41) ?_
      refine R_pure (pc := 41) (pc' := 42) (st' := [.int i1, .ref 2]) (show z_pt 125 41 = some (2, .iload_n 1, []) by decide +kernel) rfl (fun _ _ _ => rfl) ?_
      obtain ⟨q5, e6, h⟩ := z_bs h
      refine R_call (pc := 42) (rr := []) (show z_pt 125 42 = some (2, .invokevirtual 338, [0, 24, 1, 2109, 2110, 2111, 1003, 2112]) by decide +kernel) rfl (show z_r2 24 = some (2, 3, true) by decide +kernel) rfl rfl (Or.inr ⟨_, _, rfl, (by decide +kernel)⟩) (pT_addGearOf_run  e6) (by omega) ?_
      refine R_at2 (pc := 45) (st := [.int q5.1]) ?_
      cases h
      exact R_retI (show z_pt 125 45 = some (2, .ireturn, []) by decide +kernel) (by decide +kernel)
    · rw [if_neg c4] at h
      refine R_const (pc := 29) (pc' := 31) (v := (-3)) (show z_ptc 125 29 = some (31, (-3)) by decide +kernel) ?_
      refine R_pure (pc := 31) (pc' := 45) (show z_pt 125 31 = some (2, .goto 14, []) by decide +kernel) rfl (fun _ _ _ => rfl) ?_
      cases h
      exact R_retI (show z_pt 125 45 = some (2, .ireturn, []) by decide +kernel) (by decide +kernel)
  · rw [if_pos c3] at h
    refine R_const (pc := 11) (pc' := 13) (v := (-2)) (show z_ptc 125 11 = some (13, (-2)) by decide +kernel) ?_
    cases h
    exact R_retI (show z_pt 125 13 = some (2, .ireturn, []) by decide +kernel) (by decide +kernel)
def pG_settled  (μ : z_Mem) (i1 : Int32) : Option ((Int32 ⊕ Nat) × z_Mem) := if i1 = (-4) then some ((.inr 3), μ) else if i1 = (-3) then some ((.inr 2), μ) else if i1 = (-2) then some ((.inr 1), μ) else if i1 = (-1) then some ((.inr 0), μ) else (pH_keep μ).bind fun q5 => some ((.inl i1), q5)
theorem pG_settled_run  {μ : z_Mem} {i1 : Int32}  {r : ((Int32 ⊕ Nat) × z_Mem)} (h : pG_settled μ i1 = some r) : Rn 6 136 0 [(0, .ref 0), (1, .int i1)] [] μ (z_oX r.1) r.2 := by
  unfold pG_settled at h
  refine R_pure (pc := 0) (pc' := 1) (st' := [.int i1]) (show z_pt 136 0 = some (2, .iload_n 1, []) by decide +kernel) rfl (fun _ _ _ => rfl) ?_
  by_cases c1 : i1 = (-4)
  · rw [if_pos c1] at h
    refine R_sw (pc := 1) (t := 56) (v := (-4)) (show z_pt 136 1 = some (2, .tableswitch 63 (-4) (-1) #[55, 47, 39, 31], []) by decide +kernel) c1 (show z_swt 136 1 (-4) = some 56 by decide +kernel) ?_
    cases h
    exact R_thr (show z_thx 136 56 = some 3 by decide +kernel) (by omega)
  rw [if_neg c1] at h
  by_cases c2 : i1 = (-3)
  · rw [if_pos c2] at h
    refine R_sw (pc := 1) (t := 48) (v := (-3)) (show z_pt 136 1 = some (2, .tableswitch 63 (-4) (-1) #[55, 47, 39, 31], []) by decide +kernel) c2 (show z_swt 136 1 (-3) = some 48 by decide +kernel) ?_
    cases h
    exact R_thr (show z_thx 136 48 = some 2 by decide +kernel) (by omega)
  rw [if_neg c2] at h
  by_cases c3 : i1 = (-2)
  · rw [if_pos c3] at h
    refine R_sw (pc := 1) (t := 40) (v := (-2)) (show z_pt 136 1 = some (2, .tableswitch 63 (-4) (-1) #[55, 47, 39, 31], []) by decide +kernel) c3 (show z_swt 136 1 (-2) = some 40 by decide +kernel) ?_
    cases h
    exact R_thr (show z_thx 136 40 = some 1 by decide +kernel) (by omega)
  rw [if_neg c3] at h
  by_cases c4 : i1 = (-1)
  · rw [if_pos c4] at h
    refine R_sw (pc := 1) (t := 32) (v := (-1)) (show z_pt 136 1 = some (2, .tableswitch 63 (-4) (-1) #[55, 47, 39, 31], []) by decide +kernel) c4 (show z_swt 136 1 (-1) = some 32 by decide +kernel) ?_
    cases h
    exact R_thr (show z_thx 136 32 = some 0 by decide +kernel) (by omega)
  rw [if_neg c4] at h
  refine R_swd (pc := 1) (t := 64) (cs := [(-4), (-3), (-2), (-1)]) (show z_pt 136 1 = some (2, .tableswitch 63 (-4) (-1) #[55, 47, 39, 31], []) by decide +kernel) (show z_swd 136 1 [(-4), (-3), (-2), (-1)] = some 64 by decide +kernel) (z_nc c1 (z_nc c2 (z_nc c3 (z_nc c4 (z_nn _))))) ?_
  refine R_pure (pc := 64) (pc' := 65) (st' := [.ref 0]) (show z_pt 136 64 = some (2, .aload_n 0, []) by decide +kernel) rfl (fun _ _ _ => rfl) ?_
  refine R_getR (pc := 65) (a := 0) (b := 57) (show z_pt 136 65 = some (2, .getfield 53, [9, 2, 2039]) by decide +kernel) (by decide +kernel) ?_
  refine R_at (pc := 68) ?_
  obtain ⟨q5, e6, h⟩ := z_bs h
  refine R_call (pc := 68) (rr := []) (show z_pt 136 68 = some (2, .invokevirtual 328, [0, 51, 0, 2230, 2231, 2232, 1011, 2233]) by decide +kernel) rfl (show z_r2 51 = some (4, 1, true) by decide +kernel) rfl rfl (Or.inr ⟨_, _, rfl, (by decide +kernel)⟩) (pH_keep_run  e6) (by omega) ?_
  refine R_at2 (pc := 71) (st := []) ?_
  refine R_pure (pc := 71) (pc' := 72) (st' := [.int i1]) (show z_pt 136 71 = some (2, .iload_n 1, []) by decide +kernel) rfl (fun _ _ _ => rfl) ?_
  cases h
  exact R_retI (show z_pt 136 72 = some (2, .ireturn, []) by decide +kernel) (by decide +kernel)
def pG_addGear  (μ : z_Mem) (i1 : Int32) : Option ((Int32 ⊕ Nat) × z_Mem) := (pH_begin μ).bind fun q1 => (pG_tryGear q1 i1).bind fun q3 => (pG_settled q3.2 q3.1).bind fun q5 => (match q5.1 with | .inl x7 => some ((.inl x7), q5.2) | .inr E8 => some ((.inr E8), q5.2))
theorem pG_addGear_run  {μ : z_Mem} {i1 : Int32}  {r : ((Int32 ⊕ Nat) × z_Mem)} (h : pG_addGear μ i1 = some r) : Rn 7 75 0 [(0, .ref 0), (1, .int i1)] [] μ (z_oX r.1) r.2 := by
  unfold pG_addGear at h
  refine R_pure (pc := 0) (pc' := 1) (st' := [.ref 0]) (show z_pt 75 0 = some (2, .aload_n 0, []) by decide +kernel) rfl (fun _ _ _ => rfl) ?_
  refine R_getR (pc := 1) (a := 0) (b := 57) (show z_pt 75 1 = some (2, .getfield 53, [9, 2, 2039]) by decide +kernel) (by decide +kernel) ?_
  refine R_at (pc := 4) ?_
  refine R_pure (pc := 4) (pc' := 5) (st' := [.ref 0, .ref 57]) (show z_pt 75 4 = some (2, .aload_n 0, []) by decide +kernel) rfl (fun _ _ _ => rfl) ?_
  refine R_getR (pc := 5) (a := 0) (b := 1) (show z_pt 75 5 = some (2, .getfield 17, [9, 0, 2037]) by decide +kernel) (by decide +kernel) ?_
  refine R_at (pc := 8) ?_
  obtain ⟨q1, e2, h⟩ := z_bs h
  refine R_call (pc := 8) (rr := []) (show z_pt 75 8 = some (2, .invokevirtual 71, [0, 49, 1, 2072, 2073, 2074, 1011, 2075]) by decide +kernel) rfl (show z_r2 49 = some (4, 3, true) by decide +kernel) rfl rfl (Or.inr ⟨_, _, rfl, (by decide +kernel)⟩) (pH_begin_run  e2) (by omega) ?_
  refine R_at2 (pc := 11) (st := []) ?_
  refine R_pure (pc := 11) (pc' := 12) (st' := [.ref 0]) (show z_pt 75 11 = some (2, .aload_n 0, []) by decide +kernel) rfl (fun _ _ _ => rfl) ?_
  refine R_pure (pc := 12) (pc' := 13) (st' := [.ref 0, .ref 0]) (show z_pt 75 12 = some (2, .aload_n 0, []) by decide +kernel) rfl (fun _ _ _ => rfl) ?_
  refine R_pure (pc := 13) (pc' := 14) (st' := [.int i1, .ref 0, .ref 0]) (show z_pt 75 13 = some (2, .iload_n 1, []) by decide +kernel) rfl (fun _ _ _ => rfl) ?_
  obtain ⟨q3, e4, h⟩ := z_bs h
  refine R_call (pc := 14) (rr := [.ref 0]) (show z_pt 75 14 = some (2, .invokevirtual 75, [0, 125, 1, 2102, 2104, 0, 1001, 2105]) by decide +kernel) rfl (show z_r2 125 = some (9, 2, true) by decide +kernel) rfl rfl (Or.inr ⟨_, _, rfl, (by decide +kernel)⟩) (pG_tryGear_run  e4) (by omega) ?_
  refine R_at2 (pc := 17) (st := [.int q3.1, .ref 0]) ?_
  obtain ⟨q5, e6, h⟩ := z_bs h
  have y9 := pG_settled_run  e6
  cases x7h : q5.1 with
  | inl x7 =>
    rw [x7h] at h y9
    dsimp only at h
    refine R_call (pc := 17) (rr := []) (show z_pt 75 17 = some (2, .invokevirtual 79, [0, 136, 1, 2113, 2115, 1, 1001, 2116]) by decide +kernel) rfl (show z_r2 136 = some (9, 2, true) by decide +kernel) rfl rfl (Or.inr ⟨_, _, rfl, (by decide +kernel)⟩) y9 (by omega) ?_
    refine R_at2 (pc := 20) (st := [.int x7]) ?_
    cases h
    exact R_retI (show z_pt 75 20 = some (2, .ireturn, []) by decide +kernel) (by decide +kernel)
  | inr E8 =>
    rw [x7h] at h y9
    cases h
    exact R_callX (pc := 17) (rr := []) (show z_pt 75 17 = some (2, .invokevirtual 79, [0, 136, 1, 2113, 2115, 1, 1001, 2116]) by decide +kernel) rfl (show z_r2 136 = some (9, 2, true) by decide +kernel) rfl rfl (Or.inr ⟨_, _, rfl, (by decide +kernel)⟩) y9 (by decide) (by decide +kernel) (by omega)
def pG_tryMesh  (μ : z_Mem) (i1 : Int32) (i2 : Int32) (i3 : Int32) : Option (Int32 × z_Mem) := (pT_hasGear 2 μ i1).bind fun q1 => if q1 = 0 then some ((-1), μ) else (pT_hasGear 2 μ i2).bind fun q4 => if q4 = 0 then some ((-1), μ) else (pG_isWithin μ i3 0 5).bind fun q7 => if q7 = 0 then some ((-2), μ) else (pW_chainLength μ i1 i2).bind fun q10 => if q10.1 = (-1) then (pT_join q10.2 i1 i2 i3).bind fun q13 => some (q13.1, q13.2) else some ((-3), q10.2)
theorem pG_tryMesh_run  {μ : z_Mem} {i1 : Int32} {i2 : Int32} {i3 : Int32}  {r : (Int32 × z_Mem)} (h : pG_tryMesh μ i1 i2 i3 = some r) : Rn 15 126 0 [(0, .ref 0), (1, .int i1), (2, .int i2), (3, .int i3)] [] μ (.inl (some (.int r.1))) r.2 := by
  unfold pG_tryMesh at h
  refine R_pure (pc := 0) (pc' := 1) (st' := [.ref 0]) (show z_pt 126 0 = some (4, .aload_n 0, []) by decide +kernel) rfl (fun _ _ _ => rfl) ?_
  refine R_getR (pc := 1) (a := 0) (b := 1) (show z_pt 126 1 = some (4, .getfield 17, [9, 0, 2037]) by decide +kernel) (by decide +kernel) ?_
  refine R_at (pc := 4) ?_
  refine R_getR (pc := 4) (a := 1) (b := 2) (show z_pt 126 4 = some (4, .getfield 23, [7, 0, 1172]) by decide +kernel) (by decide +kernel) ?_
  refine R_at (pc := 7) ?_
  refine R_pure (pc := 7) (pc' := 8) (st' := [.int i1, .ref 2]) (show z_pt 126 7 = some (4, .iload_n 1, []) by decide +kernel) rfl (fun _ _ _ => rfl) ?_
  obtain ⟨q1, e2, h⟩ := z_bs h
  refine R_call (pc := 8) (rr := []) (show z_pt 126 8 = some (4, .invokevirtual 341, [0, 23, 1, 3005, 3006, 3007, 1003, 3008]) by decide +kernel) rfl (show z_r2 23 = some (2, 2, true) by decide +kernel) rfl rfl (Or.inr ⟨_, _, rfl, (by decide +kernel)⟩) (pT_hasGear_run (show zTr 2 = true by decide +kernel) e2) (by omega) ?_
  refine R_at2 (pc := 11) (st := [.int q1]) ?_
  refine R_ifeq (pc := 11) (t := 28) (show z_pt 126 11 = some (4, .ifCond .eq 17, []) by decide +kernel) (by decide) (fun c3 => ?_) (fun c3 => ?_)
  · rw [if_pos c3] at h
    refine R_const (pc := 28) (pc' := 29) (v := (-1)) (show z_ptc 126 28 = some (29, (-1)) by decide +kernel) ?_
    cases h
    exact R_retI (show z_pt 126 29 = some (4, .ireturn, []) by decide +kernel) (by decide +kernel)
  · rw [if_neg c3] at h
    refine R_pure (pc := 14) (pc' := 15) (st' := [.ref 0]) (show z_pt 126 14 = some (4, .aload_n 0, []) by decide +kernel) rfl (fun _ _ _ => rfl) ?_
    refine R_getR (pc := 15) (a := 0) (b := 1) (show z_pt 126 15 = some (4, .getfield 17, [9, 0, 2037]) by decide +kernel) (by decide +kernel) ?_
    refine R_at (pc := 18) ?_
    refine R_getR (pc := 18) (a := 1) (b := 2) (show z_pt 126 18 = some (4, .getfield 23, [7, 0, 1172]) by decide +kernel) (by decide +kernel) ?_
    refine R_at (pc := 21) ?_
    refine R_pure (pc := 21) (pc' := 22) (st' := [.int i2, .ref 2]) (show z_pt 126 21 = some (4, .iload_n 2, []) by decide +kernel) rfl (fun _ _ _ => rfl) ?_
    obtain ⟨q4, e5, h⟩ := z_bs h
    refine R_call (pc := 22) (rr := []) (show z_pt 126 22 = some (4, .invokevirtual 341, [0, 23, 1, 3005, 3006, 3007, 1003, 3008]) by decide +kernel) rfl (show z_r2 23 = some (2, 2, true) by decide +kernel) rfl rfl (Or.inr ⟨_, _, rfl, (by decide +kernel)⟩) (pT_hasGear_run (show zTr 2 = true by decide +kernel) e5) (by omega) ?_
    refine R_at2 (pc := 25) (st := [.int q4]) ?_
    refine R_ifne (pc := 25) (t := 30) (show z_pt 126 25 = some (4, .ifCond .ne 5, []) by decide +kernel) (by decide) (fun c6 => ?_) (fun c6 => ?_)
    · rw [if_neg c6] at h
      refine R_pure (pc := 30) (pc' := 31) (st' := [.int i3]) (show z_pt 126 30 = some (4, .iload_n 3, []) by decide +kernel) rfl (fun _ _ _ => rfl) ?_
      refine R_const (pc := 31) (pc' := 32) (v := 0) (show z_ptc 126 31 = some (32, 0) by decide +kernel) ?_
      refine R_const (pc := 32) (pc' := 33) (v := 5) (show z_ptc 126 32 = some (33, 5) by decide +kernel) ?_
      obtain ⟨q7, e8, h⟩ := z_bs h
      refine R_call (pc := 33) (rr := []) (show z_pt 126 33 = some (4, .invokestatic 239, [1, 148, 3, 2106, 2107, 0, 1001, 2108]) by decide +kernel) rfl (show z_r2 148 = some (9, 3, true) by decide +kernel) rfl rfl (Or.inl (by decide)) (pG_isWithin_run  e8) (by omega) ?_
      refine R_at2 (pc := 36) (st := [.int q7]) ?_
      refine R_ifne (pc := 36) (t := 42) (show z_pt 126 36 = some (4, .ifCond .ne 6, []) by decide +kernel) (by decide) (fun c9 => ?_) (fun c9 => ?_)
      · rw [if_neg c9] at h
        refine R_pure (pc := 42) (pc' := 43) (st' := [.ref 0]) (show z_pt 126 42 = some (4, .aload_n 0, []) by decide +kernel) rfl (fun _ _ _ => rfl) ?_
        refine R_getR (pc := 43) (a := 0) (b := 23) (show z_pt 126 43 = some (4, .getfield 30, [9, 3, 2040]) by decide +kernel) (by decide +kernel) ?_
        refine R_at (pc := 46) ?_
        refine R_pure (pc := 46) (pc' := 47) (st' := [.int i1, .ref 23]) (show z_pt 126 46 = some (4, .iload_n 1, []) by decide +kernel) rfl (fun _ _ _ => rfl) ?_
        refine R_pure (pc := 47) (pc' := 48) (st' := [.int i2, .int i1, .ref 23]) (show z_pt 126 47 = some (4, .iload_n 2, []) by decide +kernel) rfl (fun _ _ _ => rfl) ?_
        obtain ⟨q10, e11, h⟩ := z_bs h
        refine R_call (pc := 48) (rr := []) (show z_pt 126 48 = some (4, .invokevirtual 123, [0, 33, 2, 3114, 3115, 3116, 1009, 3117]) by decide +kernel) rfl (show z_r2 33 = some (3, 3, true) by decide +kernel) rfl rfl (Or.inr ⟨_, _, rfl, (by decide +kernel)⟩) (pW_chainLength_run  e11) (by omega) ?_
        refine R_at2 (pc := 51) (st := [.int q10.1]) ?_
        refine R_const (pc := 51) (pc' := 52) (v := (-1)) (show z_ptc 126 51 = some (52, (-1)) by decide +kernel) ?_
        refine R_icmeq (pc := 52) (t := 58) (show z_pt 126 52 = some (4, .if_icmp .eq 6, []) by decide +kernel) (by decide) (fun c12 => ?_) (fun c12 => ?_)
        · rw [if_pos c12] at h
          refine R_pure (pc := 58) (pc' := 59) (st' := [.ref 0]) (show z_pt 126 58 = some (4, .aload_n 0, []) by decide +kernel) rfl (fun _ _ _ => rfl) ?_
          refine R_getR (pc := 59) (a := 0) (b := 1) (show z_pt 126 59 = some (4, .getfield 17, [9, 0, 2037]) by decide +kernel) (by decide +kernel) ?_
          refine R_at (pc := 62) ?_
          refine R_getR (pc := 62) (a := 1) (b := 2) (show z_pt 126 62 = some (4, .getfield 23, [7, 0, 1172]) by decide +kernel) (by decide +kernel) ?_
          refine R_at (pc := 65) ?_
          refine R_pure (pc := 65) (pc' := 66) (st' := [.int i1, .ref 2]) (show z_pt 126 65 = some (4, .iload_n 1, []) by decide +kernel) rfl (fun _ _ _ => rfl) ?_
          refine R_pure (pc := 66) (pc' := 67) (st' := [.int i2, .int i1, .ref 2]) (show z_pt 126 66 = some (4, .iload_n 2, []) by decide +kernel) rfl (fun _ _ _ => rfl) ?_
          refine R_pure (pc := 67) (pc' := 68) (st' := [.int i3, .int i2, .int i1, .ref 2]) (show z_pt 126 67 = some (4, .iload_n 3, []) by decide +kernel) rfl (fun _ _ _ => rfl) ?_
          obtain ⟨q13, e14, h⟩ := z_bs h
          refine R_call (pc := 68) (rr := []) (show z_pt 126 68 = some (4, .invokevirtual 345, [0, 25, 3, 5047, 5048, 5049, 1003, 5050]) by decide +kernel) rfl (show z_r2 25 = some (2, 4, true) by decide +kernel) rfl rfl (Or.inr ⟨_, _, rfl, (by decide +kernel)⟩) (pT_join_run  e14) (by omega) ?_
          refine R_at2 (pc := 71) (st := [.int q13.1]) ?_
          cases h
          exact R_retI (show z_pt 126 71 = some (4, .ireturn, []) by decide +kernel) (by decide +kernel)
        · rw [if_neg c12] at h
          refine R_const (pc := 55) (pc' := 57) (v := (-3)) (show z_ptc 126 55 = some (57, (-3)) by decide +kernel) ?_
          cases h
          exact R_retI (show z_pt 126 57 = some (4, .ireturn, []) by decide +kernel) (by decide +kernel)
      · rw [if_pos c9] at h
        refine R_const (pc := 39) (pc' := 41) (v := (-2)) (show z_ptc 126 39 = some (41, (-2)) by decide +kernel) ?_
        cases h
        exact R_retI (show z_pt 126 41 = some (4, .ireturn, []) by decide +kernel) (by decide +kernel)
    · rw [if_pos c6] at h
      refine R_const (pc := 28) (pc' := 29) (v := (-1)) (show z_ptc 126 28 = some (29, (-1)) by decide +kernel) ?_
      cases h
      exact R_retI (show z_pt 126 29 = some (4, .ireturn, []) by decide +kernel) (by decide +kernel)
def pG_mesh  (μ : z_Mem) (i1 : Int32) (i2 : Int32) (i3 : Int32) : Option ((Int32 ⊕ Nat) × z_Mem) := (pH_begin μ).bind fun q1 => (pG_tryMesh q1 i1 i2 i3).bind fun q3 => (pG_settled q3.2 q3.1).bind fun q5 => (match q5.1 with | .inl x7 => some ((.inl x7), q5.2) | .inr E8 => some ((.inr E8), q5.2))
theorem pG_mesh_run  {μ : z_Mem} {i1 : Int32} {i2 : Int32} {i3 : Int32}  {r : ((Int32 ⊕ Nat) × z_Mem)} (h : pG_mesh μ i1 i2 i3 = some r) : Rn 16 76 0 [(0, .ref 0), (1, .int i1), (2, .int i2), (3, .int i3)] [] μ (z_oX r.1) r.2 := by
  unfold pG_mesh at h
  refine R_pure (pc := 0) (pc' := 1) (st' := [.ref 0]) (show z_pt 76 0 = some (4, .aload_n 0, []) by decide +kernel) rfl (fun _ _ _ => rfl) ?_
  refine R_getR (pc := 1) (a := 0) (b := 57) (show z_pt 76 1 = some (4, .getfield 53, [9, 2, 2039]) by decide +kernel) (by decide +kernel) ?_
  refine R_at (pc := 4) ?_
  refine R_pure (pc := 4) (pc' := 5) (st' := [.ref 0, .ref 57]) (show z_pt 76 4 = some (4, .aload_n 0, []) by decide +kernel) rfl (fun _ _ _ => rfl) ?_
  refine R_getR (pc := 5) (a := 0) (b := 1) (show z_pt 76 5 = some (4, .getfield 17, [9, 0, 2037]) by decide +kernel) (by decide +kernel) ?_
  refine R_at (pc := 8) ?_
  obtain ⟨q1, e2, h⟩ := z_bs h
  refine R_call (pc := 8) (rr := []) (show z_pt 76 8 = some (4, .invokevirtual 71, [0, 49, 1, 2072, 2073, 2074, 1011, 2075]) by decide +kernel) rfl (show z_r2 49 = some (4, 3, true) by decide +kernel) rfl rfl (Or.inr ⟨_, _, rfl, (by decide +kernel)⟩) (pH_begin_run  e2) (by omega) ?_
  refine R_at2 (pc := 11) (st := []) ?_
  refine R_pure (pc := 11) (pc' := 12) (st' := [.ref 0]) (show z_pt 76 11 = some (4, .aload_n 0, []) by decide +kernel) rfl (fun _ _ _ => rfl) ?_
  refine R_pure (pc := 12) (pc' := 13) (st' := [.ref 0, .ref 0]) (show z_pt 76 12 = some (4, .aload_n 0, []) by decide +kernel) rfl (fun _ _ _ => rfl) ?_
  refine R_pure (pc := 13) (pc' := 14) (st' := [.int i1, .ref 0, .ref 0]) (show z_pt 76 13 = some (4, .iload_n 1, []) by decide +kernel) rfl (fun _ _ _ => rfl) ?_
  refine R_pure (pc := 14) (pc' := 15) (st' := [.int i2, .int i1, .ref 0, .ref 0]) (show z_pt 76 14 = some (4, .iload_n 2, []) by decide +kernel) rfl (fun _ _ _ => rfl) ?_
  refine R_pure (pc := 15) (pc' := 16) (st' := [.int i3, .int i2, .int i1, .ref 0, .ref 0]) (show z_pt 76 15 = some (4, .iload_n 3, []) by decide +kernel) rfl (fun _ _ _ => rfl) ?_
  obtain ⟨q3, e4, h⟩ := z_bs h
  refine R_call (pc := 16) (rr := [.ref 0]) (show z_pt 76 16 = some (4, .invokevirtual 82, [0, 126, 3, 5043, 5045, 33, 1001, 5046]) by decide +kernel) rfl (show z_r2 126 = some (9, 4, true) by decide +kernel) rfl rfl (Or.inr ⟨_, _, rfl, (by decide +kernel)⟩) (pG_tryMesh_run  e4) (by omega) ?_
  refine R_at2 (pc := 19) (st := [.int q3.1, .ref 0]) ?_
  obtain ⟨q5, e6, h⟩ := z_bs h
  have y9 := pG_settled_run  e6
  cases x7h : q5.1 with
  | inl x7 =>
    rw [x7h] at h y9
    dsimp only at h
    refine R_call (pc := 19) (rr := []) (show z_pt 76 19 = some (4, .invokevirtual 79, [0, 136, 1, 2113, 2115, 1, 1001, 2116]) by decide +kernel) rfl (show z_r2 136 = some (9, 2, true) by decide +kernel) rfl rfl (Or.inr ⟨_, _, rfl, (by decide +kernel)⟩) y9 (by omega) ?_
    refine R_at2 (pc := 22) (st := [.int x7]) ?_
    cases h
    exact R_retI (show z_pt 76 22 = some (4, .ireturn, []) by decide +kernel) (by decide +kernel)
  | inr E8 =>
    rw [x7h] at h y9
    cases h
    exact R_callX (pc := 19) (rr := []) (show z_pt 76 19 = some (4, .invokevirtual 79, [0, 136, 1, 2113, 2115, 1, 1001, 2116]) by decide +kernel) rfl (show z_r2 136 = some (9, 2, true) by decide +kernel) rfl rfl (Or.inr ⟨_, _, rfl, (by decide +kernel)⟩) y9 (by decide) (by decide +kernel) (by omega)
def pG_tryPart  (μ : z_Mem) (i1 : Int32) (i2 : Int32) : Option (Int32 × z_Mem) := (pT_hasGear 2 μ i1).bind fun q1 => if q1 = 0 then some ((-1), μ) else (pT_hasGear 2 μ i2).bind fun q4 => if q4 = 0 then some ((-1), μ) else (pT_meshBetween μ i1 i2).bind fun q7 => if q7 = (-1) then some ((-4), μ) else (pT_separate μ q7).bind fun q10 => some (q10.1, q10.2)
theorem pG_tryPart_run  {μ : z_Mem} {i1 : Int32} {i2 : Int32}  {r : (Int32 × z_Mem)} (h : pG_tryPart μ i1 i2 = some r) : Rn 2 127 0 [(0, .ref 0), (1, .int i1), (2, .int i2)] [] μ (.inl (some (.int r.1))) r.2 := by
  unfold pG_tryPart at h
  refine R_pure (pc := 0) (pc' := 1) (st' := [.ref 0]) (show z_pt 127 0 = some (4, .aload_n 0, []) by decide +kernel) rfl (fun _ _ _ => rfl) ?_
  refine R_getR (pc := 1) (a := 0) (b := 1) (show z_pt 127 1 = some (4, .getfield 17, [9, 0, 2037]) by decide +kernel) (by decide +kernel) ?_
  refine R_at (pc := 4) ?_
  refine R_getR (pc := 4) (a := 1) (b := 2) (show z_pt 127 4 = some (4, .getfield 23, [7, 0, 1172]) by decide +kernel) (by decide +kernel) ?_
  refine R_at (pc := 7) ?_
  refine R_pure (pc := 7) (pc' := 8) (st' := [.int i1, .ref 2]) (show z_pt 127 7 = some (4, .iload_n 1, []) by decide +kernel) rfl (fun _ _ _ => rfl) ?_
  obtain ⟨q1, e2, h⟩ := z_bs h
  refine R_call (pc := 8) (rr := []) (show z_pt 127 8 = some (4, .invokevirtual 341, [0, 23, 1, 3005, 3006, 3007, 1003, 3008]) by decide +kernel) rfl (show z_r2 23 = some (2, 2, true) by decide +kernel) rfl rfl (Or.inr ⟨_, _, rfl, (by decide +kernel)⟩) (pT_hasGear_run (show zTr 2 = true by decide +kernel) e2) (by omega) ?_
  refine R_at2 (pc := 11) (st := [.int q1]) ?_
  refine R_ifeq (pc := 11) (t := 28) (show z_pt 127 11 = some (4, .ifCond .eq 17, []) by decide +kernel) (by decide) (fun c3 => ?_) (fun c3 => ?_)
  · rw [if_pos c3] at h
    refine R_const (pc := 28) (pc' := 29) (v := (-1)) (show z_ptc 127 28 = some (29, (-1)) by decide +kernel) ?_
    cases h
    exact R_retI (show z_pt 127 29 = some (4, .ireturn, []) by decide +kernel) (by decide +kernel)
  · rw [if_neg c3] at h
    refine R_pure (pc := 14) (pc' := 15) (st' := [.ref 0]) (show z_pt 127 14 = some (4, .aload_n 0, []) by decide +kernel) rfl (fun _ _ _ => rfl) ?_
    refine R_getR (pc := 15) (a := 0) (b := 1) (show z_pt 127 15 = some (4, .getfield 17, [9, 0, 2037]) by decide +kernel) (by decide +kernel) ?_
    refine R_at (pc := 18) ?_
    refine R_getR (pc := 18) (a := 1) (b := 2) (show z_pt 127 18 = some (4, .getfield 23, [7, 0, 1172]) by decide +kernel) (by decide +kernel) ?_
    refine R_at (pc := 21) ?_
    refine R_pure (pc := 21) (pc' := 22) (st' := [.int i2, .ref 2]) (show z_pt 127 21 = some (4, .iload_n 2, []) by decide +kernel) rfl (fun _ _ _ => rfl) ?_
    obtain ⟨q4, e5, h⟩ := z_bs h
    refine R_call (pc := 22) (rr := []) (show z_pt 127 22 = some (4, .invokevirtual 341, [0, 23, 1, 3005, 3006, 3007, 1003, 3008]) by decide +kernel) rfl (show z_r2 23 = some (2, 2, true) by decide +kernel) rfl rfl (Or.inr ⟨_, _, rfl, (by decide +kernel)⟩) (pT_hasGear_run (show zTr 2 = true by decide +kernel) e5) (by omega) ?_
    refine R_at2 (pc := 25) (st := [.int q4]) ?_
    refine R_ifne (pc := 25) (t := 30) (show z_pt 127 25 = some (4, .ifCond .ne 5, []) by decide +kernel) (by decide) (fun c6 => ?_) (fun c6 => ?_)
    · rw [if_neg c6] at h
      refine R_pure (pc := 30) (pc' := 31) (st' := [.ref 0]) (show z_pt 127 30 = some (4, .aload_n 0, []) by decide +kernel) rfl (fun _ _ _ => rfl) ?_
      refine R_getR (pc := 31) (a := 0) (b := 1) (show z_pt 127 31 = some (4, .getfield 17, [9, 0, 2037]) by decide +kernel) (by decide +kernel) ?_
      refine R_at (pc := 34) ?_
      refine R_getR (pc := 34) (a := 1) (b := 2) (show z_pt 127 34 = some (4, .getfield 23, [7, 0, 1172]) by decide +kernel) (by decide +kernel) ?_
      refine R_at (pc := 37) ?_
      refine R_pure (pc := 37) (pc' := 38) (st' := [.int i1, .ref 2]) (show z_pt 127 37 = some (4, .iload_n 1, []) by decide +kernel) rfl (fun _ _ _ => rfl) ?_
      refine R_pure (pc := 38) (pc' := 39) (st' := [.int i2, .int i1, .ref 2]) (show z_pt 127 38 = some (4, .iload_n 2, []) by decide +kernel) rfl (fun _ _ _ => rfl) ?_
      obtain ⟨q7, e8, h⟩ := z_bs h
      refine R_call (pc := 39) (rr := []) (show z_pt 127 39 = some (4, .invokevirtual 111, [0, 28, 2, 3009, 3010, 3011, 1003, 3012]) by decide +kernel) rfl (show z_r2 28 = some (2, 4, true) by decide +kernel) rfl rfl (Or.inr ⟨_, _, rfl, (by decide +kernel)⟩) (pT_meshBetween_run  e8) (by omega) ?_
      refine R_at2 (pc := 42) (st := [.int q7]) ?_
      refine R_pure (pc := 42) (pc' := 43) (ls' := [(0, .ref 0), (1, .int i1), (2, .int i2), (3, .int q7)]) (st' := []) (show z_pt 127 42 = some (4, .istore_n 3, []) by decide +kernel) rfl (fun _ _ _ => rfl) ?_
      refine R_pure (pc := 43) (pc' := 44) (st' := [.int q7]) (show z_pt 127 43 = some (4, .iload_n 3, []) by decide +kernel) rfl (fun _ _ _ => rfl) ?_
      refine R_const (pc := 44) (pc' := 45) (v := (-1)) (show z_ptc 127 44 = some (45, (-1)) by decide +kernel) ?_
      refine R_icmne (pc := 45) (t := 53) (show z_pt 127 45 = some (4, .if_icmp .ne 8, []) by decide +kernel) (by decide) (fun c9 => ?_) (fun c9 => ?_)
      · rw [if_neg c9] at h
        refine R_pure (pc := 53) (pc' := 54) (st' := [.ref 0]) (show z_pt 127 53 = some (4, .aload_n 0, []) by decide +kernel) rfl (fun _ _ _ => rfl) ?_
        refine R_getR (pc := 54) (a := 0) (b := 1) (show z_pt 127 54 = some (4, .getfield 17, [9, 0, 2037]) by decide +kernel) (by decide +kernel) ?_
        refine R_at (pc := 57) ?_
        refine R_getR (pc := 57) (a := 1) (b := 2) (show z_pt 127 57 = some (4, .getfield 23, [7, 0, 1172]) by decide +kernel) (by decide +kernel) ?_
        refine R_at (pc := 60) ?_
        refine R_pure (pc := 60) (pc' := 61) (st' := [.int q7, .ref 2]) (show z_pt 127 60 = some (4, .iload_n 3, []) by decide +kernel) rfl (fun _ _ _ => rfl) ?_
        obtain ⟨q10, e11, h⟩ := z_bs h
        refine R_call (pc := 61) (rr := []) (show z_pt 127 61 = some (4, .invokevirtual 348, [0, 26, 1, 3017, 3018, 3019, 1003, 3020]) by decide +kernel) rfl (show z_r2 26 = some (2, 4, true) by decide +kernel) rfl rfl (Or.inr ⟨_, _, rfl, (by decide +kernel)⟩) (pT_separate_run  e11) (by omega) ?_
        refine R_at2 (pc := 64) (st := [.int q10.1]) ?_
        cases h
        exact R_retI (show z_pt 127 64 = some (4, .ireturn, []) by decide +kernel) (by decide +kernel)
      · rw [if_pos c9] at h
        refine R_const (pc := 48) (pc' := 50) (v := (-4)) (show z_ptc 127 48 = some (50, (-4)) by decide +kernel) ?_
        refine R_pure (pc := 50) (pc' := 64) (show z_pt 127 50 = some (4, .goto 14, []) by decide +kernel) rfl (fun _ _ _ => rfl) ?_
        cases h
        exact R_retI (show z_pt 127 64 = some (4, .ireturn, []) by decide +kernel) (by decide +kernel)
    · rw [if_pos c6] at h
      refine R_const (pc := 28) (pc' := 29) (v := (-1)) (show z_ptc 127 28 = some (29, (-1)) by decide +kernel) ?_
      cases h
      exact R_retI (show z_pt 127 29 = some (4, .ireturn, []) by decide +kernel) (by decide +kernel)
def pG_part  (μ : z_Mem) (i1 : Int32) (i2 : Int32) : Option ((Int32 ⊕ Nat) × z_Mem) := (pH_begin μ).bind fun q1 => (pG_tryPart q1 i1 i2).bind fun q3 => (pG_settled q3.2 q3.1).bind fun q5 => (match q5.1 with | .inl x7 => some ((.inl x7), q5.2) | .inr E8 => some ((.inr E8), q5.2))
theorem pG_part_run  {μ : z_Mem} {i1 : Int32} {i2 : Int32}  {r : ((Int32 ⊕ Nat) × z_Mem)} (h : pG_part μ i1 i2 = some r) : Rn 7 77 0 [(0, .ref 0), (1, .int i1), (2, .int i2)] [] μ (z_oX r.1) r.2 := by
  unfold pG_part at h
  refine R_pure (pc := 0) (pc' := 1) (st' := [.ref 0]) (show z_pt 77 0 = some (3, .aload_n 0, []) by decide +kernel) rfl (fun _ _ _ => rfl) ?_
  refine R_getR (pc := 1) (a := 0) (b := 57) (show z_pt 77 1 = some (3, .getfield 53, [9, 2, 2039]) by decide +kernel) (by decide +kernel) ?_
  refine R_at (pc := 4) ?_
  refine R_pure (pc := 4) (pc' := 5) (st' := [.ref 0, .ref 57]) (show z_pt 77 4 = some (3, .aload_n 0, []) by decide +kernel) rfl (fun _ _ _ => rfl) ?_
  refine R_getR (pc := 5) (a := 0) (b := 1) (show z_pt 77 5 = some (3, .getfield 17, [9, 0, 2037]) by decide +kernel) (by decide +kernel) ?_
  refine R_at (pc := 8) ?_
  obtain ⟨q1, e2, h⟩ := z_bs h
  refine R_call (pc := 8) (rr := []) (show z_pt 77 8 = some (3, .invokevirtual 71, [0, 49, 1, 2072, 2073, 2074, 1011, 2075]) by decide +kernel) rfl (show z_r2 49 = some (4, 3, true) by decide +kernel) rfl rfl (Or.inr ⟨_, _, rfl, (by decide +kernel)⟩) (pH_begin_run  e2) (by omega) ?_
  refine R_at2 (pc := 11) (st := []) ?_
  refine R_pure (pc := 11) (pc' := 12) (st' := [.ref 0]) (show z_pt 77 11 = some (3, .aload_n 0, []) by decide +kernel) rfl (fun _ _ _ => rfl) ?_
  refine R_pure (pc := 12) (pc' := 13) (st' := [.ref 0, .ref 0]) (show z_pt 77 12 = some (3, .aload_n 0, []) by decide +kernel) rfl (fun _ _ _ => rfl) ?_
  refine R_pure (pc := 13) (pc' := 14) (st' := [.int i1, .ref 0, .ref 0]) (show z_pt 77 13 = some (3, .iload_n 1, []) by decide +kernel) rfl (fun _ _ _ => rfl) ?_
  refine R_pure (pc := 14) (pc' := 15) (st' := [.int i2, .int i1, .ref 0, .ref 0]) (show z_pt 77 14 = some (3, .iload_n 2, []) by decide +kernel) rfl (fun _ _ _ => rfl) ?_
  obtain ⟨q3, e4, h⟩ := z_bs h
  refine R_call (pc := 15) (rr := [.ref 0]) (show z_pt 77 15 = some (3, .invokevirtual 86, [0, 127, 2, 3001, 3003, 3, 1001, 3004]) by decide +kernel) rfl (show z_r2 127 = some (9, 4, true) by decide +kernel) rfl rfl (Or.inr ⟨_, _, rfl, (by decide +kernel)⟩) (pG_tryPart_run  e4) (by omega) ?_
  refine R_at2 (pc := 18) (st := [.int q3.1, .ref 0]) ?_
  obtain ⟨q5, e6, h⟩ := z_bs h
  have y9 := pG_settled_run  e6
  cases x7h : q5.1 with
  | inl x7 =>
    rw [x7h] at h y9
    dsimp only at h
    refine R_call (pc := 18) (rr := []) (show z_pt 77 18 = some (3, .invokevirtual 79, [0, 136, 1, 2113, 2115, 1, 1001, 2116]) by decide +kernel) rfl (show z_r2 136 = some (9, 2, true) by decide +kernel) rfl rfl (Or.inr ⟨_, _, rfl, (by decide +kernel)⟩) y9 (by omega) ?_
    refine R_at2 (pc := 21) (st := [.int x7]) ?_
    cases h
    exact R_retI (show z_pt 77 21 = some (3, .ireturn, []) by decide +kernel) (by decide +kernel)
  | inr E8 =>
    rw [x7h] at h y9
    cases h
    exact R_callX (pc := 18) (rr := []) (show z_pt 77 18 = some (3, .invokevirtual 79, [0, 136, 1, 2113, 2115, 1, 1001, 2116]) by decide +kernel) rfl (show z_r2 136 = some (9, 2, true) by decide +kernel) rfl rfl (Or.inr ⟨_, _, rfl, (by decide +kernel)⟩) y9 (by decide) (by decide +kernel) (by omega)
def pG_tryTurn  (μ : z_Mem) (i1 : Int32) (i2 : Int32) : Option (Int32 × z_Mem) := (pT_hasGear 2 μ i1).bind fun q1 => if q1 = 0 then some ((-1), μ) else if i2 = 0 then some ((-2), μ) else (pG_isWithin μ i2 (-99) 99).bind fun q5 => if q5 = 0 then some ((-2), μ) else (pT_turnGear 2 μ i1 i2).bind fun q8 => some (q8.1, q8.2)
theorem pG_tryTurn_run  {μ : z_Mem} {i1 : Int32} {i2 : Int32}  {r : (Int32 × z_Mem)} (h : pG_tryTurn μ i1 i2 = some r) : Rn 16 128 0 [(0, .ref 0), (1, .int i1), (2, .int i2)] [] μ (.inl (some (.int r.1))) r.2 := by
  unfold pG_tryTurn at h
  refine R_pure (pc := 0) (pc' := 1) (st' := [.ref 0]) (show z_pt 128 0 = some (3, .aload_n 0, []) by decide +kernel) rfl (fun _ _ _ => rfl) ?_
  refine R_getR (pc := 1) (a := 0) (b := 1) (show z_pt 128 1 = some (3, .getfield 17, [9, 0, 2037]) by decide +kernel) (by decide +kernel) ?_
  refine R_at (pc := 4) ?_
  refine R_getR (pc := 4) (a := 1) (b := 2) (show z_pt 128 4 = some (3, .getfield 23, [7, 0, 1172]) by decide +kernel) (by decide +kernel) ?_
  refine R_at (pc := 7) ?_
  refine R_pure (pc := 7) (pc' := 8) (st' := [.int i1, .ref 2]) (show z_pt 128 7 = some (3, .iload_n 1, []) by decide +kernel) rfl (fun _ _ _ => rfl) ?_
  obtain ⟨q1, e2, h⟩ := z_bs h
  refine R_call (pc := 8) (rr := []) (show z_pt 128 8 = some (3, .invokevirtual 341, [0, 23, 1, 3005, 3006, 3007, 1003, 3008]) by decide +kernel) rfl (show z_r2 23 = some (2, 2, true) by decide +kernel) rfl rfl (Or.inr ⟨_, _, rfl, (by decide +kernel)⟩) (pT_hasGear_run (show zTr 2 = true by decide +kernel) e2) (by omega) ?_
  refine R_at2 (pc := 11) (st := [.int q1]) ?_
  refine R_ifne (pc := 11) (t := 16) (show z_pt 128 11 = some (3, .ifCond .ne 5, []) by decide +kernel) (by decide) (fun c3 => ?_) (fun c3 => ?_)
  · rw [if_neg c3] at h
    refine R_pure (pc := 16) (pc' := 17) (st' := [.int i2]) (show z_pt 128 16 = some (3, .iload_n 2, []) by decide +kernel) rfl (fun _ _ _ => rfl) ?_
    refine R_ifeq (pc := 17) (t := 31) (show z_pt 128 17 = some (3, .ifCond .eq 14, []) by decide +kernel) (by decide) (fun c4 => ?_) (fun c4 => ?_)
    · rw [if_pos c4] at h
      refine R_const (pc := 31) (pc' := 33) (v := (-2)) (show z_ptc 128 31 = some (33, (-2)) by decide +kernel) ?_
      cases h
      exact R_retI (show z_pt 128 33 = some (3, .ireturn, []) by decide +kernel) (by decide +kernel)
    · rw [if_neg c4] at h
      refine R_pure (pc := 20) (pc' := 21) (st' := [.int i2]) (show z_pt 128 20 = some (3, .iload_n 2, []) by decide +kernel) rfl (fun _ _ _ => rfl) ?_
      refine R_const (pc := 21) (pc' := 23) (v := (-99)) (show z_ptc 128 21 = some (23, (-99)) by decide +kernel) ?_
      refine R_const (pc := 23) (pc' := 25) (v := 99) (show z_ptc 128 23 = some (25, 99) by decide +kernel) ?_
      obtain ⟨q5, e6, h⟩ := z_bs h
      refine R_call (pc := 25) (rr := []) (show z_pt 128 25 = some (3, .invokestatic 239, [1, 148, 3, 2106, 2107, 0, 1001, 2108]) by decide +kernel) rfl (show z_r2 148 = some (9, 3, true) by decide +kernel) rfl rfl (Or.inl (by decide)) (pG_isWithin_run  e6) (by omega) ?_
      refine R_at2 (pc := 28) (st := [.int q5]) ?_
      refine R_ifne (pc := 28) (t := 34) (show z_pt 128 28 = some (3, .ifCond .ne 6, []) by decide +kernel) (by decide) (fun c7 => ?_) (fun c7 => ?_)
      · rw [if_neg c7] at h
        refine R_pure (pc := 34) (pc' := 35) (st' := [.ref 0]) (show z_pt 128 34 = some (3, .aload_n 0, []) by decide +kernel) rfl (fun _ _ _ => rfl) ?_
        refine R_getR (pc := 35) (a := 0) (b := 1) (show z_pt 128 35 = some (3, .getfield 17, [9, 0, 2037]) by decide +kernel) (by decide +kernel) ?_
        refine R_at (pc := 38) ?_
        refine R_getR (pc := 38) (a := 1) (b := 2) (show z_pt 128 38 = some (3, .getfield 23, [7, 0, 1172]) by decide +kernel) (by decide +kernel) ?_
        refine R_at (pc := 41) ?_
        refine R_pure (pc := 41) (pc' := 42) (st' := [.int i1, .ref 2]) (show z_pt 128 41 = some (3, .iload_n 1, []) by decide +kernel) rfl (fun _ _ _ => rfl) ?_
        refine R_pure (pc := 42) (pc' := 43) (st' := [.int i2, .int i1, .ref 2]) (show z_pt 128 42 = some (3, .iload_n 2, []) by decide +kernel) rfl (fun _ _ _ => rfl) ?_
        obtain ⟨q8, e9, h⟩ := z_bs h
        refine R_call (pc := 43) (rr := []) (show z_pt 128 43 = some (3, .invokevirtual 351, [0, 29, 2, 3029, 3030, 3031, 1003, 3032]) by decide +kernel) rfl (show z_r2 29 = some (2, 3, true) by decide +kernel) rfl rfl (Or.inr ⟨_, _, rfl, (by decide +kernel)⟩) (pT_turnGear_run (show zTr 2 = true by decide +kernel) e9) (by omega) ?_
        refine R_at2 (pc := 46) (st := [.int q8.1]) ?_
        cases h
        exact R_retI (show z_pt 128 46 = some (3, .ireturn, []) by decide +kernel) (by decide +kernel)
      · rw [if_pos c7] at h
        refine R_const (pc := 31) (pc' := 33) (v := (-2)) (show z_ptc 128 31 = some (33, (-2)) by decide +kernel) ?_
        cases h
        exact R_retI (show z_pt 128 33 = some (3, .ireturn, []) by decide +kernel) (by decide +kernel)
  · rw [if_pos c3] at h
    refine R_const (pc := 14) (pc' := 15) (v := (-1)) (show z_ptc 128 14 = some (15, (-1)) by decide +kernel) ?_
    cases h
    exact R_retI (show z_pt 128 15 = some (3, .ireturn, []) by decide +kernel) (by decide +kernel)
def pG_turn  (μ : z_Mem) (i1 : Int32) (i2 : Int32) : Option ((Int32 ⊕ Nat) × z_Mem) := (pH_begin μ).bind fun q1 => (pG_tryTurn q1 i1 i2).bind fun q3 => (pG_settled q3.2 q3.1).bind fun q5 => (match q5.1 with | .inl x7 => some ((.inl x7), q5.2) | .inr E8 => some ((.inr E8), q5.2))
theorem pG_turn_run  {μ : z_Mem} {i1 : Int32} {i2 : Int32}  {r : ((Int32 ⊕ Nat) × z_Mem)} (h : pG_turn μ i1 i2 = some r) : Rn 17 78 0 [(0, .ref 0), (1, .int i1), (2, .int i2)] [] μ (z_oX r.1) r.2 := by
  unfold pG_turn at h
  refine R_pure (pc := 0) (pc' := 1) (st' := [.ref 0]) (show z_pt 78 0 = some (3, .aload_n 0, []) by decide +kernel) rfl (fun _ _ _ => rfl) ?_
  refine R_getR (pc := 1) (a := 0) (b := 57) (show z_pt 78 1 = some (3, .getfield 53, [9, 2, 2039]) by decide +kernel) (by decide +kernel) ?_
  refine R_at (pc := 4) ?_
  refine R_pure (pc := 4) (pc' := 5) (st' := [.ref 0, .ref 57]) (show z_pt 78 4 = some (3, .aload_n 0, []) by decide +kernel) rfl (fun _ _ _ => rfl) ?_
  refine R_getR (pc := 5) (a := 0) (b := 1) (show z_pt 78 5 = some (3, .getfield 17, [9, 0, 2037]) by decide +kernel) (by decide +kernel) ?_
  refine R_at (pc := 8) ?_
  obtain ⟨q1, e2, h⟩ := z_bs h
  refine R_call (pc := 8) (rr := []) (show z_pt 78 8 = some (3, .invokevirtual 71, [0, 49, 1, 2072, 2073, 2074, 1011, 2075]) by decide +kernel) rfl (show z_r2 49 = some (4, 3, true) by decide +kernel) rfl rfl (Or.inr ⟨_, _, rfl, (by decide +kernel)⟩) (pH_begin_run  e2) (by omega) ?_
  refine R_at2 (pc := 11) (st := []) ?_
  refine R_pure (pc := 11) (pc' := 12) (st' := [.ref 0]) (show z_pt 78 11 = some (3, .aload_n 0, []) by decide +kernel) rfl (fun _ _ _ => rfl) ?_
  refine R_pure (pc := 12) (pc' := 13) (st' := [.ref 0, .ref 0]) (show z_pt 78 12 = some (3, .aload_n 0, []) by decide +kernel) rfl (fun _ _ _ => rfl) ?_
  refine R_pure (pc := 13) (pc' := 14) (st' := [.int i1, .ref 0, .ref 0]) (show z_pt 78 13 = some (3, .iload_n 1, []) by decide +kernel) rfl (fun _ _ _ => rfl) ?_
  refine R_pure (pc := 14) (pc' := 15) (st' := [.int i2, .int i1, .ref 0, .ref 0]) (show z_pt 78 14 = some (3, .iload_n 2, []) by decide +kernel) rfl (fun _ _ _ => rfl) ?_
  obtain ⟨q3, e4, h⟩ := z_bs h
  refine R_call (pc := 15) (rr := [.ref 0]) (show z_pt 78 15 = some (3, .invokevirtual 90, [0, 128, 2, 3025, 3027, 4, 1001, 3028]) by decide +kernel) rfl (show z_r2 128 = some (9, 3, true) by decide +kernel) rfl rfl (Or.inr ⟨_, _, rfl, (by decide +kernel)⟩) (pG_tryTurn_run  e4) (by omega) ?_
  refine R_at2 (pc := 18) (st := [.int q3.1, .ref 0]) ?_
  obtain ⟨q5, e6, h⟩ := z_bs h
  have y9 := pG_settled_run  e6
  cases x7h : q5.1 with
  | inl x7 =>
    rw [x7h] at h y9
    dsimp only at h
    refine R_call (pc := 18) (rr := []) (show z_pt 78 18 = some (3, .invokevirtual 79, [0, 136, 1, 2113, 2115, 1, 1001, 2116]) by decide +kernel) rfl (show z_r2 136 = some (9, 2, true) by decide +kernel) rfl rfl (Or.inr ⟨_, _, rfl, (by decide +kernel)⟩) y9 (by omega) ?_
    refine R_at2 (pc := 21) (st := [.int x7]) ?_
    cases h
    exact R_retI (show z_pt 78 21 = some (3, .ireturn, []) by decide +kernel) (by decide +kernel)
  | inr E8 =>
    rw [x7h] at h y9
    cases h
    exact R_callX (pc := 18) (rr := []) (show z_pt 78 18 = some (3, .invokevirtual 79, [0, 136, 1, 2113, 2115, 1, 1001, 2116]) by decide +kernel) rfl (show z_r2 136 = some (9, 2, true) by decide +kernel) rfl rfl (Or.inr ⟨_, _, rfl, (by decide +kernel)⟩) y9 (by decide) (by decide +kernel) (by omega)
def pG_gearCount  (μ : z_Mem)  : Option Int32 := some (μ 2 0)
theorem pG_gearCount_run  {μ : z_Mem}   {r : Int32} (h : pG_gearCount μ = some r) : Rn 0 79 0 [(0, .ref 0)] [] μ (.inl (some (.int r))) μ := by
  unfold pG_gearCount at h
  refine R_pure (pc := 0) (pc' := 1) (st' := [.ref 0]) (show z_pt 79 0 = some (1, .aload_n 0, []) by decide +kernel) rfl (fun _ _ _ => rfl) ?_
  refine R_getR (pc := 1) (a := 0) (b := 1) (show z_pt 79 1 = some (1, .getfield 17, [9, 0, 2037]) by decide +kernel) (by decide +kernel) ?_
  refine R_at (pc := 4) ?_
  refine R_getR (pc := 4) (a := 1) (b := 2) (show z_pt 79 4 = some (1, .getfield 23, [7, 0, 1172]) by decide +kernel) (by decide +kernel) ?_
  refine R_at (pc := 7) ?_
  refine R_getI (pc := 7) (a := 2) (show z_pt 79 7 = some (1, .getfield 93, [2, 0, 1050]) by decide +kernel) (by decide +kernel) ?_
  refine R_at (pc := 10) ?_
  cases h
  exact R_retI (show z_pt 79 10 = some (1, .ireturn, []) by decide +kernel) (by decide +kernel)
def pG_needGear  (μ : z_Mem) (i1 : Int32) : Option (Option Nat) := (pT_hasGear 2 μ i1).bind fun q1 => if q1 = 0 then some (some 0) else some none
theorem pG_needGear_run  {μ : z_Mem} {i1 : Int32}  {r : (Option Nat)} (h : pG_needGear μ i1 = some r) : Rn 6 139 0 [(0, .ref 0), (1, .int i1)] [] μ (z_oU r) μ := by
  unfold pG_needGear at h
  refine R_pure (pc := 0) (pc' := 1) (st' := [.ref 0]) (show z_pt 139 0 = some (2, .aload_n 0, []) by decide +kernel) rfl (fun _ _ _ => rfl) ?_
  refine R_getR (pc := 1) (a := 0) (b := 1) (show z_pt 139 1 = some (2, .getfield 17, [9, 0, 2037]) by decide +kernel) (by decide +kernel) ?_
  refine R_at (pc := 4) ?_
  refine R_getR (pc := 4) (a := 1) (b := 2) (show z_pt 139 4 = some (2, .getfield 23, [7, 0, 1172]) by decide +kernel) (by decide +kernel) ?_
  refine R_at (pc := 7) ?_
  refine R_pure (pc := 7) (pc' := 8) (st' := [.int i1, .ref 2]) (show z_pt 139 7 = some (2, .iload_n 1, []) by decide +kernel) rfl (fun _ _ _ => rfl) ?_
  obtain ⟨q1, e2, h⟩ := z_bs h
  refine R_call (pc := 8) (rr := []) (show z_pt 139 8 = some (2, .invokevirtual 341, [0, 23, 1, 3005, 3006, 3007, 1003, 3008]) by decide +kernel) rfl (show z_r2 23 = some (2, 2, true) by decide +kernel) rfl rfl (Or.inr ⟨_, _, rfl, (by decide +kernel)⟩) (pT_hasGear_run (show zTr 2 = true by decide +kernel) e2) (by omega) ?_
  refine R_at2 (pc := 11) (st := [.int q1]) ?_
  refine R_ifne (pc := 11) (t := 22) (show z_pt 139 11 = some (2, .ifCond .ne 11, []) by decide +kernel) (by decide) (fun c3 => ?_) (fun c3 => ?_)
  · rw [if_neg c3] at h
    cases h
    exact R_retV (show z_pt 139 22 = some (2, .return_, []) by decide +kernel) (by decide +kernel)
  · rw [if_pos c3] at h
    cases h
    exact R_thr (show z_thx 139 14 = some 0 by decide +kernel) (by omega)
def pG_teeth  (μ : z_Mem) (i1 : Int32) : Option (Int32 ⊕ Nat) := (pG_needGear μ i1).bind fun q1 => (match q1 with | none => (z_rd μ 3 10 i1).bind fun v5 => some (.inl v5) | some E4 => some (.inr E4))
theorem pG_teeth_run  {μ : z_Mem} {i1 : Int32}  {r : (Int32 ⊕ Nat)} (h : pG_teeth μ i1 = some r) : Rn 7 80 0 [(0, .ref 0), (1, .int i1)] [] μ (z_oX r) μ := by
  unfold pG_teeth at h
  refine R_pure (pc := 0) (pc' := 1) (st' := [.ref 0]) (show z_pt 80 0 = some (2, .aload_n 0, []) by decide +kernel) rfl (fun _ _ _ => rfl) ?_
  refine R_pure (pc := 1) (pc' := 2) (st' := [.int i1, .ref 0]) (show z_pt 80 1 = some (2, .iload_n 1, []) by decide +kernel) rfl (fun _ _ _ => rfl) ?_
  obtain ⟨q1, e2, h⟩ := z_bs h
  have y7 := pG_needGear_run  e2
  cases x3h : q1 with
  | none =>
    rw [x3h] at h y7
    dsimp only at h
    refine R_call (pc := 2) (rr := []) (show z_pt 80 2 = some (2, .invokevirtual 98, [0, 139, 1, 3053, 3055, 6, 1001, 3056]) by decide +kernel) rfl (show z_r2 139 = some (9, 2, true) by decide +kernel) rfl rfl (Or.inr ⟨_, _, rfl, (by decide +kernel)⟩) y7 (by omega) ?_
    refine R_at2 (pc := 5) (st := []) ?_
    refine R_pure (pc := 5) (pc' := 6) (st' := [.ref 0]) (show z_pt 80 5 = some (2, .aload_n 0, []) by decide +kernel) rfl (fun _ _ _ => rfl) ?_
    refine R_getR (pc := 6) (a := 0) (b := 1) (show z_pt 80 6 = some (2, .getfield 17, [9, 0, 2037]) by decide +kernel) (by decide +kernel) ?_
    refine R_at (pc := 9) ?_
    refine R_getR (pc := 9) (a := 1) (b := 2) (show z_pt 80 9 = some (2, .getfield 23, [7, 0, 1172]) by decide +kernel) (by decide +kernel) ?_
    refine R_at (pc := 12) ?_
    refine R_getR (pc := 12) (a := 2) (b := 3) (show z_pt 80 12 = some (2, .getfield 101, [2, 3, 1058]) by decide +kernel) (by decide +kernel) ?_
    refine R_at (pc := 15) ?_
    refine R_pure (pc := 15) (pc' := 16) (st' := [.int i1, .ref 3]) (show z_pt 80 15 = some (2, .iload_n 1, []) by decide +kernel) rfl (fun _ _ _ => rfl) ?_
    obtain ⟨v5, e6, h⟩ := z_bs h
    refine R_ialdR (pc := 16) (a := 3) (n := 10) (show z_pt 80 16 = some (2, .iaload, []) by decide +kernel) (show z_ar 3 0 10 = true by decide +kernel) e6 ?_
    refine R_at (pc := 17) ?_
    cases h
    exact R_retI (show z_pt 80 17 = some (2, .ireturn, []) by decide +kernel) (by decide +kernel)
  | some E4 =>
    rw [x3h] at h y7
    cases h
    exact R_callX (pc := 2) (rr := []) (show z_pt 80 2 = some (2, .invokevirtual 98, [0, 139, 1, 3053, 3055, 6, 1001, 3056]) by decide +kernel) rfl (show z_r2 139 = some (9, 2, true) by decide +kernel) rfl rfl (Or.inr ⟨_, _, rfl, (by decide +kernel)⟩) y7 (by decide) (by decide +kernel) (by omega)
def pG_position  (μ : z_Mem) (i1 : Int32) : Option (Int32 ⊕ Nat) := (pG_needGear μ i1).bind fun q1 => (match q1 with | none => (z_rd μ 4 10 i1).bind fun v5 => some (.inl v5) | some E4 => some (.inr E4))
theorem pG_position_run  {μ : z_Mem} {i1 : Int32}  {r : (Int32 ⊕ Nat)} (h : pG_position μ i1 = some r) : Rn 7 81 0 [(0, .ref 0), (1, .int i1)] [] μ (z_oX r) μ := by
  unfold pG_position at h
  refine R_pure (pc := 0) (pc' := 1) (st' := [.ref 0]) (show z_pt 81 0 = some (2, .aload_n 0, []) by decide +kernel) rfl (fun _ _ _ => rfl) ?_
  refine R_pure (pc := 1) (pc' := 2) (st' := [.int i1, .ref 0]) (show z_pt 81 1 = some (2, .iload_n 1, []) by decide +kernel) rfl (fun _ _ _ => rfl) ?_
  obtain ⟨q1, e2, h⟩ := z_bs h
  have y7 := pG_needGear_run  e2
  cases x3h : q1 with
  | none =>
    rw [x3h] at h y7
    dsimp only at h
    refine R_call (pc := 2) (rr := []) (show z_pt 81 2 = some (2, .invokevirtual 98, [0, 139, 1, 3053, 3055, 6, 1001, 3056]) by decide +kernel) rfl (show z_r2 139 = some (9, 2, true) by decide +kernel) rfl rfl (Or.inr ⟨_, _, rfl, (by decide +kernel)⟩) y7 (by omega) ?_
    refine R_at2 (pc := 5) (st := []) ?_
    refine R_pure (pc := 5) (pc' := 6) (st' := [.ref 0]) (show z_pt 81 5 = some (2, .aload_n 0, []) by decide +kernel) rfl (fun _ _ _ => rfl) ?_
    refine R_getR (pc := 6) (a := 0) (b := 1) (show z_pt 81 6 = some (2, .getfield 17, [9, 0, 2037]) by decide +kernel) (by decide +kernel) ?_
    refine R_at (pc := 9) ?_
    refine R_getR (pc := 9) (a := 1) (b := 2) (show z_pt 81 9 = some (2, .getfield 23, [7, 0, 1172]) by decide +kernel) (by decide +kernel) ?_
    refine R_at (pc := 12) ?_
    refine R_getR (pc := 12) (a := 2) (b := 4) (show z_pt 81 12 = some (2, .getfield 105, [2, 4, 1063]) by decide +kernel) (by decide +kernel) ?_
    refine R_at (pc := 15) ?_
    refine R_pure (pc := 15) (pc' := 16) (st' := [.int i1, .ref 4]) (show z_pt 81 15 = some (2, .iload_n 1, []) by decide +kernel) rfl (fun _ _ _ => rfl) ?_
    obtain ⟨v5, e6, h⟩ := z_bs h
    refine R_ialdR (pc := 16) (a := 4) (n := 10) (show z_pt 81 16 = some (2, .iaload, []) by decide +kernel) (show z_ar 4 0 10 = true by decide +kernel) e6 ?_
    refine R_at (pc := 17) ?_
    cases h
    exact R_retI (show z_pt 81 17 = some (2, .ireturn, []) by decide +kernel) (by decide +kernel)
  | some E4 =>
    rw [x3h] at h y7
    cases h
    exact R_callX (pc := 2) (rr := []) (show z_pt 81 2 = some (2, .invokevirtual 98, [0, 139, 1, 3053, 3055, 6, 1001, 3056]) by decide +kernel) rfl (show z_r2 139 = some (9, 2, true) by decide +kernel) rfl rfl (Or.inr ⟨_, _, rfl, (by decide +kernel)⟩) y7 (by decide) (by decide +kernel) (by omega)
def pG_meshCount  (μ : z_Mem)  : Option Int32 := some (μ 2 1)
theorem pG_meshCount_run  {μ : z_Mem}   {r : Int32} (h : pG_meshCount μ = some r) : Rn 0 82 0 [(0, .ref 0)] [] μ (.inl (some (.int r))) μ := by
  unfold pG_meshCount at h
  refine R_pure (pc := 0) (pc' := 1) (st' := [.ref 0]) (show z_pt 82 0 = some (1, .aload_n 0, []) by decide +kernel) rfl (fun _ _ _ => rfl) ?_
  refine R_getR (pc := 1) (a := 0) (b := 1) (show z_pt 82 1 = some (1, .getfield 17, [9, 0, 2037]) by decide +kernel) (by decide +kernel) ?_
  refine R_at (pc := 4) ?_
  refine R_getR (pc := 4) (a := 1) (b := 2) (show z_pt 82 4 = some (1, .getfield 23, [7, 0, 1172]) by decide +kernel) (by decide +kernel) ?_
  refine R_at (pc := 7) ?_
  refine R_getI (pc := 7) (a := 2) (show z_pt 82 7 = some (1, .getfield 108, [2, 1, 1053]) by decide +kernel) (by decide +kernel) ?_
  refine R_at (pc := 10) ?_
  cases h
  exact R_retI (show z_pt 82 10 = some (1, .ireturn, []) by decide +kernel) (by decide +kernel)
def pG_doMesh  (μ : z_Mem) (i1 : Int32) (i2 : Int32) : Option (Int32 ⊕ Nat) := (pG_needGear μ i1).bind fun q1 => (match q1 with | none => (pG_needGear μ i2).bind fun q5 => (match q5 with | none => (pT_meshBetween μ i1 i2).bind fun q9 => if q9 = (-1) then some (.inl 0) else some (.inl 1) | some E8 => some (.inr E8)) | some E4 => some (.inr E4))
theorem pG_doMesh_run  {μ : z_Mem} {i1 : Int32} {i2 : Int32}  {r : (Int32 ⊕ Nat)} (h : pG_doMesh μ i1 i2 = some r) : Rn 7 83 0 [(0, .ref 0), (1, .int i1), (2, .int i2)] [] μ (z_oX r) μ := by
  unfold pG_doMesh at h
  refine R_pure (pc := 0) (pc' := 1) (st' := [.ref 0]) (show z_pt 83 0 = some (3, .aload_n 0, []) by decide +kernel) rfl (fun _ _ _ => rfl) ?_
  refine R_pure (pc := 1) (pc' := 2) (st' := [.int i1, .ref 0]) (show z_pt 83 1 = some (3, .iload_n 1, []) by decide +kernel) rfl (fun _ _ _ => rfl) ?_
  obtain ⟨q1, e2, h⟩ := z_bs h
  have y13 := pG_needGear_run  e2
  cases x3h : q1 with
  | none =>
    rw [x3h] at h y13
    dsimp only at h
    refine R_call (pc := 2) (rr := []) (show z_pt 83 2 = some (3, .invokevirtual 98, [0, 139, 1, 3053, 3055, 6, 1001, 3056]) by decide +kernel) rfl (show z_r2 139 = some (9, 2, true) by decide +kernel) rfl rfl (Or.inr ⟨_, _, rfl, (by decide +kernel)⟩) y13 (by omega) ?_
    refine R_at2 (pc := 5) (st := []) ?_
    refine R_pure (pc := 5) (pc' := 6) (st' := [.ref 0]) (show z_pt 83 5 = some (3, .aload_n 0, []) by decide +kernel) rfl (fun _ _ _ => rfl) ?_
    refine R_pure (pc := 6) (pc' := 7) (st' := [.int i2, .ref 0]) (show z_pt 83 6 = some (3, .iload_n 2, []) by decide +kernel) rfl (fun _ _ _ => rfl) ?_
    obtain ⟨q5, e6, h⟩ := z_bs h
    have y12 := pG_needGear_run  e6
    cases x7h : q5 with
    | none =>
      rw [x7h] at h y12
      dsimp only at h
      refine R_call (pc := 7) (rr := []) (show z_pt 83 7 = some (3, .invokevirtual 98, [0, 139, 1, 3053, 3055, 6, 1001, 3056]) by decide +kernel) rfl (show z_r2 139 = some (9, 2, true) by decide +kernel) rfl rfl (Or.inr ⟨_, _, rfl, (by decide +kernel)⟩) y12 (by omega) ?_
      refine R_at2 (pc := 10) (st := []) ?_
      refine R_pure (pc := 10) (pc' := 11) (st' := [.ref 0]) (show z_pt 83 10 = some (3, .aload_n 0, []) by decide +kernel) rfl (fun _ _ _ => rfl) ?_
      refine R_getR (pc := 11) (a := 0) (b := 1) (show z_pt 83 11 = some (3, .getfield 17, [9, 0, 2037]) by decide +kernel) (by decide +kernel) ?_
      refine R_at (pc := 14) ?_
      refine R_getR (pc := 14) (a := 1) (b := 2) (show z_pt 83 14 = some (3, .getfield 23, [7, 0, 1172]) by decide +kernel) (by decide +kernel) ?_
      refine R_at (pc := 17) ?_
      refine R_pure (pc := 17) (pc' := 18) (st' := [.int i1, .ref 2]) (show z_pt 83 17 = some (3, .iload_n 1, []) by decide +kernel) rfl (fun _ _ _ => rfl) ?_
      refine R_pure (pc := 18) (pc' := 19) (st' := [.int i2, .int i1, .ref 2]) (show z_pt 83 18 = some (3, .iload_n 2, []) by decide +kernel) rfl (fun _ _ _ => rfl) ?_
      obtain ⟨q9, e10, h⟩ := z_bs h
      refine R_call (pc := 19) (rr := []) (show z_pt 83 19 = some (3, .invokevirtual 111, [0, 28, 2, 3009, 3010, 3011, 1003, 3012]) by decide +kernel) rfl (show z_r2 28 = some (2, 4, true) by decide +kernel) rfl rfl (Or.inr ⟨_, _, rfl, (by decide +kernel)⟩) (pT_meshBetween_run  e10) (by omega) ?_
      refine R_at2 (pc := 22) (st := [.int q9]) ?_
      refine R_const (pc := 22) (pc' := 23) (v := (-1)) (show z_ptc 83 22 = some (23, (-1)) by decide +kernel) ?_
      refine R_icmeq (pc := 23) (t := 30) (show z_pt 83 23 = some (3, .if_icmp .eq 7, []) by decide +kernel) (by decide) (fun c11 => ?_) (fun c11 => ?_)
      · rw [if_pos c11] at h
        refine R_const (pc := 30) (pc' := 31) (v := 0) (show z_ptc 83 30 = some (31, 0) by decide +kernel) ?_
        cases h
        exact R_retZ (show z_pt 83 31 = some (3, .ireturn, []) by decide +kernel) (t := .boolean) (by decide +kernel) (by decide)
      · rw [if_neg c11] at h
        refine R_const (pc := 26) (pc' := 27) (v := 1) (show z_ptc 83 26 = some (27, 1) by decide +kernel) ?_
        refine R_pure (pc := 27) (pc' := 31) (show z_pt 83 27 = some (3, .goto 4, []) by decide +kernel) rfl (fun _ _ _ => rfl) ?_
        cases h
        exact R_retZ (show z_pt 83 31 = some (3, .ireturn, []) by decide +kernel) (t := .boolean) (by decide +kernel) (by decide)
    | some E8 =>
      rw [x7h] at h y12
      cases h
      exact R_callX (pc := 7) (rr := []) (show z_pt 83 7 = some (3, .invokevirtual 98, [0, 139, 1, 3053, 3055, 6, 1001, 3056]) by decide +kernel) rfl (show z_r2 139 = some (9, 2, true) by decide +kernel) rfl rfl (Or.inr ⟨_, _, rfl, (by decide +kernel)⟩) y12 (by decide) (by decide +kernel) (by omega)
  | some E4 =>
    rw [x3h] at h y13
    cases h
    exact R_callX (pc := 2) (rr := []) (show z_pt 83 2 = some (3, .invokevirtual 98, [0, 139, 1, 3053, 3055, 6, 1001, 3056]) by decide +kernel) rfl (show z_r2 139 = some (9, 2, true) by decide +kernel) rfl rfl (Or.inr ⟨_, _, rfl, (by decide +kernel)⟩) y13 (by decide) (by decide +kernel) (by omega)
def pG_neededMesh  (μ : z_Mem) (i1 : Int32) (i2 : Int32) : Option (Int32 ⊕ Nat) := (pG_needGear μ i1).bind fun q1 => (match q1 with | none => (pG_needGear μ i2).bind fun q5 => (match q5 with | none => (pT_meshBetween μ i1 i2).bind fun q9 => if q9 = (-1) then some (.inr 3) else some (.inl q9) | some E8 => some (.inr E8)) | some E4 => some (.inr E4))
theorem pG_neededMesh_run  {μ : z_Mem} {i1 : Int32} {i2 : Int32}  {r : (Int32 ⊕ Nat)} (h : pG_neededMesh μ i1 i2 = some r) : Rn 7 141 0 [(0, .ref 0), (1, .int i1), (2, .int i2)] [] μ (z_oX r) μ := by
  unfold pG_neededMesh at h
  refine R_pure (pc := 0) (pc' := 1) (st' := [.ref 0]) (show z_pt 141 0 = some (4, .aload_n 0, []) by decide +kernel) rfl (fun _ _ _ => rfl) ?_
  refine R_pure (pc := 1) (pc' := 2) (st' := [.int i1, .ref 0]) (show z_pt 141 1 = some (4, .iload_n 1, []) by decide +kernel) rfl (fun _ _ _ => rfl) ?_
  obtain ⟨q1, e2, h⟩ := z_bs h
  have y13 := pG_needGear_run  e2
  cases x3h : q1 with
  | none =>
    rw [x3h] at h y13
    dsimp only at h
    refine R_call (pc := 2) (rr := []) (show z_pt 141 2 = some (4, .invokevirtual 98, [0, 139, 1, 3053, 3055, 6, 1001, 3056]) by decide +kernel) rfl (show z_r2 139 = some (9, 2, true) by decide +kernel) rfl rfl (Or.inr ⟨_, _, rfl, (by decide +kernel)⟩) y13 (by omega) ?_
    refine R_at2 (pc := 5) (st := []) ?_
    refine R_pure (pc := 5) (pc' := 6) (st' := [.ref 0]) (show z_pt 141 5 = some (4, .aload_n 0, []) by decide +kernel) rfl (fun _ _ _ => rfl) ?_
    refine R_pure (pc := 6) (pc' := 7) (st' := [.int i2, .ref 0]) (show z_pt 141 6 = some (4, .iload_n 2, []) by decide +kernel) rfl (fun _ _ _ => rfl) ?_
    obtain ⟨q5, e6, h⟩ := z_bs h
    have y12 := pG_needGear_run  e6
    cases x7h : q5 with
    | none =>
      rw [x7h] at h y12
      dsimp only at h
      refine R_call (pc := 7) (rr := []) (show z_pt 141 7 = some (4, .invokevirtual 98, [0, 139, 1, 3053, 3055, 6, 1001, 3056]) by decide +kernel) rfl (show z_r2 139 = some (9, 2, true) by decide +kernel) rfl rfl (Or.inr ⟨_, _, rfl, (by decide +kernel)⟩) y12 (by omega) ?_
      refine R_at2 (pc := 10) (st := []) ?_
      refine R_pure (pc := 10) (pc' := 11) (st' := [.ref 0]) (show z_pt 141 10 = some (4, .aload_n 0, []) by decide +kernel) rfl (fun _ _ _ => rfl) ?_
      refine R_getR (pc := 11) (a := 0) (b := 1) (show z_pt 141 11 = some (4, .getfield 17, [9, 0, 2037]) by decide +kernel) (by decide +kernel) ?_
      refine R_at (pc := 14) ?_
      refine R_getR (pc := 14) (a := 1) (b := 2) (show z_pt 141 14 = some (4, .getfield 23, [7, 0, 1172]) by decide +kernel) (by decide +kernel) ?_
      refine R_at (pc := 17) ?_
      refine R_pure (pc := 17) (pc' := 18) (st' := [.int i1, .ref 2]) (show z_pt 141 17 = some (4, .iload_n 1, []) by decide +kernel) rfl (fun _ _ _ => rfl) ?_
      refine R_pure (pc := 18) (pc' := 19) (st' := [.int i2, .int i1, .ref 2]) (show z_pt 141 18 = some (4, .iload_n 2, []) by decide +kernel) rfl (fun _ _ _ => rfl) ?_
      obtain ⟨q9, e10, h⟩ := z_bs h
      refine R_call (pc := 19) (rr := []) (show z_pt 141 19 = some (4, .invokevirtual 111, [0, 28, 2, 3009, 3010, 3011, 1003, 3012]) by decide +kernel) rfl (show z_r2 28 = some (2, 4, true) by decide +kernel) rfl rfl (Or.inr ⟨_, _, rfl, (by decide +kernel)⟩) (pT_meshBetween_run  e10) (by omega) ?_
      refine R_at2 (pc := 22) (st := [.int q9]) ?_
      refine R_pure (pc := 22) (pc' := 23) (ls' := [(0, .ref 0), (1, .int i1), (2, .int i2), (3, .int q9)]) (st' := []) (show z_pt 141 22 = some (4, .istore_n 3, []) by decide +kernel) rfl (fun _ _ _ => rfl) ?_
      refine R_pure (pc := 23) (pc' := 24) (st' := [.int q9]) (show z_pt 141 23 = some (4, .iload_n 3, []) by decide +kernel) rfl (fun _ _ _ => rfl) ?_
      refine R_const (pc := 24) (pc' := 25) (v := (-1)) (show z_ptc 141 24 = some (25, (-1)) by decide +kernel) ?_
      refine R_icmne (pc := 25) (t := 36) (show z_pt 141 25 = some (4, .if_icmp .ne 11, []) by decide +kernel) (by decide) (fun c11 => ?_) (fun c11 => ?_)
      · rw [if_neg c11] at h
        refine R_pure (pc := 36) (pc' := 37) (st' := [.int q9]) (show z_pt 141 36 = some (4, .iload_n 3, []) by decide +kernel) rfl (fun _ _ _ => rfl) ?_
        cases h
        exact R_retI (show z_pt 141 37 = some (4, .ireturn, []) by decide +kernel) (by decide +kernel)
      · rw [if_pos c11] at h
        cases h
        exact R_thr (show z_thx 141 28 = some 3 by decide +kernel) (by omega)
    | some E8 =>
      rw [x7h] at h y12
      cases h
      exact R_callX (pc := 7) (rr := []) (show z_pt 141 7 = some (4, .invokevirtual 98, [0, 139, 1, 3053, 3055, 6, 1001, 3056]) by decide +kernel) rfl (show z_r2 139 = some (9, 2, true) by decide +kernel) rfl rfl (Or.inr ⟨_, _, rfl, (by decide +kernel)⟩) y12 (by decide) (by decide +kernel) (by omega)
  | some E4 =>
    rw [x3h] at h y13
    cases h
    exact R_callX (pc := 2) (rr := []) (show z_pt 141 2 = some (4, .invokevirtual 98, [0, 139, 1, 3053, 3055, 6, 1001, 3056]) by decide +kernel) rfl (show z_r2 139 = some (9, 2, true) by decide +kernel) rfl rfl (Or.inr ⟨_, _, rfl, (by decide +kernel)⟩) y13 (by decide) (by decide +kernel) (by omega)
def pG_slack  (μ : z_Mem) (i1 : Int32) (i2 : Int32) : Option (Int32 ⊕ Nat) := (pG_neededMesh μ i1 i2).bind fun q1 => (match q1 with | .inl x3 => (z_rd μ 7 9 x3).bind fun v5 => some (.inl v5) | .inr E4 => some (.inr E4))
theorem pG_slack_run  {μ : z_Mem} {i1 : Int32} {i2 : Int32}  {r : (Int32 ⊕ Nat)} (h : pG_slack μ i1 i2 = some r) : Rn 8 84 0 [(0, .ref 0), (1, .int i1), (2, .int i2)] [] μ (z_oX r) μ := by
  unfold pG_slack at h
  refine R_pure (pc := 0) (pc' := 1) (st' := [.ref 0]) (show z_pt 84 0 = some (3, .aload_n 0, []) by decide +kernel) rfl (fun _ _ _ => rfl) ?_
  refine R_getR (pc := 1) (a := 0) (b := 1) (show z_pt 84 1 = some (3, .getfield 17, [9, 0, 2037]) by decide +kernel) (by decide +kernel) ?_
  refine R_at (pc := 4) ?_
  refine R_getR (pc := 4) (a := 1) (b := 2) (show z_pt 84 4 = some (3, .getfield 23, [7, 0, 1172]) by decide +kernel) (by decide +kernel) ?_
  refine R_at (pc := 7) ?_
  refine R_getR (pc := 7) (a := 2) (b := 7) (show z_pt 84 7 = some (3, .getfield 114, [2, 7, 1070]) by decide +kernel) (by decide +kernel) ?_
  refine R_at (pc := 10) ?_
  refine R_pure (pc := 10) (pc' := 11) (st' := [.ref 0, .ref 7]) (show z_pt 84 10 = some (3, .aload_n 0, []) by decide +kernel) rfl (fun _ _ _ => rfl) ?_
  refine R_pure (pc := 11) (pc' := 12) (st' := [.int i1, .ref 0, .ref 7]) (show z_pt 84 11 = some (3, .iload_n 1, []) by decide +kernel) rfl (fun _ _ _ => rfl) ?_
  refine R_pure (pc := 12) (pc' := 13) (st' := [.int i2, .int i1, .ref 0, .ref 7]) (show z_pt 84 12 = some (3, .iload_n 2, []) by decide +kernel) rfl (fun _ _ _ => rfl) ?_
  obtain ⟨q1, e2, h⟩ := z_bs h
  have y7 := pG_neededMesh_run  e2
  cases x3h : q1 with
  | inl x3 =>
    rw [x3h] at h y7
    dsimp only at h
    refine R_call (pc := 13) (rr := [.ref 7]) (show z_pt 84 13 = some (3, .invokevirtual 117, [0, 141, 2, 3061, 3063, 7, 1001, 3064]) by decide +kernel) rfl (show z_r2 141 = some (9, 4, true) by decide +kernel) rfl rfl (Or.inr ⟨_, _, rfl, (by decide +kernel)⟩) y7 (by omega) ?_
    refine R_at2 (pc := 16) (st := [.int x3, .ref 7]) ?_
    obtain ⟨v5, e6, h⟩ := z_bs h
    refine R_ialdR (pc := 16) (a := 7) (n := 9) (show z_pt 84 16 = some (3, .iaload, []) by decide +kernel) (show z_ar 7 0 9 = true by decide +kernel) e6 ?_
    refine R_at (pc := 17) ?_
    cases h
    exact R_retI (show z_pt 84 17 = some (3, .ireturn, []) by decide +kernel) (by decide +kernel)
  | inr E4 =>
    rw [x3h] at h y7
    cases h
    exact R_callX (pc := 13) (rr := [.ref 7]) (show z_pt 84 13 = some (3, .invokevirtual 117, [0, 141, 2, 3061, 3063, 7, 1001, 3064]) by decide +kernel) rfl (show z_r2 141 = some (9, 4, true) by decide +kernel) rfl rfl (Or.inr ⟨_, _, rfl, (by decide +kernel)⟩) y7 (by decide) (by decide +kernel) (by omega)
def pG_gap  (μ : z_Mem) (i1 : Int32) (i2 : Int32) : Option (Int32 ⊕ Nat) := (pG_neededMesh μ i1 i2).bind fun q1 => (match q1 with | .inl x3 => (z_rd μ 8 9 x3).bind fun v5 => some (.inl v5) | .inr E4 => some (.inr E4))
theorem pG_gap_run  {μ : z_Mem} {i1 : Int32} {i2 : Int32}  {r : (Int32 ⊕ Nat)} (h : pG_gap μ i1 i2 = some r) : Rn 8 85 0 [(0, .ref 0), (1, .int i1), (2, .int i2)] [] μ (z_oX r) μ := by
  unfold pG_gap at h
  refine R_pure (pc := 0) (pc' := 1) (st' := [.ref 0]) (show z_pt 85 0 = some (3, .aload_n 0, []) by decide +kernel) rfl (fun _ _ _ => rfl) ?_
  refine R_getR (pc := 1) (a := 0) (b := 1) (show z_pt 85 1 = some (3, .getfield 17, [9, 0, 2037]) by decide +kernel) (by decide +kernel) ?_
  refine R_at (pc := 4) ?_
  refine R_getR (pc := 4) (a := 1) (b := 2) (show z_pt 85 4 = some (3, .getfield 23, [7, 0, 1172]) by decide +kernel) (by decide +kernel) ?_
  refine R_at (pc := 7) ?_
  refine R_getR (pc := 7) (a := 2) (b := 8) (show z_pt 85 7 = some (3, .getfield 120, [2, 8, 1073]) by decide +kernel) (by decide +kernel) ?_
  refine R_at (pc := 10) ?_
  refine R_pure (pc := 10) (pc' := 11) (st' := [.ref 0, .ref 8]) (show z_pt 85 10 = some (3, .aload_n 0, []) by decide +kernel) rfl (fun _ _ _ => rfl) ?_
  refine R_pure (pc := 11) (pc' := 12) (st' := [.int i1, .ref 0, .ref 8]) (show z_pt 85 11 = some (3, .iload_n 1, []) by decide +kernel) rfl (fun _ _ _ => rfl) ?_
  refine R_pure (pc := 12) (pc' := 13) (st' := [.int i2, .int i1, .ref 0, .ref 8]) (show z_pt 85 12 = some (3, .iload_n 2, []) by decide +kernel) rfl (fun _ _ _ => rfl) ?_
  obtain ⟨q1, e2, h⟩ := z_bs h
  have y7 := pG_neededMesh_run  e2
  cases x3h : q1 with
  | inl x3 =>
    rw [x3h] at h y7
    dsimp only at h
    refine R_call (pc := 13) (rr := [.ref 8]) (show z_pt 85 13 = some (3, .invokevirtual 117, [0, 141, 2, 3061, 3063, 7, 1001, 3064]) by decide +kernel) rfl (show z_r2 141 = some (9, 4, true) by decide +kernel) rfl rfl (Or.inr ⟨_, _, rfl, (by decide +kernel)⟩) y7 (by omega) ?_
    refine R_at2 (pc := 16) (st := [.int x3, .ref 8]) ?_
    obtain ⟨v5, e6, h⟩ := z_bs h
    refine R_ialdR (pc := 16) (a := 8) (n := 9) (show z_pt 85 16 = some (3, .iaload, []) by decide +kernel) (show z_ar 8 0 9 = true by decide +kernel) e6 ?_
    refine R_at (pc := 17) ?_
    cases h
    exact R_retI (show z_pt 85 17 = some (3, .ireturn, []) by decide +kernel) (by decide +kernel)
  | inr E4 =>
    rw [x3h] at h y7
    cases h
    exact R_callX (pc := 13) (rr := [.ref 8]) (show z_pt 85 13 = some (3, .invokevirtual 117, [0, 141, 2, 3061, 3063, 7, 1001, 3064]) by decide +kernel) rfl (show z_r2 141 = some (9, 4, true) by decide +kernel) rfl rfl (Or.inr ⟨_, _, rfl, (by decide +kernel)⟩) y7 (by decide) (by decide +kernel) (by omega)
def pG_trainSize  (μ : z_Mem) (i1 : Int32) : Option ((Int32 ⊕ Nat) × z_Mem) := (pG_needGear μ i1).bind fun q1 => (match q1 with | none => (pW_sizeOfTrain μ i1).bind fun q5 => some ((.inl q5.1), q5.2) | some E4 => some ((.inr E4), μ))
theorem pG_trainSize_run  {μ : z_Mem} {i1 : Int32}  {r : ((Int32 ⊕ Nat) × z_Mem)} (h : pG_trainSize μ i1 = some r) : Rn 15 86 0 [(0, .ref 0), (1, .int i1)] [] μ (z_oX r.1) r.2 := by
  unfold pG_trainSize at h
  refine R_pure (pc := 0) (pc' := 1) (st' := [.ref 0]) (show z_pt 86 0 = some (2, .aload_n 0, []) by decide +kernel) rfl (fun _ _ _ => rfl) ?_
  refine R_pure (pc := 1) (pc' := 2) (st' := [.int i1, .ref 0]) (show z_pt 86 1 = some (2, .iload_n 1, []) by decide +kernel) rfl (fun _ _ _ => rfl) ?_
  obtain ⟨q1, e2, h⟩ := z_bs h
  have y7 := pG_needGear_run  e2
  cases x3h : q1 with
  | none =>
    rw [x3h] at h y7
    dsimp only at h
    refine R_call (pc := 2) (rr := []) (show z_pt 86 2 = some (2, .invokevirtual 98, [0, 139, 1, 3053, 3055, 6, 1001, 3056]) by decide +kernel) rfl (show z_r2 139 = some (9, 2, true) by decide +kernel) rfl rfl (Or.inr ⟨_, _, rfl, (by decide +kernel)⟩) y7 (by omega) ?_
    refine R_at2 (pc := 5) (st := []) ?_
    refine R_pure (pc := 5) (pc' := 6) (st' := [.ref 0]) (show z_pt 86 5 = some (2, .aload_n 0, []) by decide +kernel) rfl (fun _ _ _ => rfl) ?_
    refine R_getR (pc := 6) (a := 0) (b := 23) (show z_pt 86 6 = some (2, .getfield 30, [9, 3, 2040]) by decide +kernel) (by decide +kernel) ?_
    refine R_at (pc := 9) ?_
    refine R_pure (pc := 9) (pc' := 10) (st' := [.int i1, .ref 23]) (show z_pt 86 9 = some (2, .iload_n 1, []) by decide +kernel) rfl (fun _ _ _ => rfl) ?_
    obtain ⟨q5, e6, h⟩ := z_bs h
    refine R_call (pc := 10) (rr := []) (show z_pt 86 10 = some (2, .invokevirtual 126, [0, 35, 1, 3069, 3070, 3071, 1009, 3072]) by decide +kernel) rfl (show z_r2 35 = some (3, 2, true) by decide +kernel) rfl rfl (Or.inr ⟨_, _, rfl, (by decide +kernel)⟩) (pW_sizeOfTrain_run  e6) (by omega) ?_
    refine R_at2 (pc := 13) (st := [.int q5.1]) ?_
    cases h
    exact R_retI (show z_pt 86 13 = some (2, .ireturn, []) by decide +kernel) (by decide +kernel)
  | some E4 =>
    rw [x3h] at h y7
    cases h
    exact R_callX (pc := 2) (rr := []) (show z_pt 86 2 = some (2, .invokevirtual 98, [0, 139, 1, 3053, 3055, 6, 1001, 3056]) by decide +kernel) rfl (show z_r2 139 = some (9, 2, true) by decide +kernel) rfl rfl (Or.inr ⟨_, _, rfl, (by decide +kernel)⟩) y7 (by decide) (by decide +kernel) (by omega)
def pG_trainCount  (μ : z_Mem)  : Option (Int32 × z_Mem) := (pW_countByWalks μ).bind fun q1 => some (q1.1, q1.2)
theorem pG_trainCount_run  {μ : z_Mem}   {r : (Int32 × z_Mem)} (h : pG_trainCount μ = some r) : Rn 15 87 0 [(0, .ref 0)] [] μ (.inl (some (.int r.1))) r.2 := by
  unfold pG_trainCount at h
  refine R_pure (pc := 0) (pc' := 1) (st' := [.ref 0]) (show z_pt 87 0 = some (1, .aload_n 0, []) by decide +kernel) rfl (fun _ _ _ => rfl) ?_
  refine R_getR (pc := 1) (a := 0) (b := 23) (show z_pt 87 1 = some (1, .getfield 30, [9, 3, 2040]) by decide +kernel) (by decide +kernel) ?_
  refine R_at (pc := 4) ?_
  obtain ⟨q1, e2, h⟩ := z_bs h
  refine R_call (pc := 4) (rr := []) (show z_pt 87 4 = some (1, .invokevirtual 129, [0, 36, 0, 3086, 3087, 3088, 1009, 3089]) by decide +kernel) rfl (show z_r2 36 = some (3, 3, true) by decide +kernel) rfl rfl (Or.inr ⟨_, _, rfl, (by decide +kernel)⟩) (pW_countByWalks_run  e2) (by omega) ?_
  refine R_at2 (pc := 7) (st := [.int q1.1]) ?_
  cases h
  exact R_retI (show z_pt 87 7 = some (1, .ireturn, []) by decide +kernel) (by decide +kernel)
def pG_trainCountByUnions  (μ : z_Mem)  : Option (Int32 × z_Mem) := (pW_countByUniting μ).bind fun q1 => some (q1.1, q1.2)
theorem pG_trainCountByUnions_run  {μ : z_Mem}   {r : (Int32 × z_Mem)} (h : pG_trainCountByUnions μ = some r) : Rn 2 88 0 [(0, .ref 0)] [] μ (.inl (some (.int r.1))) r.2 := by
  unfold pG_trainCountByUnions at h
  refine R_pure (pc := 0) (pc' := 1) (st' := [.ref 0]) (show z_pt 88 0 = some (1, .aload_n 0, []) by decide +kernel) rfl (fun _ _ _ => rfl) ?_
  refine R_getR (pc := 1) (a := 0) (b := 23) (show z_pt 88 1 = some (1, .getfield 30, [9, 3, 2040]) by decide +kernel) (by decide +kernel) ?_
  refine R_at (pc := 4) ?_
  obtain ⟨q1, e2, h⟩ := z_bs h
  refine R_call (pc := 4) (rr := []) (show z_pt 88 4 = some (1, .invokevirtual 133, [0, 39, 0, 3094, 3095, 3096, 1009, 3097]) by decide +kernel) rfl (show z_r2 39 = some (3, 5, true) by decide +kernel) rfl rfl (Or.inr ⟨_, _, rfl, (by decide +kernel)⟩) (pW_countByUniting_run  e2) (by omega) ?_
  refine R_at2 (pc := 7) (st := [.int q1.1]) ?_
  cases h
  exact R_retI (show z_pt 88 7 = some (1, .ireturn, []) by decide +kernel) (by decide +kernel)
def pG_turnedTeeth  (μ : z_Mem)  : Option Int32 := some (μ 2 2)
theorem pG_turnedTeeth_run  {μ : z_Mem}   {r : Int32} (h : pG_turnedTeeth μ = some r) : Rn 0 89 0 [(0, .ref 0)] [] μ (.inl (some (.int r))) μ := by
  unfold pG_turnedTeeth at h
  refine R_pure (pc := 0) (pc' := 1) (st' := [.ref 0]) (show z_pt 89 0 = some (1, .aload_n 0, []) by decide +kernel) rfl (fun _ _ _ => rfl) ?_
  refine R_getR (pc := 1) (a := 0) (b := 1) (show z_pt 89 1 = some (1, .getfield 17, [9, 0, 2037]) by decide +kernel) (by decide +kernel) ?_
  refine R_at (pc := 4) ?_
  refine R_getR (pc := 4) (a := 1) (b := 2) (show z_pt 89 4 = some (1, .getfield 23, [7, 0, 1172]) by decide +kernel) (by decide +kernel) ?_
  refine R_at (pc := 7) ?_
  refine R_getI (pc := 7) (a := 2) (show z_pt 89 7 = some (1, .getfield 136, [2, 2, 1055]) by decide +kernel) (by decide +kernel) ?_
  refine R_at (pc := 10) ?_
  cases h
  exact R_retI (show z_pt 89 10 = some (1, .ireturn, []) by decide +kernel) (by decide +kernel)
def pG_needConnected  (μ : z_Mem) (i1 : Int32) (i2 : Int32) : Option ((Option Nat) × z_Mem) := (pG_needGear μ i1).bind fun q1 => (match q1 with | none => (pG_needGear μ i2).bind fun q5 => (match q5 with | none => (pW_chainLength μ i1 i2).bind fun q9 => if q9.1 = (-1) then some ((some 3), q9.2) else some (none, q9.2) | some E8 => some ((some E8), μ)) | some E4 => some ((some E4), μ))
theorem pG_needConnected_run  {μ : z_Mem} {i1 : Int32} {i2 : Int32}  {r : ((Option Nat) × z_Mem)} (h : pG_needConnected μ i1 i2 = some r) : Rn 15 142 0 [(0, .ref 0), (1, .int i1), (2, .int i2)] [] μ (z_oU r.1) r.2 := by
  unfold pG_needConnected at h
  refine R_pure (pc := 0) (pc' := 1) (st' := [.ref 0]) (show z_pt 142 0 = some (3, .aload_n 0, []) by decide +kernel) rfl (fun _ _ _ => rfl) ?_
  refine R_pure (pc := 1) (pc' := 2) (st' := [.int i1, .ref 0]) (show z_pt 142 1 = some (3, .iload_n 1, []) by decide +kernel) rfl (fun _ _ _ => rfl) ?_
  obtain ⟨q1, e2, h⟩ := z_bs h
  have y13 := pG_needGear_run  e2
  cases x3h : q1 with
  | none =>
    rw [x3h] at h y13
    dsimp only at h
    refine R_call (pc := 2) (rr := []) (show z_pt 142 2 = some (3, .invokevirtual 98, [0, 139, 1, 3053, 3055, 6, 1001, 3056]) by decide +kernel) rfl (show z_r2 139 = some (9, 2, true) by decide +kernel) rfl rfl (Or.inr ⟨_, _, rfl, (by decide +kernel)⟩) y13 (by omega) ?_
    refine R_at2 (pc := 5) (st := []) ?_
    refine R_pure (pc := 5) (pc' := 6) (st' := [.ref 0]) (show z_pt 142 5 = some (3, .aload_n 0, []) by decide +kernel) rfl (fun _ _ _ => rfl) ?_
    refine R_pure (pc := 6) (pc' := 7) (st' := [.int i2, .ref 0]) (show z_pt 142 6 = some (3, .iload_n 2, []) by decide +kernel) rfl (fun _ _ _ => rfl) ?_
    obtain ⟨q5, e6, h⟩ := z_bs h
    have y12 := pG_needGear_run  e6
    cases x7h : q5 with
    | none =>
      rw [x7h] at h y12
      dsimp only at h
      refine R_call (pc := 7) (rr := []) (show z_pt 142 7 = some (3, .invokevirtual 98, [0, 139, 1, 3053, 3055, 6, 1001, 3056]) by decide +kernel) rfl (show z_r2 139 = some (9, 2, true) by decide +kernel) rfl rfl (Or.inr ⟨_, _, rfl, (by decide +kernel)⟩) y12 (by omega) ?_
      refine R_at2 (pc := 10) (st := []) ?_
      refine R_pure (pc := 10) (pc' := 11) (st' := [.ref 0]) (show z_pt 142 10 = some (3, .aload_n 0, []) by decide +kernel) rfl (fun _ _ _ => rfl) ?_
      refine R_getR (pc := 11) (a := 0) (b := 23) (show z_pt 142 11 = some (3, .getfield 30, [9, 3, 2040]) by decide +kernel) (by decide +kernel) ?_
      refine R_at (pc := 14) ?_
      refine R_pure (pc := 14) (pc' := 15) (st' := [.int i1, .ref 23]) (show z_pt 142 14 = some (3, .iload_n 1, []) by decide +kernel) rfl (fun _ _ _ => rfl) ?_
      refine R_pure (pc := 15) (pc' := 16) (st' := [.int i2, .int i1, .ref 23]) (show z_pt 142 15 = some (3, .iload_n 2, []) by decide +kernel) rfl (fun _ _ _ => rfl) ?_
      obtain ⟨q9, e10, h⟩ := z_bs h
      refine R_call (pc := 16) (rr := []) (show z_pt 142 16 = some (3, .invokevirtual 123, [0, 33, 2, 3114, 3115, 3116, 1009, 3117]) by decide +kernel) rfl (show z_r2 33 = some (3, 3, true) by decide +kernel) rfl rfl (Or.inr ⟨_, _, rfl, (by decide +kernel)⟩) (pW_chainLength_run  e10) (by omega) ?_
      refine R_at2 (pc := 19) (st := [.int q9.1]) ?_
      refine R_const (pc := 19) (pc' := 20) (v := (-1)) (show z_ptc 142 19 = some (20, (-1)) by decide +kernel) ?_
      refine R_icmne (pc := 20) (t := 31) (show z_pt 142 20 = some (3, .if_icmp .ne 11, []) by decide +kernel) (by decide) (fun c11 => ?_) (fun c11 => ?_)
      · rw [if_neg c11] at h
        cases h
        exact R_retV (show z_pt 142 31 = some (3, .return_, []) by decide +kernel) (by decide +kernel)
      · rw [if_pos c11] at h
        cases h
        exact R_thr (show z_thx 142 23 = some 3 by decide +kernel) (by omega)
    | some E8 =>
      rw [x7h] at h y12
      cases h
      exact R_callX (pc := 7) (rr := []) (show z_pt 142 7 = some (3, .invokevirtual 98, [0, 139, 1, 3053, 3055, 6, 1001, 3056]) by decide +kernel) rfl (show z_r2 139 = some (9, 2, true) by decide +kernel) rfl rfl (Or.inr ⟨_, _, rfl, (by decide +kernel)⟩) y12 (by decide) (by decide +kernel) (by omega)
  | some E4 =>
    rw [x3h] at h y13
    cases h
    exact R_callX (pc := 2) (rr := []) (show z_pt 142 2 = some (3, .invokevirtual 98, [0, 139, 1, 3053, 3055, 6, 1001, 3056]) by decide +kernel) rfl (show z_r2 139 = some (9, 2, true) by decide +kernel) rfl rfl (Or.inr ⟨_, _, rfl, (by decide +kernel)⟩) y13 (by decide) (by decide +kernel) (by omega)
def pG_ratioNumerator  (μ : z_Mem) (i1 : Int32) (i2 : Int32) : Option ((Int32 ⊕ Nat) × z_Mem) := (pG_needConnected μ i1 i2).bind fun q1 => (match q1.1 with | none => (pW_numerator q1.2 i1 i2).bind fun q5 => some ((.inl q5.1), q5.2) | some E4 => some ((.inr E4), q1.2))
theorem pG_ratioNumerator_run  {μ : z_Mem} {i1 : Int32} {i2 : Int32}  {r : ((Int32 ⊕ Nat) × z_Mem)} (h : pG_ratioNumerator μ i1 i2 = some r) : Rn 16 90 0 [(0, .ref 0), (1, .int i1), (2, .int i2)] [] μ (z_oX r.1) r.2 := by
  unfold pG_ratioNumerator at h
  refine R_pure (pc := 0) (pc' := 1) (st' := [.ref 0]) (show z_pt 90 0 = some (3, .aload_n 0, []) by decide +kernel) rfl (fun _ _ _ => rfl) ?_
  refine R_pure (pc := 1) (pc' := 2) (st' := [.int i1, .ref 0]) (show z_pt 90 1 = some (3, .iload_n 1, []) by decide +kernel) rfl (fun _ _ _ => rfl) ?_
  refine R_pure (pc := 2) (pc' := 3) (st' := [.int i2, .int i1, .ref 0]) (show z_pt 90 2 = some (3, .iload_n 2, []) by decide +kernel) rfl (fun _ _ _ => rfl) ?_
  obtain ⟨q1, e2, h⟩ := z_bs h
  have y7 := pG_needConnected_run  e2
  cases x3h : q1.1 with
  | none =>
    rw [x3h] at h y7
    dsimp only at h
    refine R_call (pc := 3) (rr := []) (show z_pt 90 3 = some (3, .invokevirtual 139, [0, 142, 2, 3110, 3112, 10, 1001, 3113]) by decide +kernel) rfl (show z_r2 142 = some (9, 3, true) by decide +kernel) rfl rfl (Or.inr ⟨_, _, rfl, (by decide +kernel)⟩) y7 (by omega) ?_
    refine R_at2 (pc := 6) (st := []) ?_
    refine R_pure (pc := 6) (pc' := 7) (st' := [.ref 0]) (show z_pt 90 6 = some (3, .aload_n 0, []) by decide +kernel) rfl (fun _ _ _ => rfl) ?_
    refine R_getR (pc := 7) (a := 0) (b := 23) (show z_pt 90 7 = some (3, .getfield 30, [9, 3, 2040]) by decide +kernel) (by decide +kernel) ?_
    refine R_at (pc := 10) ?_
    refine R_pure (pc := 10) (pc' := 11) (st' := [.int i1, .ref 23]) (show z_pt 90 10 = some (3, .iload_n 1, []) by decide +kernel) rfl (fun _ _ _ => rfl) ?_
    refine R_pure (pc := 11) (pc' := 12) (st' := [.int i2, .int i1, .ref 23]) (show z_pt 90 11 = some (3, .iload_n 2, []) by decide +kernel) rfl (fun _ _ _ => rfl) ?_
    obtain ⟨q5, e6, h⟩ := z_bs h
    refine R_call (pc := 12) (rr := []) (show z_pt 90 12 = some (3, .invokevirtual 143, [0, 41, 2, 3121, 3122, 3123, 1009, 3124]) by decide +kernel) rfl (show z_r2 41 = some (3, 4, true) by decide +kernel) rfl rfl (Or.inr ⟨_, _, rfl, (by decide +kernel)⟩) (pW_numerator_run  e6) (by omega) ?_
    refine R_at2 (pc := 15) (st := [.int q5.1]) ?_
    cases h
    exact R_retI (show z_pt 90 15 = some (3, .ireturn, []) by decide +kernel) (by decide +kernel)
  | some E4 =>
    rw [x3h] at h y7
    cases h
    exact R_callX (pc := 3) (rr := []) (show z_pt 90 3 = some (3, .invokevirtual 139, [0, 142, 2, 3110, 3112, 10, 1001, 3113]) by decide +kernel) rfl (show z_r2 142 = some (9, 3, true) by decide +kernel) rfl rfl (Or.inr ⟨_, _, rfl, (by decide +kernel)⟩) y7 (by decide) (by decide +kernel) (by omega)
def pG_ratioDenominator  (μ : z_Mem) (i1 : Int32) (i2 : Int32) : Option ((Int32 ⊕ Nat) × z_Mem) := (pG_needConnected μ i1 i2).bind fun q1 => (match q1.1 with | none => (pW_denominator q1.2 i1 i2).bind fun q5 => some ((.inl q5), q1.2) | some E4 => some ((.inr E4), q1.2))
theorem pG_ratioDenominator_run  {μ : z_Mem} {i1 : Int32} {i2 : Int32}  {r : ((Int32 ⊕ Nat) × z_Mem)} (h : pG_ratioDenominator μ i1 i2 = some r) : Rn 16 91 0 [(0, .ref 0), (1, .int i1), (2, .int i2)] [] μ (z_oX r.1) r.2 := by
  unfold pG_ratioDenominator at h
  refine R_pure (pc := 0) (pc' := 1) (st' := [.ref 0]) (show z_pt 91 0 = some (3, .aload_n 0, []) by decide +kernel) rfl (fun _ _ _ => rfl) ?_
  refine R_pure (pc := 1) (pc' := 2) (st' := [.int i1, .ref 0]) (show z_pt 91 1 = some (3, .iload_n 1, []) by decide +kernel) rfl (fun _ _ _ => rfl) ?_
  refine R_pure (pc := 2) (pc' := 3) (st' := [.int i2, .int i1, .ref 0]) (show z_pt 91 2 = some (3, .iload_n 2, []) by decide +kernel) rfl (fun _ _ _ => rfl) ?_
  obtain ⟨q1, e2, h⟩ := z_bs h
  have y7 := pG_needConnected_run  e2
  cases x3h : q1.1 with
  | none =>
    rw [x3h] at h y7
    dsimp only at h
    refine R_call (pc := 3) (rr := []) (show z_pt 91 3 = some (3, .invokevirtual 139, [0, 142, 2, 3110, 3112, 10, 1001, 3113]) by decide +kernel) rfl (show z_r2 142 = some (9, 3, true) by decide +kernel) rfl rfl (Or.inr ⟨_, _, rfl, (by decide +kernel)⟩) y7 (by omega) ?_
    refine R_at2 (pc := 6) (st := []) ?_
    refine R_pure (pc := 6) (pc' := 7) (st' := [.ref 0]) (show z_pt 91 6 = some (3, .aload_n 0, []) by decide +kernel) rfl (fun _ _ _ => rfl) ?_
    refine R_getR (pc := 7) (a := 0) (b := 23) (show z_pt 91 7 = some (3, .getfield 30, [9, 3, 2040]) by decide +kernel) (by decide +kernel) ?_
    refine R_at (pc := 10) ?_
    refine R_pure (pc := 10) (pc' := 11) (st' := [.int i1, .ref 23]) (show z_pt 91 10 = some (3, .iload_n 1, []) by decide +kernel) rfl (fun _ _ _ => rfl) ?_
    refine R_pure (pc := 11) (pc' := 12) (st' := [.int i2, .int i1, .ref 23]) (show z_pt 91 11 = some (3, .iload_n 2, []) by decide +kernel) rfl (fun _ _ _ => rfl) ?_
    obtain ⟨q5, e6, h⟩ := z_bs h
    refine R_call (pc := 12) (rr := []) (show z_pt 91 12 = some (3, .invokevirtual 146, [0, 42, 2, 3134, 3135, 3136, 1009, 3137]) by decide +kernel) rfl (show z_r2 42 = some (3, 3, true) by decide +kernel) rfl rfl (Or.inr ⟨_, _, rfl, (by decide +kernel)⟩) (pW_denominator_run  e6) (by omega) ?_
    refine R_at2 (pc := 15) (st := [.int q5]) ?_
    cases h
    exact R_retI (show z_pt 91 15 = some (3, .ireturn, []) by decide +kernel) (by decide +kernel)
  | some E4 =>
    rw [x3h] at h y7
    cases h
    exact R_callX (pc := 3) (rr := []) (show z_pt 91 3 = some (3, .invokevirtual 139, [0, 142, 2, 3110, 3112, 10, 1001, 3113]) by decide +kernel) rfl (show z_r2 142 = some (9, 3, true) by decide +kernel) rfl rfl (Or.inr ⟨_, _, rfl, (by decide +kernel)⟩) y7 (by decide) (by decide +kernel) (by omega)
def pG_ratioNumeratorByChain  (μ : z_Mem) (i1 : Int32) (i2 : Int32) : Option ((Int32 ⊕ Nat) × z_Mem) := (pG_needConnected μ i1 i2).bind fun q1 => (match q1.1 with | none => (pW_numeratorAlongChain q1.2 i1 i2).bind fun q5 => some ((.inl q5.1), q5.2) | some E4 => some ((.inr E4), q1.2))
theorem pG_ratioNumeratorByChain_run  {μ : z_Mem} {i1 : Int32} {i2 : Int32}  {r : ((Int32 ⊕ Nat) × z_Mem)} (h : pG_ratioNumeratorByChain μ i1 i2 = some r) : Rn 16 92 0 [(0, .ref 0), (1, .int i1), (2, .int i2)] [] μ (z_oX r.1) r.2 := by
  unfold pG_ratioNumeratorByChain at h
  refine R_pure (pc := 0) (pc' := 1) (st' := [.ref 0]) (show z_pt 92 0 = some (3, .aload_n 0, []) by decide +kernel) rfl (fun _ _ _ => rfl) ?_
  refine R_pure (pc := 1) (pc' := 2) (st' := [.int i1, .ref 0]) (show z_pt 92 1 = some (3, .iload_n 1, []) by decide +kernel) rfl (fun _ _ _ => rfl) ?_
  refine R_pure (pc := 2) (pc' := 3) (st' := [.int i2, .int i1, .ref 0]) (show z_pt 92 2 = some (3, .iload_n 2, []) by decide +kernel) rfl (fun _ _ _ => rfl) ?_
  obtain ⟨q1, e2, h⟩ := z_bs h
  have y7 := pG_needConnected_run  e2
  cases x3h : q1.1 with
  | none =>
    rw [x3h] at h y7
    dsimp only at h
    refine R_call (pc := 3) (rr := []) (show z_pt 92 3 = some (3, .invokevirtual 139, [0, 142, 2, 3110, 3112, 10, 1001, 3113]) by decide +kernel) rfl (show z_r2 142 = some (9, 3, true) by decide +kernel) rfl rfl (Or.inr ⟨_, _, rfl, (by decide +kernel)⟩) y7 (by omega) ?_
    refine R_at2 (pc := 6) (st := []) ?_
    refine R_pure (pc := 6) (pc' := 7) (st' := [.ref 0]) (show z_pt 92 6 = some (3, .aload_n 0, []) by decide +kernel) rfl (fun _ _ _ => rfl) ?_
    refine R_getR (pc := 7) (a := 0) (b := 23) (show z_pt 92 7 = some (3, .getfield 30, [9, 3, 2040]) by decide +kernel) (by decide +kernel) ?_
    refine R_at (pc := 10) ?_
    refine R_pure (pc := 10) (pc' := 11) (st' := [.int i1, .ref 23]) (show z_pt 92 10 = some (3, .iload_n 1, []) by decide +kernel) rfl (fun _ _ _ => rfl) ?_
    refine R_pure (pc := 11) (pc' := 12) (st' := [.int i2, .int i1, .ref 23]) (show z_pt 92 11 = some (3, .iload_n 2, []) by decide +kernel) rfl (fun _ _ _ => rfl) ?_
    obtain ⟨q5, e6, h⟩ := z_bs h
    refine R_call (pc := 12) (rr := []) (show z_pt 92 12 = some (3, .invokevirtual 149, [0, 43, 2, 3142, 3143, 3144, 1009, 3145]) by decide +kernel) rfl (show z_r2 43 = some (3, 9, true) by decide +kernel) rfl rfl (Or.inr ⟨_, _, rfl, (by decide +kernel)⟩) (pW_numeratorAlongChain_run  e6) (by omega) ?_
    refine R_at2 (pc := 15) (st := [.int q5.1]) ?_
    cases h
    exact R_retI (show z_pt 92 15 = some (3, .ireturn, []) by decide +kernel) (by decide +kernel)
  | some E4 =>
    rw [x3h] at h y7
    cases h
    exact R_callX (pc := 3) (rr := []) (show z_pt 92 3 = some (3, .invokevirtual 139, [0, 142, 2, 3110, 3112, 10, 1001, 3113]) by decide +kernel) rfl (show z_r2 142 = some (9, 3, true) by decide +kernel) rfl rfl (Or.inr ⟨_, _, rfl, (by decide +kernel)⟩) y7 (by decide) (by decide +kernel) (by omega)
def pG_freePlay  (μ : z_Mem) (i1 : Int32) (i2 : Int32) : Option ((Int32 ⊕ Nat) × z_Mem) := (pG_needConnected μ i1 i2).bind fun q1 => (match q1.1 with | none => (pW_playOfGaps q1.2 i1 i2).bind fun q5 => some ((.inl q5.1), q5.2) | some E4 => some ((.inr E4), q1.2))
theorem pG_freePlay_run  {μ : z_Mem} {i1 : Int32} {i2 : Int32}  {r : ((Int32 ⊕ Nat) × z_Mem)} (h : pG_freePlay μ i1 i2 = some r) : Rn 16 93 0 [(0, .ref 0), (1, .int i1), (2, .int i2)] [] μ (z_oX r.1) r.2 := by
  unfold pG_freePlay at h
  refine R_pure (pc := 0) (pc' := 1) (st' := [.ref 0]) (show z_pt 93 0 = some (3, .aload_n 0, []) by decide +kernel) rfl (fun _ _ _ => rfl) ?_
  refine R_pure (pc := 1) (pc' := 2) (st' := [.int i1, .ref 0]) (show z_pt 93 1 = some (3, .iload_n 1, []) by decide +kernel) rfl (fun _ _ _ => rfl) ?_
  refine R_pure (pc := 2) (pc' := 3) (st' := [.int i2, .int i1, .ref 0]) (show z_pt 93 2 = some (3, .iload_n 2, []) by decide +kernel) rfl (fun _ _ _ => rfl) ?_
  obtain ⟨q1, e2, h⟩ := z_bs h
  have y7 := pG_needConnected_run  e2
  cases x3h : q1.1 with
  | none =>
    rw [x3h] at h y7
    dsimp only at h
    refine R_call (pc := 3) (rr := []) (show z_pt 93 3 = some (3, .invokevirtual 139, [0, 142, 2, 3110, 3112, 10, 1001, 3113]) by decide +kernel) rfl (show z_r2 142 = some (9, 3, true) by decide +kernel) rfl rfl (Or.inr ⟨_, _, rfl, (by decide +kernel)⟩) y7 (by omega) ?_
    refine R_at2 (pc := 6) (st := []) ?_
    refine R_pure (pc := 6) (pc' := 7) (st' := [.ref 0]) (show z_pt 93 6 = some (3, .aload_n 0, []) by decide +kernel) rfl (fun _ _ _ => rfl) ?_
    refine R_getR (pc := 7) (a := 0) (b := 23) (show z_pt 93 7 = some (3, .getfield 30, [9, 3, 2040]) by decide +kernel) (by decide +kernel) ?_
    refine R_at (pc := 10) ?_
    refine R_pure (pc := 10) (pc' := 11) (st' := [.int i1, .ref 23]) (show z_pt 93 10 = some (3, .iload_n 1, []) by decide +kernel) rfl (fun _ _ _ => rfl) ?_
    refine R_pure (pc := 11) (pc' := 12) (st' := [.int i2, .int i1, .ref 23]) (show z_pt 93 11 = some (3, .iload_n 2, []) by decide +kernel) rfl (fun _ _ _ => rfl) ?_
    obtain ⟨q5, e6, h⟩ := z_bs h
    refine R_call (pc := 12) (rr := []) (show z_pt 93 12 = some (3, .invokevirtual 152, [0, 45, 2, 3150, 3151, 3152, 1009, 3153]) by decide +kernel) rfl (show z_r2 45 = some (3, 7, true) by decide +kernel) rfl rfl (Or.inr ⟨_, _, rfl, (by decide +kernel)⟩) (pW_playOfGaps_run  e6) (by omega) ?_
    refine R_at2 (pc := 15) (st := [.int q5.1]) ?_
    cases h
    exact R_retI (show z_pt 93 15 = some (3, .ireturn, []) by decide +kernel) (by decide +kernel)
  | some E4 =>
    rw [x3h] at h y7
    cases h
    exact R_callX (pc := 3) (rr := []) (show z_pt 93 3 = some (3, .invokevirtual 139, [0, 142, 2, 3110, 3112, 10, 1001, 3113]) by decide +kernel) rfl (show z_r2 142 = some (9, 3, true) by decide +kernel) rfl rfl (Or.inr ⟨_, _, rfl, (by decide +kernel)⟩) y7 (by decide) (by decide +kernel) (by omega)
def pG_freePlayByTurning  (μ : z_Mem) (i1 : Int32) (i2 : Int32) : Option ((Int32 ⊕ Nat) × z_Mem) := (pG_needConnected μ i1 i2).bind fun q1 => (match q1.1 with | none => (pW_playOfTrial q1.2 i1 i2).bind fun q5 => some ((.inl q5.1), q5.2) | some E4 => some ((.inr E4), q1.2))
theorem pG_freePlayByTurning_run  {μ : z_Mem} {i1 : Int32} {i2 : Int32}  {r : ((Int32 ⊕ Nat) × z_Mem)} (h : pG_freePlayByTurning μ i1 i2 = some r) : Rn 17 94 0 [(0, .ref 0), (1, .int i1), (2, .int i2)] [] μ (z_oX r.1) r.2 := by
  unfold pG_freePlayByTurning at h
  refine R_pure (pc := 0) (pc' := 1) (st' := [.ref 0]) (show z_pt 94 0 = some (3, .aload_n 0, []) by decide +kernel) rfl (fun _ _ _ => rfl) ?_
  refine R_pure (pc := 1) (pc' := 2) (st' := [.int i1, .ref 0]) (show z_pt 94 1 = some (3, .iload_n 1, []) by decide +kernel) rfl (fun _ _ _ => rfl) ?_
  refine R_pure (pc := 2) (pc' := 3) (st' := [.int i2, .int i1, .ref 0]) (show z_pt 94 2 = some (3, .iload_n 2, []) by decide +kernel) rfl (fun _ _ _ => rfl) ?_
  obtain ⟨q1, e2, h⟩ := z_bs h
  have y7 := pG_needConnected_run  e2
  cases x3h : q1.1 with
  | none =>
    rw [x3h] at h y7
    dsimp only at h
    refine R_call (pc := 3) (rr := []) (show z_pt 94 3 = some (3, .invokevirtual 139, [0, 142, 2, 3110, 3112, 10, 1001, 3113]) by decide +kernel) rfl (show z_r2 142 = some (9, 3, true) by decide +kernel) rfl rfl (Or.inr ⟨_, _, rfl, (by decide +kernel)⟩) y7 (by omega) ?_
    refine R_at2 (pc := 6) (st := []) ?_
    refine R_pure (pc := 6) (pc' := 7) (st' := [.ref 0]) (show z_pt 94 6 = some (3, .aload_n 0, []) by decide +kernel) rfl (fun _ _ _ => rfl) ?_
    refine R_getR (pc := 7) (a := 0) (b := 23) (show z_pt 94 7 = some (3, .getfield 30, [9, 3, 2040]) by decide +kernel) (by decide +kernel) ?_
    refine R_at (pc := 10) ?_
    refine R_pure (pc := 10) (pc' := 11) (st' := [.int i1, .ref 23]) (show z_pt 94 10 = some (3, .iload_n 1, []) by decide +kernel) rfl (fun _ _ _ => rfl) ?_
    refine R_pure (pc := 11) (pc' := 12) (st' := [.int i2, .int i1, .ref 23]) (show z_pt 94 11 = some (3, .iload_n 2, []) by decide +kernel) rfl (fun _ _ _ => rfl) ?_
    obtain ⟨q5, e6, h⟩ := z_bs h
    refine R_call (pc := 12) (rr := []) (show z_pt 94 12 = some (3, .invokevirtual 155, [0, 46, 2, 3159, 3160, 3161, 1009, 3162]) by decide +kernel) rfl (show z_r2 46 = some (3, 6, true) by decide +kernel) rfl rfl (Or.inr ⟨_, _, rfl, (by decide +kernel)⟩) (pW_playOfTrial_run  e6) (by omega) ?_
    refine R_at2 (pc := 15) (st := [.int q5.1]) ?_
    cases h
    exact R_retI (show z_pt 94 15 = some (3, .ireturn, []) by decide +kernel) (by decide +kernel)
  | some E4 =>
    rw [x3h] at h y7
    cases h
    exact R_callX (pc := 3) (rr := []) (show z_pt 94 3 = some (3, .invokevirtual 139, [0, 142, 2, 3110, 3112, 10, 1001, 3113]) by decide +kernel) rfl (show z_r2 142 = some (9, 3, true) by decide +kernel) rfl rfl (Or.inr ⟨_, _, rfl, (by decide +kernel)⟩) y7 (by decide) (by decide +kernel) (by omega)
def pG_tryWheel  (μ : z_Mem) (i1 : Int32) (i2 : Int32) : Option (Int32 × z_Mem) := (pT_hasGear 2 μ i1).bind fun q1 => if q1 = 0 then some ((-1), μ) else (pG_isWithin μ i2 3 12).bind fun q4 => if q4 = 0 then some ((-2), μ) else if (μ 9 0) < 4 then (pQ_add μ i1 i2).bind fun q8 => some (q8.1, q8.2) else some ((-3), μ)
theorem pG_tryWheel_run  {μ : z_Mem} {i1 : Int32} {i2 : Int32}  {r : (Int32 × z_Mem)} (h : pG_tryWheel μ i1 i2 = some r) : Rn 1 129 0 [(0, .ref 0), (1, .int i1), (2, .int i2)] [] μ (.inl (some (.int r.1))) r.2 := by
  unfold pG_tryWheel at h
  refine R_pure (pc := 0) (pc' := 1) (st' := [.ref 0]) (show z_pt 129 0 = some (3, .aload_n 0, []) by decide +kernel) rfl (fun _ _ _ => rfl) ?_
  refine R_getR (pc := 1) (a := 0) (b := 1) (show z_pt 129 1 = some (3, .getfield 17, [9, 0, 2037]) by decide +kernel) (by decide +kernel) ?_
  refine R_at (pc := 4) ?_
  refine R_getR (pc := 4) (a := 1) (b := 2) (show z_pt 129 4 = some (3, .getfield 23, [7, 0, 1172]) by decide +kernel) (by decide +kernel) ?_
  refine R_at (pc := 7) ?_
  refine R_pure (pc := 7) (pc' := 8) (st' := [.int i1, .ref 2]) (show z_pt 129 7 = some (3, .iload_n 1, []) by decide +kernel) rfl (fun _ _ _ => rfl) ?_
  obtain ⟨q1, e2, h⟩ := z_bs h
  refine R_call (pc := 8) (rr := []) (show z_pt 129 8 = some (3, .invokevirtual 341, [0, 23, 1, 3005, 3006, 3007, 1003, 3008]) by decide +kernel) rfl (show z_r2 23 = some (2, 2, true) by decide +kernel) rfl rfl (Or.inr ⟨_, _, rfl, (by decide +kernel)⟩) (pT_hasGear_run (show zTr 2 = true by decide +kernel) e2) (by omega) ?_
  refine R_at2 (pc := 11) (st := [.int q1]) ?_
  refine R_ifne (pc := 11) (t := 16) (show z_pt 129 11 = some (3, .ifCond .ne 5, []) by decide +kernel) (by decide) (fun c3 => ?_) (fun c3 => ?_)
  · rw [if_neg c3] at h
    refine R_pure (pc := 16) (pc' := 17) (st' := [.int i2]) (show z_pt 129 16 = some (3, .iload_n 2, []) by decide +kernel) rfl (fun _ _ _ => rfl) ?_
    refine R_const (pc := 17) (pc' := 18) (v := 3) (show z_ptc 129 17 = some (18, 3) by decide +kernel) ?_
    refine R_const (pc := 18) (pc' := 20) (v := 12) (show z_ptc 129 18 = some (20, 12) by decide +kernel) ?_
    obtain ⟨q4, e5, h⟩ := z_bs h
    refine R_call (pc := 20) (rr := []) (show z_pt 129 20 = some (3, .invokestatic 239, [1, 148, 3, 2106, 2107, 0, 1001, 2108]) by decide +kernel) rfl (show z_r2 148 = some (9, 3, true) by decide +kernel) rfl rfl (Or.inl (by decide)) (pG_isWithin_run  e5) (by omega) ?_
    refine R_at2 (pc := 23) (st := [.int q4]) ?_
    refine R_ifne (pc := 23) (t := 29) (show z_pt 129 23 = some (3, .ifCond .ne 6, []) by decide +kernel) (by decide) (fun c6 => ?_) (fun c6 => ?_)
    · rw [if_neg c6] at h
      refine R_pure (pc := 29) (pc' := 30) (st' := [.ref 0]) (show z_pt 129 29 = some (3, .aload_n 0, []) by decide +kernel) rfl (fun _ _ _ => rfl) ?_
      refine R_getR (pc := 30) (a := 0) (b := 1) (show z_pt 129 30 = some (3, .getfield 17, [9, 0, 2037]) by decide +kernel) (by decide +kernel) ?_
      refine R_at (pc := 33) ?_
      refine R_getR (pc := 33) (a := 1) (b := 9) (show z_pt 129 33 = some (3, .getfield 161, [7, 1, 1174]) by decide +kernel) (by decide +kernel) ?_
      refine R_at (pc := 36) ?_
      refine R_getI (pc := 36) (a := 9) (show z_pt 129 36 = some (3, .getfield 165, [8, 0, 1102]) by decide +kernel) (by decide +kernel) ?_
      refine R_at (pc := 39) ?_
      refine R_const (pc := 39) (pc' := 40) (v := 4) (show z_ptc 129 39 = some (40, 4) by decide +kernel) ?_
      refine R_icmlt (pc := 40) (t := 48) (show z_pt 129 40 = some (3, .if_icmp .lt 8, []) by decide +kernel) (by decide) (fun c7 => ?_) (fun c7 => ?_)
      · rw [if_pos c7] at h
        refine R_pure (pc := 48) (pc' := 49) (st' := [.ref 0]) (show z_pt 129 48 = some (3, .aload_n 0, []) by decide +kernel) rfl (fun _ _ _ => rfl) ?_
        refine R_getR (pc := 49) (a := 0) (b := 1) (show z_pt 129 49 = some (3, .getfield 17, [9, 0, 2037]) by decide +kernel) (by decide +kernel) ?_
        refine R_at (pc := 52) ?_
        refine R_getR (pc := 52) (a := 1) (b := 9) (show z_pt 129 52 = some (3, .getfield 161, [7, 1, 1174]) by decide +kernel) (by decide +kernel) ?_
        refine R_at (pc := 55) ?_
        refine R_pure (pc := 55) (pc' := 56) (st' := [.int i1, .ref 9]) (show z_pt 129 55 = some (3, .iload_n 1, []) by decide +kernel) rfl (fun _ _ _ => rfl) ?_
        refine R_pure (pc := 56) (pc' := 57) (st' := [.int i2, .int i1, .ref 9]) (show z_pt 129 56 = some (3, .iload_n 2, []) by decide +kernel) rfl (fun _ _ _ => rfl) ?_
        obtain ⟨q8, e9, h⟩ := z_bs h
        refine R_call (pc := 57) (rr := []) (show z_pt 129 57 = some (3, .invokevirtual 354, [0, 73, 2, 3173, 3174, 3175, 1004, 3176]) by decide +kernel) rfl (show z_r2 73 = some (8, 4, true) by decide +kernel) rfl rfl (Or.inr ⟨_, _, rfl, (by decide +kernel)⟩) (pQ_add_run  e9) (by omega) ?_
        refine R_at2 (pc := 60) (st := [.int q8.1]) ?_
        cases h
        exact R_retI (show z_pt 129 60 = some (3, .ireturn, []) by decide +kernel) (by decide +kernel)
      · rw [if_neg c7] at h
        refine R_const (pc := 43) (pc' := 45) (v := (-3)) (show z_ptc 129 43 = some (45, (-3)) by decide +kernel) ?_
        refine R_pure (pc := 45) (pc' := 60) (show z_pt 129 45 = some (3, .goto 15, []) by decide +kernel) rfl (fun _ _ _ => rfl) ?_
        cases h
        exact R_retI (show z_pt 129 60 = some (3, .ireturn, []) by decide +kernel) (by decide +kernel)
    · rw [if_pos c6] at h
      refine R_const (pc := 26) (pc' := 28) (v := (-2)) (show z_ptc 129 26 = some (28, (-2)) by decide +kernel) ?_
      cases h
      exact R_retI (show z_pt 129 28 = some (3, .ireturn, []) by decide +kernel) (by decide +kernel)
  · rw [if_pos c3] at h
    refine R_const (pc := 14) (pc' := 15) (v := (-1)) (show z_ptc 129 14 = some (15, (-1)) by decide +kernel) ?_
    cases h
    exact R_retI (show z_pt 129 15 = some (3, .ireturn, []) by decide +kernel) (by decide +kernel)
def pG_addWheel  (μ : z_Mem) (i1 : Int32) (i2 : Int32) : Option ((Int32 ⊕ Nat) × z_Mem) := (pH_begin μ).bind fun q1 => (pG_tryWheel q1 i1 i2).bind fun q3 => (pG_settled q3.2 q3.1).bind fun q5 => (match q5.1 with | .inl x7 => some ((.inl x7), q5.2) | .inr E8 => some ((.inr E8), q5.2))
theorem pG_addWheel_run  {μ : z_Mem} {i1 : Int32} {i2 : Int32}  {r : ((Int32 ⊕ Nat) × z_Mem)} (h : pG_addWheel μ i1 i2 = some r) : Rn 7 95 0 [(0, .ref 0), (1, .int i1), (2, .int i2)] [] μ (z_oX r.1) r.2 := by
  unfold pG_addWheel at h
  refine R_pure (pc := 0) (pc' := 1) (st' := [.ref 0]) (show z_pt 95 0 = some (3, .aload_n 0, []) by decide +kernel) rfl (fun _ _ _ => rfl) ?_
  refine R_getR (pc := 1) (a := 0) (b := 57) (show z_pt 95 1 = some (3, .getfield 53, [9, 2, 2039]) by decide +kernel) (by decide +kernel) ?_
  refine R_at (pc := 4) ?_
  refine R_pure (pc := 4) (pc' := 5) (st' := [.ref 0, .ref 57]) (show z_pt 95 4 = some (3, .aload_n 0, []) by decide +kernel) rfl (fun _ _ _ => rfl) ?_
  refine R_getR (pc := 5) (a := 0) (b := 1) (show z_pt 95 5 = some (3, .getfield 17, [9, 0, 2037]) by decide +kernel) (by decide +kernel) ?_
  refine R_at (pc := 8) ?_
  obtain ⟨q1, e2, h⟩ := z_bs h
  refine R_call (pc := 8) (rr := []) (show z_pt 95 8 = some (3, .invokevirtual 71, [0, 49, 1, 2072, 2073, 2074, 1011, 2075]) by decide +kernel) rfl (show z_r2 49 = some (4, 3, true) by decide +kernel) rfl rfl (Or.inr ⟨_, _, rfl, (by decide +kernel)⟩) (pH_begin_run  e2) (by omega) ?_
  refine R_at2 (pc := 11) (st := []) ?_
  refine R_pure (pc := 11) (pc' := 12) (st' := [.ref 0]) (show z_pt 95 11 = some (3, .aload_n 0, []) by decide +kernel) rfl (fun _ _ _ => rfl) ?_
  refine R_pure (pc := 12) (pc' := 13) (st' := [.ref 0, .ref 0]) (show z_pt 95 12 = some (3, .aload_n 0, []) by decide +kernel) rfl (fun _ _ _ => rfl) ?_
  refine R_pure (pc := 13) (pc' := 14) (st' := [.int i1, .ref 0, .ref 0]) (show z_pt 95 13 = some (3, .iload_n 1, []) by decide +kernel) rfl (fun _ _ _ => rfl) ?_
  refine R_pure (pc := 14) (pc' := 15) (st' := [.int i2, .int i1, .ref 0, .ref 0]) (show z_pt 95 14 = some (3, .iload_n 2, []) by decide +kernel) rfl (fun _ _ _ => rfl) ?_
  obtain ⟨q3, e4, h⟩ := z_bs h
  refine R_call (pc := 15) (rr := [.ref 0]) (show z_pt 95 15 = some (3, .invokevirtual 158, [0, 129, 2, 3169, 3171, 11, 1001, 3172]) by decide +kernel) rfl (show z_r2 129 = some (9, 3, true) by decide +kernel) rfl rfl (Or.inr ⟨_, _, rfl, (by decide +kernel)⟩) (pG_tryWheel_run  e4) (by omega) ?_
  refine R_at2 (pc := 18) (st := [.int q3.1, .ref 0]) ?_
  obtain ⟨q5, e6, h⟩ := z_bs h
  have y9 := pG_settled_run  e6
  cases x7h : q5.1 with
  | inl x7 =>
    rw [x7h] at h y9
    dsimp only at h
    refine R_call (pc := 18) (rr := []) (show z_pt 95 18 = some (3, .invokevirtual 79, [0, 136, 1, 2113, 2115, 1, 1001, 2116]) by decide +kernel) rfl (show z_r2 136 = some (9, 2, true) by decide +kernel) rfl rfl (Or.inr ⟨_, _, rfl, (by decide +kernel)⟩) y9 (by omega) ?_
    refine R_at2 (pc := 21) (st := [.int x7]) ?_
    cases h
    exact R_retI (show z_pt 95 21 = some (3, .ireturn, []) by decide +kernel) (by decide +kernel)
  | inr E8 =>
    rw [x7h] at h y9
    cases h
    exact R_callX (pc := 18) (rr := []) (show z_pt 95 18 = some (3, .invokevirtual 79, [0, 136, 1, 2113, 2115, 1, 1001, 2116]) by decide +kernel) rfl (show z_r2 136 = some (9, 2, true) by decide +kernel) rfl rfl (Or.inr ⟨_, _, rfl, (by decide +kernel)⟩) y9 (by decide) (by decide +kernel) (by omega)
def pG_wheelCount  (μ : z_Mem)  : Option Int32 := some (μ 9 0)
theorem pG_wheelCount_run  {μ : z_Mem}   {r : Int32} (h : pG_wheelCount μ = some r) : Rn 0 96 0 [(0, .ref 0)] [] μ (.inl (some (.int r))) μ := by
  unfold pG_wheelCount at h
  refine R_pure (pc := 0) (pc' := 1) (st' := [.ref 0]) (show z_pt 96 0 = some (1, .aload_n 0, []) by decide +kernel) rfl (fun _ _ _ => rfl) ?_
  refine R_getR (pc := 1) (a := 0) (b := 1) (show z_pt 96 1 = some (1, .getfield 17, [9, 0, 2037]) by decide +kernel) (by decide +kernel) ?_
  refine R_at (pc := 4) ?_
  refine R_getR (pc := 4) (a := 1) (b := 9) (show z_pt 96 4 = some (1, .getfield 161, [7, 1, 1174]) by decide +kernel) (by decide +kernel) ?_
  refine R_at (pc := 7) ?_
  refine R_getI (pc := 7) (a := 9) (show z_pt 96 7 = some (1, .getfield 165, [8, 0, 1102]) by decide +kernel) (by decide +kernel) ?_
  refine R_at (pc := 10) ?_
  cases h
  exact R_retI (show z_pt 96 10 = some (1, .ireturn, []) by decide +kernel) (by decide +kernel)
def pG_needWheel  (μ : z_Mem) (i1 : Int32) : Option (Option Nat) := (pQ_hasWheel μ i1).bind fun q1 => if q1 = 0 then some (some 0) else some none
theorem pG_needWheel_run  {μ : z_Mem} {i1 : Int32}  {r : (Option Nat)} (h : pG_needWheel μ i1 = some r) : Rn 6 140 0 [(0, .ref 0), (1, .int i1)] [] μ (z_oU r) μ := by
  unfold pG_needWheel at h
  refine R_pure (pc := 0) (pc' := 1) (st' := [.ref 0]) (show z_pt 140 0 = some (2, .aload_n 0, []) by decide +kernel) rfl (fun _ _ _ => rfl) ?_
  refine R_getR (pc := 1) (a := 0) (b := 1) (show z_pt 140 1 = some (2, .getfield 17, [9, 0, 2037]) by decide +kernel) (by decide +kernel) ?_
  refine R_at (pc := 4) ?_
  refine R_getR (pc := 4) (a := 1) (b := 9) (show z_pt 140 4 = some (2, .getfield 161, [7, 1, 1174]) by decide +kernel) (by decide +kernel) ?_
  refine R_at (pc := 7) ?_
  refine R_pure (pc := 7) (pc' := 8) (st' := [.int i1, .ref 9]) (show z_pt 140 7 = some (2, .iload_n 1, []) by decide +kernel) rfl (fun _ _ _ => rfl) ?_
  obtain ⟨q1, e2, h⟩ := z_bs h
  refine R_call (pc := 8) (rr := []) (show z_pt 140 8 = some (2, .invokevirtual 357, [0, 72, 1, 3185, 3186, 3187, 1004, 3188]) by decide +kernel) rfl (show z_r2 72 = some (8, 2, true) by decide +kernel) rfl rfl (Or.inr ⟨_, _, rfl, (by decide +kernel)⟩) (pQ_hasWheel_run  e2) (by omega) ?_
  refine R_at2 (pc := 11) (st := [.int q1]) ?_
  refine R_ifne (pc := 11) (t := 22) (show z_pt 140 11 = some (2, .ifCond .ne 11, []) by decide +kernel) (by decide) (fun c3 => ?_) (fun c3 => ?_)
  · rw [if_neg c3] at h
    cases h
    exact R_retV (show z_pt 140 22 = some (2, .return_, []) by decide +kernel) (by decide +kernel)
  · rw [if_pos c3] at h
    cases h
    exact R_thr (show z_thx 140 14 = some 0 by decide +kernel) (by omega)
def pG_gearOf  (μ : z_Mem) (i1 : Int32) : Option (Int32 ⊕ Nat) := (pG_needWheel μ i1).bind fun q1 => (match q1 with | none => (z_rd μ 10 4 i1).bind fun v5 => some (.inl v5) | some E4 => some (.inr E4))
theorem pG_gearOf_run  {μ : z_Mem} {i1 : Int32}  {r : (Int32 ⊕ Nat)} (h : pG_gearOf μ i1 = some r) : Rn 7 97 0 [(0, .ref 0), (1, .int i1)] [] μ (z_oX r) μ := by
  unfold pG_gearOf at h
  refine R_pure (pc := 0) (pc' := 1) (st' := [.ref 0]) (show z_pt 97 0 = some (2, .aload_n 0, []) by decide +kernel) rfl (fun _ _ _ => rfl) ?_
  refine R_pure (pc := 1) (pc' := 2) (st' := [.int i1, .ref 0]) (show z_pt 97 1 = some (2, .iload_n 1, []) by decide +kernel) rfl (fun _ _ _ => rfl) ?_
  obtain ⟨q1, e2, h⟩ := z_bs h
  have y7 := pG_needWheel_run  e2
  cases x3h : q1 with
  | none =>
    rw [x3h] at h y7
    dsimp only at h
    refine R_call (pc := 2) (rr := []) (show z_pt 97 2 = some (2, .invokevirtual 170, [0, 140, 1, 3181, 3183, 12, 1001, 3184]) by decide +kernel) rfl (show z_r2 140 = some (9, 2, true) by decide +kernel) rfl rfl (Or.inr ⟨_, _, rfl, (by decide +kernel)⟩) y7 (by omega) ?_
    refine R_at2 (pc := 5) (st := []) ?_
    refine R_pure (pc := 5) (pc' := 6) (st' := [.ref 0]) (show z_pt 97 5 = some (2, .aload_n 0, []) by decide +kernel) rfl (fun _ _ _ => rfl) ?_
    refine R_getR (pc := 6) (a := 0) (b := 1) (show z_pt 97 6 = some (2, .getfield 17, [9, 0, 2037]) by decide +kernel) (by decide +kernel) ?_
    refine R_at (pc := 9) ?_
    refine R_getR (pc := 9) (a := 1) (b := 9) (show z_pt 97 9 = some (2, .getfield 161, [7, 1, 1174]) by decide +kernel) (by decide +kernel) ?_
    refine R_at (pc := 12) ?_
    refine R_getR (pc := 12) (a := 9) (b := 10) (show z_pt 97 12 = some (2, .getfield 173, [8, 1, 1105]) by decide +kernel) (by decide +kernel) ?_
    refine R_at (pc := 15) ?_
    refine R_pure (pc := 15) (pc' := 16) (st' := [.int i1, .ref 10]) (show z_pt 97 15 = some (2, .iload_n 1, []) by decide +kernel) rfl (fun _ _ _ => rfl) ?_
    obtain ⟨v5, e6, h⟩ := z_bs h
    refine R_ialdR (pc := 16) (a := 10) (n := 4) (show z_pt 97 16 = some (2, .iaload, []) by decide +kernel) (show z_ar 10 0 4 = true by decide +kernel) e6 ?_
    refine R_at (pc := 17) ?_
    cases h
    exact R_retI (show z_pt 97 17 = some (2, .ireturn, []) by decide +kernel) (by decide +kernel)
  | some E4 =>
    rw [x3h] at h y7
    cases h
    exact R_callX (pc := 2) (rr := []) (show z_pt 97 2 = some (2, .invokevirtual 170, [0, 140, 1, 3181, 3183, 12, 1001, 3184]) by decide +kernel) rfl (show z_r2 140 = some (9, 2, true) by decide +kernel) rfl rfl (Or.inr ⟨_, _, rfl, (by decide +kernel)⟩) y7 (by decide) (by decide +kernel) (by omega)
def pG_spokeDirection  (μ : z_Mem) (i1 : Int32) (i2 : Int32) : Option (Int32 ⊕ Nat) := (pG_needWheel μ i1).bind fun q1 => (match q1 with | none => if i2 < 0 then some (.inr 1) else (z_rd μ 11 4 i1).bind fun v6 => if i2 < v6 then (pA_directionOfSpoke μ i1 i2 0).bind fun q9 => some (.inl q9) else some (.inr 1) | some E4 => some (.inr E4))
theorem pG_spokeDirection_run  {μ : z_Mem} {i1 : Int32} {i2 : Int32}  {r : (Int32 ⊕ Nat)} (h : pG_spokeDirection μ i1 i2 = some r) : Rn 7 98 0 [(0, .ref 0), (1, .int i1), (2, .int i2)] [] μ (z_oX r) μ := by
  unfold pG_spokeDirection at h
  refine R_pure (pc := 0) (pc' := 1) (st' := [.ref 0]) (show z_pt 98 0 = some (3, .aload_n 0, []) by decide +kernel) rfl (fun _ _ _ => rfl) ?_
  refine R_pure (pc := 1) (pc' := 2) (st' := [.int i1, .ref 0]) (show z_pt 98 1 = some (3, .iload_n 1, []) by decide +kernel) rfl (fun _ _ _ => rfl) ?_
  obtain ⟨q1, e2, h⟩ := z_bs h
  have y11 := pG_needWheel_run  e2
  cases x3h : q1 with
  | none =>
    rw [x3h] at h y11
    dsimp only at h
    refine R_call (pc := 2) (rr := []) (show z_pt 98 2 = some (3, .invokevirtual 170, [0, 140, 1, 3181, 3183, 12, 1001, 3184]) by decide +kernel) rfl (show z_r2 140 = some (9, 2, true) by decide +kernel) rfl rfl (Or.inr ⟨_, _, rfl, (by decide +kernel)⟩) y11 (by omega) ?_
    refine R_at2 (pc := 5) (st := []) ?_
    refine R_pure (pc := 5) (pc' := 6) (st' := [.int i2]) (show z_pt 98 5 = some (3, .iload_n 2, []) by decide +kernel) rfl (fun _ _ _ => rfl) ?_
    refine R_iflt (pc := 6) (t := 25) (show z_pt 98 6 = some (3, .ifCond .lt 19, []) by decide +kernel) (by decide) (fun c5 => ?_) (fun c5 => ?_)
    · rw [if_pos c5] at h
      cases h
      exact R_thr (show z_thx 98 25 = some 1 by decide +kernel) (by omega)
    · rw [if_neg c5] at h
      refine R_pure (pc := 9) (pc' := 10) (st' := [.int i2]) (show z_pt 98 9 = some (3, .iload_n 2, []) by decide +kernel) rfl (fun _ _ _ => rfl) ?_
      refine R_pure (pc := 10) (pc' := 11) (st' := [.ref 0, .int i2]) (show z_pt 98 10 = some (3, .aload_n 0, []) by decide +kernel) rfl (fun _ _ _ => rfl) ?_
      refine R_getR (pc := 11) (a := 0) (b := 1) (show z_pt 98 11 = some (3, .getfield 17, [9, 0, 2037]) by decide +kernel) (by decide +kernel) ?_
      refine R_at (pc := 14) ?_
      refine R_getR (pc := 14) (a := 1) (b := 9) (show z_pt 98 14 = some (3, .getfield 161, [7, 1, 1174]) by decide +kernel) (by decide +kernel) ?_
      refine R_at (pc := 17) ?_
      refine R_getR (pc := 17) (a := 9) (b := 11) (show z_pt 98 17 = some (3, .getfield 176, [8, 2, 1108]) by decide +kernel) (by decide +kernel) ?_
      refine R_at (pc := 20) ?_
      refine R_pure (pc := 20) (pc' := 21) (st' := [.int i1, .ref 11, .int i2]) (show z_pt 98 20 = some (3, .iload_n 1, []) by decide +kernel) rfl (fun _ _ _ => rfl) ?_
      obtain ⟨v6, e7, h⟩ := z_bs h
      refine R_ialdR (pc := 21) (a := 11) (n := 4) (show z_pt 98 21 = some (3, .iaload, []) by decide +kernel) (show z_ar 11 0 4 = true by decide +kernel) e7 ?_
      refine R_at (pc := 22) ?_
      refine R_icmlt (pc := 22) (t := 33) (show z_pt 98 22 = some (3, .if_icmp .lt 11, []) by decide +kernel) (by decide) (fun c8 => ?_) (fun c8 => ?_)
      · rw [if_pos c8] at h
        refine R_pure (pc := 33) (pc' := 34) (st' := [.ref 0]) (show z_pt 98 33 = some (3, .aload_n 0, []) by decide +kernel) rfl (fun _ _ _ => rfl) ?_
        refine R_getR (pc := 34) (a := 0) (b := 1) (show z_pt 98 34 = some (3, .getfield 17, [9, 0, 2037]) by decide +kernel) (by decide +kernel) ?_
        refine R_at (pc := 37) ?_
        refine R_pure (pc := 37) (pc' := 38) (st' := [.int i1, .ref 1]) (show z_pt 98 37 = some (3, .iload_n 1, []) by decide +kernel) rfl (fun _ _ _ => rfl) ?_
        refine R_pure (pc := 38) (pc' := 39) (st' := [.int i2, .int i1, .ref 1]) (show z_pt 98 38 = some (3, .iload_n 2, []) by decide +kernel) rfl (fun _ _ _ => rfl) ?_
        refine R_const (pc := 39) (pc' := 40) (v := 0) (show z_ptc 98 39 = some (40, 0) by decide +kernel) ?_
        obtain ⟨q9, e10, h⟩ := z_bs h
        refine R_call (pc := 40) (rr := []) (show z_pt 98 40 = some (3, .invokevirtual 182, [0, 66, 3, 3189, 3190, 3191, 1002, 3192]) by decide +kernel) rfl (show z_r2 66 = some (7, 8, true) by decide +kernel) rfl rfl (Or.inr ⟨_, _, rfl, (by decide +kernel)⟩) (pA_directionOfSpoke_run  e10) (by omega) ?_
        refine R_at2 (pc := 43) (st := [.int q9]) ?_
        cases h
        exact R_retI (show z_pt 98 43 = some (3, .ireturn, []) by decide +kernel) (by decide +kernel)
      · rw [if_neg c8] at h
        cases h
        exact R_thr (show z_thx 98 25 = some 1 by decide +kernel) (by omega)
  | some E4 =>
    rw [x3h] at h y11
    cases h
    exact R_callX (pc := 2) (rr := []) (show z_pt 98 2 = some (3, .invokevirtual 170, [0, 140, 1, 3181, 3183, 12, 1001, 3184]) by decide +kernel) rfl (show z_r2 140 = some (9, 2, true) by decide +kernel) rfl rfl (Or.inr ⟨_, _, rfl, (by decide +kernel)⟩) y11 (by decide) (by decide +kernel) (by omega)
def pG_neededStar  (μ : z_Mem) (i1 : Int32) : Option (Int32 ⊕ Nat) := (pY_placeOf μ i1).bind fun q1 => if q1 = (-1) then some (.inr 3) else some (.inl q1)
theorem pG_neededStar_run  {μ : z_Mem} {i1 : Int32}  {r : (Int32 ⊕ Nat)} (h : pG_neededStar μ i1 = some r) : Rn 6 143 0 [(0, .ref 0), (1, .int i1)] [] μ (z_oX r) μ := by
  unfold pG_neededStar at h
  refine R_pure (pc := 0) (pc' := 1) (st' := [.ref 0]) (show z_pt 143 0 = some (3, .aload_n 0, []) by decide +kernel) rfl (fun _ _ _ => rfl) ?_
  refine R_getR (pc := 1) (a := 0) (b := 1) (show z_pt 143 1 = some (3, .getfield 17, [9, 0, 2037]) by decide +kernel) (by decide +kernel) ?_
  refine R_at (pc := 4) ?_
  refine R_getR (pc := 4) (a := 1) (b := 12) (show z_pt 143 4 = some (3, .getfield 185, [7, 2, 1176]) by decide +kernel) (by decide +kernel) ?_
  refine R_at (pc := 7) ?_
  refine R_pure (pc := 7) (pc' := 8) (st' := [.int i1, .ref 12]) (show z_pt 143 7 = some (3, .iload_n 1, []) by decide +kernel) rfl (fun _ _ _ => rfl) ?_
  obtain ⟨q1, e2, h⟩ := z_bs h
  refine R_call (pc := 8) (rr := []) (show z_pt 143 8 = some (3, .invokevirtual 360, [0, 58, 1, 3204, 3205, 3206, 1005, 3207]) by decide +kernel) rfl (show z_r2 58 = some (6, 3, true) by decide +kernel) rfl rfl (Or.inr ⟨_, _, rfl, (by decide +kernel)⟩) (pY_placeOf_run  e2) (by omega) ?_
  refine R_at2 (pc := 11) (st := [.int q1]) ?_
  refine R_pure (pc := 11) (pc' := 12) (ls' := [(0, .ref 0), (1, .int i1), (2, .int q1)]) (st' := []) (show z_pt 143 11 = some (3, .istore_n 2, []) by decide +kernel) rfl (fun _ _ _ => rfl) ?_
  refine R_pure (pc := 12) (pc' := 13) (st' := [.int q1]) (show z_pt 143 12 = some (3, .iload_n 2, []) by decide +kernel) rfl (fun _ _ _ => rfl) ?_
  refine R_const (pc := 13) (pc' := 14) (v := (-1)) (show z_ptc 143 13 = some (14, (-1)) by decide +kernel) ?_
  refine R_icmne (pc := 14) (t := 25) (show z_pt 143 14 = some (3, .if_icmp .ne 11, []) by decide +kernel) (by decide) (fun c3 => ?_) (fun c3 => ?_)
  · rw [if_neg c3] at h
    refine R_pure (pc := 25) (pc' := 26) (st' := [.int q1]) (show z_pt 143 25 = some (3, .iload_n 2, []) by decide +kernel) rfl (fun _ _ _ => rfl) ?_
    cases h
    exact R_retI (show z_pt 143 26 = some (3, .ireturn, []) by decide +kernel) (by decide +kernel)
  · rw [if_pos c3] at h
    cases h
    exact R_thr (show z_thx 143 17 = some 3 by decide +kernel) (by omega)
def pG_distanceToStar  (μ : z_Mem) (i1 : Int32) (i2 : Int32) : Option (Int32 ⊕ Nat) := (pG_needWheel μ i1).bind fun q1 => (match q1 with | none => (pG_neededStar μ i2).bind fun q5 => (match q5 with | .inl x7 => (z_rd μ 14 8 x7).bind fun v9 => (pA_leastDistance μ i1 v9 0).bind fun q11 => some (.inl q11) | .inr E8 => some (.inr E8)) | some E4 => some (.inr E4))
theorem pG_distanceToStar_run  {μ : z_Mem} {i1 : Int32} {i2 : Int32}  {r : (Int32 ⊕ Nat)} (h : pG_distanceToStar μ i1 i2 = some r) : Rn 7 99 0 [(0, .ref 0), (1, .int i1), (2, .int i2)] [] μ (z_oX r) μ := by
  unfold pG_distanceToStar at h
  refine R_pure (pc := 0) (pc' := 1) (st' := [.ref 0]) (show z_pt 99 0 = some (3, .aload_n 0, []) by decide +kernel) rfl (fun _ _ _ => rfl) ?_
  refine R_pure (pc := 1) (pc' := 2) (st' := [.int i1, .ref 0]) (show z_pt 99 1 = some (3, .iload_n 1, []) by decide +kernel) rfl (fun _ _ _ => rfl) ?_
  obtain ⟨q1, e2, h⟩ := z_bs h
  have y14 := pG_needWheel_run  e2
  cases x3h : q1 with
  | none =>
    rw [x3h] at h y14
    dsimp only at h
    refine R_call (pc := 2) (rr := []) (show z_pt 99 2 = some (3, .invokevirtual 170, [0, 140, 1, 3181, 3183, 12, 1001, 3184]) by decide +kernel) rfl (show z_r2 140 = some (9, 2, true) by decide +kernel) rfl rfl (Or.inr ⟨_, _, rfl, (by decide +kernel)⟩) y14 (by omega) ?_
    refine R_at2 (pc := 5) (st := []) ?_
    refine R_pure (pc := 5) (pc' := 6) (st' := [.ref 0]) (show z_pt 99 5 = some (3, .aload_n 0, []) by decide +kernel) rfl (fun _ _ _ => rfl) ?_
    refine R_getR (pc := 6) (a := 0) (b := 1) (show z_pt 99 6 = some (3, .getfield 17, [9, 0, 2037]) by decide +kernel) (by decide +kernel) ?_
    refine R_at (pc := 9) ?_
    refine R_pure (pc := 9) (pc' := 10) (st' := [.int i1, .ref 1]) (show z_pt 99 9 = some (3, .iload_n 1, []) by decide +kernel) rfl (fun _ _ _ => rfl) ?_
    refine R_pure (pc := 10) (pc' := 11) (st' := [.ref 0, .int i1, .ref 1]) (show z_pt 99 10 = some (3, .aload_n 0, []) by decide +kernel) rfl (fun _ _ _ => rfl) ?_
    refine R_getR (pc := 11) (a := 0) (b := 1) (show z_pt 99 11 = some (3, .getfield 17, [9, 0, 2037]) by decide +kernel) (by decide +kernel) ?_
    refine R_at (pc := 14) ?_
    refine R_getR (pc := 14) (a := 1) (b := 12) (show z_pt 99 14 = some (3, .getfield 185, [7, 2, 1176]) by decide +kernel) (by decide +kernel) ?_
    refine R_at (pc := 17) ?_
    refine R_getR (pc := 17) (a := 12) (b := 14) (show z_pt 99 17 = some (3, .getfield 189, [6, 4, 1131]) by decide +kernel) (by decide +kernel) ?_
    refine R_at (pc := 20) ?_
    refine R_pure (pc := 20) (pc' := 21) (st' := [.ref 0, .ref 14, .int i1, .ref 1]) (show z_pt 99 20 = some (3, .aload_n 0, []) by decide +kernel) rfl (fun _ _ _ => rfl) ?_
    refine R_pure (pc := 21) (pc' := 22) (st' := [.int i2, .ref 0, .ref 14, .int i1, .ref 1]) (show z_pt 99 21 = some (3, .iload_n 2, []) by decide +kernel) rfl (fun _ _ _ => rfl) ?_
    obtain ⟨q5, e6, h⟩ := z_bs h
    have y13 := pG_neededStar_run  e6
    cases x7h : q5 with
    | inl x7 =>
      rw [x7h] at h y13
      dsimp only at h
      refine R_call (pc := 22) (rr := [.ref 14, .int i1, .ref 1]) (show z_pt 99 22 = some (3, .invokevirtual 194, [0, 143, 1, 3200, 3202, 13, 1001, 3203]) by decide +kernel) rfl (show z_r2 143 = some (9, 3, true) by decide +kernel) rfl rfl (Or.inr ⟨_, _, rfl, (by decide +kernel)⟩) y13 (by omega) ?_
      refine R_at2 (pc := 25) (st := [.int x7, .ref 14, .int i1, .ref 1]) ?_
      obtain ⟨v9, e10, h⟩ := z_bs h
      refine R_ialdR (pc := 25) (a := 14) (n := 8) (show z_pt 99 25 = some (3, .iaload, []) by decide +kernel) (show z_ar 14 0 8 = true by decide +kernel) e10 ?_
      refine R_at (pc := 26) ?_
      refine R_const (pc := 26) (pc' := 27) (v := 0) (show z_ptc 99 26 = some (27, 0) by decide +kernel) ?_
      obtain ⟨q11, e12, h⟩ := z_bs h
      refine R_call (pc := 27) (rr := []) (show z_pt 99 27 = some (3, .invokevirtual 200, [0, 67, 3, 3208, 3209, 3210, 1002, 3211]) by decide +kernel) rfl (show z_r2 67 = some (7, 6, true) by decide +kernel) rfl rfl (Or.inr ⟨_, _, rfl, (by decide +kernel)⟩) (pA_leastDistance_run  e12) (by omega) ?_
      refine R_at2 (pc := 30) (st := [.int q11]) ?_
      cases h
      exact R_retI (show z_pt 99 30 = some (3, .ireturn, []) by decide +kernel) (by decide +kernel)
    | inr E8 =>
      rw [x7h] at h y13
      cases h
      exact R_callX (pc := 22) (rr := [.ref 14, .int i1, .ref 1]) (show z_pt 99 22 = some (3, .invokevirtual 194, [0, 143, 1, 3200, 3202, 13, 1001, 3203]) by decide +kernel) rfl (show z_r2 143 = some (9, 3, true) by decide +kernel) rfl rfl (Or.inr ⟨_, _, rfl, (by decide +kernel)⟩) y13 (by decide) (by decide +kernel) (by omega)
  | some E4 =>
    rw [x3h] at h y14
    cases h
    exact R_callX (pc := 2) (rr := []) (show z_pt 99 2 = some (3, .invokevirtual 170, [0, 140, 1, 3181, 3183, 12, 1001, 3184]) by decide +kernel) rfl (show z_r2 140 = some (9, 2, true) by decide +kernel) rfl rfl (Or.inr ⟨_, _, rfl, (by decide +kernel)⟩) y14 (by decide) (by decide +kernel) (by omega)
end ZP3
