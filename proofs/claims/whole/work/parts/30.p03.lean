section ZP3
def pY_idNearest_L9_B (R : Int32 → Int32 → Int32 → Option Int32)  (μ : z_Mem) (f1 : Int32) (K : Int32 → Int32 → Int32 → Option Int32) (a2 : Int32) (a3 : Int32) (a4 : Int32) : Option Int32 := if (μ 12 0) ≤ a4 then K a2 a3 a4 else (z_rd μ 14 8 a4).bind fun v2 => (pG_distanceBetween μ v2 f1).bind fun q4 => if a3 ≤ q4 then R a2 a3 (a4 + 1) else (z_rd μ 13 8 a4).bind fun v7 => R v7 q4 (a4 + 1)
def pY_idNearest_L9 : Nat → z_Mem → Int32 → (Int32 → Int32 → Int32 → Option Int32) → Int32 → Int32 → Int32 → Option Int32
  | 0 => fun _ _ _ _ _ _ => none
  | n + 1 => fun μ f1 K a2 a3 a4 => pY_idNearest_L9_B (pY_idNearest_L9 n μ f1 K) μ f1 K a2 a3 a4
theorem pY_idNearest_L9_run  (μ : z_Mem) (f1 : Int32) (K : Int32 → Int32 → Int32 → Option Int32)  (D : Nat) (hD : 2 ≤ D) (hK : ∀ (a2 a3 a4 : Int32) (r : Int32), K a2 a3 a4 = some r → Rn D 64 54 [(0, .ref 12), (1, .int f1), (2, .int a2), (3, .int a3), (4, .int a4)] [] μ (.inl (some (.int r))) μ) : ∀ (n : Nat) (a2 : Int32) (a3 : Int32) (a4 : Int32) (r : Int32), pY_idNearest_L9 n μ f1 K a2 a3 a4 = some r → Rn D 64 9 [(0, .ref 12), (1, .int f1), (2, .int a2), (3, .int a3), (4, .int a4)] [] μ (.inl (some (.int r))) μ := by
  intro n
  induction n with
  | zero => intro a2 a3 a4 r h; cases h
  | succ n ih =>
    intro a2 a3 a4 r h
    have h : pY_idNearest_L9_B (pY_idNearest_L9 n μ f1 K) μ f1 K a2 a3 a4 = some r := h
    unfold pY_idNearest_L9_B at h
    refine R_pure (pc := 9) (pc' := 11) (st' := [.int a4]) (show z_pt 64 9 = some (6, .iload 4, []) by decide +kernel) rfl (fun _ _ _ => rfl) ?_
    refine R_pure (pc := 11) (pc' := 12) (st' := [.ref 12, .int a4]) (show z_pt 64 11 = some (6, .aload_n 0, []) by decide +kernel) rfl (fun _ _ _ => rfl) ?_
    refine R_getI (pc := 12) (a := 12) (show z_pt 64 12 = some (6, .getfield 21, [6, 0, 1123]) by decide +kernel) (by decide +kernel) ?_
    refine R_at (pc := 15) ?_
    refine R_icmge (pc := 15) (t := 54) (show z_pt 64 15 = some (6, .if_icmp .ge 39, []) by decide +kernel) (by decide) (fun c1 => ?_) (fun c1 => ?_)
    · rw [if_pos c1] at h
      exact hK _ _ _  _ h
    · rw [if_neg c1] at h
      refine R_pure (pc := 18) (pc' := 19) (st' := [.ref 12]) (show z_pt 64 18 = some (6, .aload_n 0, []) by decide +kernel) rfl (fun _ _ _ => rfl) ?_
      refine R_getR (pc := 19) (a := 12) (b := 14) (show z_pt 64 19 = some (6, .getfield 15, [6, 4, 1130]) by decide +kernel) (by decide +kernel) ?_
      refine R_at (pc := 22) ?_
      refine R_pure (pc := 22) (pc' := 24) (st' := [.int a4, .ref 14]) (show z_pt 64 22 = some (6, .iload 4, []) by decide +kernel) rfl (fun _ _ _ => rfl) ?_
      obtain ⟨v2, e3, h⟩ := z_bs h
      refine R_ialdR (pc := 24) (a := 14) (n := 8) (show z_pt 64 24 = some (6, .iaload, []) by decide +kernel) (show z_ar 14 0 8 = true by decide +kernel) e3 ?_
      refine R_at (pc := 25) ?_
      refine R_pure (pc := 25) (pc' := 26) (st' := [.int f1, .int v2]) (show z_pt 64 25 = some (6, .iload_n 1, []) by decide +kernel) rfl (fun _ _ _ => rfl) ?_
      obtain ⟨q4, e5, h⟩ := z_bs h
      refine R_call (pc := 26) (rr := []) (show z_pt 64 26 = some (6, .invokestatic 46, [2, 157, 2, 5029, 4137, 0, 1001, 4138]) by decide +kernel) rfl (show z_r2 157 = some (9, 3, true) by decide +kernel) rfl rfl (Or.inl (by decide)) (pG_distanceBetween_run  e5) (by omega) ?_
      refine R_at2 (pc := 29) (st := [.int q4]) ?_
      refine R_pure (pc := 29) (pc' := 31) (ls' := [(0, .ref 12), (1, .int f1), (2, .int a2), (3, .int a3), (4, .int a4), (5, .int q4)]) (st' := []) (show z_pt 64 29 = some (6, .istore 5, []) by decide +kernel) rfl (fun _ _ _ => rfl) ?_
      refine R_pure (pc := 31) (pc' := 33) (st' := [.int q4]) (show z_pt 64 31 = some (6, .iload 5, []) by decide +kernel) rfl (fun _ _ _ => rfl) ?_
      refine R_pure (pc := 33) (pc' := 34) (st' := [.int a3, .int q4]) (show z_pt 64 33 = some (6, .iload_n 3, []) by decide +kernel) rfl (fun _ _ _ => rfl) ?_
      refine R_icmge (pc := 34) (t := 48) (show z_pt 64 34 = some (6, .if_icmp .ge 14, []) by decide +kernel) (by decide) (fun c6 => ?_) (fun c6 => ?_)
      · rw [if_pos c6] at h
        refine R_inc (pc := 48) (pc' := 51) (ls' := [(0, .ref 12), (1, .int f1), (2, .int a2), (3, .int a3), (4, .int (a4 + 1)), (5, .int q4)]) (c := 1) (show z_pt 64 48 = some (6, .iinc 4 1, []) by decide +kernel) (by decide) rfl rfl ?_
        refine R_pure (pc := 51) (pc' := 9) (ls' := [(0, .ref 12), (1, .int f1), (2, .int a2), (3, .int a3), (4, .int (a4 + 1))]) (st' := []) (show z_pt 64 51 = some (6, .goto (-42), [5]) by decide +kernel) rfl (fun _ _ _ => rfl) ?_
        exact ih _ _ _ _  h
      · rw [if_neg c6] at h
        refine R_pure (pc := 37) (pc' := 39) (st' := [.int q4]) (show z_pt 64 37 = some (6, .iload 5, []) by decide +kernel) rfl (fun _ _ _ => rfl) ?_
        refine R_pure (pc := 39) (pc' := 40) (ls' := [(0, .ref 12), (1, .int f1), (2, .int a2), (3, .int q4), (4, .int a4), (5, .int q4)]) (st' := []) (show z_pt 64 39 = some (6, .istore_n 3, []) by decide +kernel) rfl (fun _ _ _ => rfl) ?_
        refine R_pure (pc := 40) (pc' := 41) (st' := [.ref 12]) (show z_pt 64 40 = some (6, .aload_n 0, []) by decide +kernel) rfl (fun _ _ _ => rfl) ?_
        refine R_getR (pc := 41) (a := 12) (b := 13) (show z_pt 64 41 = some (6, .getfield 9, [6, 3, 1128]) by decide +kernel) (by decide +kernel) ?_
        refine R_at (pc := 44) ?_
        refine R_pure (pc := 44) (pc' := 46) (st' := [.int a4, .ref 13]) (show z_pt 64 44 = some (6, .iload 4, []) by decide +kernel) rfl (fun _ _ _ => rfl) ?_
        obtain ⟨v7, e8, h⟩ := z_bs h
        refine R_ialdR (pc := 46) (a := 13) (n := 8) (show z_pt 64 46 = some (6, .iaload, []) by decide +kernel) (show z_ar 13 0 8 = true by decide +kernel) e8 ?_
        refine R_at (pc := 47) ?_
        refine R_pure (pc := 47) (pc' := 48) (ls' := [(0, .ref 12), (1, .int f1), (2, .int v7), (3, .int q4), (4, .int a4), (5, .int q4)]) (st' := []) (show z_pt 64 47 = some (6, .istore_n 2, []) by decide +kernel) rfl (fun _ _ _ => rfl) ?_
        refine R_inc (pc := 48) (pc' := 51) (ls' := [(0, .ref 12), (1, .int f1), (2, .int v7), (3, .int q4), (4, .int (a4 + 1)), (5, .int q4)]) (c := 1) (show z_pt 64 48 = some (6, .iinc 4 1, []) by decide +kernel) (by decide) rfl rfl ?_
        refine R_pure (pc := 51) (pc' := 9) (ls' := [(0, .ref 12), (1, .int f1), (2, .int v7), (3, .int q4), (4, .int (a4 + 1))]) (st' := []) (show z_pt 64 51 = some (6, .goto (-42), [5]) by decide +kernel) rfl (fun _ _ _ => rfl) ?_
        exact ih _ _ _ _  h
def pY_idNearest  (μ : z_Mem) (i1 : Int32) : Option Int32 := pY_idNearest_L9 z_fu μ i1 (fun k9 k10 k11 => some k9) (-1) 3600 0
theorem pY_idNearest_run  {μ : z_Mem} {i1 : Int32}  {r : Int32} (h : pY_idNearest μ i1 = some r) : Rn 2 64 0 [(0, .ref 12), (1, .int i1)] [] μ (.inl (some (.int r))) μ := by
  unfold pY_idNearest at h
  refine R_const (pc := 0) (pc' := 1) (v := (-1)) (show z_ptc 64 0 = some (1, (-1)) by decide +kernel) ?_
  refine R_pure (pc := 1) (pc' := 2) (ls' := [(0, .ref 12), (1, .int i1), (2, .int (-1))]) (st' := []) (show z_pt 64 1 = some (6, .istore_n 2, []) by decide +kernel) rfl (fun _ _ _ => rfl) ?_
  refine R_const (pc := 2) (pc' := 5) (v := 3600) (show z_ptc 64 2 = some (5, 3600) by decide +kernel) ?_
  refine R_pure (pc := 5) (pc' := 6) (ls' := [(0, .ref 12), (1, .int i1), (2, .int (-1)), (3, .int 3600)]) (st' := []) (show z_pt 64 5 = some (6, .istore_n 3, []) by decide +kernel) rfl (fun _ _ _ => rfl) ?_
  refine R_const (pc := 6) (pc' := 7) (v := 0) (show z_ptc 64 6 = some (7, 0) by decide +kernel) ?_
  refine R_pure (pc := 7) (pc' := 9) (ls' := [(0, .ref 12), (1, .int i1), (2, .int (-1)), (3, .int 3600), (4, .int 0)]) (st' := []) (show z_pt 64 7 = some (6, .istore 4, []) by decide +kernel) rfl (fun _ _ _ => rfl) ?_
  refine pY_idNearest_L9_run  _ _ _  _ (by omega) ?_ _ _ _ _ _ h
  intro k9 k10 k11 r h
  refine R_pure (pc := 54) (pc' := 55) (st' := [.int k9]) (show z_pt 64 54 = some (6, .iload_n 2, []) by decide +kernel) rfl (fun _ _ _ => rfl) ?_
  cases h
  exact R_retI (show z_pt 64 55 = some (6, .ireturn, []) by decide +kernel) (by decide +kernel)
def pA_directionOfSpoke  (μ : z_Mem) (i1 : Int32) (i2 : Int32) (i3 : Int32) : Option Int32 := (z_rd μ 10 4 i1).bind fun v1 => (z_rd μ 3 10 v1).bind fun v3 => (z_rd μ 11 4 i1).bind fun v5 => if v3 < 8 then some 0 else if 3 ≤ v5 then (z_rd μ 4 10 v1).bind fun v9 => (pJ_floorMod μ (v9 + i3) v3).bind fun q11 => if v3 = 0 then none else if v5 = 0 then none else some ((((3600 * q11) / v3) + ((3600 * i2) / v5)) - (((3600 * q11) / v3) + ((3600 * i2) / v5)) / 3600 * 3600) else some 0
theorem pA_directionOfSpoke_run  {μ : z_Mem} {i1 : Int32} {i2 : Int32} {i3 : Int32}  {r : Int32} (h : pA_directionOfSpoke μ i1 i2 i3 = some r) : Rn 1 67 0 [(0, .ref 1), (1, .int i1), (2, .int i2), (3, .int i3)] [] μ (.inl (some (.int r))) μ := by
  unfold pA_directionOfSpoke at h
  refine R_pure (pc := 0) (pc' := 1) (st' := [.ref 1]) (show z_pt 67 0 = some (8, .aload_n 0, []) by decide +kernel) rfl (fun _ _ _ => rfl) ?_
  refine R_getR (pc := 1) (a := 1) (b := 9) (show z_pt 67 1 = some (8, .getfield 21, [7, 1, 1174]) by decide +kernel) (by decide +kernel) ?_
  refine R_at (pc := 4) ?_
  refine R_getR (pc := 4) (a := 9) (b := 10) (show z_pt 67 4 = some (8, .getfield 52, [8, 1, 1105]) by decide +kernel) (by decide +kernel) ?_
  refine R_at (pc := 7) ?_
  refine R_pure (pc := 7) (pc' := 8) (st' := [.int i1, .ref 10]) (show z_pt 67 7 = some (8, .iload_n 1, []) by decide +kernel) rfl (fun _ _ _ => rfl) ?_
  obtain ⟨v1, e2, h⟩ := z_bs h
  refine R_ialdR (pc := 8) (a := 10) (n := 4) (show z_pt 67 8 = some (8, .iaload, []) by decide +kernel) (show z_ar 10 0 4 = true by decide +kernel) e2 ?_
  refine R_at (pc := 9) ?_
  refine R_pure (pc := 9) (pc' := 11) (ls' := [(0, .ref 1), (1, .int i1), (2, .int i2), (3, .int i3), (4, .int v1)]) (st' := []) (show z_pt 67 9 = some (8, .istore 4, []) by decide +kernel) rfl (fun _ _ _ => rfl) ?_
  refine R_pure (pc := 11) (pc' := 12) (st' := [.ref 1]) (show z_pt 67 11 = some (8, .aload_n 0, []) by decide +kernel) rfl (fun _ _ _ => rfl) ?_
  refine R_getR (pc := 12) (a := 1) (b := 2) (show z_pt 67 12 = some (8, .getfield 12, [7, 0, 1172]) by decide +kernel) (by decide +kernel) ?_
  refine R_at (pc := 15) ?_
  refine R_getR (pc := 15) (a := 2) (b := 3) (show z_pt 67 15 = some (8, .getfield 56, [2, 3, 1058]) by decide +kernel) (by decide +kernel) ?_
  refine R_at (pc := 18) ?_
  refine R_pure (pc := 18) (pc' := 20) (st' := [.int v1, .ref 3]) (show z_pt 67 18 = some (8, .iload 4, []) by decide +kernel) rfl (fun _ _ _ => rfl) ?_
  obtain ⟨v3, e4, h⟩ := z_bs h
  refine R_ialdR (pc := 20) (a := 3) (n := 10) (show z_pt 67 20 = some (8, .iaload, []) by decide +kernel) (show z_ar 3 0 10 = true by decide +kernel) e4 ?_
  refine R_at (pc := 21) ?_
  refine R_pure (pc := 21) (pc' := 23) (ls' := [(0, .ref 1), (1, .int i1), (2, .int i2), (3, .int i3), (4, .int v1), (5, .int v3)]) (st' := []) (show z_pt 67 21 = some (8, .istore 5, []) by decide +kernel) rfl (fun _ _ _ => rfl) ?_
  refine R_pure (pc := 23) (pc' := 24) (st' := [.ref 1]) (show z_pt 67 23 = some (8, .aload_n 0, []) by decide +kernel) rfl (fun _ _ _ => rfl) ?_
  refine R_getR (pc := 24) (a := 1) (b := 9) (show z_pt 67 24 = some (8, .getfield 21, [7, 1, 1174]) by decide +kernel) (by decide +kernel) ?_
  refine R_at (pc := 27) ?_
  refine R_getR (pc := 27) (a := 9) (b := 11) (show z_pt 67 27 = some (8, .getfield 59, [8, 2, 1108]) by decide +kernel) (by decide +kernel) ?_
  refine R_at (pc := 30) ?_
  refine R_pure (pc := 30) (pc' := 31) (st' := [.int i1, .ref 11]) (show z_pt 67 30 = some (8, .iload_n 1, []) by decide +kernel) rfl (fun _ _ _ => rfl) ?_
  obtain ⟨v5, e6, h⟩ := z_bs h
  refine R_ialdR (pc := 31) (a := 11) (n := 4) (show z_pt 67 31 = some (8, .iaload, []) by decide +kernel) (show z_ar 11 0 4 = true by decide +kernel) e6 ?_
  refine R_at (pc := 32) ?_
  refine R_pure (pc := 32) (pc' := 34) (ls' := [(0, .ref 1), (1, .int i1), (2, .int i2), (3, .int i3), (4, .int v1), (5, .int v3), (6, .int v5)]) (st' := []) (show z_pt 67 32 = some (8, .istore 6, []) by decide +kernel) rfl (fun _ _ _ => rfl) ?_
  refine R_pure (pc := 34) (pc' := 36) (st' := [.int v3]) (show z_pt 67 34 = some (8, .iload 5, []) by decide +kernel) rfl (fun _ _ _ => rfl) ?_
  refine R_const (pc := 36) (pc' := 38) (v := 8) (show z_ptc 67 36 = some (38, 8) by decide +kernel) ?_
  refine R_icmlt (pc := 38) (t := 47) (show z_pt 67 38 = some (8, .if_icmp .lt 9, []) by decide +kernel) (by decide) (fun c7 => ?_) (fun c7 => ?_)
  · rw [if_pos c7] at h
    refine R_const (pc := 47) (pc' := 48) (v := 0) (show z_ptc 67 47 = some (48, 0) by decide +kernel) ?_
    cases h
    exact R_retI (show z_pt 67 48 = some (8, .ireturn, []) by decide +kernel) (by decide +kernel)
  · rw [if_neg c7] at h
    refine R_pure (pc := 41) (pc' := 43) (st' := [.int v5]) (show z_pt 67 41 = some (8, .iload 6, []) by decide +kernel) rfl (fun _ _ _ => rfl) ?_
    refine R_const (pc := 43) (pc' := 44) (v := 3) (show z_ptc 67 43 = some (44, 3) by decide +kernel) ?_
    refine R_icmge (pc := 44) (t := 49) (show z_pt 67 44 = some (8, .if_icmp .ge 5, []) by decide +kernel) (by decide) (fun c8 => ?_) (fun c8 => ?_)
    · rw [if_pos c8] at h
      refine R_pure (pc := 49) (pc' := 50) (st' := [.ref 1]) (show z_pt 67 49 = some (8, .aload_n 0, []) by decide +kernel) rfl (fun _ _ _ => rfl) ?_
      refine R_getR (pc := 50) (a := 1) (b := 2) (show z_pt 67 50 = some (8, .getfield 12, [7, 0, 1172]) by decide +kernel) (by decide +kernel) ?_
      refine R_at (pc := 53) ?_
      refine R_getR (pc := 53) (a := 2) (b := 4) (show z_pt 67 53 = some (8, .getfield 62, [2, 4, 1062]) by decide +kernel) (by decide +kernel) ?_
      refine R_at (pc := 56) ?_
      refine R_pure (pc := 56) (pc' := 58) (st' := [.int v1, .ref 4]) (show z_pt 67 56 = some (8, .iload 4, []) by decide +kernel) rfl (fun _ _ _ => rfl) ?_
      obtain ⟨v9, e10, h⟩ := z_bs h
      refine R_ialdR (pc := 58) (a := 4) (n := 10) (show z_pt 67 58 = some (8, .iaload, []) by decide +kernel) (show z_ar 4 0 10 = true by decide +kernel) e10 ?_
      refine R_at (pc := 59) ?_
      refine R_pure (pc := 59) (pc' := 60) (st' := [.int i3, .int v9]) (show z_pt 67 59 = some (8, .iload_n 3, []) by decide +kernel) rfl (fun _ _ _ => rfl) ?_
      refine R_pure (pc := 60) (pc' := 61) (st' := [.int (v9 + i3)]) (show z_pt 67 60 = some (8, .iadd, []) by decide +kernel) rfl (fun _ _ _ => rfl) ?_
      refine R_pure (pc := 61) (pc' := 63) (st' := [.int v3, .int (v9 + i3)]) (show z_pt 67 61 = some (8, .iload 5, []) by decide +kernel) rfl (fun _ _ _ => rfl) ?_
      obtain ⟨q11, e12, h⟩ := z_bs h
      refine R_call (pc := 63) (rr := []) (show z_pt 67 63 = some (8, .invokestatic 65, [1, 324, 2, 4113, 4114, 0, 1008, 4115]) by decide +kernel) rfl (show z_r2 324 = some (12, 3, true) by decide +kernel) rfl rfl (Or.inl (by decide)) (pJ_floorMod_run  e12) (by omega) ?_
      refine R_at2 (pc := 66) (st := [.int q11]) ?_
      refine R_pure (pc := 66) (pc' := 68) (ls' := [(0, .ref 1), (1, .int i1), (2, .int i2), (3, .int i3), (4, .int v1), (5, .int v3), (6, .int v5), (7, .int q11)]) (st' := []) (show z_pt 67 66 = some (8, .istore 7, []) by decide +kernel) rfl (fun _ _ _ => rfl) ?_
      refine R_const (pc := 68) (pc' := 71) (v := 3600) (show z_ptc 67 68 = some (71, 3600) by decide +kernel) ?_
      refine R_pure (pc := 71) (pc' := 73) (st' := [.int q11, .int 3600]) (show z_pt 67 71 = some (8, .iload 7, []) by decide +kernel) rfl (fun _ _ _ => rfl) ?_
      refine R_pure (pc := 73) (pc' := 74) (st' := [.int (3600 * q11)]) (show z_pt 67 73 = some (8, .imul, []) by decide +kernel) rfl (fun _ _ _ => rfl) ?_
      refine R_pure (pc := 74) (pc' := 76) (st' := [.int v3, .int (3600 * q11)]) (show z_pt 67 74 = some (8, .iload 5, []) by decide +kernel) rfl (fun _ _ _ => rfl) ?_
      obtain ⟨g13, h⟩ := z_ng h
      refine R_div (x := (3600 * q11)) (y := v3) (show z_pt 67 76 = some (8, .idiv, []) by decide +kernel) g13 ?_
      refine R_const (pc := 77) (pc' := 80) (v := 3600) (show z_ptc 67 77 = some (80, 3600) by decide +kernel) ?_
      refine R_pure (pc := 80) (pc' := 81) (st' := [.int i2, .int 3600, .int ((3600 * q11) / v3)]) (show z_pt 67 80 = some (8, .iload_n 2, []) by decide +kernel) rfl (fun _ _ _ => rfl) ?_
      refine R_pure (pc := 81) (pc' := 82) (st' := [.int (3600 * i2), .int ((3600 * q11) / v3)]) (show z_pt 67 81 = some (8, .imul, []) by decide +kernel) rfl (fun _ _ _ => rfl) ?_
      refine R_pure (pc := 82) (pc' := 84) (st' := [.int v5, .int (3600 * i2), .int ((3600 * q11) / v3)]) (show z_pt 67 82 = some (8, .iload 6, []) by decide +kernel) rfl (fun _ _ _ => rfl) ?_
      obtain ⟨g14, h⟩ := z_ng h
      refine R_div (x := (3600 * i2)) (y := v5) (show z_pt 67 84 = some (8, .idiv, []) by decide +kernel) g14 ?_
      refine R_pure (pc := 85) (pc' := 86) (st' := [.int (((3600 * q11) / v3) + ((3600 * i2) / v5))]) (show z_pt 67 85 = some (8, .iadd, []) by decide +kernel) rfl (fun _ _ _ => rfl) ?_
      refine R_const (pc := 86) (pc' := 89) (v := 3600) (show z_ptc 67 86 = some (89, 3600) by decide +kernel) ?_
      refine R_rem (x := (((3600 * q11) / v3) + ((3600 * i2) / v5))) (y := 3600) (show z_pt 67 89 = some (8, .irem, []) by decide +kernel) (by decide) ?_
      cases h
      exact R_retI (show z_pt 67 90 = some (8, .ireturn, []) by decide +kernel) (by decide +kernel)
    · rw [if_neg c8] at h
      refine R_const (pc := 47) (pc' := 48) (v := 0) (show z_ptc 67 47 = some (48, 0) by decide +kernel) ?_
      cases h
      exact R_retI (show z_pt 67 48 = some (8, .ireturn, []) by decide +kernel) (by decide +kernel)
def pA_leastDistance_L8_B (R : Int32 → Int32 → Option Int32)  (μ : z_Mem) (f1 : Int32) (f2 : Int32) (f3 : Int32) (K : Int32 → Int32 → Option Int32) (a4 : Int32) (a5 : Int32) : Option Int32 := (z_rd μ 11 4 f1).bind fun v1 => if v1 ≤ a5 then K a4 a5 else (pA_directionOfSpoke μ f1 a5 f3).bind fun q4 => (pG_distanceBetween μ q4 f2).bind fun q6 => (pJ_min μ a4 q6).bind fun q8 => R q8 (a5 + 1)
def pA_leastDistance_L8 : Nat → z_Mem → Int32 → Int32 → Int32 → (Int32 → Int32 → Option Int32) → Int32 → Int32 → Option Int32
  | 0 => fun _ _ _ _ _ _ _ => none
  | n + 1 => fun μ f1 f2 f3 K a4 a5 => pA_leastDistance_L8_B (pA_leastDistance_L8 n μ f1 f2 f3 K) μ f1 f2 f3 K a4 a5
theorem pA_leastDistance_L8_run  (μ : z_Mem) (f1 : Int32) (f2 : Int32) (f3 : Int32) (K : Int32 → Int32 → Option Int32)  (D : Nat) (hD : 2 ≤ D) (hK : ∀ (a4 a5 : Int32) (r : Int32), K a4 a5 = some r → Rn D 68 47 [(0, .ref 1), (1, .int f1), (2, .int f2), (3, .int f3), (4, .int a4), (5, .int a5)] [] μ (.inl (some (.int r))) μ) : ∀ (n : Nat) (a4 : Int32) (a5 : Int32) (r : Int32), pA_leastDistance_L8 n μ f1 f2 f3 K a4 a5 = some r → Rn D 68 8 [(0, .ref 1), (1, .int f1), (2, .int f2), (3, .int f3), (4, .int a4), (5, .int a5)] [] μ (.inl (some (.int r))) μ := by
  intro n
  induction n with
  | zero => intro a4 a5 r h; cases h
  | succ n ih =>
    intro a4 a5 r h
    have h : pA_leastDistance_L8_B (pA_leastDistance_L8 n μ f1 f2 f3 K) μ f1 f2 f3 K a4 a5 = some r := h
    unfold pA_leastDistance_L8_B at h
    refine R_pure (pc := 8) (pc' := 10) (st' := [.int a5]) (show z_pt 68 8 = some (6, .iload 5, []) by decide +kernel) rfl (fun _ _ _ => rfl) ?_
    refine R_pure (pc := 10) (pc' := 11) (st' := [.ref 1, .int a5]) (show z_pt 68 10 = some (6, .aload_n 0, []) by decide +kernel) rfl (fun _ _ _ => rfl) ?_
    refine R_getR (pc := 11) (a := 1) (b := 9) (show z_pt 68 11 = some (6, .getfield 21, [7, 1, 1174]) by decide +kernel) (by decide +kernel) ?_
    refine R_at (pc := 14) ?_
    refine R_getR (pc := 14) (a := 9) (b := 11) (show z_pt 68 14 = some (6, .getfield 59, [8, 2, 1108]) by decide +kernel) (by decide +kernel) ?_
    refine R_at (pc := 17) ?_
    refine R_pure (pc := 17) (pc' := 18) (st' := [.int f1, .ref 11, .int a5]) (show z_pt 68 17 = some (6, .iload_n 1, []) by decide +kernel) rfl (fun _ _ _ => rfl) ?_
    obtain ⟨v1, e2, h⟩ := z_bs h
    refine R_ialdR (pc := 18) (a := 11) (n := 4) (show z_pt 68 18 = some (6, .iaload, []) by decide +kernel) (show z_ar 11 0 4 = true by decide +kernel) e2 ?_
    refine R_at (pc := 19) ?_
    refine R_icmge (pc := 19) (t := 47) (show z_pt 68 19 = some (6, .if_icmp .ge 28, []) by decide +kernel) (by decide) (fun c3 => ?_) (fun c3 => ?_)
    · rw [if_pos c3] at h
      exact hK _ _  _ h
    · rw [if_neg c3] at h
      refine R_pure (pc := 22) (pc' := 24) (st' := [.int a4]) (show z_pt 68 22 = some (6, .iload 4, []) by decide +kernel) rfl (fun _ _ _ => rfl) ?_
      refine R_pure (pc := 24) (pc' := 25) (st' := [.ref 1, .int a4]) (show z_pt 68 24 = some (6, .aload_n 0, []) by decide +kernel) rfl (fun _ _ _ => rfl) ?_
      refine R_pure (pc := 25) (pc' := 26) (st' := [.int f1, .ref 1, .int a4]) (show z_pt 68 25 = some (6, .iload_n 1, []) by decide +kernel) rfl (fun _ _ _ => rfl) ?_
      refine R_pure (pc := 26) (pc' := 28) (st' := [.int a5, .int f1, .ref 1, .int a4]) (show z_pt 68 26 = some (6, .iload 5, []) by decide +kernel) rfl (fun _ _ _ => rfl) ?_
      refine R_pure (pc := 28) (pc' := 29) (st' := [.int f3, .int a5, .int f1, .ref 1, .int a4]) (show z_pt 68 28 = some (6, .iload_n 3, []) by decide +kernel) rfl (fun _ _ _ => rfl) ?_
      obtain ⟨q4, e5, h⟩ := z_bs h
      refine R_call (pc := 29) (rr := [.int a4]) (show z_pt 68 29 = some (6, .invokevirtual 71, [0, 67, 3, 4135, 4110, 4111, 1002, 4112]) by decide +kernel) rfl (show z_r2 67 = some (7, 8, true) by decide +kernel) rfl rfl (Or.inr ⟨_, _, rfl, (by decide +kernel)⟩) (pA_directionOfSpoke_run  e5) (by omega) ?_
      refine R_at2 (pc := 32) (st := [.int q4, .int a4]) ?_
      refine R_pure (pc := 32) (pc' := 33) (st' := [.int f2, .int q4, .int a4]) (show z_pt 68 32 = some (6, .iload_n 2, []) by decide +kernel) rfl (fun _ _ _ => rfl) ?_
      obtain ⟨q6, e7, h⟩ := z_bs h
      refine R_call (pc := 33) (rr := [.int a4]) (show z_pt 68 33 = some (6, .invokestatic 75, [2, 157, 2, 4136, 4137, 0, 1001, 4138]) by decide +kernel) rfl (show z_r2 157 = some (9, 3, true) by decide +kernel) rfl rfl (Or.inl (by decide)) (pG_distanceBetween_run  e7) (by omega) ?_
      refine R_at2 (pc := 36) (st := [.int q6, .int a4]) ?_
      obtain ⟨q8, e9, h⟩ := z_bs h
      refine R_call (pc := 36) (rr := []) (show z_pt 68 36 = some (6, .invokestatic 78, [1, 323, 2, 4152, 2188, 0, 1008, 2189]) by decide +kernel) rfl (show z_r2 323 = some (12, 2, true) by decide +kernel) rfl rfl (Or.inl (by decide)) (pJ_min_run  e9) (by omega) ?_
      refine R_at2 (pc := 39) (st := [.int q8]) ?_
      refine R_pure (pc := 39) (pc' := 41) (ls' := [(0, .ref 1), (1, .int f1), (2, .int f2), (3, .int f3), (4, .int q8), (5, .int a5)]) (st' := []) (show z_pt 68 39 = some (6, .istore 4, []) by decide +kernel) rfl (fun _ _ _ => rfl) ?_
      refine R_inc (pc := 41) (pc' := 44) (ls' := [(0, .ref 1), (1, .int f1), (2, .int f2), (3, .int f3), (4, .int q8), (5, .int (a5 + 1))]) (c := 1) (show z_pt 68 41 = some (6, .iinc 5 1, []) by decide +kernel) (by decide) rfl rfl ?_
      refine R_pure (pc := 44) (pc' := 8) (ls' := [(0, .ref 1), (1, .int f1), (2, .int f2), (3, .int f3), (4, .int q8), (5, .int (a5 + 1))]) (st' := []) (show z_pt 68 44 = some (6, .goto (-36), [6]) by decide +kernel) rfl (fun _ _ _ => rfl) ?_
      exact ih _ _ _  h
def pA_leastDistance  (μ : z_Mem) (i1 : Int32) (i2 : Int32) (i3 : Int32) : Option Int32 := pA_leastDistance_L8 z_fu μ i1 i2 i3 (fun k10 k11 => some k10) 3600 0
theorem pA_leastDistance_run  {μ : z_Mem} {i1 : Int32} {i2 : Int32} {i3 : Int32}  {r : Int32} (h : pA_leastDistance μ i1 i2 i3 = some r) : Rn 2 68 0 [(0, .ref 1), (1, .int i1), (2, .int i2), (3, .int i3)] [] μ (.inl (some (.int r))) μ := by
  unfold pA_leastDistance at h
  refine R_const (pc := 0) (pc' := 3) (v := 3600) (show z_ptc 68 0 = some (3, 3600) by decide +kernel) ?_
  refine R_pure (pc := 3) (pc' := 5) (ls' := [(0, .ref 1), (1, .int i1), (2, .int i2), (3, .int i3), (4, .int 3600)]) (st' := []) (show z_pt 68 3 = some (6, .istore 4, []) by decide +kernel) rfl (fun _ _ _ => rfl) ?_
  refine R_const (pc := 5) (pc' := 6) (v := 0) (show z_ptc 68 5 = some (6, 0) by decide +kernel) ?_
  refine R_pure (pc := 6) (pc' := 8) (ls' := [(0, .ref 1), (1, .int i1), (2, .int i2), (3, .int i3), (4, .int 3600), (5, .int 0)]) (st' := []) (show z_pt 68 6 = some (6, .istore 5, []) by decide +kernel) rfl (fun _ _ _ => rfl) ?_
  refine pA_leastDistance_L8_run  _ _ _ _ _  _ (by omega) ?_ _ _ _ _ h
  intro k10 k11 r h
  refine R_pure (pc := 47) (pc' := 49) (st' := [.int k10]) (show z_pt 68 47 = some (6, .iload 4, []) by decide +kernel) rfl (fun _ _ _ => rfl) ?_
  cases h
  exact R_retI (show z_pt 68 49 = some (6, .ireturn, []) by decide +kernel) (by decide +kernel)
def pA_closestSpoke_L10_B (R : Int32 → Int32 → Int32 → Option Int32)  (μ : z_Mem) (f1 : Int32) (f2 : Int32) (K : Int32 → Int32 → Int32 → Option Int32) (a3 : Int32) (a4 : Int32) (a5 : Int32) : Option Int32 := (z_rd μ 11 4 f1).bind fun v1 => if v1 ≤ a5 then K a3 a4 a5 else (pA_directionOfSpoke μ f1 a5 0).bind fun q4 => (pG_distanceBetween μ q4 f2).bind fun q6 => if a4 ≤ q6 then R a3 a4 (a5 + 1) else R a5 q6 (a5 + 1)
def pA_closestSpoke_L10 : Nat → z_Mem → Int32 → Int32 → (Int32 → Int32 → Int32 → Option Int32) → Int32 → Int32 → Int32 → Option Int32
  | 0 => fun _ _ _ _ _ _ _ => none
  | n + 1 => fun μ f1 f2 K a3 a4 a5 => pA_closestSpoke_L10_B (pA_closestSpoke_L10 n μ f1 f2 K) μ f1 f2 K a3 a4 a5
theorem pA_closestSpoke_L10_run  (μ : z_Mem) (f1 : Int32) (f2 : Int32) (K : Int32 → Int32 → Int32 → Option Int32)  (D : Nat) (hD : 2 ≤ D) (hK : ∀ (a3 a4 a5 : Int32) (r : Int32), K a3 a4 a5 = some r → Rn D 69 58 [(0, .ref 1), (1, .int f1), (2, .int f2), (3, .int a3), (4, .int a4), (5, .int a5)] [] μ (.inl (some (.int r))) μ) : ∀ (n : Nat) (a3 : Int32) (a4 : Int32) (a5 : Int32) (r : Int32), pA_closestSpoke_L10 n μ f1 f2 K a3 a4 a5 = some r → Rn D 69 10 [(0, .ref 1), (1, .int f1), (2, .int f2), (3, .int a3), (4, .int a4), (5, .int a5)] [] μ (.inl (some (.int r))) μ := by
  intro n
  induction n with
  | zero => intro a3 a4 a5 r h; cases h
  | succ n ih =>
    intro a3 a4 a5 r h
    have h : pA_closestSpoke_L10_B (pA_closestSpoke_L10 n μ f1 f2 K) μ f1 f2 K a3 a4 a5 = some r := h
    unfold pA_closestSpoke_L10_B at h
    refine R_pure (pc := 10) (pc' := 12) (st' := [.int a5]) (show z_pt 69 10 = some (7, .iload 5, []) by decide +kernel) rfl (fun _ _ _ => rfl) ?_
    refine R_pure (pc := 12) (pc' := 13) (st' := [.ref 1, .int a5]) (show z_pt 69 12 = some (7, .aload_n 0, []) by decide +kernel) rfl (fun _ _ _ => rfl) ?_
    refine R_getR (pc := 13) (a := 1) (b := 9) (show z_pt 69 13 = some (7, .getfield 21, [7, 1, 1174]) by decide +kernel) (by decide +kernel) ?_
    refine R_at (pc := 16) ?_
    refine R_getR (pc := 16) (a := 9) (b := 11) (show z_pt 69 16 = some (7, .getfield 59, [8, 2, 1108]) by decide +kernel) (by decide +kernel) ?_
    refine R_at (pc := 19) ?_
    refine R_pure (pc := 19) (pc' := 20) (st' := [.int f1, .ref 11, .int a5]) (show z_pt 69 19 = some (7, .iload_n 1, []) by decide +kernel) rfl (fun _ _ _ => rfl) ?_
    obtain ⟨v1, e2, h⟩ := z_bs h
    refine R_ialdR (pc := 20) (a := 11) (n := 4) (show z_pt 69 20 = some (7, .iaload, []) by decide +kernel) (show z_ar 11 0 4 = true by decide +kernel) e2 ?_
    refine R_at (pc := 21) ?_
    refine R_icmge (pc := 21) (t := 58) (show z_pt 69 21 = some (7, .if_icmp .ge 37, []) by decide +kernel) (by decide) (fun c3 => ?_) (fun c3 => ?_)
    · rw [if_pos c3] at h
      exact hK _ _ _  _ h
    · rw [if_neg c3] at h
      refine R_pure (pc := 24) (pc' := 25) (st' := [.ref 1]) (show z_pt 69 24 = some (7, .aload_n 0, []) by decide +kernel) rfl (fun _ _ _ => rfl) ?_
      refine R_pure (pc := 25) (pc' := 26) (st' := [.int f1, .ref 1]) (show z_pt 69 25 = some (7, .iload_n 1, []) by decide +kernel) rfl (fun _ _ _ => rfl) ?_
      refine R_pure (pc := 26) (pc' := 28) (st' := [.int a5, .int f1, .ref 1]) (show z_pt 69 26 = some (7, .iload 5, []) by decide +kernel) rfl (fun _ _ _ => rfl) ?_
      refine R_const (pc := 28) (pc' := 29) (v := 0) (show z_ptc 69 28 = some (29, 0) by decide +kernel) ?_
      obtain ⟨q4, e5, h⟩ := z_bs h
      refine R_call (pc := 29) (rr := []) (show z_pt 69 29 = some (7, .invokevirtual 71, [0, 67, 3, 4135, 4110, 4111, 1002, 4112]) by decide +kernel) rfl (show z_r2 67 = some (7, 8, true) by decide +kernel) rfl rfl (Or.inr ⟨_, _, rfl, (by decide +kernel)⟩) (pA_directionOfSpoke_run  e5) (by omega) ?_
      refine R_at2 (pc := 32) (st := [.int q4]) ?_
      refine R_pure (pc := 32) (pc' := 33) (st' := [.int f2, .int q4]) (show z_pt 69 32 = some (7, .iload_n 2, []) by decide +kernel) rfl (fun _ _ _ => rfl) ?_
      obtain ⟨q6, e7, h⟩ := z_bs h
      refine R_call (pc := 33) (rr := []) (show z_pt 69 33 = some (7, .invokestatic 75, [2, 157, 2, 4136, 4137, 0, 1001, 4138]) by decide +kernel) rfl (show z_r2 157 = some (9, 3, true) by decide +kernel) rfl rfl (Or.inl (by decide)) (pG_distanceBetween_run  e7) (by omega) ?_
      refine R_at2 (pc := 36) (st := [.int q6]) ?_
      refine R_pure (pc := 36) (pc' := 38) (ls' := [(0, .ref 1), (1, .int f1), (2, .int f2), (3, .int a3), (4, .int a4), (5, .int a5), (6, .int q6)]) (st' := []) (show z_pt 69 36 = some (7, .istore 6, []) by decide +kernel) rfl (fun _ _ _ => rfl) ?_
      refine R_pure (pc := 38) (pc' := 40) (st' := [.int q6]) (show z_pt 69 38 = some (7, .iload 6, []) by decide +kernel) rfl (fun _ _ _ => rfl) ?_
      refine R_pure (pc := 40) (pc' := 42) (st' := [.int a4, .int q6]) (show z_pt 69 40 = some (7, .iload 4, []) by decide +kernel) rfl (fun _ _ _ => rfl) ?_
      refine R_icmge (pc := 42) (t := 52) (show z_pt 69 42 = some (7, .if_icmp .ge 10, []) by decide +kernel) (by decide) (fun c8 => ?_) (fun c8 => ?_)
      · rw [if_pos c8] at h
        refine R_inc (pc := 52) (pc' := 55) (ls' := [(0, .ref 1), (1, .int f1), (2, .int f2), (3, .int a3), (4, .int a4), (5, .int (a5 + 1)), (6, .int q6)]) (c := 1) (show z_pt 69 52 = some (7, .iinc 5 1, []) by decide +kernel) (by decide) rfl rfl ?_
        refine R_pure (pc := 55) (pc' := 10) (ls' := [(0, .ref 1), (1, .int f1), (2, .int f2), (3, .int a3), (4, .int a4), (5, .int (a5 + 1))]) (st' := []) (show z_pt 69 55 = some (7, .goto (-45), [6]) by decide +kernel) rfl (fun _ _ _ => rfl) ?_
        exact ih _ _ _ _  h
      · rw [if_neg c8] at h
        refine R_pure (pc := 45) (pc' := 47) (st' := [.int q6]) (show z_pt 69 45 = some (7, .iload 6, []) by decide +kernel) rfl (fun _ _ _ => rfl) ?_
        refine R_pure (pc := 47) (pc' := 49) (ls' := [(0, .ref 1), (1, .int f1), (2, .int f2), (3, .int a3), (4, .int q6), (5, .int a5), (6, .int q6)]) (st' := []) (show z_pt 69 47 = some (7, .istore 4, []) by decide +kernel) rfl (fun _ _ _ => rfl) ?_
        refine R_pure (pc := 49) (pc' := 51) (st' := [.int a5]) (show z_pt 69 49 = some (7, .iload 5, []) by decide +kernel) rfl (fun _ _ _ => rfl) ?_
        refine R_pure (pc := 51) (pc' := 52) (ls' := [(0, .ref 1), (1, .int f1), (2, .int f2), (3, .int a5), (4, .int q6), (5, .int a5), (6, .int q6)]) (st' := []) (show z_pt 69 51 = some (7, .istore_n 3, []) by decide +kernel) rfl (fun _ _ _ => rfl) ?_
        refine R_inc (pc := 52) (pc' := 55) (ls' := [(0, .ref 1), (1, .int f1), (2, .int f2), (3, .int a5), (4, .int q6), (5, .int (a5 + 1)), (6, .int q6)]) (c := 1) (show z_pt 69 52 = some (7, .iinc 5 1, []) by decide +kernel) (by decide) rfl rfl ?_
        refine R_pure (pc := 55) (pc' := 10) (ls' := [(0, .ref 1), (1, .int f1), (2, .int f2), (3, .int a5), (4, .int q6), (5, .int (a5 + 1))]) (st' := []) (show z_pt 69 55 = some (7, .goto (-45), [6]) by decide +kernel) rfl (fun _ _ _ => rfl) ?_
        exact ih _ _ _ _  h
def pA_closestSpoke  (μ : z_Mem) (i1 : Int32) (i2 : Int32) : Option Int32 := pA_closestSpoke_L10 z_fu μ i1 i2 (fun k9 k10 k11 => some k9) 0 3600 0
theorem pA_closestSpoke_run  {μ : z_Mem} {i1 : Int32} {i2 : Int32}  {r : Int32} (h : pA_closestSpoke μ i1 i2 = some r) : Rn 2 69 0 [(0, .ref 1), (1, .int i1), (2, .int i2)] [] μ (.inl (some (.int r))) μ := by
  unfold pA_closestSpoke at h
  refine R_const (pc := 0) (pc' := 1) (v := 0) (show z_ptc 69 0 = some (1, 0) by decide +kernel) ?_
  refine R_pure (pc := 1) (pc' := 2) (ls' := [(0, .ref 1), (1, .int i1), (2, .int i2), (3, .int 0)]) (st' := []) (show z_pt 69 1 = some (7, .istore_n 3, []) by decide +kernel) rfl (fun _ _ _ => rfl) ?_
  refine R_const (pc := 2) (pc' := 5) (v := 3600) (show z_ptc 69 2 = some (5, 3600) by decide +kernel) ?_
  refine R_pure (pc := 5) (pc' := 7) (ls' := [(0, .ref 1), (1, .int i1), (2, .int i2), (3, .int 0), (4, .int 3600)]) (st' := []) (show z_pt 69 5 = some (7, .istore 4, []) by decide +kernel) rfl (fun _ _ _ => rfl) ?_
  refine R_const (pc := 7) (pc' := 8) (v := 0) (show z_ptc 69 7 = some (8, 0) by decide +kernel) ?_
  refine R_pure (pc := 8) (pc' := 10) (ls' := [(0, .ref 1), (1, .int i1), (2, .int i2), (3, .int 0), (4, .int 3600), (5, .int 0)]) (st' := []) (show z_pt 69 8 = some (7, .istore 5, []) by decide +kernel) rfl (fun _ _ _ => rfl) ?_
  refine pA_closestSpoke_L10_run  _ _ _ _  _ (by omega) ?_ _ _ _ _ _ h
  intro k9 k10 k11 r h
  refine R_pure (pc := 58) (pc' := 59) (st' := [.int k9]) (show z_pt 69 58 = some (7, .iload_n 3, []) by decide +kernel) rfl (fun _ _ _ => rfl) ?_
  cases h
  exact R_retI (show z_pt 69 59 = some (7, .ireturn, []) by decide +kernel) (by decide +kernel)
def pA_bestTurn_L29_B (R : Int32 → Int32 → Int32 → Option Int32)  (μ : z_Mem) (f1 : Int32) (f2 : Int32) (f5 : Int32) (K : Int32 → Int32 → Int32 → Option Int32) (a3 : Int32) (a4 : Int32) (a6 : Int32) : Option Int32 := if f5 ≤ a6 then K a3 a4 a6 else (pA_leastDistance μ f1 f2 a6).bind fun q6 => if a4 ≤ q6 then R a3 a4 (a6 + 1) else R a6 q6 (a6 + 1)
def pA_bestTurn_L29 : Nat → z_Mem → Int32 → Int32 → Int32 → (Int32 → Int32 → Int32 → Option Int32) → Int32 → Int32 → Int32 → Option Int32
  | 0 => fun _ _ _ _ _ _ _ _ => none
  | n + 1 => fun μ f1 f2 f5 K a3 a4 a6 => pA_bestTurn_L29_B (pA_bestTurn_L29 n μ f1 f2 f5 K) μ f1 f2 f5 K a3 a4 a6
theorem pA_bestTurn_L29_run  (μ : z_Mem) (f1 : Int32) (f2 : Int32) (f5 : Int32) (K : Int32 → Int32 → Int32 → Option Int32)  (D : Nat) (hD : 3 ≤ D) (hK : ∀ (a3 a4 a6 : Int32) (r : Int32), K a3 a4 a6 = some r → Rn D 70 66 [(0, .ref 1), (1, .int f1), (2, .int f2), (3, .int a3), (4, .int a4), (5, .int f5), (6, .int a6)] [] μ (.inl (some (.int r))) μ) : ∀ (n : Nat) (a3 : Int32) (a4 : Int32) (a6 : Int32) (r : Int32), pA_bestTurn_L29 n μ f1 f2 f5 K a3 a4 a6 = some r → Rn D 70 29 [(0, .ref 1), (1, .int f1), (2, .int f2), (3, .int a3), (4, .int a4), (5, .int f5), (6, .int a6)] [] μ (.inl (some (.int r))) μ := by
  intro n
  induction n with
  | zero => intro a3 a4 a6 r h; cases h
  | succ n ih =>
    intro a3 a4 a6 r h
    have h : pA_bestTurn_L29_B (pA_bestTurn_L29 n μ f1 f2 f5 K) μ f1 f2 f5 K a3 a4 a6 = some r := h
    unfold pA_bestTurn_L29_B at h
    refine R_pure (pc := 29) (pc' := 31) (st' := [.int a6]) (show z_pt 70 29 = some (8, .iload 6, []) by decide +kernel) rfl (fun _ _ _ => rfl) ?_
    refine R_pure (pc := 31) (pc' := 33) (st' := [.int f5, .int a6]) (show z_pt 70 31 = some (8, .iload 5, []) by decide +kernel) rfl (fun _ _ _ => rfl) ?_
    refine R_icmge (pc := 33) (t := 66) (show z_pt 70 33 = some (8, .if_icmp .ge 33, []) by decide +kernel) (by decide) (fun c5 => ?_) (fun c5 => ?_)
    · rw [if_pos c5] at h
      exact hK _ _ _  _ h
    · rw [if_neg c5] at h
      refine R_pure (pc := 36) (pc' := 37) (st' := [.ref 1]) (show z_pt 70 36 = some (8, .aload_n 0, []) by decide +kernel) rfl (fun _ _ _ => rfl) ?_
      refine R_pure (pc := 37) (pc' := 38) (st' := [.int f1, .ref 1]) (show z_pt 70 37 = some (8, .iload_n 1, []) by decide +kernel) rfl (fun _ _ _ => rfl) ?_
      refine R_pure (pc := 38) (pc' := 39) (st' := [.int f2, .int f1, .ref 1]) (show z_pt 70 38 = some (8, .iload_n 2, []) by decide +kernel) rfl (fun _ _ _ => rfl) ?_
      refine R_pure (pc := 39) (pc' := 41) (st' := [.int a6, .int f2, .int f1, .ref 1]) (show z_pt 70 39 = some (8, .iload 6, []) by decide +kernel) rfl (fun _ _ _ => rfl) ?_
      obtain ⟨q6, e7, h⟩ := z_bs h
      refine R_call (pc := 41) (rr := []) (show z_pt 70 41 = some (8, .invokevirtual 81, [0, 68, 3, 4164, 4149, 4150, 1002, 4151]) by decide +kernel) rfl (show z_r2 68 = some (7, 6, true) by decide +kernel) rfl rfl (Or.inr ⟨_, _, rfl, (by decide +kernel)⟩) (pA_leastDistance_run  e7) (by omega) ?_
      refine R_at2 (pc := 44) (st := [.int q6]) ?_
      refine R_pure (pc := 44) (pc' := 46) (ls' := [(0, .ref 1), (1, .int f1), (2, .int f2), (3, .int a3), (4, .int a4), (5, .int f5), (6, .int a6), (7, .int q6)]) (st' := []) (show z_pt 70 44 = some (8, .istore 7, []) by decide +kernel) rfl (fun _ _ _ => rfl) ?_
      refine R_pure (pc := 46) (pc' := 48) (st' := [.int q6]) (show z_pt 70 46 = some (8, .iload 7, []) by decide +kernel) rfl (fun _ _ _ => rfl) ?_
      refine R_pure (pc := 48) (pc' := 50) (st' := [.int a4, .int q6]) (show z_pt 70 48 = some (8, .iload 4, []) by decide +kernel) rfl (fun _ _ _ => rfl) ?_
      refine R_icmge (pc := 50) (t := 60) (show z_pt 70 50 = some (8, .if_icmp .ge 10, []) by decide +kernel) (by decide) (fun c8 => ?_) (fun c8 => ?_)
      · rw [if_pos c8] at h
        refine R_inc (pc := 60) (pc' := 63) (ls' := [(0, .ref 1), (1, .int f1), (2, .int f2), (3, .int a3), (4, .int a4), (5, .int f5), (6, .int (a6 + 1)), (7, .int q6)]) (c := 1) (show z_pt 70 60 = some (8, .iinc 6 1, []) by decide +kernel) (by decide) rfl rfl ?_
        refine R_pure (pc := 63) (pc' := 29) (ls' := [(0, .ref 1), (1, .int f1), (2, .int f2), (3, .int a3), (4, .int a4), (5, .int f5), (6, .int (a6 + 1))]) (st' := []) (show z_pt 70 63 = some (8, .goto (-34), [7]) by decide +kernel) rfl (fun _ _ _ => rfl) ?_
        exact ih _ _ _ _  h
      · rw [if_neg c8] at h
        refine R_pure (pc := 53) (pc' := 55) (st' := [.int q6]) (show z_pt 70 53 = some (8, .iload 7, []) by decide +kernel) rfl (fun _ _ _ => rfl) ?_
        refine R_pure (pc := 55) (pc' := 57) (ls' := [(0, .ref 1), (1, .int f1), (2, .int f2), (3, .int a3), (4, .int q6), (5, .int f5), (6, .int a6), (7, .int q6)]) (st' := []) (show z_pt 70 55 = some (8, .istore 4, []) by decide +kernel) rfl (fun _ _ _ => rfl) ?_
        refine R_pure (pc := 57) (pc' := 59) (st' := [.int a6]) (show z_pt 70 57 = some (8, .iload 6, []) by decide +kernel) rfl (fun _ _ _ => rfl) ?_
        refine R_pure (pc := 59) (pc' := 60) (ls' := [(0, .ref 1), (1, .int f1), (2, .int f2), (3, .int a6), (4, .int q6), (5, .int f5), (6, .int a6), (7, .int q6)]) (st' := []) (show z_pt 70 59 = some (8, .istore_n 3, []) by decide +kernel) rfl (fun _ _ _ => rfl) ?_
        refine R_inc (pc := 60) (pc' := 63) (ls' := [(0, .ref 1), (1, .int f1), (2, .int f2), (3, .int a6), (4, .int q6), (5, .int f5), (6, .int (a6 + 1)), (7, .int q6)]) (c := 1) (show z_pt 70 60 = some (8, .iinc 6 1, []) by decide +kernel) (by decide) rfl rfl ?_
        refine R_pure (pc := 63) (pc' := 29) (ls' := [(0, .ref 1), (1, .int f1), (2, .int f2), (3, .int a6), (4, .int q6), (5, .int f5), (6, .int (a6 + 1))]) (st' := []) (show z_pt 70 63 = some (8, .goto (-34), [7]) by decide +kernel) rfl (fun _ _ _ => rfl) ?_
        exact ih _ _ _ _  h
def pA_bestTurn  (μ : z_Mem) (i1 : Int32) (i2 : Int32) : Option Int32 := (z_rd μ 10 4 i1).bind fun v1 => (z_rd μ 3 10 v1).bind fun v3 => pA_bestTurn_L29 z_fu μ i1 i2 v3 (fun k9 k10 k11 => some k9) 0 3600 0
theorem pA_bestTurn_run  {μ : z_Mem} {i1 : Int32} {i2 : Int32}  {r : Int32} (h : pA_bestTurn μ i1 i2 = some r) : Rn 3 70 0 [(0, .ref 1), (1, .int i1), (2, .int i2)] [] μ (.inl (some (.int r))) μ := by
  unfold pA_bestTurn at h
  refine R_const (pc := 0) (pc' := 1) (v := 0) (show z_ptc 70 0 = some (1, 0) by decide +kernel) ?_
  refine R_pure (pc := 1) (pc' := 2) (ls' := [(0, .ref 1), (1, .int i1), (2, .int i2), (3, .int 0)]) (st' := []) (show z_pt 70 1 = some (8, .istore_n 3, []) by decide +kernel) rfl (fun _ _ _ => rfl) ?_
  refine R_const (pc := 2) (pc' := 5) (v := 3600) (show z_ptc 70 2 = some (5, 3600) by decide +kernel) ?_
  refine R_pure (pc := 5) (pc' := 7) (ls' := [(0, .ref 1), (1, .int i1), (2, .int i2), (3, .int 0), (4, .int 3600)]) (st' := []) (show z_pt 70 5 = some (8, .istore 4, []) by decide +kernel) rfl (fun _ _ _ => rfl) ?_
  refine R_pure (pc := 7) (pc' := 8) (st' := [.ref 1]) (show z_pt 70 7 = some (8, .aload_n 0, []) by decide +kernel) rfl (fun _ _ _ => rfl) ?_
  refine R_getR (pc := 8) (a := 1) (b := 2) (show z_pt 70 8 = some (8, .getfield 12, [7, 0, 1172]) by decide +kernel) (by decide +kernel) ?_
  refine R_at (pc := 11) ?_
  refine R_getR (pc := 11) (a := 2) (b := 3) (show z_pt 70 11 = some (8, .getfield 56, [2, 3, 1058]) by decide +kernel) (by decide +kernel) ?_
  refine R_at (pc := 14) ?_
  refine R_pure (pc := 14) (pc' := 15) (st' := [.ref 1, .ref 3]) (show z_pt 70 14 = some (8, .aload_n 0, []) by decide +kernel) rfl (fun _ _ _ => rfl) ?_
  refine R_getR (pc := 15) (a := 1) (b := 9) (show z_pt 70 15 = some (8, .getfield 21, [7, 1, 1174]) by decide +kernel) (by decide +kernel) ?_
  refine R_at (pc := 18) ?_
  refine R_getR (pc := 18) (a := 9) (b := 10) (show z_pt 70 18 = some (8, .getfield 52, [8, 1, 1105]) by decide +kernel) (by decide +kernel) ?_
  refine R_at (pc := 21) ?_
  refine R_pure (pc := 21) (pc' := 22) (st' := [.int i1, .ref 10, .ref 3]) (show z_pt 70 21 = some (8, .iload_n 1, []) by decide +kernel) rfl (fun _ _ _ => rfl) ?_
  obtain ⟨v1, e2, h⟩ := z_bs h
  refine R_ialdR (pc := 22) (a := 10) (n := 4) (show z_pt 70 22 = some (8, .iaload, []) by decide +kernel) (show z_ar 10 0 4 = true by decide +kernel) e2 ?_
  refine R_at (pc := 23) ?_
  obtain ⟨v3, e4, h⟩ := z_bs h
  refine R_ialdR (pc := 23) (a := 3) (n := 10) (show z_pt 70 23 = some (8, .iaload, []) by decide +kernel) (show z_ar 3 0 10 = true by decide +kernel) e4 ?_
  refine R_at (pc := 24) ?_
  refine R_pure (pc := 24) (pc' := 26) (ls' := [(0, .ref 1), (1, .int i1), (2, .int i2), (3, .int 0), (4, .int 3600), (5, .int v3)]) (st' := []) (show z_pt 70 24 = some (8, .istore 5, []) by decide +kernel) rfl (fun _ _ _ => rfl) ?_
  refine R_const (pc := 26) (pc' := 27) (v := 0) (show z_ptc 70 26 = some (27, 0) by decide +kernel) ?_
  refine R_pure (pc := 27) (pc' := 29) (ls' := [(0, .ref 1), (1, .int i1), (2, .int i2), (3, .int 0), (4, .int 3600), (5, .int v3), (6, .int 0)]) (st' := []) (show z_pt 70 27 = some (8, .istore 6, []) by decide +kernel) rfl (fun _ _ _ => rfl) ?_
  refine pA_bestTurn_L29_run  _ _ _ _ _  _ (by omega) ?_ _ _ _ _ _ h
  intro k9 k10 k11 r h
  refine R_pure (pc := 66) (pc' := 67) (st' := [.int k9]) (show z_pt 70 66 = some (8, .iload_n 3, []) by decide +kernel) rfl (fun _ _ _ => rfl) ?_
  cases h
  exact R_retI (show z_pt 70 67 = some (8, .ireturn, []) by decide +kernel) (by decide +kernel)
def pA_isAligned_L2_B (R : Int32 → Option Int32)  (μ : z_Mem) (f1 : Int32) (f2 : Int32) (K : Int32 → Option Int32) (a3 : Int32) : Option Int32 := if (μ 12 0) ≤ a3 then K a3 else (z_rd μ 14 8 a3).bind fun v2 => (pA_leastDistance μ f1 v2 0).bind fun q4 => if f2 < q4 then R (a3 + 1) else some 1
def pA_isAligned_L2 : Nat → z_Mem → Int32 → Int32 → (Int32 → Option Int32) → Int32 → Option Int32
  | 0 => fun _ _ _ _ _ => none
  | n + 1 => fun μ f1 f2 K a3 => pA_isAligned_L2_B (pA_isAligned_L2 n μ f1 f2 K) μ f1 f2 K a3
theorem pA_isAligned_L2_run  (μ : z_Mem) (f1 : Int32) (f2 : Int32) (K : Int32 → Option Int32)  (D : Nat) (hD : 3 ≤ D) (hK : ∀ (a3 : Int32) (r : Int32), K a3 = some r → Rn D 71 40 [(0, .ref 1), (1, .int f1), (2, .int f2), (3, .int a3)] [] μ (.inl (some (.int r))) μ) : ∀ (n : Nat) (a3 : Int32) (r : Int32), pA_isAligned_L2 n μ f1 f2 K a3 = some r → Rn D 71 2 [(0, .ref 1), (1, .int f1), (2, .int f2), (3, .int a3)] [] μ (.inl (some (.int r))) μ := by
  intro n
  induction n with
  | zero => intro a3 r h; cases h
  | succ n ih =>
    intro a3 r h
    have h : pA_isAligned_L2_B (pA_isAligned_L2 n μ f1 f2 K) μ f1 f2 K a3 = some r := h
    unfold pA_isAligned_L2_B at h
    refine R_pure (pc := 2) (pc' := 3) (st' := [.int a3]) (show z_pt 71 2 = some (4, .iload_n 3, []) by decide +kernel) rfl (fun _ _ _ => rfl) ?_
    refine R_pure (pc := 3) (pc' := 4) (st' := [.ref 1, .int a3]) (show z_pt 71 3 = some (4, .aload_n 0, []) by decide +kernel) rfl (fun _ _ _ => rfl) ?_
    refine R_getR (pc := 4) (a := 1) (b := 12) (show z_pt 71 4 = some (4, .getfield 28, [7, 2, 1176]) by decide +kernel) (by decide +kernel) ?_
    refine R_at (pc := 7) ?_
    refine R_getI (pc := 7) (a := 12) (show z_pt 71 7 = some (4, .getfield 84, [6, 0, 1124]) by decide +kernel) (by decide +kernel) ?_
    refine R_at (pc := 10) ?_
    refine R_icmge (pc := 10) (t := 40) (show z_pt 71 10 = some (4, .if_icmp .ge 30, []) by decide +kernel) (by decide) (fun c1 => ?_) (fun c1 => ?_)
    · rw [if_pos c1] at h
      exact hK _  _ h
    · rw [if_neg c1] at h
      refine R_pure (pc := 13) (pc' := 14) (st' := [.ref 1]) (show z_pt 71 13 = some (4, .aload_n 0, []) by decide +kernel) rfl (fun _ _ _ => rfl) ?_
      refine R_pure (pc := 14) (pc' := 15) (st' := [.int f1, .ref 1]) (show z_pt 71 14 = some (4, .iload_n 1, []) by decide +kernel) rfl (fun _ _ _ => rfl) ?_
      refine R_pure (pc := 15) (pc' := 16) (st' := [.ref 1, .int f1, .ref 1]) (show z_pt 71 15 = some (4, .aload_n 0, []) by decide +kernel) rfl (fun _ _ _ => rfl) ?_
      refine R_getR (pc := 16) (a := 1) (b := 12) (show z_pt 71 16 = some (4, .getfield 28, [7, 2, 1176]) by decide +kernel) (by decide +kernel) ?_
      refine R_at (pc := 19) ?_
      refine R_getR (pc := 19) (a := 12) (b := 14) (show z_pt 71 19 = some (4, .getfield 88, [6, 4, 1131]) by decide +kernel) (by decide +kernel) ?_
      refine R_at (pc := 22) ?_
      refine R_pure (pc := 22) (pc' := 23) (st' := [.int a3, .ref 14, .int f1, .ref 1]) (show z_pt 71 22 = some (4, .iload_n 3, []) by decide +kernel) rfl (fun _ _ _ => rfl) ?_
      obtain ⟨v2, e3, h⟩ := z_bs h
      refine R_ialdR (pc := 23) (a := 14) (n := 8) (show z_pt 71 23 = some (4, .iaload, []) by decide +kernel) (show z_ar 14 0 8 = true by decide +kernel) e3 ?_
      refine R_at (pc := 24) ?_
      refine R_const (pc := 24) (pc' := 25) (v := 0) (show z_ptc 71 24 = some (25, 0) by decide +kernel) ?_
      obtain ⟨q4, e5, h⟩ := z_bs h
      refine R_call (pc := 25) (rr := []) (show z_pt 71 25 = some (4, .invokevirtual 81, [0, 68, 3, 4164, 4149, 4150, 1002, 4151]) by decide +kernel) rfl (show z_r2 68 = some (7, 6, true) by decide +kernel) rfl rfl (Or.inr ⟨_, _, rfl, (by decide +kernel)⟩) (pA_leastDistance_run  e5) (by omega) ?_
      refine R_at2 (pc := 28) (st := [.int q4]) ?_
      refine R_pure (pc := 28) (pc' := 29) (st' := [.int f2, .int q4]) (show z_pt 71 28 = some (4, .iload_n 2, []) by decide +kernel) rfl (fun _ _ _ => rfl) ?_
      refine R_icmgt (pc := 29) (t := 34) (show z_pt 71 29 = some (4, .if_icmp .gt 5, []) by decide +kernel) (by decide) (fun c6 => ?_) (fun c6 => ?_)
      · rw [if_pos c6] at h
        refine R_inc (pc := 34) (pc' := 37) (ls' := [(0, .ref 1), (1, .int f1), (2, .int f2), (3, .int (a3 + 1))]) (c := 1) (show z_pt 71 34 = some (4, .iinc 3 1, []) by decide +kernel) (by decide) rfl rfl ?_
        refine R_pure (pc := 37) (pc' := 2) (ls' := [(0, .ref 1), (1, .int f1), (2, .int f2), (3, .int (a3 + 1))]) (st' := []) (show z_pt 71 37 = some (4, .goto (-35), [4]) by decide +kernel) rfl (fun _ _ _ => rfl) ?_
        exact ih _ _  h
      · rw [if_neg c6] at h
        refine R_const (pc := 32) (pc' := 33) (v := 1) (show z_ptc 71 32 = some (33, 1) by decide +kernel) ?_
        cases h
        exact R_retZ (show z_pt 71 33 = some (4, .ireturn, []) by decide +kernel) (t := .boolean) (by decide +kernel) (by decide)
def pA_isAligned  (μ : z_Mem) (i1 : Int32) (i2 : Int32) : Option Int32 := pA_isAligned_L2 z_fu μ i1 i2 (fun k7 => some 0) 0
theorem pA_isAligned_run  {μ : z_Mem} {i1 : Int32} {i2 : Int32}  {r : Int32} (h : pA_isAligned μ i1 i2 = some r) : Rn 3 71 0 [(0, .ref 1), (1, .int i1), (2, .int i2)] [] μ (.inl (some (.int r))) μ := by
  unfold pA_isAligned at h
  refine R_const (pc := 0) (pc' := 1) (v := 0) (show z_ptc 71 0 = some (1, 0) by decide +kernel) ?_
  refine R_pure (pc := 1) (pc' := 2) (ls' := [(0, .ref 1), (1, .int i1), (2, .int i2), (3, .int 0)]) (st' := []) (show z_pt 71 1 = some (4, .istore_n 3, []) by decide +kernel) rfl (fun _ _ _ => rfl) ?_
  refine pA_isAligned_L2_run  _ _ _ _  _ (by omega) ?_ _ _ _ h
  intro k7 r h
  refine R_const (pc := 40) (pc' := 41) (v := 0) (show z_ptc 71 40 = some (41, 0) by decide +kernel) ?_
  cases h
  exact R_retZ (show z_pt 71 41 = some (4, .ireturn, []) by decide +kernel) (t := .boolean) (by decide +kernel) (by decide)
def pQ_hasWheel  (μ : z_Mem) (i1 : Int32) : Option Int32 := if i1 < 0 then some 0 else if (μ 9 0) ≤ i1 then some 0 else some 1
theorem pQ_hasWheel_run  {μ : z_Mem} {i1 : Int32}  {r : Int32} (h : pQ_hasWheel μ i1 = some r) : Rn 0 74 0 [(0, .ref 9), (1, .int i1)] [] μ (.inl (some (.int r))) μ := by
  unfold pQ_hasWheel at h
  refine R_pure (pc := 0) (pc' := 1) (st' := [.int i1]) (show z_pt 74 0 = some (2, .iload_n 1, []) by decide +kernel) rfl (fun _ _ _ => rfl) ?_
  refine R_iflt (pc := 1) (t := 16) (show z_pt 74 1 = some (2, .ifCond .lt 15, []) by decide +kernel) (by decide) (fun c1 => ?_) (fun c1 => ?_)
  · rw [if_pos c1] at h
    refine R_const (pc := 16) (pc' := 17) (v := 0) (show z_ptc 74 16 = some (17, 0) by decide +kernel) ?_
    cases h
    exact R_retZ (show z_pt 74 17 = some (2, .ireturn, []) by decide +kernel) (t := .boolean) (by decide +kernel) (by decide)
  · rw [if_neg c1] at h
    refine R_pure (pc := 4) (pc' := 5) (st' := [.int i1]) (show z_pt 74 4 = some (2, .iload_n 1, []) by decide +kernel) rfl (fun _ _ _ => rfl) ?_
    refine R_pure (pc := 5) (pc' := 6) (st' := [.ref 9, .int i1]) (show z_pt 74 5 = some (2, .aload_n 0, []) by decide +kernel) rfl (fun _ _ _ => rfl) ?_
    refine R_getI (pc := 6) (a := 9) (show z_pt 74 6 = some (2, .getfield 18, [8, 0, 1102]) by decide +kernel) (by decide +kernel) ?_
    refine R_at (pc := 9) ?_
    refine R_icmge (pc := 9) (t := 16) (show z_pt 74 9 = some (2, .if_icmp .ge 7, []) by decide +kernel) (by decide) (fun c2 => ?_) (fun c2 => ?_)
    · rw [if_pos c2] at h
      refine R_const (pc := 16) (pc' := 17) (v := 0) (show z_ptc 74 16 = some (17, 0) by decide +kernel) ?_
      cases h
      exact R_retZ (show z_pt 74 17 = some (2, .ireturn, []) by decide +kernel) (t := .boolean) (by decide +kernel) (by decide)
    · rw [if_neg c2] at h
      refine R_const (pc := 12) (pc' := 13) (v := 1) (show z_ptc 74 12 = some (13, 1) by decide +kernel) ?_
      refine R_pure (pc := 13) (pc' := 17) (show z_pt 74 13 = some (2, .goto 4, []) by decide +kernel) rfl (fun _ _ _ => rfl) ?_
      cases h
      exact R_retZ (show z_pt 74 17 = some (2, .ireturn, []) by decide +kernel) (t := .boolean) (by decide +kernel) (by decide)
def pQ_add  (μ : z_Mem) (i1 : Int32) (i2 : Int32) : Option (Int32 × z_Mem) := if 4 ≤ (μ 9 0) then some ((μ 9 0), μ) else if z_inb (μ 9 0) 4 = true then if z_inb (μ 9 0) 4 = true then some ((μ 9 0), (z_u (z_u (z_u μ 10 (μ 9 0).toNatClampNeg i1) 11 (μ 9 0).toNatClampNeg i2) 9 0 (((z_u (z_u μ 10 (μ 9 0).toNatClampNeg i1) 11 (μ 9 0).toNatClampNeg i2) 9 0) + 1))) else none else none
theorem pQ_add_run  {μ : z_Mem} {i1 : Int32} {i2 : Int32}  {r : (Int32 × z_Mem)} (h : pQ_add μ i1 i2 = some r) : Rn 0 75 0 [(0, .ref 9), (1, .int i1), (2, .int i2)] [] μ (.inl (some (.int r.1))) r.2 := by
  unfold pQ_add at h
  refine R_pure (pc := 0) (pc' := 1) (st' := [.ref 9]) (show z_pt 75 0 = some (4, .aload_n 0, []) by decide +kernel) rfl (fun _ _ _ => rfl) ?_
  refine R_getI (pc := 1) (a := 9) (show z_pt 75 1 = some (4, .getfield 18, [8, 0, 1102]) by decide +kernel) (by decide +kernel) ?_
  refine R_at (pc := 4) ?_
  refine R_pure (pc := 4) (pc' := 5) (ls' := [(0, .ref 9), (1, .int i1), (2, .int i2), (3, .int (μ 9 0))]) (st' := []) (show z_pt 75 4 = some (4, .istore_n 3, []) by decide +kernel) rfl (fun _ _ _ => rfl) ?_
  refine R_pure (pc := 5) (pc' := 6) (st' := [.int (μ 9 0)]) (show z_pt 75 5 = some (4, .iload_n 3, []) by decide +kernel) rfl (fun _ _ _ => rfl) ?_
  refine R_const (pc := 6) (pc' := 7) (v := 4) (show z_ptc 75 6 = some (7, 4) by decide +kernel) ?_
  refine R_icmge (pc := 7) (t := 34) (show z_pt 75 7 = some (4, .if_icmp .ge 27, []) by decide +kernel) (by decide) (fun c1 => ?_) (fun c1 => ?_)
  · rw [if_pos c1] at h
    refine R_pure (pc := 34) (pc' := 35) (st' := [.int (μ 9 0)]) (show z_pt 75 34 = some (4, .iload_n 3, []) by decide +kernel) rfl (fun _ _ _ => rfl) ?_
    cases h
    exact R_retI (show z_pt 75 35 = some (4, .ireturn, []) by decide +kernel) (by decide +kernel)
  · rw [if_neg c1] at h
    refine R_pure (pc := 10) (pc' := 11) (st' := [.ref 9]) (show z_pt 75 10 = some (4, .aload_n 0, []) by decide +kernel) rfl (fun _ _ _ => rfl) ?_
    refine R_getR (pc := 11) (a := 9) (b := 10) (show z_pt 75 11 = some (4, .getfield 9, [8, 1, 1104]) by decide +kernel) (by decide +kernel) ?_
    refine R_at (pc := 14) ?_
    refine R_pure (pc := 14) (pc' := 15) (st' := [.int (μ 9 0), .ref 10]) (show z_pt 75 14 = some (4, .iload_n 3, []) by decide +kernel) rfl (fun _ _ _ => rfl) ?_
    refine R_pure (pc := 15) (pc' := 16) (st' := [.int i1, .int (μ 9 0), .ref 10]) (show z_pt 75 15 = some (4, .iload_n 1, []) by decide +kernel) rfl (fun _ _ _ => rfl) ?_
    obtain ⟨g2, h⟩ := z_ig h
    refine R_iast (pc := 16) (a := 10) (n := 4) (show z_pt 75 16 = some (4, .iastore, []) by decide +kernel) (show z_ar 10 0 4 = true by decide +kernel) g2 ?_
    refine R_at (pc := 17) ?_
    refine R_pure (pc := 17) (pc' := 18) (st' := [.ref 9]) (show z_pt 75 17 = some (4, .aload_n 0, []) by decide +kernel) rfl (fun _ _ _ => rfl) ?_
    refine R_getR (pc := 18) (a := 9) (b := 11) (show z_pt 75 18 = some (4, .getfield 15, [8, 2, 1107]) by decide +kernel) (by decide +kernel) ?_
    refine R_at (pc := 21) ?_
    refine R_pure (pc := 21) (pc' := 22) (st' := [.int (μ 9 0), .ref 11]) (show z_pt 75 21 = some (4, .iload_n 3, []) by decide +kernel) rfl (fun _ _ _ => rfl) ?_
    refine R_pure (pc := 22) (pc' := 23) (st' := [.int i2, .int (μ 9 0), .ref 11]) (show z_pt 75 22 = some (4, .iload_n 2, []) by decide +kernel) rfl (fun _ _ _ => rfl) ?_
    obtain ⟨g3, h⟩ := z_ig h
    refine R_iast (pc := 23) (a := 11) (n := 4) (show z_pt 75 23 = some (4, .iastore, []) by decide +kernel) (show z_ar 11 0 4 = true by decide +kernel) g3 ?_
    refine R_at (pc := 24) ?_
    refine R_pure (pc := 24) (pc' := 25) (st' := [.ref 9]) (show z_pt 75 24 = some (4, .aload_n 0, []) by decide +kernel) rfl (fun _ _ _ => rfl) ?_
    refine R_pure (pc := 25) (pc' := 26) (st' := [.ref 9, .ref 9]) (show z_pt 75 25 = some (4, .dup, []) by decide +kernel) rfl (fun _ _ _ => rfl) ?_
    refine R_getI (pc := 26) (a := 9) (show z_pt 75 26 = some (4, .getfield 18, [8, 0, 1102]) by decide +kernel) (by decide +kernel) ?_
    refine R_at (pc := 29) ?_
    refine R_const (pc := 29) (pc' := 30) (v := 1) (show z_ptc 75 29 = some (30, 1) by decide +kernel) ?_
    refine R_pure (pc := 30) (pc' := 31) (st' := [.int (((z_u (z_u μ 10 (μ 9 0).toNatClampNeg i1) 11 (μ 9 0).toNatClampNeg i2) 9 0) + 1), .ref 9]) (show z_pt 75 30 = some (4, .iadd, []) by decide +kernel) rfl (fun _ _ _ => rfl) ?_
    refine R_putI (pc := 31) (a := 9) (show z_pt 75 31 = some (4, .putfield 18, [8, 0, 1102]) by decide +kernel) (by decide +kernel) ⟨rfl, rfl⟩ ?_
    refine R_at (pc := 34) ?_
    refine R_pure (pc := 34) (pc' := 35) (st' := [.int (μ 9 0)]) (show z_pt 75 34 = some (4, .iload_n 3, []) by decide +kernel) rfl (fun _ _ _ => rfl) ?_
    cases h
    exact R_retI (show z_pt 75 35 = some (4, .ireturn, []) by decide +kernel) (by decide +kernel)
def pG_isWithin  (μ : z_Mem) (i0 : Int32) (i1 : Int32) (i2 : Int32) : Option Int32 := if i0 < i1 then some 0 else if i2 < i0 then some 0 else some 1
theorem pG_isWithin_run  {μ : z_Mem} {i0 : Int32} {i1 : Int32} {i2 : Int32}  {r : Int32} (h : pG_isWithin μ i0 i1 i2 = some r) : Rn 0 156 0 [(0, .int i0), (1, .int i1), (2, .int i2)] [] μ (.inl (some (.int r))) μ := by
  unfold pG_isWithin at h
  refine R_pure (pc := 0) (pc' := 1) (st' := [.int i0]) (show z_pt 156 0 = some (3, .iload_n 0, []) by decide +kernel) rfl (fun _ _ _ => rfl) ?_
  refine R_pure (pc := 1) (pc' := 2) (st' := [.int i1, .int i0]) (show z_pt 156 1 = some (3, .iload_n 1, []) by decide +kernel) rfl (fun _ _ _ => rfl) ?_
  refine R_icmlt (pc := 2) (t := 14) (show z_pt 156 2 = some (3, .if_icmp .lt 12, []) by decide +kernel) (by decide) (fun c1 => ?_) (fun c1 => ?_)
  · rw [if_pos c1] at h
    refine R_const (pc := 14) (pc' := 15) (v := 0) (show z_ptc 156 14 = some (15, 0) by decide +kernel) ?_
    cases h
    exact R_retZ (show z_pt 156 15 = some (3, .ireturn, []) by decide +kernel) (t := .boolean) (by decide +kernel) (by decide)
  · rw [if_neg c1] at h
    refine R_pure (pc := 5) (pc' := 6) (st' := [.int i0]) (show z_pt 156 5 = some (3, .iload_n 0, []) by decide +kernel) rfl (fun _ _ _ => rfl) ?_
    refine R_pure (pc := 6) (pc' := 7) (st' := [.int i2, .int i0]) (show z_pt 156 6 = some (3, .iload_n 2, []) by decide +kernel) rfl (fun _ _ _ => rfl) ?_
    refine R_icmgt (pc := 7) (t := 14) (show z_pt 156 7 = some (3, .if_icmp .gt 7, []) by decide +kernel) (by decide) (fun c2 => ?_) (fun c2 => ?_)
    · rw [if_pos c2] at h
      refine R_const (pc := 14) (pc' := 15) (v := 0) (show z_ptc 156 14 = some (15, 0) by decide +kernel) ?_
      cases h
      exact R_retZ (show z_pt 156 15 = some (3, .ireturn, []) by decide +kernel) (t := .boolean) (by decide +kernel) (by decide)
    · rw [if_neg c2] at h
      refine R_const (pc := 10) (pc' := 11) (v := 1) (show z_ptc 156 10 = some (11, 1) by decide +kernel) ?_
      refine R_pure (pc := 11) (pc' := 15) (show z_pt 156 11 = some (3, .goto 4, []) by decide +kernel) rfl (fun _ _ _ => rfl) ?_
      cases h
      exact R_retZ (show z_pt 156 15 = some (3, .ireturn, []) by decide +kernel) (t := .boolean) (by decide +kernel) (by decide)
def pG_tryGear  (μ : z_Mem) (i1 : Int32) : Option (Int32 × z_Mem) := (pG_isWithin μ i1 8 60).bind fun q1 => if q1 = 0 then some ((-2), μ) else if (μ 2 0) < 10 then (pT_addGearOf μ i1).bind fun q5 => some (q5.1, q5.2) else some ((-3), μ)
theorem pG_tryGear_run  {μ : z_Mem} {i1 : Int32}  {r : (Int32 × z_Mem)} (h : pG_tryGear μ i1 = some r) : Rn 1 133 0 [(0, .ref 0), (1, .int i1)] [] μ (.inl (some (.int r.1))) r.2 := by
  unfold pG_tryGear at h
  refine R_pure (pc := 0) (pc' := 1) (st' := [.int i1]) (show z_pt 133 0 = some (2, .iload_n 1, []) by decide +kernel) rfl (fun _ _ _ => rfl) ?_
  refine R_const (pc := 1) (pc' := 3) (v := 8) (show z_ptc 133 1 = some (3, 8) by decide +kernel) ?_
  refine R_const (pc := 3) (pc' := 5) (v := 60) (show z_ptc 133 3 = some (5, 60) by decide +kernel) ?_
  obtain ⟨q1, e2, h⟩ := z_bs h
  refine R_call (pc := 5) (rr := []) (show z_pt 133 5 = some (2, .invokestatic 239, [1, 156, 3, 2236, 2237, 0, 1001, 2238]) by decide +kernel) rfl (show z_r2 156 = some (9, 3, true) by decide +kernel) rfl rfl (Or.inl (by decide)) (pG_isWithin_run  e2) (by omega) ?_
  refine R_at2 (pc := 8) (st := [.int q1]) ?_
  refine R_ifne (pc := 8) (t := 14) (show z_pt 133 8 = some (2, .ifCond .ne 6, []) by decide +kernel) (by decide) (fun c3 => ?_) (fun c3 => ?_)
  · rw [if_neg c3] at h
    refine R_pure (pc := 14) (pc' := 15) (st' := [.ref 0]) (show z_pt 133 14 = some (2, .aload_n 0, []) by decide +kernel) rfl (fun _ _ _ => rfl) ?_
    refine R_getR (pc := 15) (a := 0) (b := 1) (show z_pt 133 15 = some (2, .getfield 17, [9, 0, 2039]) by decide +kernel) (by decide +kernel) ?_
    refine R_at (pc := 18) ?_
    refine R_getR (pc := 18) (a := 1) (b := 2) (show z_pt 133 18 = some (2, .getfield 23, [7, 0, 1173]) by decide +kernel) (by decide +kernel) ?_
    refine R_at (pc := 21) ?_
    refine R_getI (pc := 21) (a := 2) (show z_pt 133 21 = some (2, .getfield 93, [2, 0, 1051]) by decide +kernel) (by decide +kernel) ?_
    refine R_at (pc := 24) ?_
    refine R_const (pc := 24) (pc' := 26) (v := 10) (show z_ptc 133 24 = some (26, 10) by decide +kernel) ?_
    refine R_icmlt (pc := 26) (t := 34) (show z_pt 133 26 = some (2, .if_icmp .lt 8, []) by decide +kernel) (by decide) (fun c4 => ?_) (fun c4 => ?_)
    · rw [if_pos c4] at h
      refine R_pure (pc := 34) (pc' := 35) (st' := [.ref 0]) (show z_pt 133 34 = some (2, .aload_n 0, []) by decide +kernel) rfl (fun _ _ _ => rfl) ?_
      refine R_getR (pc := 35) (a := 0) (b := 1) (show z_pt 133 35 = some (2, .getfield 17, [9, 0, 2039]) by decide +kernel) (by decide +kernel) ?_
      refine R_at (pc := 38) ?_
      refine R_getR (pc := 38) (a := 1) (b := 2) (show z_pt 133 38 = some (2, .getfield 23, [7, 0, 1173]) by decide +kernel) (by decide +kernel) ?_
      refine R_at (pc := 41) ?_
      refine R_pure (pc := 41) (pc' := 42) (st' := [.int i1, .ref 2]) (show z_pt 133 41 = some (2, .iload_n 1, []) by decide +kernel) rfl (fun _ _ _ => rfl) ?_
      obtain ⟨q5, e6, h⟩ := z_bs h
      refine R_call (pc := 42) (rr := []) (show z_pt 133 42 = some (2, .invokevirtual 338, [0, 24, 1, 2239, 3000, 3001, 1003, 3002]) by decide +kernel) rfl (show z_r2 24 = some (2, 3, true) by decide +kernel) rfl rfl (Or.inr ⟨_, _, rfl, (by decide +kernel)⟩) (pT_addGearOf_run  e6) (by omega) ?_
      refine R_at2 (pc := 45) (st := [.int q5.1]) ?_
      cases h
      exact R_retI (show z_pt 133 45 = some (2, .ireturn, []) by decide +kernel) (by decide +kernel)
    · rw [if_neg c4] at h
      refine R_const (pc := 29) (pc' := 31) (v := (-3)) (show z_ptc 133 29 = some (31, (-3)) by decide +kernel) ?_
      refine R_pure (pc := 31) (pc' := 45) (show z_pt 133 31 = some (2, .goto 14, []) by decide +kernel) rfl (fun _ _ _ => rfl) ?_
      cases h
      exact R_retI (show z_pt 133 45 = some (2, .ireturn, []) by decide +kernel) (by decide +kernel)
  · rw [if_pos c3] at h
    refine R_const (pc := 11) (pc' := 13) (v := (-2)) (show z_ptc 133 11 = some (13, (-2)) by decide +kernel) ?_
    cases h
    exact R_retI (show z_pt 133 13 = some (2, .ireturn, []) by decide +kernel) (by decide +kernel)
def pG_settled  (μ : z_Mem) (i1 : Int32) : Option ((Int32 ⊕ Nat) × z_Mem) := if i1 = (-4) then some ((.inr 3), μ) else if i1 = (-3) then some ((.inr 2), μ) else if i1 = (-2) then some ((.inr 1), μ) else if i1 = (-1) then some ((.inr 0), μ) else (pH_keep μ).bind fun q5 => some ((.inl i1), q5)
theorem pG_settled_run  {μ : z_Mem} {i1 : Int32}  {r : ((Int32 ⊕ Nat) × z_Mem)} (h : pG_settled μ i1 = some r) : Rn 6 144 0 [(0, .ref 0), (1, .int i1)] [] μ (z_oX r.1) r.2 := by
  unfold pG_settled at h
  refine R_pure (pc := 0) (pc' := 1) (st' := [.int i1]) (show z_pt 144 0 = some (2, .iload_n 1, []) by decide +kernel) rfl (fun _ _ _ => rfl) ?_
  by_cases c1 : i1 = (-4)
  · rw [if_pos c1] at h
    refine R_sw (pc := 1) (t := 56) (v := (-4)) (show z_pt 144 1 = some (2, .tableswitch 63 (-4) (-1) #[55, 47, 39, 31], []) by decide +kernel) c1 (show z_swt 144 1 (-4) = some 56 by decide +kernel) ?_
    cases h
    exact R_thr (show z_thx 144 56 = some 3 by decide +kernel) (by omega)
  rw [if_neg c1] at h
  by_cases c2 : i1 = (-3)
  · rw [if_pos c2] at h
    refine R_sw (pc := 1) (t := 48) (v := (-3)) (show z_pt 144 1 = some (2, .tableswitch 63 (-4) (-1) #[55, 47, 39, 31], []) by decide +kernel) c2 (show z_swt 144 1 (-3) = some 48 by decide +kernel) ?_
    cases h
    exact R_thr (show z_thx 144 48 = some 2 by decide +kernel) (by omega)
  rw [if_neg c2] at h
  by_cases c3 : i1 = (-2)
  · rw [if_pos c3] at h
    refine R_sw (pc := 1) (t := 40) (v := (-2)) (show z_pt 144 1 = some (2, .tableswitch 63 (-4) (-1) #[55, 47, 39, 31], []) by decide +kernel) c3 (show z_swt 144 1 (-2) = some 40 by decide +kernel) ?_
    cases h
    exact R_thr (show z_thx 144 40 = some 1 by decide +kernel) (by omega)
  rw [if_neg c3] at h
  by_cases c4 : i1 = (-1)
  · rw [if_pos c4] at h
    refine R_sw (pc := 1) (t := 32) (v := (-1)) (show z_pt 144 1 = some (2, .tableswitch 63 (-4) (-1) #[55, 47, 39, 31], []) by decide +kernel) c4 (show z_swt 144 1 (-1) = some 32 by decide +kernel) ?_
    cases h
    exact R_thr (show z_thx 144 32 = some 0 by decide +kernel) (by omega)
  rw [if_neg c4] at h
  refine R_swd (pc := 1) (t := 64) (cs := [(-4), (-3), (-2), (-1)]) (show z_pt 144 1 = some (2, .tableswitch 63 (-4) (-1) #[55, 47, 39, 31], []) by decide +kernel) (show z_swd 144 1 [(-4), (-3), (-2), (-1)] = some 64 by decide +kernel) (z_nc c1 (z_nc c2 (z_nc c3 (z_nc c4 (z_nn _))))) ?_
  refine R_pure (pc := 64) (pc' := 65) (st' := [.ref 0]) (show z_pt 144 64 = some (2, .aload_n 0, []) by decide +kernel) rfl (fun _ _ _ => rfl) ?_
  refine R_getR (pc := 65) (a := 0) (b := 57) (show z_pt 144 65 = some (2, .getfield 53, [9, 2, 2041]) by decide +kernel) (by decide +kernel) ?_
  refine R_at (pc := 68) ?_
  obtain ⟨q5, e6, h⟩ := z_bs h
  refine R_call (pc := 68) (rr := []) (show z_pt 144 68 = some (2, .invokevirtual 328, [0, 51, 0, 3120, 3121, 3122, 1011, 3123]) by decide +kernel) rfl (show z_r2 51 = some (4, 1, true) by decide +kernel) rfl rfl (Or.inr ⟨_, _, rfl, (by decide +kernel)⟩) (pH_keep_run  e6) (by omega) ?_
  refine R_at2 (pc := 71) (st := []) ?_
  refine R_pure (pc := 71) (pc' := 72) (st' := [.int i1]) (show z_pt 144 71 = some (2, .iload_n 1, []) by decide +kernel) rfl (fun _ _ _ => rfl) ?_
  cases h
  exact R_retI (show z_pt 144 72 = some (2, .ireturn, []) by decide +kernel) (by decide +kernel)
def pG_addGear  (μ : z_Mem) (i1 : Int32) : Option ((Int32 ⊕ Nat) × z_Mem) := (pH_begin μ).bind fun q1 => (pG_tryGear q1 i1).bind fun q3 => (pG_settled q3.2 q3.1).bind fun q5 => (match q5.1 with | .inl x7 => some ((.inl x7), q5.2) | .inr E8 => some ((.inr E8), q5.2))
theorem pG_addGear_run  {μ : z_Mem} {i1 : Int32}  {r : ((Int32 ⊕ Nat) × z_Mem)} (h : pG_addGear μ i1 = some r) : Rn 7 77 0 [(0, .ref 0), (1, .int i1)] [] μ (z_oX r.1) r.2 := by
  unfold pG_addGear at h
  refine R_pure (pc := 0) (pc' := 1) (st' := [.ref 0]) (show z_pt 77 0 = some (2, .aload_n 0, []) by decide +kernel) rfl (fun _ _ _ => rfl) ?_
  refine R_getR (pc := 1) (a := 0) (b := 57) (show z_pt 77 1 = some (2, .getfield 53, [9, 2, 2041]) by decide +kernel) (by decide +kernel) ?_
  refine R_at (pc := 4) ?_
  refine R_pure (pc := 4) (pc' := 5) (st' := [.ref 0, .ref 57]) (show z_pt 77 4 = some (2, .aload_n 0, []) by decide +kernel) rfl (fun _ _ _ => rfl) ?_
  refine R_getR (pc := 5) (a := 0) (b := 1) (show z_pt 77 5 = some (2, .getfield 17, [9, 0, 2039]) by decide +kernel) (by decide +kernel) ?_
  refine R_at (pc := 8) ?_
  obtain ⟨q1, e2, h⟩ := z_bs h
  refine R_call (pc := 8) (rr := []) (show z_pt 77 8 = some (2, .invokevirtual 71, [0, 49, 1, 2227, 2228, 2229, 1011, 2230]) by decide +kernel) rfl (show z_r2 49 = some (4, 3, true) by decide +kernel) rfl rfl (Or.inr ⟨_, _, rfl, (by decide +kernel)⟩) (pH_begin_run  e2) (by omega) ?_
  refine R_at2 (pc := 11) (st := []) ?_
  refine R_pure (pc := 11) (pc' := 12) (st' := [.ref 0]) (show z_pt 77 11 = some (2, .aload_n 0, []) by decide +kernel) rfl (fun _ _ _ => rfl) ?_
  refine R_pure (pc := 12) (pc' := 13) (st' := [.ref 0, .ref 0]) (show z_pt 77 12 = some (2, .aload_n 0, []) by decide +kernel) rfl (fun _ _ _ => rfl) ?_
  refine R_pure (pc := 13) (pc' := 14) (st' := [.int i1, .ref 0, .ref 0]) (show z_pt 77 13 = some (2, .iload_n 1, []) by decide +kernel) rfl (fun _ _ _ => rfl) ?_
  obtain ⟨q3, e4, h⟩ := z_bs h
  refine R_call (pc := 14) (rr := [.ref 0]) (show z_pt 77 14 = some (2, .invokevirtual 75, [0, 133, 1, 2232, 2234, 3, 1001, 2235]) by decide +kernel) rfl (show z_r2 133 = some (9, 2, true) by decide +kernel) rfl rfl (Or.inr ⟨_, _, rfl, (by decide +kernel)⟩) (pG_tryGear_run  e4) (by omega) ?_
  refine R_at2 (pc := 17) (st := [.int q3.1, .ref 0]) ?_
  obtain ⟨q5, e6, h⟩ := z_bs h
  have y9 := pG_settled_run  e6
  cases x7h : q5.1 with
  | inl x7 =>
    rw [x7h] at h y9
    dsimp only at h
    refine R_call (pc := 17) (rr := []) (show z_pt 77 17 = some (2, .invokevirtual 79, [0, 144, 1, 3003, 3005, 4, 1001, 3006]) by decide +kernel) rfl (show z_r2 144 = some (9, 2, true) by decide +kernel) rfl rfl (Or.inr ⟨_, _, rfl, (by decide +kernel)⟩) y9 (by omega) ?_
    refine R_at2 (pc := 20) (st := [.int x7]) ?_
    cases h
    exact R_retI (show z_pt 77 20 = some (2, .ireturn, []) by decide +kernel) (by decide +kernel)
  | inr E8 =>
    rw [x7h] at h y9
    cases h
    exact R_callX (pc := 17) (rr := []) (show z_pt 77 17 = some (2, .invokevirtual 79, [0, 144, 1, 3003, 3005, 4, 1001, 3006]) by decide +kernel) rfl (show z_r2 144 = some (9, 2, true) by decide +kernel) rfl rfl (Or.inr ⟨_, _, rfl, (by decide +kernel)⟩) y9 (by decide) (by decide +kernel) (by omega)
def pG_tryMesh  (μ : z_Mem) (i1 : Int32) (i2 : Int32) (i3 : Int32) : Option (Int32 × z_Mem) := (pT_hasGear 2 μ i1).bind fun q1 => if q1 = 0 then some ((-1), μ) else (pT_hasGear 2 μ i2).bind fun q4 => if q4 = 0 then some ((-1), μ) else (pG_isWithin μ i3 0 5).bind fun q7 => if q7 = 0 then some ((-2), μ) else (pW_chainLength μ i1 i2).bind fun q10 => if q10.1 = (-1) then (pT_join q10.2 i1 i2 i3).bind fun q13 => some (q13.1, q13.2) else some ((-3), q10.2)
theorem pG_tryMesh_run  {μ : z_Mem} {i1 : Int32} {i2 : Int32} {i3 : Int32}  {r : (Int32 × z_Mem)} (h : pG_tryMesh μ i1 i2 i3 = some r) : Rn 15 134 0 [(0, .ref 0), (1, .int i1), (2, .int i2), (3, .int i3)] [] μ (.inl (some (.int r.1))) r.2 := by
  unfold pG_tryMesh at h
  refine R_pure (pc := 0) (pc' := 1) (st' := [.ref 0]) (show z_pt 134 0 = some (4, .aload_n 0, []) by decide +kernel) rfl (fun _ _ _ => rfl) ?_
  refine R_getR (pc := 1) (a := 0) (b := 1) (show z_pt 134 1 = some (4, .getfield 17, [9, 0, 2039]) by decide +kernel) (by decide +kernel) ?_
  refine R_at (pc := 4) ?_
  refine R_getR (pc := 4) (a := 1) (b := 2) (show z_pt 134 4 = some (4, .getfield 23, [7, 0, 1173]) by decide +kernel) (by decide +kernel) ?_
  refine R_at (pc := 7) ?_
  refine R_pure (pc := 7) (pc' := 8) (st' := [.int i1, .ref 2]) (show z_pt 134 7 = some (4, .iload_n 1, []) by decide +kernel) rfl (fun _ _ _ => rfl) ?_
  obtain ⟨q1, e2, h⟩ := z_bs h
  refine R_call (pc := 8) (rr := []) (show z_pt 134 8 = some (4, .invokevirtual 341, [0, 23, 1, 3169, 2094, 2095, 1003, 2096]) by decide +kernel) rfl (show z_r2 23 = some (2, 2, true) by decide +kernel) rfl rfl (Or.inr ⟨_, _, rfl, (by decide +kernel)⟩) (pT_hasGear_run (show zTr 2 = true by decide +kernel) e2) (by omega) ?_
  refine R_at2 (pc := 11) (st := [.int q1]) ?_
  refine R_ifeq (pc := 11) (t := 28) (show z_pt 134 11 = some (4, .ifCond .eq 17, []) by decide +kernel) (by decide) (fun c3 => ?_) (fun c3 => ?_)
  · rw [if_pos c3] at h
    refine R_const (pc := 28) (pc' := 29) (v := (-1)) (show z_ptc 134 28 = some (29, (-1)) by decide +kernel) ?_
    cases h
    exact R_retI (show z_pt 134 29 = some (4, .ireturn, []) by decide +kernel) (by decide +kernel)
  · rw [if_neg c3] at h
    refine R_pure (pc := 14) (pc' := 15) (st' := [.ref 0]) (show z_pt 134 14 = some (4, .aload_n 0, []) by decide +kernel) rfl (fun _ _ _ => rfl) ?_
    refine R_getR (pc := 15) (a := 0) (b := 1) (show z_pt 134 15 = some (4, .getfield 17, [9, 0, 2039]) by decide +kernel) (by decide +kernel) ?_
    refine R_at (pc := 18) ?_
    refine R_getR (pc := 18) (a := 1) (b := 2) (show z_pt 134 18 = some (4, .getfield 23, [7, 0, 1173]) by decide +kernel) (by decide +kernel) ?_
    refine R_at (pc := 21) ?_
    refine R_pure (pc := 21) (pc' := 22) (st' := [.int i2, .ref 2]) (show z_pt 134 21 = some (4, .iload_n 2, []) by decide +kernel) rfl (fun _ _ _ => rfl) ?_
    obtain ⟨q4, e5, h⟩ := z_bs h
    refine R_call (pc := 22) (rr := []) (show z_pt 134 22 = some (4, .invokevirtual 341, [0, 23, 1, 3169, 2094, 2095, 1003, 2096]) by decide +kernel) rfl (show z_r2 23 = some (2, 2, true) by decide +kernel) rfl rfl (Or.inr ⟨_, _, rfl, (by decide +kernel)⟩) (pT_hasGear_run (show zTr 2 = true by decide +kernel) e5) (by omega) ?_
    refine R_at2 (pc := 25) (st := [.int q4]) ?_
    refine R_ifne (pc := 25) (t := 30) (show z_pt 134 25 = some (4, .ifCond .ne 5, []) by decide +kernel) (by decide) (fun c6 => ?_) (fun c6 => ?_)
    · rw [if_neg c6] at h
      refine R_pure (pc := 30) (pc' := 31) (st' := [.int i3]) (show z_pt 134 30 = some (4, .iload_n 3, []) by decide +kernel) rfl (fun _ _ _ => rfl) ?_
      refine R_const (pc := 31) (pc' := 32) (v := 0) (show z_ptc 134 31 = some (32, 0) by decide +kernel) ?_
      refine R_const (pc := 32) (pc' := 33) (v := 5) (show z_ptc 134 32 = some (33, 5) by decide +kernel) ?_
      obtain ⟨q7, e8, h⟩ := z_bs h
      refine R_call (pc := 33) (rr := []) (show z_pt 134 33 = some (4, .invokestatic 239, [1, 156, 3, 2236, 2237, 0, 1001, 2238]) by decide +kernel) rfl (show z_r2 156 = some (9, 3, true) by decide +kernel) rfl rfl (Or.inl (by decide)) (pG_isWithin_run  e8) (by omega) ?_
      refine R_at2 (pc := 36) (st := [.int q7]) ?_
      refine R_ifne (pc := 36) (t := 42) (show z_pt 134 36 = some (4, .ifCond .ne 6, []) by decide +kernel) (by decide) (fun c9 => ?_) (fun c9 => ?_)
      · rw [if_neg c9] at h
        refine R_pure (pc := 42) (pc' := 43) (st' := [.ref 0]) (show z_pt 134 42 = some (4, .aload_n 0, []) by decide +kernel) rfl (fun _ _ _ => rfl) ?_
        refine R_getR (pc := 43) (a := 0) (b := 23) (show z_pt 134 43 = some (4, .getfield 30, [9, 3, 2042]) by decide +kernel) (by decide +kernel) ?_
        refine R_at (pc := 46) ?_
        refine R_pure (pc := 46) (pc' := 47) (st' := [.int i1, .ref 23]) (show z_pt 134 46 = some (4, .iload_n 1, []) by decide +kernel) rfl (fun _ _ _ => rfl) ?_
        refine R_pure (pc := 47) (pc' := 48) (st' := [.int i2, .int i1, .ref 23]) (show z_pt 134 47 = some (4, .iload_n 2, []) by decide +kernel) rfl (fun _ _ _ => rfl) ?_
        obtain ⟨q10, e11, h⟩ := z_bs h
        refine R_call (pc := 48) (rr := []) (show z_pt 134 48 = some (4, .invokevirtual 123, [0, 33, 2, 3170, 2134, 2135, 1009, 2136]) by decide +kernel) rfl (show z_r2 33 = some (3, 3, true) by decide +kernel) rfl rfl (Or.inr ⟨_, _, rfl, (by decide +kernel)⟩) (pW_chainLength_run  e11) (by omega) ?_
        refine R_at2 (pc := 51) (st := [.int q10.1]) ?_
        refine R_const (pc := 51) (pc' := 52) (v := (-1)) (show z_ptc 134 51 = some (52, (-1)) by decide +kernel) ?_
        refine R_icmeq (pc := 52) (t := 58) (show z_pt 134 52 = some (4, .if_icmp .eq 6, []) by decide +kernel) (by decide) (fun c12 => ?_) (fun c12 => ?_)
        · rw [if_pos c12] at h
          refine R_pure (pc := 58) (pc' := 59) (st' := [.ref 0]) (show z_pt 134 58 = some (4, .aload_n 0, []) by decide +kernel) rfl (fun _ _ _ => rfl) ?_
          refine R_getR (pc := 59) (a := 0) (b := 1) (show z_pt 134 59 = some (4, .getfield 17, [9, 0, 2039]) by decide +kernel) (by decide +kernel) ?_
          refine R_at (pc := 62) ?_
          refine R_getR (pc := 62) (a := 1) (b := 2) (show z_pt 134 62 = some (4, .getfield 23, [7, 0, 1173]) by decide +kernel) (by decide +kernel) ?_
          refine R_at (pc := 65) ?_
          refine R_pure (pc := 65) (pc' := 66) (st' := [.int i1, .ref 2]) (show z_pt 134 65 = some (4, .iload_n 1, []) by decide +kernel) rfl (fun _ _ _ => rfl) ?_
          refine R_pure (pc := 66) (pc' := 67) (st' := [.int i2, .int i1, .ref 2]) (show z_pt 134 66 = some (4, .iload_n 2, []) by decide +kernel) rfl (fun _ _ _ => rfl) ?_
          refine R_pure (pc := 67) (pc' := 68) (st' := [.int i3, .int i2, .int i1, .ref 2]) (show z_pt 134 67 = some (4, .iload_n 3, []) by decide +kernel) rfl (fun _ _ _ => rfl) ?_
          obtain ⟨q13, e14, h⟩ := z_bs h
          refine R_call (pc := 68) (rr := []) (show z_pt 134 68 = some (4, .invokevirtual 345, [0, 25, 3, 3171, 3172, 3173, 1003, 3174]) by decide +kernel) rfl (show z_r2 25 = some (2, 4, true) by decide +kernel) rfl rfl (Or.inr ⟨_, _, rfl, (by decide +kernel)⟩) (pT_join_run  e14) (by omega) ?_
          refine R_at2 (pc := 71) (st := [.int q13.1]) ?_
          cases h
          exact R_retI (show z_pt 134 71 = some (4, .ireturn, []) by decide +kernel) (by decide +kernel)
        · rw [if_neg c12] at h
          refine R_const (pc := 55) (pc' := 57) (v := (-3)) (show z_ptc 134 55 = some (57, (-3)) by decide +kernel) ?_
          cases h
          exact R_retI (show z_pt 134 57 = some (4, .ireturn, []) by decide +kernel) (by decide +kernel)
      · rw [if_pos c9] at h
        refine R_const (pc := 39) (pc' := 41) (v := (-2)) (show z_ptc 134 39 = some (41, (-2)) by decide +kernel) ?_
        cases h
        exact R_retI (show z_pt 134 41 = some (4, .ireturn, []) by decide +kernel) (by decide +kernel)
    · rw [if_pos c6] at h
      refine R_const (pc := 28) (pc' := 29) (v := (-1)) (show z_ptc 134 28 = some (29, (-1)) by decide +kernel) ?_
      cases h
      exact R_retI (show z_pt 134 29 = some (4, .ireturn, []) by decide +kernel) (by decide +kernel)
def pG_mesh  (μ : z_Mem) (i1 : Int32) (i2 : Int32) (i3 : Int32) : Option ((Int32 ⊕ Nat) × z_Mem) := (pH_begin μ).bind fun q1 => (pG_tryMesh q1 i1 i2 i3).bind fun q3 => (pG_settled q3.2 q3.1).bind fun q5 => (match q5.1 with | .inl x7 => some ((.inl x7), q5.2) | .inr E8 => some ((.inr E8), q5.2))
theorem pG_mesh_run  {μ : z_Mem} {i1 : Int32} {i2 : Int32} {i3 : Int32}  {r : ((Int32 ⊕ Nat) × z_Mem)} (h : pG_mesh μ i1 i2 i3 = some r) : Rn 16 78 0 [(0, .ref 0), (1, .int i1), (2, .int i2), (3, .int i3)] [] μ (z_oX r.1) r.2 := by
  unfold pG_mesh at h
  refine R_pure (pc := 0) (pc' := 1) (st' := [.ref 0]) (show z_pt 78 0 = some (4, .aload_n 0, []) by decide +kernel) rfl (fun _ _ _ => rfl) ?_
  refine R_getR (pc := 1) (a := 0) (b := 57) (show z_pt 78 1 = some (4, .getfield 53, [9, 2, 2041]) by decide +kernel) (by decide +kernel) ?_
  refine R_at (pc := 4) ?_
  refine R_pure (pc := 4) (pc' := 5) (st' := [.ref 0, .ref 57]) (show z_pt 78 4 = some (4, .aload_n 0, []) by decide +kernel) rfl (fun _ _ _ => rfl) ?_
  refine R_getR (pc := 5) (a := 0) (b := 1) (show z_pt 78 5 = some (4, .getfield 17, [9, 0, 2039]) by decide +kernel) (by decide +kernel) ?_
  refine R_at (pc := 8) ?_
  obtain ⟨q1, e2, h⟩ := z_bs h
  refine R_call (pc := 8) (rr := []) (show z_pt 78 8 = some (4, .invokevirtual 71, [0, 49, 1, 2227, 2228, 2229, 1011, 2230]) by decide +kernel) rfl (show z_r2 49 = some (4, 3, true) by decide +kernel) rfl rfl (Or.inr ⟨_, _, rfl, (by decide +kernel)⟩) (pH_begin_run  e2) (by omega) ?_
  refine R_at2 (pc := 11) (st := []) ?_
  refine R_pure (pc := 11) (pc' := 12) (st' := [.ref 0]) (show z_pt 78 11 = some (4, .aload_n 0, []) by decide +kernel) rfl (fun _ _ _ => rfl) ?_
  refine R_pure (pc := 12) (pc' := 13) (st' := [.ref 0, .ref 0]) (show z_pt 78 12 = some (4, .aload_n 0, []) by decide +kernel) rfl (fun _ _ _ => rfl) ?_
  refine R_pure (pc := 13) (pc' := 14) (st' := [.int i1, .ref 0, .ref 0]) (show z_pt 78 13 = some (4, .iload_n 1, []) by decide +kernel) rfl (fun _ _ _ => rfl) ?_
  refine R_pure (pc := 14) (pc' := 15) (st' := [.int i2, .int i1, .ref 0, .ref 0]) (show z_pt 78 14 = some (4, .iload_n 2, []) by decide +kernel) rfl (fun _ _ _ => rfl) ?_
  refine R_pure (pc := 15) (pc' := 16) (st' := [.int i3, .int i2, .int i1, .ref 0, .ref 0]) (show z_pt 78 15 = some (4, .iload_n 3, []) by decide +kernel) rfl (fun _ _ _ => rfl) ?_
  obtain ⟨q3, e4, h⟩ := z_bs h
  refine R_call (pc := 16) (rr := [.ref 0]) (show z_pt 78 16 = some (4, .invokevirtual 82, [0, 134, 3, 3165, 3167, 6, 1001, 3168]) by decide +kernel) rfl (show z_r2 134 = some (9, 4, true) by decide +kernel) rfl rfl (Or.inr ⟨_, _, rfl, (by decide +kernel)⟩) (pG_tryMesh_run  e4) (by omega) ?_
  refine R_at2 (pc := 19) (st := [.int q3.1, .ref 0]) ?_
  obtain ⟨q5, e6, h⟩ := z_bs h
  have y9 := pG_settled_run  e6
  cases x7h : q5.1 with
  | inl x7 =>
    rw [x7h] at h y9
    dsimp only at h
    refine R_call (pc := 19) (rr := []) (show z_pt 78 19 = some (4, .invokevirtual 79, [0, 144, 1, 3003, 3005, 4, 1001, 3006]) by decide +kernel) rfl (show z_r2 144 = some (9, 2, true) by decide +kernel) rfl rfl (Or.inr ⟨_, _, rfl, (by decide +kernel)⟩) y9 (by omega) ?_
    refine R_at2 (pc := 22) (st := [.int x7]) ?_
    cases h
    exact R_retI (show z_pt 78 22 = some (4, .ireturn, []) by decide +kernel) (by decide +kernel)
  | inr E8 =>
    rw [x7h] at h y9
    cases h
    exact R_callX (pc := 19) (rr := []) (show z_pt 78 19 = some (4, .invokevirtual 79, [0, 144, 1, 3003, 3005, 4, 1001, 3006]) by decide +kernel) rfl (show z_r2 144 = some (9, 2, true) by decide +kernel) rfl rfl (Or.inr ⟨_, _, rfl, (by decide +kernel)⟩) y9 (by decide) (by decide +kernel) (by omega)
def pG_tryPart  (μ : z_Mem) (i1 : Int32) (i2 : Int32) : Option (Int32 × z_Mem) := (pT_hasGear 2 μ i1).bind fun q1 => if q1 = 0 then some ((-1), μ) else (pT_hasGear 2 μ i2).bind fun q4 => if q4 = 0 then some ((-1), μ) else (pT_meshBetween μ i1 i2).bind fun q7 => if q7 = (-1) then some ((-4), μ) else (pT_separate μ q7).bind fun q10 => some (q10.1, q10.2)
theorem pG_tryPart_run  {μ : z_Mem} {i1 : Int32} {i2 : Int32}  {r : (Int32 × z_Mem)} (h : pG_tryPart μ i1 i2 = some r) : Rn 2 135 0 [(0, .ref 0), (1, .int i1), (2, .int i2)] [] μ (.inl (some (.int r.1))) r.2 := by
  unfold pG_tryPart at h
  refine R_pure (pc := 0) (pc' := 1) (st' := [.ref 0]) (show z_pt 135 0 = some (4, .aload_n 0, []) by decide +kernel) rfl (fun _ _ _ => rfl) ?_
  refine R_getR (pc := 1) (a := 0) (b := 1) (show z_pt 135 1 = some (4, .getfield 17, [9, 0, 2039]) by decide +kernel) (by decide +kernel) ?_
  refine R_at (pc := 4) ?_
  refine R_getR (pc := 4) (a := 1) (b := 2) (show z_pt 135 4 = some (4, .getfield 23, [7, 0, 1173]) by decide +kernel) (by decide +kernel) ?_
  refine R_at (pc := 7) ?_
  refine R_pure (pc := 7) (pc' := 8) (st' := [.int i1, .ref 2]) (show z_pt 135 7 = some (4, .iload_n 1, []) by decide +kernel) rfl (fun _ _ _ => rfl) ?_
  obtain ⟨q1, e2, h⟩ := z_bs h
  refine R_call (pc := 8) (rr := []) (show z_pt 135 8 = some (4, .invokevirtual 341, [0, 23, 1, 3169, 2094, 2095, 1003, 2096]) by decide +kernel) rfl (show z_r2 23 = some (2, 2, true) by decide +kernel) rfl rfl (Or.inr ⟨_, _, rfl, (by decide +kernel)⟩) (pT_hasGear_run (show zTr 2 = true by decide +kernel) e2) (by omega) ?_
  refine R_at2 (pc := 11) (st := [.int q1]) ?_
  refine R_ifeq (pc := 11) (t := 28) (show z_pt 135 11 = some (4, .ifCond .eq 17, []) by decide +kernel) (by decide) (fun c3 => ?_) (fun c3 => ?_)
  · rw [if_pos c3] at h
    refine R_const (pc := 28) (pc' := 29) (v := (-1)) (show z_ptc 135 28 = some (29, (-1)) by decide +kernel) ?_
    cases h
    exact R_retI (show z_pt 135 29 = some (4, .ireturn, []) by decide +kernel) (by decide +kernel)
  · rw [if_neg c3] at h
    refine R_pure (pc := 14) (pc' := 15) (st' := [.ref 0]) (show z_pt 135 14 = some (4, .aload_n 0, []) by decide +kernel) rfl (fun _ _ _ => rfl) ?_
    refine R_getR (pc := 15) (a := 0) (b := 1) (show z_pt 135 15 = some (4, .getfield 17, [9, 0, 2039]) by decide +kernel) (by decide +kernel) ?_
    refine R_at (pc := 18) ?_
    refine R_getR (pc := 18) (a := 1) (b := 2) (show z_pt 135 18 = some (4, .getfield 23, [7, 0, 1173]) by decide +kernel) (by decide +kernel) ?_
    refine R_at (pc := 21) ?_
    refine R_pure (pc := 21) (pc' := 22) (st' := [.int i2, .ref 2]) (show z_pt 135 21 = some (4, .iload_n 2, []) by decide +kernel) rfl (fun _ _ _ => rfl) ?_
    obtain ⟨q4, e5, h⟩ := z_bs h
    refine R_call (pc := 22) (rr := []) (show z_pt 135 22 = some (4, .invokevirtual 341, [0, 23, 1, 3169, 2094, 2095, 1003, 2096]) by decide +kernel) rfl (show z_r2 23 = some (2, 2, true) by decide +kernel) rfl rfl (Or.inr ⟨_, _, rfl, (by decide +kernel)⟩) (pT_hasGear_run (show zTr 2 = true by decide +kernel) e5) (by omega) ?_
    refine R_at2 (pc := 25) (st := [.int q4]) ?_
    refine R_ifne (pc := 25) (t := 30) (show z_pt 135 25 = some (4, .ifCond .ne 5, []) by decide +kernel) (by decide) (fun c6 => ?_) (fun c6 => ?_)
    · rw [if_neg c6] at h
      refine R_pure (pc := 30) (pc' := 31) (st' := [.ref 0]) (show z_pt 135 30 = some (4, .aload_n 0, []) by decide +kernel) rfl (fun _ _ _ => rfl) ?_
      refine R_getR (pc := 31) (a := 0) (b := 1) (show z_pt 135 31 = some (4, .getfield 17, [9, 0, 2039]) by decide +kernel) (by decide +kernel) ?_
      refine R_at (pc := 34) ?_
      refine R_getR (pc := 34) (a := 1) (b := 2) (show z_pt 135 34 = some (4, .getfield 23, [7, 0, 1173]) by decide +kernel) (by decide +kernel) ?_
      refine R_at (pc := 37) ?_
      refine R_pure (pc := 37) (pc' := 38) (st' := [.int i1, .ref 2]) (show z_pt 135 37 = some (4, .iload_n 1, []) by decide +kernel) rfl (fun _ _ _ => rfl) ?_
      refine R_pure (pc := 38) (pc' := 39) (st' := [.int i2, .int i1, .ref 2]) (show z_pt 135 38 = some (4, .iload_n 2, []) by decide +kernel) rfl (fun _ _ _ => rfl) ?_
      obtain ⟨q7, e8, h⟩ := z_bs h
      refine R_call (pc := 39) (rr := []) (show z_pt 135 39 = some (4, .invokevirtual 111, [0, 28, 2, 3187, 2159, 2160, 1003, 2161]) by decide +kernel) rfl (show z_r2 28 = some (2, 4, true) by decide +kernel) rfl rfl (Or.inr ⟨_, _, rfl, (by decide +kernel)⟩) (pT_meshBetween_run  e8) (by omega) ?_
      refine R_at2 (pc := 42) (st := [.int q7]) ?_
      refine R_pure (pc := 42) (pc' := 43) (ls' := [(0, .ref 0), (1, .int i1), (2, .int i2), (3, .int q7)]) (st' := []) (show z_pt 135 42 = some (4, .istore_n 3, []) by decide +kernel) rfl (fun _ _ _ => rfl) ?_
      refine R_pure (pc := 43) (pc' := 44) (st' := [.int q7]) (show z_pt 135 43 = some (4, .iload_n 3, []) by decide +kernel) rfl (fun _ _ _ => rfl) ?_
      refine R_const (pc := 44) (pc' := 45) (v := (-1)) (show z_ptc 135 44 = some (45, (-1)) by decide +kernel) ?_
      refine R_icmne (pc := 45) (t := 53) (show z_pt 135 45 = some (4, .if_icmp .ne 8, []) by decide +kernel) (by decide) (fun c9 => ?_) (fun c9 => ?_)
      · rw [if_neg c9] at h
        refine R_pure (pc := 53) (pc' := 54) (st' := [.ref 0]) (show z_pt 135 53 = some (4, .aload_n 0, []) by decide +kernel) rfl (fun _ _ _ => rfl) ?_
        refine R_getR (pc := 54) (a := 0) (b := 1) (show z_pt 135 54 = some (4, .getfield 17, [9, 0, 2039]) by decide +kernel) (by decide +kernel) ?_
        refine R_at (pc := 57) ?_
        refine R_getR (pc := 57) (a := 1) (b := 2) (show z_pt 135 57 = some (4, .getfield 23, [7, 0, 1173]) by decide +kernel) (by decide +kernel) ?_
        refine R_at (pc := 60) ?_
        refine R_pure (pc := 60) (pc' := 61) (st' := [.int q7, .ref 2]) (show z_pt 135 60 = some (4, .iload_n 3, []) by decide +kernel) rfl (fun _ _ _ => rfl) ?_
        obtain ⟨q10, e11, h⟩ := z_bs h
        refine R_call (pc := 61) (rr := []) (show z_pt 135 61 = some (4, .invokevirtual 348, [0, 26, 1, 3188, 3189, 3190, 1003, 3191]) by decide +kernel) rfl (show z_r2 26 = some (2, 4, true) by decide +kernel) rfl rfl (Or.inr ⟨_, _, rfl, (by decide +kernel)⟩) (pT_separate_run  e11) (by omega) ?_
        refine R_at2 (pc := 64) (st := [.int q10.1]) ?_
        cases h
        exact R_retI (show z_pt 135 64 = some (4, .ireturn, []) by decide +kernel) (by decide +kernel)
      · rw [if_pos c9] at h
        refine R_const (pc := 48) (pc' := 50) (v := (-4)) (show z_ptc 135 48 = some (50, (-4)) by decide +kernel) ?_
        refine R_pure (pc := 50) (pc' := 64) (show z_pt 135 50 = some (4, .goto 14, []) by decide +kernel) rfl (fun _ _ _ => rfl) ?_
        cases h
        exact R_retI (show z_pt 135 64 = some (4, .ireturn, []) by decide +kernel) (by decide +kernel)
    · rw [if_pos c6] at h
      refine R_const (pc := 28) (pc' := 29) (v := (-1)) (show z_ptc 135 28 = some (29, (-1)) by decide +kernel) ?_
      cases h
      exact R_retI (show z_pt 135 29 = some (4, .ireturn, []) by decide +kernel) (by decide +kernel)
def pG_part  (μ : z_Mem) (i1 : Int32) (i2 : Int32) : Option ((Int32 ⊕ Nat) × z_Mem) := (pH_begin μ).bind fun q1 => (pG_tryPart q1 i1 i2).bind fun q3 => (pG_settled q3.2 q3.1).bind fun q5 => (match q5.1 with | .inl x7 => some ((.inl x7), q5.2) | .inr E8 => some ((.inr E8), q5.2))
theorem pG_part_run  {μ : z_Mem} {i1 : Int32} {i2 : Int32}  {r : ((Int32 ⊕ Nat) × z_Mem)} (h : pG_part μ i1 i2 = some r) : Rn 7 79 0 [(0, .ref 0), (1, .int i1), (2, .int i2)] [] μ (z_oX r.1) r.2 := by
  unfold pG_part at h
  refine R_pure (pc := 0) (pc' := 1) (st' := [.ref 0]) (show z_pt 79 0 = some (3, .aload_n 0, []) by decide +kernel) rfl (fun _ _ _ => rfl) ?_
  refine R_getR (pc := 1) (a := 0) (b := 57) (show z_pt 79 1 = some (3, .getfield 53, [9, 2, 2041]) by decide +kernel) (by decide +kernel) ?_
  refine R_at (pc := 4) ?_
  refine R_pure (pc := 4) (pc' := 5) (st' := [.ref 0, .ref 57]) (show z_pt 79 4 = some (3, .aload_n 0, []) by decide +kernel) rfl (fun _ _ _ => rfl) ?_
  refine R_getR (pc := 5) (a := 0) (b := 1) (show z_pt 79 5 = some (3, .getfield 17, [9, 0, 2039]) by decide +kernel) (by decide +kernel) ?_
  refine R_at (pc := 8) ?_
  obtain ⟨q1, e2, h⟩ := z_bs h
  refine R_call (pc := 8) (rr := []) (show z_pt 79 8 = some (3, .invokevirtual 71, [0, 49, 1, 2227, 2228, 2229, 1011, 2230]) by decide +kernel) rfl (show z_r2 49 = some (4, 3, true) by decide +kernel) rfl rfl (Or.inr ⟨_, _, rfl, (by decide +kernel)⟩) (pH_begin_run  e2) (by omega) ?_
  refine R_at2 (pc := 11) (st := []) ?_
  refine R_pure (pc := 11) (pc' := 12) (st' := [.ref 0]) (show z_pt 79 11 = some (3, .aload_n 0, []) by decide +kernel) rfl (fun _ _ _ => rfl) ?_
  refine R_pure (pc := 12) (pc' := 13) (st' := [.ref 0, .ref 0]) (show z_pt 79 12 = some (3, .aload_n 0, []) by decide +kernel) rfl (fun _ _ _ => rfl) ?_
  refine R_pure (pc := 13) (pc' := 14) (st' := [.int i1, .ref 0, .ref 0]) (show z_pt 79 13 = some (3, .iload_n 1, []) by decide +kernel) rfl (fun _ _ _ => rfl) ?_
  refine R_pure (pc := 14) (pc' := 15) (st' := [.int i2, .int i1, .ref 0, .ref 0]) (show z_pt 79 14 = some (3, .iload_n 2, []) by decide +kernel) rfl (fun _ _ _ => rfl) ?_
  obtain ⟨q3, e4, h⟩ := z_bs h
  refine R_call (pc := 15) (rr := [.ref 0]) (show z_pt 79 15 = some (3, .invokevirtual 86, [0, 135, 2, 3183, 3185, 7, 1001, 3186]) by decide +kernel) rfl (show z_r2 135 = some (9, 4, true) by decide +kernel) rfl rfl (Or.inr ⟨_, _, rfl, (by decide +kernel)⟩) (pG_tryPart_run  e4) (by omega) ?_
  refine R_at2 (pc := 18) (st := [.int q3.1, .ref 0]) ?_
  obtain ⟨q5, e6, h⟩ := z_bs h
  have y9 := pG_settled_run  e6
  cases x7h : q5.1 with
  | inl x7 =>
    rw [x7h] at h y9
    dsimp only at h
    refine R_call (pc := 18) (rr := []) (show z_pt 79 18 = some (3, .invokevirtual 79, [0, 144, 1, 3003, 3005, 4, 1001, 3006]) by decide +kernel) rfl (show z_r2 144 = some (9, 2, true) by decide +kernel) rfl rfl (Or.inr ⟨_, _, rfl, (by decide +kernel)⟩) y9 (by omega) ?_
    refine R_at2 (pc := 21) (st := [.int x7]) ?_
    cases h
    exact R_retI (show z_pt 79 21 = some (3, .ireturn, []) by decide +kernel) (by decide +kernel)
  | inr E8 =>
    rw [x7h] at h y9
    cases h
    exact R_callX (pc := 18) (rr := []) (show z_pt 79 18 = some (3, .invokevirtual 79, [0, 144, 1, 3003, 3005, 4, 1001, 3006]) by decide +kernel) rfl (show z_r2 144 = some (9, 2, true) by decide +kernel) rfl rfl (Or.inr ⟨_, _, rfl, (by decide +kernel)⟩) y9 (by decide) (by decide +kernel) (by omega)
def pG_tryTurn  (μ : z_Mem) (i1 : Int32) (i2 : Int32) : Option (Int32 × z_Mem) := (pT_hasGear 2 μ i1).bind fun q1 => if q1 = 0 then some ((-1), μ) else if i2 = 0 then some ((-2), μ) else (pG_isWithin μ i2 (-99) 99).bind fun q5 => if q5 = 0 then some ((-2), μ) else (pT_turnGear 2 μ i1 i2).bind fun q8 => some (q8.1, q8.2)
theorem pG_tryTurn_run  {μ : z_Mem} {i1 : Int32} {i2 : Int32}  {r : (Int32 × z_Mem)} (h : pG_tryTurn μ i1 i2 = some r) : Rn 16 136 0 [(0, .ref 0), (1, .int i1), (2, .int i2)] [] μ (.inl (some (.int r.1))) r.2 := by
  unfold pG_tryTurn at h
  refine R_pure (pc := 0) (pc' := 1) (st' := [.ref 0]) (show z_pt 136 0 = some (3, .aload_n 0, []) by decide +kernel) rfl (fun _ _ _ => rfl) ?_
  refine R_getR (pc := 1) (a := 0) (b := 1) (show z_pt 136 1 = some (3, .getfield 17, [9, 0, 2039]) by decide +kernel) (by decide +kernel) ?_
  refine R_at (pc := 4) ?_
  refine R_getR (pc := 4) (a := 1) (b := 2) (show z_pt 136 4 = some (3, .getfield 23, [7, 0, 1173]) by decide +kernel) (by decide +kernel) ?_
  refine R_at (pc := 7) ?_
  refine R_pure (pc := 7) (pc' := 8) (st' := [.int i1, .ref 2]) (show z_pt 136 7 = some (3, .iload_n 1, []) by decide +kernel) rfl (fun _ _ _ => rfl) ?_
  obtain ⟨q1, e2, h⟩ := z_bs h
  refine R_call (pc := 8) (rr := []) (show z_pt 136 8 = some (3, .invokevirtual 341, [0, 23, 1, 3169, 2094, 2095, 1003, 2096]) by decide +kernel) rfl (show z_r2 23 = some (2, 2, true) by decide +kernel) rfl rfl (Or.inr ⟨_, _, rfl, (by decide +kernel)⟩) (pT_hasGear_run (show zTr 2 = true by decide +kernel) e2) (by omega) ?_
  refine R_at2 (pc := 11) (st := [.int q1]) ?_
  refine R_ifne (pc := 11) (t := 16) (show z_pt 136 11 = some (3, .ifCond .ne 5, []) by decide +kernel) (by decide) (fun c3 => ?_) (fun c3 => ?_)
  · rw [if_neg c3] at h
    refine R_pure (pc := 16) (pc' := 17) (st' := [.int i2]) (show z_pt 136 16 = some (3, .iload_n 2, []) by decide +kernel) rfl (fun _ _ _ => rfl) ?_
    refine R_ifeq (pc := 17) (t := 31) (show z_pt 136 17 = some (3, .ifCond .eq 14, []) by decide +kernel) (by decide) (fun c4 => ?_) (fun c4 => ?_)
    · rw [if_pos c4] at h
      refine R_const (pc := 31) (pc' := 33) (v := (-2)) (show z_ptc 136 31 = some (33, (-2)) by decide +kernel) ?_
      cases h
      exact R_retI (show z_pt 136 33 = some (3, .ireturn, []) by decide +kernel) (by decide +kernel)
    · rw [if_neg c4] at h
      refine R_pure (pc := 20) (pc' := 21) (st' := [.int i2]) (show z_pt 136 20 = some (3, .iload_n 2, []) by decide +kernel) rfl (fun _ _ _ => rfl) ?_
      refine R_const (pc := 21) (pc' := 23) (v := (-99)) (show z_ptc 136 21 = some (23, (-99)) by decide +kernel) ?_
      refine R_const (pc := 23) (pc' := 25) (v := 99) (show z_ptc 136 23 = some (25, 99) by decide +kernel) ?_
      obtain ⟨q5, e6, h⟩ := z_bs h
      refine R_call (pc := 25) (rr := []) (show z_pt 136 25 = some (3, .invokestatic 239, [1, 156, 3, 2236, 2237, 0, 1001, 2238]) by decide +kernel) rfl (show z_r2 156 = some (9, 3, true) by decide +kernel) rfl rfl (Or.inl (by decide)) (pG_isWithin_run  e6) (by omega) ?_
      refine R_at2 (pc := 28) (st := [.int q5]) ?_
      refine R_ifne (pc := 28) (t := 34) (show z_pt 136 28 = some (3, .ifCond .ne 6, []) by decide +kernel) (by decide) (fun c7 => ?_) (fun c7 => ?_)
      · rw [if_neg c7] at h
        refine R_pure (pc := 34) (pc' := 35) (st' := [.ref 0]) (show z_pt 136 34 = some (3, .aload_n 0, []) by decide +kernel) rfl (fun _ _ _ => rfl) ?_
        refine R_getR (pc := 35) (a := 0) (b := 1) (show z_pt 136 35 = some (3, .getfield 17, [9, 0, 2039]) by decide +kernel) (by decide +kernel) ?_
        refine R_at (pc := 38) ?_
        refine R_getR (pc := 38) (a := 1) (b := 2) (show z_pt 136 38 = some (3, .getfield 23, [7, 0, 1173]) by decide +kernel) (by decide +kernel) ?_
        refine R_at (pc := 41) ?_
        refine R_pure (pc := 41) (pc' := 42) (st' := [.int i1, .ref 2]) (show z_pt 136 41 = some (3, .iload_n 1, []) by decide +kernel) rfl (fun _ _ _ => rfl) ?_
        refine R_pure (pc := 42) (pc' := 43) (st' := [.int i2, .int i1, .ref 2]) (show z_pt 136 42 = some (3, .iload_n 2, []) by decide +kernel) rfl (fun _ _ _ => rfl) ?_
        obtain ⟨q8, e9, h⟩ := z_bs h
        refine R_call (pc := 43) (rr := []) (show z_pt 136 43 = some (3, .invokevirtual 351, [0, 29, 2, 3203, 2175, 2176, 1003, 2177]) by decide +kernel) rfl (show z_r2 29 = some (2, 3, true) by decide +kernel) rfl rfl (Or.inr ⟨_, _, rfl, (by decide +kernel)⟩) (pT_turnGear_run (show zTr 2 = true by decide +kernel) e9) (by omega) ?_
        refine R_at2 (pc := 46) (st := [.int q8.1]) ?_
        cases h
        exact R_retI (show z_pt 136 46 = some (3, .ireturn, []) by decide +kernel) (by decide +kernel)
      · rw [if_pos c7] at h
        refine R_const (pc := 31) (pc' := 33) (v := (-2)) (show z_ptc 136 31 = some (33, (-2)) by decide +kernel) ?_
        cases h
        exact R_retI (show z_pt 136 33 = some (3, .ireturn, []) by decide +kernel) (by decide +kernel)
  · rw [if_pos c3] at h
    refine R_const (pc := 14) (pc' := 15) (v := (-1)) (show z_ptc 136 14 = some (15, (-1)) by decide +kernel) ?_
    cases h
    exact R_retI (show z_pt 136 15 = some (3, .ireturn, []) by decide +kernel) (by decide +kernel)
def pG_turn  (μ : z_Mem) (i1 : Int32) (i2 : Int32) : Option ((Int32 ⊕ Nat) × z_Mem) := (pH_begin μ).bind fun q1 => (pG_tryTurn q1 i1 i2).bind fun q3 => (pG_settled q3.2 q3.1).bind fun q5 => (match q5.1 with | .inl x7 => some ((.inl x7), q5.2) | .inr E8 => some ((.inr E8), q5.2))
theorem pG_turn_run  {μ : z_Mem} {i1 : Int32} {i2 : Int32}  {r : ((Int32 ⊕ Nat) × z_Mem)} (h : pG_turn μ i1 i2 = some r) : Rn 17 80 0 [(0, .ref 0), (1, .int i1), (2, .int i2)] [] μ (z_oX r.1) r.2 := by
  unfold pG_turn at h
  refine R_pure (pc := 0) (pc' := 1) (st' := [.ref 0]) (show z_pt 80 0 = some (3, .aload_n 0, []) by decide +kernel) rfl (fun _ _ _ => rfl) ?_
  refine R_getR (pc := 1) (a := 0) (b := 57) (show z_pt 80 1 = some (3, .getfield 53, [9, 2, 2041]) by decide +kernel) (by decide +kernel) ?_
  refine R_at (pc := 4) ?_
  refine R_pure (pc := 4) (pc' := 5) (st' := [.ref 0, .ref 57]) (show z_pt 80 4 = some (3, .aload_n 0, []) by decide +kernel) rfl (fun _ _ _ => rfl) ?_
  refine R_getR (pc := 5) (a := 0) (b := 1) (show z_pt 80 5 = some (3, .getfield 17, [9, 0, 2039]) by decide +kernel) (by decide +kernel) ?_
  refine R_at (pc := 8) ?_
  obtain ⟨q1, e2, h⟩ := z_bs h
  refine R_call (pc := 8) (rr := []) (show z_pt 80 8 = some (3, .invokevirtual 71, [0, 49, 1, 2227, 2228, 2229, 1011, 2230]) by decide +kernel) rfl (show z_r2 49 = some (4, 3, true) by decide +kernel) rfl rfl (Or.inr ⟨_, _, rfl, (by decide +kernel)⟩) (pH_begin_run  e2) (by omega) ?_
  refine R_at2 (pc := 11) (st := []) ?_
  refine R_pure (pc := 11) (pc' := 12) (st' := [.ref 0]) (show z_pt 80 11 = some (3, .aload_n 0, []) by decide +kernel) rfl (fun _ _ _ => rfl) ?_
  refine R_pure (pc := 12) (pc' := 13) (st' := [.ref 0, .ref 0]) (show z_pt 80 12 = some (3, .aload_n 0, []) by decide +kernel) rfl (fun _ _ _ => rfl) ?_
  refine R_pure (pc := 13) (pc' := 14) (st' := [.int i1, .ref 0, .ref 0]) (show z_pt 80 13 = some (3, .iload_n 1, []) by decide +kernel) rfl (fun _ _ _ => rfl) ?_
  refine R_pure (pc := 14) (pc' := 15) (st' := [.int i2, .int i1, .ref 0, .ref 0]) (show z_pt 80 14 = some (3, .iload_n 2, []) by decide +kernel) rfl (fun _ _ _ => rfl) ?_
  obtain ⟨q3, e4, h⟩ := z_bs h
  refine R_call (pc := 15) (rr := [.ref 0]) (show z_pt 80 15 = some (3, .invokevirtual 90, [0, 136, 2, 3199, 3201, 8, 1001, 3202]) by decide +kernel) rfl (show z_r2 136 = some (9, 3, true) by decide +kernel) rfl rfl (Or.inr ⟨_, _, rfl, (by decide +kernel)⟩) (pG_tryTurn_run  e4) (by omega) ?_
  refine R_at2 (pc := 18) (st := [.int q3.1, .ref 0]) ?_
  obtain ⟨q5, e6, h⟩ := z_bs h
  have y9 := pG_settled_run  e6
  cases x7h : q5.1 with
  | inl x7 =>
    rw [x7h] at h y9
    dsimp only at h
    refine R_call (pc := 18) (rr := []) (show z_pt 80 18 = some (3, .invokevirtual 79, [0, 144, 1, 3003, 3005, 4, 1001, 3006]) by decide +kernel) rfl (show z_r2 144 = some (9, 2, true) by decide +kernel) rfl rfl (Or.inr ⟨_, _, rfl, (by decide +kernel)⟩) y9 (by omega) ?_
    refine R_at2 (pc := 21) (st := [.int x7]) ?_
    cases h
    exact R_retI (show z_pt 80 21 = some (3, .ireturn, []) by decide +kernel) (by decide +kernel)
  | inr E8 =>
    rw [x7h] at h y9
    cases h
    exact R_callX (pc := 18) (rr := []) (show z_pt 80 18 = some (3, .invokevirtual 79, [0, 144, 1, 3003, 3005, 4, 1001, 3006]) by decide +kernel) rfl (show z_r2 144 = some (9, 2, true) by decide +kernel) rfl rfl (Or.inr ⟨_, _, rfl, (by decide +kernel)⟩) y9 (by decide) (by decide +kernel) (by omega)
def pG_gearCount  (μ : z_Mem)  : Option Int32 := some (μ 2 0)
theorem pG_gearCount_run  {μ : z_Mem}   {r : Int32} (h : pG_gearCount μ = some r) : Rn 0 81 0 [(0, .ref 0)] [] μ (.inl (some (.int r))) μ := by
  unfold pG_gearCount at h
  refine R_pure (pc := 0) (pc' := 1) (st' := [.ref 0]) (show z_pt 81 0 = some (1, .aload_n 0, []) by decide +kernel) rfl (fun _ _ _ => rfl) ?_
  refine R_getR (pc := 1) (a := 0) (b := 1) (show z_pt 81 1 = some (1, .getfield 17, [9, 0, 2039]) by decide +kernel) (by decide +kernel) ?_
  refine R_at (pc := 4) ?_
  refine R_getR (pc := 4) (a := 1) (b := 2) (show z_pt 81 4 = some (1, .getfield 23, [7, 0, 1173]) by decide +kernel) (by decide +kernel) ?_
  refine R_at (pc := 7) ?_
  refine R_getI (pc := 7) (a := 2) (show z_pt 81 7 = some (1, .getfield 93, [2, 0, 1051]) by decide +kernel) (by decide +kernel) ?_
  refine R_at (pc := 10) ?_
  cases h
  exact R_retI (show z_pt 81 10 = some (1, .ireturn, []) by decide +kernel) (by decide +kernel)
def pG_needGear  (μ : z_Mem) (i1 : Int32) : Option (Option Nat) := (pT_hasGear 2 μ i1).bind fun q1 => if q1 = 0 then some (some 0) else some none
theorem pG_needGear_run  {μ : z_Mem} {i1 : Int32}  {r : (Option Nat)} (h : pG_needGear μ i1 = some r) : Rn 6 147 0 [(0, .ref 0), (1, .int i1)] [] μ (z_oU r) μ := by
  unfold pG_needGear at h
  refine R_pure (pc := 0) (pc' := 1) (st' := [.ref 0]) (show z_pt 147 0 = some (2, .aload_n 0, []) by decide +kernel) rfl (fun _ _ _ => rfl) ?_
  refine R_getR (pc := 1) (a := 0) (b := 1) (show z_pt 147 1 = some (2, .getfield 17, [9, 0, 2039]) by decide +kernel) (by decide +kernel) ?_
  refine R_at (pc := 4) ?_
  refine R_getR (pc := 4) (a := 1) (b := 2) (show z_pt 147 4 = some (2, .getfield 23, [7, 0, 1173]) by decide +kernel) (by decide +kernel) ?_
  refine R_at (pc := 7) ?_
  refine R_pure (pc := 7) (pc' := 8) (st' := [.int i1, .ref 2]) (show z_pt 147 7 = some (2, .iload_n 1, []) by decide +kernel) rfl (fun _ _ _ => rfl) ?_
  obtain ⟨q1, e2, h⟩ := z_bs h
  refine R_call (pc := 8) (rr := []) (show z_pt 147 8 = some (2, .invokevirtual 341, [0, 23, 1, 3169, 2094, 2095, 1003, 2096]) by decide +kernel) rfl (show z_r2 23 = some (2, 2, true) by decide +kernel) rfl rfl (Or.inr ⟨_, _, rfl, (by decide +kernel)⟩) (pT_hasGear_run (show zTr 2 = true by decide +kernel) e2) (by omega) ?_
  refine R_at2 (pc := 11) (st := [.int q1]) ?_
  refine R_ifne (pc := 11) (t := 22) (show z_pt 147 11 = some (2, .ifCond .ne 11, []) by decide +kernel) (by decide) (fun c3 => ?_) (fun c3 => ?_)
  · rw [if_neg c3] at h
    cases h
    exact R_retV (show z_pt 147 22 = some (2, .return_, []) by decide +kernel) (by decide +kernel)
  · rw [if_pos c3] at h
    cases h
    exact R_thr (show z_thx 147 14 = some 0 by decide +kernel) (by omega)
def pG_teeth  (μ : z_Mem) (i1 : Int32) : Option (Int32 ⊕ Nat) := (pG_needGear μ i1).bind fun q1 => (match q1 with | none => (z_rd μ 3 10 i1).bind fun v5 => some (.inl v5) | some E4 => some (.inr E4))
theorem pG_teeth_run  {μ : z_Mem} {i1 : Int32}  {r : (Int32 ⊕ Nat)} (h : pG_teeth μ i1 = some r) : Rn 7 82 0 [(0, .ref 0), (1, .int i1)] [] μ (z_oX r) μ := by
  unfold pG_teeth at h
  refine R_pure (pc := 0) (pc' := 1) (st' := [.ref 0]) (show z_pt 82 0 = some (2, .aload_n 0, []) by decide +kernel) rfl (fun _ _ _ => rfl) ?_
  refine R_pure (pc := 1) (pc' := 2) (st' := [.int i1, .ref 0]) (show z_pt 82 1 = some (2, .iload_n 1, []) by decide +kernel) rfl (fun _ _ _ => rfl) ?_
  obtain ⟨q1, e2, h⟩ := z_bs h
  have y7 := pG_needGear_run  e2
  cases x3h : q1 with
  | none =>
    rw [x3h] at h y7
    dsimp only at h
    refine R_call (pc := 2) (rr := []) (show z_pt 82 2 = some (2, .invokevirtual 98, [0, 147, 1, 3211, 3213, 9, 1001, 3214]) by decide +kernel) rfl (show z_r2 147 = some (9, 2, true) by decide +kernel) rfl rfl (Or.inr ⟨_, _, rfl, (by decide +kernel)⟩) y7 (by omega) ?_
    refine R_at2 (pc := 5) (st := []) ?_
    refine R_pure (pc := 5) (pc' := 6) (st' := [.ref 0]) (show z_pt 82 5 = some (2, .aload_n 0, []) by decide +kernel) rfl (fun _ _ _ => rfl) ?_
    refine R_getR (pc := 6) (a := 0) (b := 1) (show z_pt 82 6 = some (2, .getfield 17, [9, 0, 2039]) by decide +kernel) (by decide +kernel) ?_
    refine R_at (pc := 9) ?_
    refine R_getR (pc := 9) (a := 1) (b := 2) (show z_pt 82 9 = some (2, .getfield 23, [7, 0, 1173]) by decide +kernel) (by decide +kernel) ?_
    refine R_at (pc := 12) ?_
    refine R_getR (pc := 12) (a := 2) (b := 3) (show z_pt 82 12 = some (2, .getfield 101, [2, 3, 1059]) by decide +kernel) (by decide +kernel) ?_
    refine R_at (pc := 15) ?_
    refine R_pure (pc := 15) (pc' := 16) (st' := [.int i1, .ref 3]) (show z_pt 82 15 = some (2, .iload_n 1, []) by decide +kernel) rfl (fun _ _ _ => rfl) ?_
    obtain ⟨v5, e6, h⟩ := z_bs h
    refine R_ialdR (pc := 16) (a := 3) (n := 10) (show z_pt 82 16 = some (2, .iaload, []) by decide +kernel) (show z_ar 3 0 10 = true by decide +kernel) e6 ?_
    refine R_at (pc := 17) ?_
    cases h
    exact R_retI (show z_pt 82 17 = some (2, .ireturn, []) by decide +kernel) (by decide +kernel)
  | some E4 =>
    rw [x3h] at h y7
    cases h
    exact R_callX (pc := 2) (rr := []) (show z_pt 82 2 = some (2, .invokevirtual 98, [0, 147, 1, 3211, 3213, 9, 1001, 3214]) by decide +kernel) rfl (show z_r2 147 = some (9, 2, true) by decide +kernel) rfl rfl (Or.inr ⟨_, _, rfl, (by decide +kernel)⟩) y7 (by decide) (by decide +kernel) (by omega)
def pG_position  (μ : z_Mem) (i1 : Int32) : Option (Int32 ⊕ Nat) := (pG_needGear μ i1).bind fun q1 => (match q1 with | none => (z_rd μ 4 10 i1).bind fun v5 => some (.inl v5) | some E4 => some (.inr E4))
theorem pG_position_run  {μ : z_Mem} {i1 : Int32}  {r : (Int32 ⊕ Nat)} (h : pG_position μ i1 = some r) : Rn 7 83 0 [(0, .ref 0), (1, .int i1)] [] μ (z_oX r) μ := by
  unfold pG_position at h
  refine R_pure (pc := 0) (pc' := 1) (st' := [.ref 0]) (show z_pt 83 0 = some (2, .aload_n 0, []) by decide +kernel) rfl (fun _ _ _ => rfl) ?_
  refine R_pure (pc := 1) (pc' := 2) (st' := [.int i1, .ref 0]) (show z_pt 83 1 = some (2, .iload_n 1, []) by decide +kernel) rfl (fun _ _ _ => rfl) ?_
  obtain ⟨q1, e2, h⟩ := z_bs h
  have y7 := pG_needGear_run  e2
  cases x3h : q1 with
  | none =>
    rw [x3h] at h y7
    dsimp only at h
    refine R_call (pc := 2) (rr := []) (show z_pt 83 2 = some (2, .invokevirtual 98, [0, 147, 1, 3211, 3213, 9, 1001, 3214]) by decide +kernel) rfl (show z_r2 147 = some (9, 2, true) by decide +kernel) rfl rfl (Or.inr ⟨_, _, rfl, (by decide +kernel)⟩) y7 (by omega) ?_
    refine R_at2 (pc := 5) (st := []) ?_
    refine R_pure (pc := 5) (pc' := 6) (st' := [.ref 0]) (show z_pt 83 5 = some (2, .aload_n 0, []) by decide +kernel) rfl (fun _ _ _ => rfl) ?_
    refine R_getR (pc := 6) (a := 0) (b := 1) (show z_pt 83 6 = some (2, .getfield 17, [9, 0, 2039]) by decide +kernel) (by decide +kernel) ?_
    refine R_at (pc := 9) ?_
    refine R_getR (pc := 9) (a := 1) (b := 2) (show z_pt 83 9 = some (2, .getfield 23, [7, 0, 1173]) by decide +kernel) (by decide +kernel) ?_
    refine R_at (pc := 12) ?_
    refine R_getR (pc := 12) (a := 2) (b := 4) (show z_pt 83 12 = some (2, .getfield 105, [2, 4, 1064]) by decide +kernel) (by decide +kernel) ?_
    refine R_at (pc := 15) ?_
    refine R_pure (pc := 15) (pc' := 16) (st' := [.int i1, .ref 4]) (show z_pt 83 15 = some (2, .iload_n 1, []) by decide +kernel) rfl (fun _ _ _ => rfl) ?_
    obtain ⟨v5, e6, h⟩ := z_bs h
    refine R_ialdR (pc := 16) (a := 4) (n := 10) (show z_pt 83 16 = some (2, .iaload, []) by decide +kernel) (show z_ar 4 0 10 = true by decide +kernel) e6 ?_
    refine R_at (pc := 17) ?_
    cases h
    exact R_retI (show z_pt 83 17 = some (2, .ireturn, []) by decide +kernel) (by decide +kernel)
  | some E4 =>
    rw [x3h] at h y7
    cases h
    exact R_callX (pc := 2) (rr := []) (show z_pt 83 2 = some (2, .invokevirtual 98, [0, 147, 1, 3211, 3213, 9, 1001, 3214]) by decide +kernel) rfl (show z_r2 147 = some (9, 2, true) by decide +kernel) rfl rfl (Or.inr ⟨_, _, rfl, (by decide +kernel)⟩) y7 (by decide) (by decide +kernel) (by omega)
def pG_meshCount  (μ : z_Mem)  : Option Int32 := some (μ 2 1)
theorem pG_meshCount_run  {μ : z_Mem}   {r : Int32} (h : pG_meshCount μ = some r) : Rn 0 84 0 [(0, .ref 0)] [] μ (.inl (some (.int r))) μ := by
  unfold pG_meshCount at h
  refine R_pure (pc := 0) (pc' := 1) (st' := [.ref 0]) (show z_pt 84 0 = some (1, .aload_n 0, []) by decide +kernel) rfl (fun _ _ _ => rfl) ?_
  refine R_getR (pc := 1) (a := 0) (b := 1) (show z_pt 84 1 = some (1, .getfield 17, [9, 0, 2039]) by decide +kernel) (by decide +kernel) ?_
  refine R_at (pc := 4) ?_
  refine R_getR (pc := 4) (a := 1) (b := 2) (show z_pt 84 4 = some (1, .getfield 23, [7, 0, 1173]) by decide +kernel) (by decide +kernel) ?_
  refine R_at (pc := 7) ?_
  refine R_getI (pc := 7) (a := 2) (show z_pt 84 7 = some (1, .getfield 108, [2, 1, 1054]) by decide +kernel) (by decide +kernel) ?_
  refine R_at (pc := 10) ?_
  cases h
  exact R_retI (show z_pt 84 10 = some (1, .ireturn, []) by decide +kernel) (by decide +kernel)
def pG_doMesh  (μ : z_Mem) (i1 : Int32) (i2 : Int32) : Option (Int32 ⊕ Nat) := (pG_needGear μ i1).bind fun q1 => (match q1 with | none => (pG_needGear μ i2).bind fun q5 => (match q5 with | none => (pT_meshBetween μ i1 i2).bind fun q9 => if q9 = (-1) then some (.inl 0) else some (.inl 1) | some E8 => some (.inr E8)) | some E4 => some (.inr E4))
theorem pG_doMesh_run  {μ : z_Mem} {i1 : Int32} {i2 : Int32}  {r : (Int32 ⊕ Nat)} (h : pG_doMesh μ i1 i2 = some r) : Rn 7 85 0 [(0, .ref 0), (1, .int i1), (2, .int i2)] [] μ (z_oX r) μ := by
  unfold pG_doMesh at h
  refine R_pure (pc := 0) (pc' := 1) (st' := [.ref 0]) (show z_pt 85 0 = some (3, .aload_n 0, []) by decide +kernel) rfl (fun _ _ _ => rfl) ?_
  refine R_pure (pc := 1) (pc' := 2) (st' := [.int i1, .ref 0]) (show z_pt 85 1 = some (3, .iload_n 1, []) by decide +kernel) rfl (fun _ _ _ => rfl) ?_
  obtain ⟨q1, e2, h⟩ := z_bs h
  have y13 := pG_needGear_run  e2
  cases x3h : q1 with
  | none =>
    rw [x3h] at h y13
    dsimp only at h
    refine R_call (pc := 2) (rr := []) (show z_pt 85 2 = some (3, .invokevirtual 98, [0, 147, 1, 3211, 3213, 9, 1001, 3214]) by decide +kernel) rfl (show z_r2 147 = some (9, 2, true) by decide +kernel) rfl rfl (Or.inr ⟨_, _, rfl, (by decide +kernel)⟩) y13 (by omega) ?_
    refine R_at2 (pc := 5) (st := []) ?_
    refine R_pure (pc := 5) (pc' := 6) (st' := [.ref 0]) (show z_pt 85 5 = some (3, .aload_n 0, []) by decide +kernel) rfl (fun _ _ _ => rfl) ?_
    refine R_pure (pc := 6) (pc' := 7) (st' := [.int i2, .ref 0]) (show z_pt 85 6 = some (3, .iload_n 2, []) by decide +kernel) rfl (fun _ _ _ => rfl) ?_
    obtain ⟨q5, e6, h⟩ := z_bs h
    have y12 := pG_needGear_run  e6
    cases x7h : q5 with
    | none =>
      rw [x7h] at h y12
      dsimp only at h
      refine R_call (pc := 7) (rr := []) (show z_pt 85 7 = some (3, .invokevirtual 98, [0, 147, 1, 3211, 3213, 9, 1001, 3214]) by decide +kernel) rfl (show z_r2 147 = some (9, 2, true) by decide +kernel) rfl rfl (Or.inr ⟨_, _, rfl, (by decide +kernel)⟩) y12 (by omega) ?_
      refine R_at2 (pc := 10) (st := []) ?_
      refine R_pure (pc := 10) (pc' := 11) (st' := [.ref 0]) (show z_pt 85 10 = some (3, .aload_n 0, []) by decide +kernel) rfl (fun _ _ _ => rfl) ?_
      refine R_getR (pc := 11) (a := 0) (b := 1) (show z_pt 85 11 = some (3, .getfield 17, [9, 0, 2039]) by decide +kernel) (by decide +kernel) ?_
      refine R_at (pc := 14) ?_
      refine R_getR (pc := 14) (a := 1) (b := 2) (show z_pt 85 14 = some (3, .getfield 23, [7, 0, 1173]) by decide +kernel) (by decide +kernel) ?_
      refine R_at (pc := 17) ?_
      refine R_pure (pc := 17) (pc' := 18) (st' := [.int i1, .ref 2]) (show z_pt 85 17 = some (3, .iload_n 1, []) by decide +kernel) rfl (fun _ _ _ => rfl) ?_
      refine R_pure (pc := 18) (pc' := 19) (st' := [.int i2, .int i1, .ref 2]) (show z_pt 85 18 = some (3, .iload_n 2, []) by decide +kernel) rfl (fun _ _ _ => rfl) ?_
      obtain ⟨q9, e10, h⟩ := z_bs h
      refine R_call (pc := 19) (rr := []) (show z_pt 85 19 = some (3, .invokevirtual 111, [0, 28, 2, 3187, 2159, 2160, 1003, 2161]) by decide +kernel) rfl (show z_r2 28 = some (2, 4, true) by decide +kernel) rfl rfl (Or.inr ⟨_, _, rfl, (by decide +kernel)⟩) (pT_meshBetween_run  e10) (by omega) ?_
      refine R_at2 (pc := 22) (st := [.int q9]) ?_
      refine R_const (pc := 22) (pc' := 23) (v := (-1)) (show z_ptc 85 22 = some (23, (-1)) by decide +kernel) ?_
      refine R_icmeq (pc := 23) (t := 30) (show z_pt 85 23 = some (3, .if_icmp .eq 7, []) by decide +kernel) (by decide) (fun c11 => ?_) (fun c11 => ?_)
      · rw [if_pos c11] at h
        refine R_const (pc := 30) (pc' := 31) (v := 0) (show z_ptc 85 30 = some (31, 0) by decide +kernel) ?_
        cases h
        exact R_retZ (show z_pt 85 31 = some (3, .ireturn, []) by decide +kernel) (t := .boolean) (by decide +kernel) (by decide)
      · rw [if_neg c11] at h
        refine R_const (pc := 26) (pc' := 27) (v := 1) (show z_ptc 85 26 = some (27, 1) by decide +kernel) ?_
        refine R_pure (pc := 27) (pc' := 31) (show z_pt 85 27 = some (3, .goto 4, []) by decide +kernel) rfl (fun _ _ _ => rfl) ?_
        cases h
        exact R_retZ (show z_pt 85 31 = some (3, .ireturn, []) by decide +kernel) (t := .boolean) (by decide +kernel) (by decide)
    | some E8 =>
      rw [x7h] at h y12
      cases h
      exact R_callX (pc := 7) (rr := []) (show z_pt 85 7 = some (3, .invokevirtual 98, [0, 147, 1, 3211, 3213, 9, 1001, 3214]) by decide +kernel) rfl (show z_r2 147 = some (9, 2, true) by decide +kernel) rfl rfl (Or.inr ⟨_, _, rfl, (by decide +kernel)⟩) y12 (by decide) (by decide +kernel) (by omega)
  | some E4 =>
    rw [x3h] at h y13
    cases h
    exact R_callX (pc := 2) (rr := []) (show z_pt 85 2 = some (3, .invokevirtual 98, [0, 147, 1, 3211, 3213, 9, 1001, 3214]) by decide +kernel) rfl (show z_r2 147 = some (9, 2, true) by decide +kernel) rfl rfl (Or.inr ⟨_, _, rfl, (by decide +kernel)⟩) y13 (by decide) (by decide +kernel) (by omega)
def pG_neededMesh  (μ : z_Mem) (i1 : Int32) (i2 : Int32) : Option (Int32 ⊕ Nat) := (pG_needGear μ i1).bind fun q1 => (match q1 with | none => (pG_needGear μ i2).bind fun q5 => (match q5 with | none => (pT_meshBetween μ i1 i2).bind fun q9 => if q9 = (-1) then some (.inr 3) else some (.inl q9) | some E8 => some (.inr E8)) | some E4 => some (.inr E4))
theorem pG_neededMesh_run  {μ : z_Mem} {i1 : Int32} {i2 : Int32}  {r : (Int32 ⊕ Nat)} (h : pG_neededMesh μ i1 i2 = some r) : Rn 7 149 0 [(0, .ref 0), (1, .int i1), (2, .int i2)] [] μ (z_oX r) μ := by
  unfold pG_neededMesh at h
  refine R_pure (pc := 0) (pc' := 1) (st' := [.ref 0]) (show z_pt 149 0 = some (4, .aload_n 0, []) by decide +kernel) rfl (fun _ _ _ => rfl) ?_
  refine R_pure (pc := 1) (pc' := 2) (st' := [.int i1, .ref 0]) (show z_pt 149 1 = some (4, .iload_n 1, []) by decide +kernel) rfl (fun _ _ _ => rfl) ?_
  obtain ⟨q1, e2, h⟩ := z_bs h
  have y13 := pG_needGear_run  e2
  cases x3h : q1 with
  | none =>
    rw [x3h] at h y13
    dsimp only at h
    refine R_call (pc := 2) (rr := []) (show z_pt 149 2 = some (4, .invokevirtual 98, [0, 147, 1, 3211, 3213, 9, 1001, 3214]) by decide +kernel) rfl (show z_r2 147 = some (9, 2, true) by decide +kernel) rfl rfl (Or.inr ⟨_, _, rfl, (by decide +kernel)⟩) y13 (by omega) ?_
    refine R_at2 (pc := 5) (st := []) ?_
    refine R_pure (pc := 5) (pc' := 6) (st' := [.ref 0]) (show z_pt 149 5 = some (4, .aload_n 0, []) by decide +kernel) rfl (fun _ _ _ => rfl) ?_
    refine R_pure (pc := 6) (pc' := 7) (st' := [.int i2, .ref 0]) (show z_pt 149 6 = some (4, .iload_n 2, []) by decide +kernel) rfl (fun _ _ _ => rfl) ?_
    obtain ⟨q5, e6, h⟩ := z_bs h
    have y12 := pG_needGear_run  e6
    cases x7h : q5 with
    | none =>
      rw [x7h] at h y12
      dsimp only at h
      refine R_call (pc := 7) (rr := []) (show z_pt 149 7 = some (4, .invokevirtual 98, [0, 147, 1, 3211, 3213, 9, 1001, 3214]) by decide +kernel) rfl (show z_r2 147 = some (9, 2, true) by decide +kernel) rfl rfl (Or.inr ⟨_, _, rfl, (by decide +kernel)⟩) y12 (by omega) ?_
      refine R_at2 (pc := 10) (st := []) ?_
      refine R_pure (pc := 10) (pc' := 11) (st' := [.ref 0]) (show z_pt 149 10 = some (4, .aload_n 0, []) by decide +kernel) rfl (fun _ _ _ => rfl) ?_
      refine R_getR (pc := 11) (a := 0) (b := 1) (show z_pt 149 11 = some (4, .getfield 17, [9, 0, 2039]) by decide +kernel) (by decide +kernel) ?_
      refine R_at (pc := 14) ?_
      refine R_getR (pc := 14) (a := 1) (b := 2) (show z_pt 149 14 = some (4, .getfield 23, [7, 0, 1173]) by decide +kernel) (by decide +kernel) ?_
      refine R_at (pc := 17) ?_
      refine R_pure (pc := 17) (pc' := 18) (st' := [.int i1, .ref 2]) (show z_pt 149 17 = some (4, .iload_n 1, []) by decide +kernel) rfl (fun _ _ _ => rfl) ?_
      refine R_pure (pc := 18) (pc' := 19) (st' := [.int i2, .int i1, .ref 2]) (show z_pt 149 18 = some (4, .iload_n 2, []) by decide +kernel) rfl (fun _ _ _ => rfl) ?_
      obtain ⟨q9, e10, h⟩ := z_bs h
      refine R_call (pc := 19) (rr := []) (show z_pt 149 19 = some (4, .invokevirtual 111, [0, 28, 2, 3187, 2159, 2160, 1003, 2161]) by decide +kernel) rfl (show z_r2 28 = some (2, 4, true) by decide +kernel) rfl rfl (Or.inr ⟨_, _, rfl, (by decide +kernel)⟩) (pT_meshBetween_run  e10) (by omega) ?_
      refine R_at2 (pc := 22) (st := [.int q9]) ?_
      refine R_pure (pc := 22) (pc' := 23) (ls' := [(0, .ref 0), (1, .int i1), (2, .int i2), (3, .int q9)]) (st' := []) (show z_pt 149 22 = some (4, .istore_n 3, []) by decide +kernel) rfl (fun _ _ _ => rfl) ?_
      refine R_pure (pc := 23) (pc' := 24) (st' := [.int q9]) (show z_pt 149 23 = some (4, .iload_n 3, []) by decide +kernel) rfl (fun _ _ _ => rfl) ?_
      refine R_const (pc := 24) (pc' := 25) (v := (-1)) (show z_ptc 149 24 = some (25, (-1)) by decide +kernel) ?_
      refine R_icmne (pc := 25) (t := 36) (show z_pt 149 25 = some (4, .if_icmp .ne 11, []) by decide +kernel) (by decide) (fun c11 => ?_) (fun c11 => ?_)
      · rw [if_neg c11] at h
        refine R_pure (pc := 36) (pc' := 37) (st' := [.int q9]) (show z_pt 149 36 = some (4, .iload_n 3, []) by decide +kernel) rfl (fun _ _ _ => rfl) ?_
        cases h
        exact R_retI (show z_pt 149 37 = some (4, .ireturn, []) by decide +kernel) (by decide +kernel)
      · rw [if_pos c11] at h
        cases h
        exact R_thr (show z_thx 149 28 = some 3 by decide +kernel) (by omega)
    | some E8 =>
      rw [x7h] at h y12
      cases h
      exact R_callX (pc := 7) (rr := []) (show z_pt 149 7 = some (4, .invokevirtual 98, [0, 147, 1, 3211, 3213, 9, 1001, 3214]) by decide +kernel) rfl (show z_r2 147 = some (9, 2, true) by decide +kernel) rfl rfl (Or.inr ⟨_, _, rfl, (by decide +kernel)⟩) y12 (by decide) (by decide +kernel) (by omega)
  | some E4 =>
    rw [x3h] at h y13
    cases h
    exact R_callX (pc := 2) (rr := []) (show z_pt 149 2 = some (4, .invokevirtual 98, [0, 147, 1, 3211, 3213, 9, 1001, 3214]) by decide +kernel) rfl (show z_r2 147 = some (9, 2, true) by decide +kernel) rfl rfl (Or.inr ⟨_, _, rfl, (by decide +kernel)⟩) y13 (by decide) (by decide +kernel) (by omega)
def pG_slack  (μ : z_Mem) (i1 : Int32) (i2 : Int32) : Option (Int32 ⊕ Nat) := (pG_neededMesh μ i1 i2).bind fun q1 => (match q1 with | .inl x3 => (z_rd μ 7 9 x3).bind fun v5 => some (.inl v5) | .inr E4 => some (.inr E4))
theorem pG_slack_run  {μ : z_Mem} {i1 : Int32} {i2 : Int32}  {r : (Int32 ⊕ Nat)} (h : pG_slack μ i1 i2 = some r) : Rn 8 86 0 [(0, .ref 0), (1, .int i1), (2, .int i2)] [] μ (z_oX r) μ := by
  unfold pG_slack at h
  refine R_pure (pc := 0) (pc' := 1) (st' := [.ref 0]) (show z_pt 86 0 = some (3, .aload_n 0, []) by decide +kernel) rfl (fun _ _ _ => rfl) ?_
  refine R_getR (pc := 1) (a := 0) (b := 1) (show z_pt 86 1 = some (3, .getfield 17, [9, 0, 2039]) by decide +kernel) (by decide +kernel) ?_
  refine R_at (pc := 4) ?_
  refine R_getR (pc := 4) (a := 1) (b := 2) (show z_pt 86 4 = some (3, .getfield 23, [7, 0, 1173]) by decide +kernel) (by decide +kernel) ?_
  refine R_at (pc := 7) ?_
  refine R_getR (pc := 7) (a := 2) (b := 7) (show z_pt 86 7 = some (3, .getfield 114, [2, 7, 1071]) by decide +kernel) (by decide +kernel) ?_
  refine R_at (pc := 10) ?_
  refine R_pure (pc := 10) (pc' := 11) (st' := [.ref 0, .ref 7]) (show z_pt 86 10 = some (3, .aload_n 0, []) by decide +kernel) rfl (fun _ _ _ => rfl) ?_
  refine R_pure (pc := 11) (pc' := 12) (st' := [.int i1, .ref 0, .ref 7]) (show z_pt 86 11 = some (3, .iload_n 1, []) by decide +kernel) rfl (fun _ _ _ => rfl) ?_
  refine R_pure (pc := 12) (pc' := 13) (st' := [.int i2, .int i1, .ref 0, .ref 7]) (show z_pt 86 12 = some (3, .iload_n 2, []) by decide +kernel) rfl (fun _ _ _ => rfl) ?_
  obtain ⟨q1, e2, h⟩ := z_bs h
  have y7 := pG_neededMesh_run  e2
  cases x3h : q1 with
  | inl x3 =>
    rw [x3h] at h y7
    dsimp only at h
    refine R_call (pc := 13) (rr := [.ref 7]) (show z_pt 86 13 = some (3, .invokevirtual 117, [0, 149, 2, 3236, 3238, 10, 1001, 3239]) by decide +kernel) rfl (show z_r2 149 = some (9, 4, true) by decide +kernel) rfl rfl (Or.inr ⟨_, _, rfl, (by decide +kernel)⟩) y7 (by omega) ?_
    refine R_at2 (pc := 16) (st := [.int x3, .ref 7]) ?_
    obtain ⟨v5, e6, h⟩ := z_bs h
    refine R_ialdR (pc := 16) (a := 7) (n := 9) (show z_pt 86 16 = some (3, .iaload, []) by decide +kernel) (show z_ar 7 0 9 = true by decide +kernel) e6 ?_
    refine R_at (pc := 17) ?_
    cases h
    exact R_retI (show z_pt 86 17 = some (3, .ireturn, []) by decide +kernel) (by decide +kernel)
  | inr E4 =>
    rw [x3h] at h y7
    cases h
    exact R_callX (pc := 13) (rr := [.ref 7]) (show z_pt 86 13 = some (3, .invokevirtual 117, [0, 149, 2, 3236, 3238, 10, 1001, 3239]) by decide +kernel) rfl (show z_r2 149 = some (9, 4, true) by decide +kernel) rfl rfl (Or.inr ⟨_, _, rfl, (by decide +kernel)⟩) y7 (by decide) (by decide +kernel) (by omega)
def pG_gap  (μ : z_Mem) (i1 : Int32) (i2 : Int32) : Option (Int32 ⊕ Nat) := (pG_neededMesh μ i1 i2).bind fun q1 => (match q1 with | .inl x3 => (z_rd μ 8 9 x3).bind fun v5 => some (.inl v5) | .inr E4 => some (.inr E4))
theorem pG_gap_run  {μ : z_Mem} {i1 : Int32} {i2 : Int32}  {r : (Int32 ⊕ Nat)} (h : pG_gap μ i1 i2 = some r) : Rn 8 87 0 [(0, .ref 0), (1, .int i1), (2, .int i2)] [] μ (z_oX r) μ := by
  unfold pG_gap at h
  refine R_pure (pc := 0) (pc' := 1) (st' := [.ref 0]) (show z_pt 87 0 = some (3, .aload_n 0, []) by decide +kernel) rfl (fun _ _ _ => rfl) ?_
  refine R_getR (pc := 1) (a := 0) (b := 1) (show z_pt 87 1 = some (3, .getfield 17, [9, 0, 2039]) by decide +kernel) (by decide +kernel) ?_
  refine R_at (pc := 4) ?_
  refine R_getR (pc := 4) (a := 1) (b := 2) (show z_pt 87 4 = some (3, .getfield 23, [7, 0, 1173]) by decide +kernel) (by decide +kernel) ?_
  refine R_at (pc := 7) ?_
  refine R_getR (pc := 7) (a := 2) (b := 8) (show z_pt 87 7 = some (3, .getfield 120, [2, 8, 1074]) by decide +kernel) (by decide +kernel) ?_
  refine R_at (pc := 10) ?_
  refine R_pure (pc := 10) (pc' := 11) (st' := [.ref 0, .ref 8]) (show z_pt 87 10 = some (3, .aload_n 0, []) by decide +kernel) rfl (fun _ _ _ => rfl) ?_
  refine R_pure (pc := 11) (pc' := 12) (st' := [.int i1, .ref 0, .ref 8]) (show z_pt 87 11 = some (3, .iload_n 1, []) by decide +kernel) rfl (fun _ _ _ => rfl) ?_
  refine R_pure (pc := 12) (pc' := 13) (st' := [.int i2, .int i1, .ref 0, .ref 8]) (show z_pt 87 12 = some (3, .iload_n 2, []) by decide +kernel) rfl (fun _ _ _ => rfl) ?_
  obtain ⟨q1, e2, h⟩ := z_bs h
  have y7 := pG_neededMesh_run  e2
  cases x3h : q1 with
  | inl x3 =>
    rw [x3h] at h y7
    dsimp only at h
    refine R_call (pc := 13) (rr := [.ref 8]) (show z_pt 87 13 = some (3, .invokevirtual 117, [0, 149, 2, 3236, 3238, 10, 1001, 3239]) by decide +kernel) rfl (show z_r2 149 = some (9, 4, true) by decide +kernel) rfl rfl (Or.inr ⟨_, _, rfl, (by decide +kernel)⟩) y7 (by omega) ?_
    refine R_at2 (pc := 16) (st := [.int x3, .ref 8]) ?_
    obtain ⟨v5, e6, h⟩ := z_bs h
    refine R_ialdR (pc := 16) (a := 8) (n := 9) (show z_pt 87 16 = some (3, .iaload, []) by decide +kernel) (show z_ar 8 0 9 = true by decide +kernel) e6 ?_
    refine R_at (pc := 17) ?_
    cases h
    exact R_retI (show z_pt 87 17 = some (3, .ireturn, []) by decide +kernel) (by decide +kernel)
  | inr E4 =>
    rw [x3h] at h y7
    cases h
    exact R_callX (pc := 13) (rr := [.ref 8]) (show z_pt 87 13 = some (3, .invokevirtual 117, [0, 149, 2, 3236, 3238, 10, 1001, 3239]) by decide +kernel) rfl (show z_r2 149 = some (9, 4, true) by decide +kernel) rfl rfl (Or.inr ⟨_, _, rfl, (by decide +kernel)⟩) y7 (by decide) (by decide +kernel) (by omega)
def pG_areConnected  (μ : z_Mem) (i1 : Int32) (i2 : Int32) : Option ((Int32 ⊕ Nat) × z_Mem) := (pG_needGear μ i1).bind fun q1 => (match q1 with | none => (pG_needGear μ i2).bind fun q5 => (match q5 with | none => (pW_chainLength μ i1 i2).bind fun q9 => if q9.1 = (-1) then some ((.inl 0), q9.2) else some ((.inl 1), q9.2) | some E8 => some ((.inr E8), μ)) | some E4 => some ((.inr E4), μ))
theorem pG_areConnected_run  {μ : z_Mem} {i1 : Int32} {i2 : Int32}  {r : ((Int32 ⊕ Nat) × z_Mem)} (h : pG_areConnected μ i1 i2 = some r) : Rn 15 88 0 [(0, .ref 0), (1, .int i1), (2, .int i2)] [] μ (z_oX r.1) r.2 := by
  unfold pG_areConnected at h
  refine R_pure (pc := 0) (pc' := 1) (st' := [.ref 0]) (show z_pt 88 0 = some (3, .aload_n 0, []) by decide +kernel) rfl (fun _ _ _ => rfl) ?_
  refine R_pure (pc := 1) (pc' := 2) (st' := [.int i1, .ref 0]) (show z_pt 88 1 = some (3, .iload_n 1, []) by decide +kernel) rfl (fun _ _ _ => rfl) ?_
  obtain ⟨q1, e2, h⟩ := z_bs h
  have y13 := pG_needGear_run  e2
  cases x3h : q1 with
  | none =>
    rw [x3h] at h y13
    dsimp only at h
    refine R_call (pc := 2) (rr := []) (show z_pt 88 2 = some (3, .invokevirtual 98, [0, 147, 1, 3211, 3213, 9, 1001, 3214]) by decide +kernel) rfl (show z_r2 147 = some (9, 2, true) by decide +kernel) rfl rfl (Or.inr ⟨_, _, rfl, (by decide +kernel)⟩) y13 (by omega) ?_
    refine R_at2 (pc := 5) (st := []) ?_
    refine R_pure (pc := 5) (pc' := 6) (st' := [.ref 0]) (show z_pt 88 5 = some (3, .aload_n 0, []) by decide +kernel) rfl (fun _ _ _ => rfl) ?_
    refine R_pure (pc := 6) (pc' := 7) (st' := [.int i2, .ref 0]) (show z_pt 88 6 = some (3, .iload_n 2, []) by decide +kernel) rfl (fun _ _ _ => rfl) ?_
    obtain ⟨q5, e6, h⟩ := z_bs h
    have y12 := pG_needGear_run  e6
    cases x7h : q5 with
    | none =>
      rw [x7h] at h y12
      dsimp only at h
      refine R_call (pc := 7) (rr := []) (show z_pt 88 7 = some (3, .invokevirtual 98, [0, 147, 1, 3211, 3213, 9, 1001, 3214]) by decide +kernel) rfl (show z_r2 147 = some (9, 2, true) by decide +kernel) rfl rfl (Or.inr ⟨_, _, rfl, (by decide +kernel)⟩) y12 (by omega) ?_
      refine R_at2 (pc := 10) (st := []) ?_
      refine R_pure (pc := 10) (pc' := 11) (st' := [.ref 0]) (show z_pt 88 10 = some (3, .aload_n 0, []) by decide +kernel) rfl (fun _ _ _ => rfl) ?_
      refine R_getR (pc := 11) (a := 0) (b := 23) (show z_pt 88 11 = some (3, .getfield 30, [9, 3, 2042]) by decide +kernel) (by decide +kernel) ?_
      refine R_at (pc := 14) ?_
      refine R_pure (pc := 14) (pc' := 15) (st' := [.int i1, .ref 23]) (show z_pt 88 14 = some (3, .iload_n 1, []) by decide +kernel) rfl (fun _ _ _ => rfl) ?_
      refine R_pure (pc := 15) (pc' := 16) (st' := [.int i2, .int i1, .ref 23]) (show z_pt 88 15 = some (3, .iload_n 2, []) by decide +kernel) rfl (fun _ _ _ => rfl) ?_
      obtain ⟨q9, e10, h⟩ := z_bs h
      refine R_call (pc := 16) (rr := []) (show z_pt 88 16 = some (3, .invokevirtual 123, [0, 33, 2, 3170, 2134, 2135, 1009, 2136]) by decide +kernel) rfl (show z_r2 33 = some (3, 3, true) by decide +kernel) rfl rfl (Or.inr ⟨_, _, rfl, (by decide +kernel)⟩) (pW_chainLength_run  e10) (by omega) ?_
      refine R_at2 (pc := 19) (st := [.int q9.1]) ?_
      refine R_const (pc := 19) (pc' := 20) (v := (-1)) (show z_ptc 88 19 = some (20, (-1)) by decide +kernel) ?_
      refine R_icmeq (pc := 20) (t := 27) (show z_pt 88 20 = some (3, .if_icmp .eq 7, []) by decide +kernel) (by decide) (fun c11 => ?_) (fun c11 => ?_)
      · rw [if_pos c11] at h
        refine R_const (pc := 27) (pc' := 28) (v := 0) (show z_ptc 88 27 = some (28, 0) by decide +kernel) ?_
        cases h
        exact R_retZ (show z_pt 88 28 = some (3, .ireturn, []) by decide +kernel) (t := .boolean) (by decide +kernel) (by decide)
      · rw [if_neg c11] at h
        refine R_const (pc := 23) (pc' := 24) (v := 1) (show z_ptc 88 23 = some (24, 1) by decide +kernel) ?_
        refine R_pure (pc := 24) (pc' := 28) (show z_pt 88 24 = some (3, .goto 4, []) by decide +kernel) rfl (fun _ _ _ => rfl) ?_
        cases h
        exact R_retZ (show z_pt 88 28 = some (3, .ireturn, []) by decide +kernel) (t := .boolean) (by decide +kernel) (by decide)
    | some E8 =>
      rw [x7h] at h y12
      cases h
      exact R_callX (pc := 7) (rr := []) (show z_pt 88 7 = some (3, .invokevirtual 98, [0, 147, 1, 3211, 3213, 9, 1001, 3214]) by decide +kernel) rfl (show z_r2 147 = some (9, 2, true) by decide +kernel) rfl rfl (Or.inr ⟨_, _, rfl, (by decide +kernel)⟩) y12 (by decide) (by decide +kernel) (by omega)
  | some E4 =>
    rw [x3h] at h y13
    cases h
    exact R_callX (pc := 2) (rr := []) (show z_pt 88 2 = some (3, .invokevirtual 98, [0, 147, 1, 3211, 3213, 9, 1001, 3214]) by decide +kernel) rfl (show z_r2 147 = some (9, 2, true) by decide +kernel) rfl rfl (Or.inr ⟨_, _, rfl, (by decide +kernel)⟩) y13 (by decide) (by decide +kernel) (by omega)
def pG_trainSize  (μ : z_Mem) (i1 : Int32) : Option ((Int32 ⊕ Nat) × z_Mem) := (pG_needGear μ i1).bind fun q1 => (match q1 with | none => (pW_sizeOfTrain μ i1).bind fun q5 => some ((.inl q5.1), q5.2) | some E4 => some ((.inr E4), μ))
theorem pG_trainSize_run  {μ : z_Mem} {i1 : Int32}  {r : ((Int32 ⊕ Nat) × z_Mem)} (h : pG_trainSize μ i1 = some r) : Rn 15 89 0 [(0, .ref 0), (1, .int i1)] [] μ (z_oX r.1) r.2 := by
  unfold pG_trainSize at h
  refine R_pure (pc := 0) (pc' := 1) (st' := [.ref 0]) (show z_pt 89 0 = some (2, .aload_n 0, []) by decide +kernel) rfl (fun _ _ _ => rfl) ?_
  refine R_pure (pc := 1) (pc' := 2) (st' := [.int i1, .ref 0]) (show z_pt 89 1 = some (2, .iload_n 1, []) by decide +kernel) rfl (fun _ _ _ => rfl) ?_
  obtain ⟨q1, e2, h⟩ := z_bs h
  have y7 := pG_needGear_run  e2
  cases x3h : q1 with
  | none =>
    rw [x3h] at h y7
    dsimp only at h
    refine R_call (pc := 2) (rr := []) (show z_pt 89 2 = some (2, .invokevirtual 98, [0, 147, 1, 3211, 3213, 9, 1001, 3214]) by decide +kernel) rfl (show z_r2 147 = some (9, 2, true) by decide +kernel) rfl rfl (Or.inr ⟨_, _, rfl, (by decide +kernel)⟩) y7 (by omega) ?_
    refine R_at2 (pc := 5) (st := []) ?_
    refine R_pure (pc := 5) (pc' := 6) (st' := [.ref 0]) (show z_pt 89 5 = some (2, .aload_n 0, []) by decide +kernel) rfl (fun _ _ _ => rfl) ?_
    refine R_getR (pc := 6) (a := 0) (b := 23) (show z_pt 89 6 = some (2, .getfield 30, [9, 3, 2042]) by decide +kernel) (by decide +kernel) ?_
    refine R_at (pc := 9) ?_
    refine R_pure (pc := 9) (pc' := 10) (st' := [.int i1, .ref 23]) (show z_pt 89 9 = some (2, .iload_n 1, []) by decide +kernel) rfl (fun _ _ _ => rfl) ?_
    obtain ⟨q5, e6, h⟩ := z_bs h
    refine R_call (pc := 10) (rr := []) (show z_pt 89 10 = some (2, .invokevirtual 126, [0, 35, 1, 4021, 4022, 4023, 1009, 4024]) by decide +kernel) rfl (show z_r2 35 = some (3, 2, true) by decide +kernel) rfl rfl (Or.inr ⟨_, _, rfl, (by decide +kernel)⟩) (pW_sizeOfTrain_run  e6) (by omega) ?_
    refine R_at2 (pc := 13) (st := [.int q5.1]) ?_
    cases h
    exact R_retI (show z_pt 89 13 = some (2, .ireturn, []) by decide +kernel) (by decide +kernel)
  | some E4 =>
    rw [x3h] at h y7
    cases h
    exact R_callX (pc := 2) (rr := []) (show z_pt 89 2 = some (2, .invokevirtual 98, [0, 147, 1, 3211, 3213, 9, 1001, 3214]) by decide +kernel) rfl (show z_r2 147 = some (9, 2, true) by decide +kernel) rfl rfl (Or.inr ⟨_, _, rfl, (by decide +kernel)⟩) y7 (by decide) (by decide +kernel) (by omega)
def pG_trainCount  (μ : z_Mem)  : Option (Int32 × z_Mem) := (pW_countByWalks μ).bind fun q1 => some (q1.1, q1.2)
theorem pG_trainCount_run  {μ : z_Mem}   {r : (Int32 × z_Mem)} (h : pG_trainCount μ = some r) : Rn 15 90 0 [(0, .ref 0)] [] μ (.inl (some (.int r.1))) r.2 := by
  unfold pG_trainCount at h
  refine R_pure (pc := 0) (pc' := 1) (st' := [.ref 0]) (show z_pt 90 0 = some (1, .aload_n 0, []) by decide +kernel) rfl (fun _ _ _ => rfl) ?_
  refine R_getR (pc := 1) (a := 0) (b := 23) (show z_pt 90 1 = some (1, .getfield 30, [9, 3, 2042]) by decide +kernel) (by decide +kernel) ?_
  refine R_at (pc := 4) ?_
  obtain ⟨q1, e2, h⟩ := z_bs h
  refine R_call (pc := 4) (rr := []) (show z_pt 90 4 = some (1, .invokevirtual 129, [0, 36, 0, 2082, 2083, 2084, 1009, 2085]) by decide +kernel) rfl (show z_r2 36 = some (3, 3, true) by decide +kernel) rfl rfl (Or.inr ⟨_, _, rfl, (by decide +kernel)⟩) (pW_countByWalks_run  e2) (by omega) ?_
  refine R_at2 (pc := 7) (st := [.int q1.1]) ?_
  cases h
  exact R_retI (show z_pt 90 7 = some (1, .ireturn, []) by decide +kernel) (by decide +kernel)
def pG_trainCountByUnions  (μ : z_Mem)  : Option (Int32 × z_Mem) := (pW_countByUniting μ).bind fun q1 => some (q1.1, q1.2)
theorem pG_trainCountByUnions_run  {μ : z_Mem}   {r : (Int32 × z_Mem)} (h : pG_trainCountByUnions μ = some r) : Rn 2 91 0 [(0, .ref 0)] [] μ (.inl (some (.int r.1))) r.2 := by
  unfold pG_trainCountByUnions at h
  refine R_pure (pc := 0) (pc' := 1) (st' := [.ref 0]) (show z_pt 91 0 = some (1, .aload_n 0, []) by decide +kernel) rfl (fun _ _ _ => rfl) ?_
  refine R_getR (pc := 1) (a := 0) (b := 23) (show z_pt 91 1 = some (1, .getfield 30, [9, 3, 2042]) by decide +kernel) (by decide +kernel) ?_
  refine R_at (pc := 4) ?_
  obtain ⟨q1, e2, h⟩ := z_bs h
  refine R_call (pc := 4) (rr := []) (show z_pt 91 4 = some (1, .invokevirtual 133, [0, 39, 0, 2105, 2106, 2107, 1009, 2108]) by decide +kernel) rfl (show z_r2 39 = some (3, 5, true) by decide +kernel) rfl rfl (Or.inr ⟨_, _, rfl, (by decide +kernel)⟩) (pW_countByUniting_run  e2) (by omega) ?_
  refine R_at2 (pc := 7) (st := [.int q1.1]) ?_
  cases h
  exact R_retI (show z_pt 91 7 = some (1, .ireturn, []) by decide +kernel) (by decide +kernel)
def pG_turnedTeeth  (μ : z_Mem)  : Option Int32 := some (μ 2 2)
theorem pG_turnedTeeth_run  {μ : z_Mem}   {r : Int32} (h : pG_turnedTeeth μ = some r) : Rn 0 92 0 [(0, .ref 0)] [] μ (.inl (some (.int r))) μ := by
  unfold pG_turnedTeeth at h
  refine R_pure (pc := 0) (pc' := 1) (st' := [.ref 0]) (show z_pt 92 0 = some (1, .aload_n 0, []) by decide +kernel) rfl (fun _ _ _ => rfl) ?_
  refine R_getR (pc := 1) (a := 0) (b := 1) (show z_pt 92 1 = some (1, .getfield 17, [9, 0, 2039]) by decide +kernel) (by decide +kernel) ?_
  refine R_at (pc := 4) ?_
  refine R_getR (pc := 4) (a := 1) (b := 2) (show z_pt 92 4 = some (1, .getfield 23, [7, 0, 1173]) by decide +kernel) (by decide +kernel) ?_
  refine R_at (pc := 7) ?_
  refine R_getI (pc := 7) (a := 2) (show z_pt 92 7 = some (1, .getfield 136, [2, 2, 1056]) by decide +kernel) (by decide +kernel) ?_
  refine R_at (pc := 10) ?_
  cases h
  exact R_retI (show z_pt 92 10 = some (1, .ireturn, []) by decide +kernel) (by decide +kernel)
def pG_needConnected  (μ : z_Mem) (i1 : Int32) (i2 : Int32) : Option ((Option Nat) × z_Mem) := (pG_needGear μ i1).bind fun q1 => (match q1 with | none => (pG_needGear μ i2).bind fun q5 => (match q5 with | none => (pW_chainLength μ i1 i2).bind fun q9 => if q9.1 = (-1) then some ((some 3), q9.2) else some (none, q9.2) | some E8 => some ((some E8), μ)) | some E4 => some ((some E4), μ))
theorem pG_needConnected_run  {μ : z_Mem} {i1 : Int32} {i2 : Int32}  {r : ((Option Nat) × z_Mem)} (h : pG_needConnected μ i1 i2 = some r) : Rn 15 150 0 [(0, .ref 0), (1, .int i1), (2, .int i2)] [] μ (z_oU r.1) r.2 := by
  unfold pG_needConnected at h
  refine R_pure (pc := 0) (pc' := 1) (st' := [.ref 0]) (show z_pt 150 0 = some (3, .aload_n 0, []) by decide +kernel) rfl (fun _ _ _ => rfl) ?_
  refine R_pure (pc := 1) (pc' := 2) (st' := [.int i1, .ref 0]) (show z_pt 150 1 = some (3, .iload_n 1, []) by decide +kernel) rfl (fun _ _ _ => rfl) ?_
  obtain ⟨q1, e2, h⟩ := z_bs h
  have y13 := pG_needGear_run  e2
  cases x3h : q1 with
  | none =>
    rw [x3h] at h y13
    dsimp only at h
    refine R_call (pc := 2) (rr := []) (show z_pt 150 2 = some (3, .invokevirtual 98, [0, 147, 1, 3211, 3213, 9, 1001, 3214]) by decide +kernel) rfl (show z_r2 147 = some (9, 2, true) by decide +kernel) rfl rfl (Or.inr ⟨_, _, rfl, (by decide +kernel)⟩) y13 (by omega) ?_
    refine R_at2 (pc := 5) (st := []) ?_
    refine R_pure (pc := 5) (pc' := 6) (st' := [.ref 0]) (show z_pt 150 5 = some (3, .aload_n 0, []) by decide +kernel) rfl (fun _ _ _ => rfl) ?_
    refine R_pure (pc := 6) (pc' := 7) (st' := [.int i2, .ref 0]) (show z_pt 150 6 = some (3, .iload_n 2, []) by decide +kernel) rfl (fun _ _ _ => rfl) ?_
    obtain ⟨q5, e6, h⟩ := z_bs h
    have y12 := pG_needGear_run  e6
    cases x7h : q5 with
    | none =>
      rw [x7h] at h y12
      dsimp only at h
      refine R_call (pc := 7) (rr := []) (show z_pt 150 7 = some (3, .invokevirtual 98, [0, 147, 1, 3211, 3213, 9, 1001, 3214]) by decide +kernel) rfl (show z_r2 147 = some (9, 2, true) by decide +kernel) rfl rfl (Or.inr ⟨_, _, rfl, (by decide +kernel)⟩) y12 (by omega) ?_
      refine R_at2 (pc := 10) (st := []) ?_
      refine R_pure (pc := 10) (pc' := 11) (st' := [.ref 0]) (show z_pt 150 10 = some (3, .aload_n 0, []) by decide +kernel) rfl (fun _ _ _ => rfl) ?_
      refine R_getR (pc := 11) (a := 0) (b := 23) (show z_pt 150 11 = some (3, .getfield 30, [9, 3, 2042]) by decide +kernel) (by decide +kernel) ?_
      refine R_at (pc := 14) ?_
      refine R_pure (pc := 14) (pc' := 15) (st' := [.int i1, .ref 23]) (show z_pt 150 14 = some (3, .iload_n 1, []) by decide +kernel) rfl (fun _ _ _ => rfl) ?_
      refine R_pure (pc := 15) (pc' := 16) (st' := [.int i2, .int i1, .ref 23]) (show z_pt 150 15 = some (3, .iload_n 2, []) by decide +kernel) rfl (fun _ _ _ => rfl) ?_
      obtain ⟨q9, e10, h⟩ := z_bs h
      refine R_call (pc := 16) (rr := []) (show z_pt 150 16 = some (3, .invokevirtual 123, [0, 33, 2, 3170, 2134, 2135, 1009, 2136]) by decide +kernel) rfl (show z_r2 33 = some (3, 3, true) by decide +kernel) rfl rfl (Or.inr ⟨_, _, rfl, (by decide +kernel)⟩) (pW_chainLength_run  e10) (by omega) ?_
      refine R_at2 (pc := 19) (st := [.int q9.1]) ?_
      refine R_const (pc := 19) (pc' := 20) (v := (-1)) (show z_ptc 150 19 = some (20, (-1)) by decide +kernel) ?_
      refine R_icmne (pc := 20) (t := 31) (show z_pt 150 20 = some (3, .if_icmp .ne 11, []) by decide +kernel) (by decide) (fun c11 => ?_) (fun c11 => ?_)
      · rw [if_neg c11] at h
        cases h
        exact R_retV (show z_pt 150 31 = some (3, .return_, []) by decide +kernel) (by decide +kernel)
      · rw [if_pos c11] at h
        cases h
        exact R_thr (show z_thx 150 23 = some 3 by decide +kernel) (by omega)
    | some E8 =>
      rw [x7h] at h y12
      cases h
      exact R_callX (pc := 7) (rr := []) (show z_pt 150 7 = some (3, .invokevirtual 98, [0, 147, 1, 3211, 3213, 9, 1001, 3214]) by decide +kernel) rfl (show z_r2 147 = some (9, 2, true) by decide +kernel) rfl rfl (Or.inr ⟨_, _, rfl, (by decide +kernel)⟩) y12 (by decide) (by decide +kernel) (by omega)
  | some E4 =>
    rw [x3h] at h y13
    cases h
    exact R_callX (pc := 2) (rr := []) (show z_pt 150 2 = some (3, .invokevirtual 98, [0, 147, 1, 3211, 3213, 9, 1001, 3214]) by decide +kernel) rfl (show z_r2 147 = some (9, 2, true) by decide +kernel) rfl rfl (Or.inr ⟨_, _, rfl, (by decide +kernel)⟩) y13 (by decide) (by decide +kernel) (by omega)
def pG_ratioNumerator  (μ : z_Mem) (i1 : Int32) (i2 : Int32) : Option ((Int32 ⊕ Nat) × z_Mem) := (pG_needConnected μ i1 i2).bind fun q1 => (match q1.1 with | none => (pW_numerator q1.2 i1 i2).bind fun q5 => some ((.inl q5.1), q5.2) | some E4 => some ((.inr E4), q1.2))
theorem pG_ratioNumerator_run  {μ : z_Mem} {i1 : Int32} {i2 : Int32}  {r : ((Int32 ⊕ Nat) × z_Mem)} (h : pG_ratioNumerator μ i1 i2 = some r) : Rn 16 93 0 [(0, .ref 0), (1, .int i1), (2, .int i2)] [] μ (z_oX r.1) r.2 := by
  unfold pG_ratioNumerator at h
  refine R_pure (pc := 0) (pc' := 1) (st' := [.ref 0]) (show z_pt 93 0 = some (3, .aload_n 0, []) by decide +kernel) rfl (fun _ _ _ => rfl) ?_
  refine R_pure (pc := 1) (pc' := 2) (st' := [.int i1, .ref 0]) (show z_pt 93 1 = some (3, .iload_n 1, []) by decide +kernel) rfl (fun _ _ _ => rfl) ?_
  refine R_pure (pc := 2) (pc' := 3) (st' := [.int i2, .int i1, .ref 0]) (show z_pt 93 2 = some (3, .iload_n 2, []) by decide +kernel) rfl (fun _ _ _ => rfl) ?_
  obtain ⟨q1, e2, h⟩ := z_bs h
  have y7 := pG_needConnected_run  e2
  cases x3h : q1.1 with
  | none =>
    rw [x3h] at h y7
    dsimp only at h
    refine R_call (pc := 3) (rr := []) (show z_pt 93 3 = some (3, .invokevirtual 139, [0, 150, 2, 4032, 4034, 11, 1001, 4035]) by decide +kernel) rfl (show z_r2 150 = some (9, 3, true) by decide +kernel) rfl rfl (Or.inr ⟨_, _, rfl, (by decide +kernel)⟩) y7 (by omega) ?_
    refine R_at2 (pc := 6) (st := []) ?_
    refine R_pure (pc := 6) (pc' := 7) (st' := [.ref 0]) (show z_pt 93 6 = some (3, .aload_n 0, []) by decide +kernel) rfl (fun _ _ _ => rfl) ?_
    refine R_getR (pc := 7) (a := 0) (b := 23) (show z_pt 93 7 = some (3, .getfield 30, [9, 3, 2042]) by decide +kernel) (by decide +kernel) ?_
    refine R_at (pc := 10) ?_
    refine R_pure (pc := 10) (pc' := 11) (st' := [.int i1, .ref 23]) (show z_pt 93 10 = some (3, .iload_n 1, []) by decide +kernel) rfl (fun _ _ _ => rfl) ?_
    refine R_pure (pc := 11) (pc' := 12) (st' := [.int i2, .int i1, .ref 23]) (show z_pt 93 11 = some (3, .iload_n 2, []) by decide +kernel) rfl (fun _ _ _ => rfl) ?_
    obtain ⟨q5, e6, h⟩ := z_bs h
    refine R_call (pc := 12) (rr := []) (show z_pt 93 12 = some (3, .invokevirtual 143, [0, 41, 2, 4036, 2141, 2142, 1009, 2143]) by decide +kernel) rfl (show z_r2 41 = some (3, 4, true) by decide +kernel) rfl rfl (Or.inr ⟨_, _, rfl, (by decide +kernel)⟩) (pW_numerator_run  e6) (by omega) ?_
    refine R_at2 (pc := 15) (st := [.int q5.1]) ?_
    cases h
    exact R_retI (show z_pt 93 15 = some (3, .ireturn, []) by decide +kernel) (by decide +kernel)
  | some E4 =>
    rw [x3h] at h y7
    cases h
    exact R_callX (pc := 3) (rr := []) (show z_pt 93 3 = some (3, .invokevirtual 139, [0, 150, 2, 4032, 4034, 11, 1001, 4035]) by decide +kernel) rfl (show z_r2 150 = some (9, 3, true) by decide +kernel) rfl rfl (Or.inr ⟨_, _, rfl, (by decide +kernel)⟩) y7 (by decide) (by decide +kernel) (by omega)
def pG_ratioDenominator  (μ : z_Mem) (i1 : Int32) (i2 : Int32) : Option ((Int32 ⊕ Nat) × z_Mem) := (pG_needConnected μ i1 i2).bind fun q1 => (match q1.1 with | none => (pW_denominator q1.2 i1 i2).bind fun q5 => some ((.inl q5), q1.2) | some E4 => some ((.inr E4), q1.2))
theorem pG_ratioDenominator_run  {μ : z_Mem} {i1 : Int32} {i2 : Int32}  {r : ((Int32 ⊕ Nat) × z_Mem)} (h : pG_ratioDenominator μ i1 i2 = some r) : Rn 16 94 0 [(0, .ref 0), (1, .int i1), (2, .int i2)] [] μ (z_oX r.1) r.2 := by
  unfold pG_ratioDenominator at h
  refine R_pure (pc := 0) (pc' := 1) (st' := [.ref 0]) (show z_pt 94 0 = some (3, .aload_n 0, []) by decide +kernel) rfl (fun _ _ _ => rfl) ?_
  refine R_pure (pc := 1) (pc' := 2) (st' := [.int i1, .ref 0]) (show z_pt 94 1 = some (3, .iload_n 1, []) by decide +kernel) rfl (fun _ _ _ => rfl) ?_
  refine R_pure (pc := 2) (pc' := 3) (st' := [.int i2, .int i1, .ref 0]) (show z_pt 94 2 = some (3, .iload_n 2, []) by decide +kernel) rfl (fun _ _ _ => rfl) ?_
  obtain ⟨q1, e2, h⟩ := z_bs h
  have y7 := pG_needConnected_run  e2
  cases x3h : q1.1 with
  | none =>
    rw [x3h] at h y7
    dsimp only at h
    refine R_call (pc := 3) (rr := []) (show z_pt 94 3 = some (3, .invokevirtual 139, [0, 150, 2, 4032, 4034, 11, 1001, 4035]) by decide +kernel) rfl (show z_r2 150 = some (9, 3, true) by decide +kernel) rfl rfl (Or.inr ⟨_, _, rfl, (by decide +kernel)⟩) y7 (by omega) ?_
    refine R_at2 (pc := 6) (st := []) ?_
    refine R_pure (pc := 6) (pc' := 7) (st' := [.ref 0]) (show z_pt 94 6 = some (3, .aload_n 0, []) by decide +kernel) rfl (fun _ _ _ => rfl) ?_
    refine R_getR (pc := 7) (a := 0) (b := 23) (show z_pt 94 7 = some (3, .getfield 30, [9, 3, 2042]) by decide +kernel) (by decide +kernel) ?_
    refine R_at (pc := 10) ?_
    refine R_pure (pc := 10) (pc' := 11) (st' := [.int i1, .ref 23]) (show z_pt 94 10 = some (3, .iload_n 1, []) by decide +kernel) rfl (fun _ _ _ => rfl) ?_
    refine R_pure (pc := 11) (pc' := 12) (st' := [.int i2, .int i1, .ref 23]) (show z_pt 94 11 = some (3, .iload_n 2, []) by decide +kernel) rfl (fun _ _ _ => rfl) ?_
    obtain ⟨q5, e6, h⟩ := z_bs h
    refine R_call (pc := 12) (rr := []) (show z_pt 94 12 = some (3, .invokevirtual 146, [0, 42, 2, 4044, 4045, 4046, 1009, 4047]) by decide +kernel) rfl (show z_r2 42 = some (3, 3, true) by decide +kernel) rfl rfl (Or.inr ⟨_, _, rfl, (by decide +kernel)⟩) (pW_denominator_run  e6) (by omega) ?_
    refine R_at2 (pc := 15) (st := [.int q5]) ?_
    cases h
    exact R_retI (show z_pt 94 15 = some (3, .ireturn, []) by decide +kernel) (by decide +kernel)
  | some E4 =>
    rw [x3h] at h y7
    cases h
    exact R_callX (pc := 3) (rr := []) (show z_pt 94 3 = some (3, .invokevirtual 139, [0, 150, 2, 4032, 4034, 11, 1001, 4035]) by decide +kernel) rfl (show z_r2 150 = some (9, 3, true) by decide +kernel) rfl rfl (Or.inr ⟨_, _, rfl, (by decide +kernel)⟩) y7 (by decide) (by decide +kernel) (by omega)
def pG_ratioNumeratorByChain  (μ : z_Mem) (i1 : Int32) (i2 : Int32) : Option ((Int32 ⊕ Nat) × z_Mem) := (pG_needConnected μ i1 i2).bind fun q1 => (match q1.1 with | none => (pW_numeratorAlongChain q1.2 i1 i2).bind fun q5 => some ((.inl q5.1), q5.2) | some E4 => some ((.inr E4), q1.2))
theorem pG_ratioNumeratorByChain_run  {μ : z_Mem} {i1 : Int32} {i2 : Int32}  {r : ((Int32 ⊕ Nat) × z_Mem)} (h : pG_ratioNumeratorByChain μ i1 i2 = some r) : Rn 16 95 0 [(0, .ref 0), (1, .int i1), (2, .int i2)] [] μ (z_oX r.1) r.2 := by
  unfold pG_ratioNumeratorByChain at h
  refine R_pure (pc := 0) (pc' := 1) (st' := [.ref 0]) (show z_pt 95 0 = some (3, .aload_n 0, []) by decide +kernel) rfl (fun _ _ _ => rfl) ?_
  refine R_pure (pc := 1) (pc' := 2) (st' := [.int i1, .ref 0]) (show z_pt 95 1 = some (3, .iload_n 1, []) by decide +kernel) rfl (fun _ _ _ => rfl) ?_
  refine R_pure (pc := 2) (pc' := 3) (st' := [.int i2, .int i1, .ref 0]) (show z_pt 95 2 = some (3, .iload_n 2, []) by decide +kernel) rfl (fun _ _ _ => rfl) ?_
  obtain ⟨q1, e2, h⟩ := z_bs h
  have y7 := pG_needConnected_run  e2
  cases x3h : q1.1 with
  | none =>
    rw [x3h] at h y7
    dsimp only at h
    refine R_call (pc := 3) (rr := []) (show z_pt 95 3 = some (3, .invokevirtual 139, [0, 150, 2, 4032, 4034, 11, 1001, 4035]) by decide +kernel) rfl (show z_r2 150 = some (9, 3, true) by decide +kernel) rfl rfl (Or.inr ⟨_, _, rfl, (by decide +kernel)⟩) y7 (by omega) ?_
    refine R_at2 (pc := 6) (st := []) ?_
    refine R_pure (pc := 6) (pc' := 7) (st' := [.ref 0]) (show z_pt 95 6 = some (3, .aload_n 0, []) by decide +kernel) rfl (fun _ _ _ => rfl) ?_
    refine R_getR (pc := 7) (a := 0) (b := 23) (show z_pt 95 7 = some (3, .getfield 30, [9, 3, 2042]) by decide +kernel) (by decide +kernel) ?_
    refine R_at (pc := 10) ?_
    refine R_pure (pc := 10) (pc' := 11) (st' := [.int i1, .ref 23]) (show z_pt 95 10 = some (3, .iload_n 1, []) by decide +kernel) rfl (fun _ _ _ => rfl) ?_
    refine R_pure (pc := 11) (pc' := 12) (st' := [.int i2, .int i1, .ref 23]) (show z_pt 95 11 = some (3, .iload_n 2, []) by decide +kernel) rfl (fun _ _ _ => rfl) ?_
    obtain ⟨q5, e6, h⟩ := z_bs h
    refine R_call (pc := 12) (rr := []) (show z_pt 95 12 = some (3, .invokevirtual 149, [0, 43, 2, 4055, 2151, 2152, 1009, 2153]) by decide +kernel) rfl (show z_r2 43 = some (3, 9, true) by decide +kernel) rfl rfl (Or.inr ⟨_, _, rfl, (by decide +kernel)⟩) (pW_numeratorAlongChain_run  e6) (by omega) ?_
    refine R_at2 (pc := 15) (st := [.int q5.1]) ?_
    cases h
    exact R_retI (show z_pt 95 15 = some (3, .ireturn, []) by decide +kernel) (by decide +kernel)
  | some E4 =>
    rw [x3h] at h y7
    cases h
    exact R_callX (pc := 3) (rr := []) (show z_pt 95 3 = some (3, .invokevirtual 139, [0, 150, 2, 4032, 4034, 11, 1001, 4035]) by decide +kernel) rfl (show z_r2 150 = some (9, 3, true) by decide +kernel) rfl rfl (Or.inr ⟨_, _, rfl, (by decide +kernel)⟩) y7 (by decide) (by decide +kernel) (by omega)
end ZP3
