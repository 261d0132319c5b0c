section ZP2
def pW_reduced_L13_B (R : Int32 → Int32 → Int32 → Option Int32)  (μ : z_Mem) (f0 : Int32) (f1 : Int32) (K : Int32 → Int32 → Int32 → Option Int32) (a2 : Int32) (a3 : Int32) (a4 : Int32) : Option Int32 := if 100 ≤ a4 then K a2 a3 a4 else if a3 = 0 then K a2 a3 a4 else if a3 = 0 then none else R a3 (a2 - a2 / a3 * a3) (a4 + 1)
def pW_reduced_L13 : Nat → z_Mem → Int32 → Int32 → (Int32 → Int32 → Int32 → Option Int32) → Int32 → Int32 → Int32 → Option Int32
  | 0 => fun _ _ _ _ _ _ _ => none
  | n + 1 => fun μ f0 f1 K a2 a3 a4 => pW_reduced_L13_B (pW_reduced_L13 n μ f0 f1 K) μ f0 f1 K a2 a3 a4
theorem pW_reduced_L13_run  (μ : z_Mem) (f0 : Int32) (f1 : Int32) (K : Int32 → Int32 → Int32 → Option Int32)  (D : Nat) (hD : 1 ≤ D) (hK : ∀ (a2 a3 a4 : Int32) (r : Int32), K a2 a3 a4 = some r → Rn D 44 40 [(0, .int f0), (1, .int f1), (2, .int a2), (3, .int a3), (4, .int a4)] [] μ (.inl (some (.int r))) μ) : ∀ (n : Nat) (a2 : Int32) (a3 : Int32) (a4 : Int32) (r : Int32), pW_reduced_L13 n μ f0 f1 K a2 a3 a4 = some r → Rn D 44 13 [(0, .int f0), (1, .int f1), (2, .int a2), (3, .int a3), (4, .int a4)] [] μ (.inl (some (.int r))) μ := by
  intro n
  induction n with
  | zero => intro a2 a3 a4 r h; cases h
  | succ n ih =>
    intro a2 a3 a4 r h
    have h : pW_reduced_L13_B (pW_reduced_L13 n μ f0 f1 K) μ f0 f1 K a2 a3 a4 = some r := h
    unfold pW_reduced_L13_B at h
    refine R_pure (pc := 13) (pc' := 15) (st' := [.int a4]) (show z_pt 44 13 = some (6, .iload 4, []) by decide +kernel) rfl (fun _ _ _ => rfl) ?_
    refine R_const (pc := 15) (pc' := 17) (v := 100) (show z_ptc 44 15 = some (17, 100) by decide +kernel) ?_
    refine R_icmge (pc := 17) (t := 40) (show z_pt 44 17 = some (6, .if_icmp .ge 23, []) by decide +kernel) (by decide) (fun c5 => ?_) (fun c5 => ?_)
    · rw [if_pos c5] at h
      exact hK _ _ _  _ h
    · rw [if_neg c5] at h
      refine R_pure (pc := 20) (pc' := 21) (st' := [.int a3]) (show z_pt 44 20 = some (6, .iload_n 3, []) by decide +kernel) rfl (fun _ _ _ => rfl) ?_
      refine R_ifeq (pc := 21) (t := 40) (show z_pt 44 21 = some (6, .ifCond .eq 19, []) by decide +kernel) (by decide) (fun c6 => ?_) (fun c6 => ?_)
      · rw [if_pos c6] at h
        exact hK _ _ _  _ h
      · rw [if_neg c6] at h
        refine R_pure (pc := 24) (pc' := 25) (st' := [.int a2]) (show z_pt 44 24 = some (6, .iload_n 2, []) by decide +kernel) rfl (fun _ _ _ => rfl) ?_
        refine R_pure (pc := 25) (pc' := 26) (st' := [.int a3, .int a2]) (show z_pt 44 25 = some (6, .iload_n 3, []) by decide +kernel) rfl (fun _ _ _ => rfl) ?_
        obtain ⟨g7, h⟩ := z_ng h
        refine R_rem (x := a2) (y := a3) (show z_pt 44 26 = some (6, .irem, []) by decide +kernel) g7 ?_
        refine R_pure (pc := 27) (pc' := 29) (ls' := [(0, .int f0), (1, .int f1), (2, .int a2), (3, .int a3), (4, .int a4), (5, .int (a2 - a2 / a3 * a3))]) (st' := []) (show z_pt 44 27 = some (6, .istore 5, []) by decide +kernel) rfl (fun _ _ _ => rfl) ?_
        refine R_pure (pc := 29) (pc' := 30) (st' := [.int a3]) (show z_pt 44 29 = some (6, .iload_n 3, []) by decide +kernel) rfl (fun _ _ _ => rfl) ?_
        refine R_pure (pc := 30) (pc' := 31) (ls' := [(0, .int f0), (1, .int f1), (2, .int a3), (3, .int a3), (4, .int a4), (5, .int (a2 - a2 / a3 * a3))]) (st' := []) (show z_pt 44 30 = some (6, .istore_n 2, []) by decide +kernel) rfl (fun _ _ _ => rfl) ?_
        refine R_pure (pc := 31) (pc' := 33) (st' := [.int (a2 - a2 / a3 * a3)]) (show z_pt 44 31 = some (6, .iload 5, []) by decide +kernel) rfl (fun _ _ _ => rfl) ?_
        refine R_pure (pc := 33) (pc' := 34) (ls' := [(0, .int f0), (1, .int f1), (2, .int a3), (3, .int (a2 - a2 / a3 * a3)), (4, .int a4), (5, .int (a2 - a2 / a3 * a3))]) (st' := []) (show z_pt 44 33 = some (6, .istore_n 3, []) by decide +kernel) rfl (fun _ _ _ => rfl) ?_
        refine R_inc (pc := 34) (pc' := 37) (ls' := [(0, .int f0), (1, .int f1), (2, .int a3), (3, .int (a2 - a2 / a3 * a3)), (4, .int (a4 + 1)), (5, .int (a2 - a2 / a3 * a3))]) (c := 1) (show z_pt 44 34 = some (6, .iinc 4 1, []) by decide +kernel) (by decide) rfl rfl ?_
        refine R_pure (pc := 37) (pc' := 13) (ls' := [(0, .int f0), (1, .int f1), (2, .int a3), (3, .int (a2 - a2 / a3 * a3)), (4, .int (a4 + 1))]) (st' := []) (show z_pt 44 37 = some (6, .goto (-24), [5]) by decide +kernel) rfl (fun _ _ _ => rfl) ?_
        exact ih _ _ _ _  h
def pW_reduced  (μ : z_Mem) (i0 : Int32) (i1 : Int32) : Option Int32 := (pJ_abs μ i0).bind fun q1 => (pJ_abs μ i1).bind fun q3 => pW_reduced_L13 z_fu μ i0 i1 (fun k8 k9 k10 => if k8 ≤ 1 then some i0 else if k8 = 0 then none else some (i0 / k8)) q1 q3 0
theorem pW_reduced_run  {μ : z_Mem} {i0 : Int32} {i1 : Int32}  {r : Int32} (h : pW_reduced μ i0 i1 = some r) : Rn 1 44 0 [(0, .int i0), (1, .int i1)] [] μ (.inl (some (.int r))) μ := by
  unfold pW_reduced at h
  refine R_pure (pc := 0) (pc' := 1) (st' := [.int i0]) (show z_pt 44 0 = some (6, .iload_n 0, []) by decide +kernel) rfl (fun _ _ _ => rfl) ?_
  obtain ⟨q1, e2, h⟩ := z_bs h
  refine R_call (pc := 1) (rr := []) (show z_pt 44 1 = some (6, .invokestatic 77, [1, 158, 1, 3128, 3038, 0, 1008, 3039]) by decide +kernel) rfl (show z_r2 158 = some (12, 1, true) by decide +kernel) rfl rfl (Or.inl (by decide)) (pJ_abs_run  e2) (by omega) ?_
  refine R_at2 (pc := 4) (st := [.int q1]) ?_
  refine R_pure (pc := 4) (pc' := 5) (ls' := [(0, .int i0), (1, .int i1), (2, .int q1)]) (st' := []) (show z_pt 44 4 = some (6, .istore_n 2, []) by decide +kernel) rfl (fun _ _ _ => rfl) ?_
  refine R_pure (pc := 5) (pc' := 6) (st' := [.int i1]) (show z_pt 44 5 = some (6, .iload_n 1, []) by decide +kernel) rfl (fun _ _ _ => rfl) ?_
  obtain ⟨q3, e4, h⟩ := z_bs h
  refine R_call (pc := 6) (rr := []) (show z_pt 44 6 = some (6, .invokestatic 77, [1, 158, 1, 3128, 3038, 0, 1008, 3039]) by decide +kernel) rfl (show z_r2 158 = some (12, 1, true) by decide +kernel) rfl rfl (Or.inl (by decide)) (pJ_abs_run  e4) (by omega) ?_
  refine R_at2 (pc := 9) (st := [.int q3]) ?_
  refine R_pure (pc := 9) (pc' := 10) (ls' := [(0, .int i0), (1, .int i1), (2, .int q1), (3, .int q3)]) (st' := []) (show z_pt 44 9 = some (6, .istore_n 3, []) by decide +kernel) rfl (fun _ _ _ => rfl) ?_
  refine R_const (pc := 10) (pc' := 11) (v := 0) (show z_ptc 44 10 = some (11, 0) by decide +kernel) ?_
  refine R_pure (pc := 11) (pc' := 13) (ls' := [(0, .int i0), (1, .int i1), (2, .int q1), (3, .int q3), (4, .int 0)]) (st' := []) (show z_pt 44 11 = some (6, .istore 4, []) by decide +kernel) rfl (fun _ _ _ => rfl) ?_
  refine pW_reduced_L13_run  _ _ _ _  _ (by omega) ?_ _ _ _ _ _ h
  intro k8 k9 k10 r h
  refine R_pure (pc := 40) (pc' := 41) (st' := [.int k8]) (show z_pt 44 40 = some (6, .iload_n 2, []) by decide +kernel) rfl (fun _ _ _ => rfl) ?_
  refine R_const (pc := 41) (pc' := 42) (v := 1) (show z_ptc 44 41 = some (42, 1) by decide +kernel) ?_
  refine R_icmle (pc := 42) (t := 51) (show z_pt 44 42 = some (6, .if_icmp .le 9, []) by decide +kernel) (by decide) (fun c11 => ?_) (fun c11 => ?_)
  · rw [if_pos c11] at h
    refine R_pure (pc := 51) (pc' := 52) (st' := [.int i0]) (show z_pt 44 51 = some (6, .iload_n 0, []) by decide +kernel) rfl (fun _ _ _ => rfl) ?_
    cases h
    exact R_retI (show z_pt 44 52 = some (6, .ireturn, []) by decide +kernel) (by decide +kernel)
  · rw [if_neg c11] at h
    refine R_pure (pc := 45) (pc' := 46) (st' := [.int i0]) (show z_pt 44 45 = some (6, .iload_n 0, []) by decide +kernel) rfl (fun _ _ _ => rfl) ?_
    refine R_pure (pc := 46) (pc' := 47) (st' := [.int k8, .int i0]) (show z_pt 44 46 = some (6, .iload_n 2, []) by decide +kernel) rfl (fun _ _ _ => rfl) ?_
    obtain ⟨g12, h⟩ := z_ng h
    refine R_div (x := i0) (y := k8) (show z_pt 44 47 = some (6, .idiv, []) by decide +kernel) g12 ?_
    refine R_pure (pc := 48) (pc' := 52) (show z_pt 44 48 = some (6, .goto 4, []) by decide +kernel) rfl (fun _ _ _ => rfl) ?_
    cases h
    exact R_retI (show z_pt 44 52 = some (6, .ireturn, []) by decide +kernel) (by decide +kernel)
def pW_numerator  (μ : z_Mem) (i1 : Int32) (i2 : Int32) : Option (Int32 × z_Mem) := (z_rd μ 3 10 i1).bind fun v1 => (z_rd μ 3 10 i2).bind fun v3 => (pW_reduced μ v1 v3).bind fun q5 => (pW_chainLength μ i1 i2).bind fun q7 => if (q7.1 - q7.1 / 2 * 2) = 0 then some (q5, q7.2) else some ((-q5), q7.2)
theorem pW_numerator_run  {μ : z_Mem} {i1 : Int32} {i2 : Int32}  {r : (Int32 × z_Mem)} (h : pW_numerator μ i1 i2 = some r) : Rn 15 41 0 [(0, .ref 23), (1, .int i1), (2, .int i2)] [] μ (.inl (some (.int r.1))) r.2 := by
  unfold pW_numerator at h
  refine R_pure (pc := 0) (pc' := 1) (st' := [.ref 23]) (show z_pt 41 0 = some (4, .aload_n 0, []) by decide +kernel) rfl (fun _ _ _ => rfl) ?_
  refine R_getR (pc := 1) (a := 23) (b := 2) (show z_pt 41 1 = some (4, .getfield 29, [3, 0, 1216]) by decide +kernel) (by decide +kernel) ?_
  refine R_at (pc := 4) ?_
  refine R_getR (pc := 4) (a := 2) (b := 3) (show z_pt 41 4 = some (4, .getfield 68, [2, 3, 1059]) by decide +kernel) (by decide +kernel) ?_
  refine R_at (pc := 7) ?_
  refine R_pure (pc := 7) (pc' := 8) (st' := [.int i1, .ref 3]) (show z_pt 41 7 = some (4, .iload_n 1, []) by decide +kernel) rfl (fun _ _ _ => rfl) ?_
  obtain ⟨v1, e2, h⟩ := z_bs h
  refine R_ialdR (pc := 8) (a := 3) (n := 10) (show z_pt 41 8 = some (4, .iaload, []) by decide +kernel) (show z_ar 3 0 10 = true by decide +kernel) e2 ?_
  refine R_at (pc := 9) ?_
  refine R_pure (pc := 9) (pc' := 10) (st' := [.ref 23, .int v1]) (show z_pt 41 9 = some (4, .aload_n 0, []) by decide +kernel) rfl (fun _ _ _ => rfl) ?_
  refine R_getR (pc := 10) (a := 23) (b := 2) (show z_pt 41 10 = some (4, .getfield 29, [3, 0, 1216]) by decide +kernel) (by decide +kernel) ?_
  refine R_at (pc := 13) ?_
  refine R_getR (pc := 13) (a := 2) (b := 3) (show z_pt 41 13 = some (4, .getfield 68, [2, 3, 1059]) by decide +kernel) (by decide +kernel) ?_
  refine R_at (pc := 16) ?_
  refine R_pure (pc := 16) (pc' := 17) (st' := [.int i2, .ref 3, .int v1]) (show z_pt 41 16 = some (4, .iload_n 2, []) by decide +kernel) rfl (fun _ _ _ => rfl) ?_
  obtain ⟨v3, e4, h⟩ := z_bs h
  refine R_ialdR (pc := 17) (a := 3) (n := 10) (show z_pt 41 17 = some (4, .iaload, []) by decide +kernel) (show z_ar 3 0 10 = true by decide +kernel) e4 ?_
  refine R_at (pc := 18) ?_
  obtain ⟨q5, e6, h⟩ := z_bs h
  refine R_call (pc := 18) (rr := []) (show z_pt 41 18 = some (4, .invokestatic 71, [1, 44, 2, 3125, 3126, 0, 1009, 3127]) by decide +kernel) rfl (show z_r2 44 = some (3, 6, true) by decide +kernel) rfl rfl (Or.inl (by decide)) (pW_reduced_run  e6) (by omega) ?_
  refine R_at2 (pc := 21) (st := [.int q5]) ?_
  refine R_pure (pc := 21) (pc' := 22) (ls' := [(0, .ref 23), (1, .int i1), (2, .int i2), (3, .int q5)]) (st' := []) (show z_pt 41 21 = some (4, .istore_n 3, []) by decide +kernel) rfl (fun _ _ _ => rfl) ?_
  refine R_pure (pc := 22) (pc' := 23) (st' := [.ref 23]) (show z_pt 41 22 = some (4, .aload_n 0, []) by decide +kernel) rfl (fun _ _ _ => rfl) ?_
  refine R_pure (pc := 23) (pc' := 24) (st' := [.int i1, .ref 23]) (show z_pt 41 23 = some (4, .iload_n 1, []) by decide +kernel) rfl (fun _ _ _ => rfl) ?_
  refine R_pure (pc := 24) (pc' := 25) (st' := [.int i2, .int i1, .ref 23]) (show z_pt 41 24 = some (4, .iload_n 2, []) by decide +kernel) rfl (fun _ _ _ => rfl) ?_
  obtain ⟨q7, e8, h⟩ := z_bs h
  refine R_call (pc := 25) (rr := []) (show z_pt 41 25 = some (4, .invokevirtual 74, [0, 33, 2, 3129, 3115, 3116, 1009, 3117]) by decide +kernel) rfl (show z_r2 33 = some (3, 3, true) by decide +kernel) rfl rfl (Or.inr ⟨_, _, rfl, (by decide +kernel)⟩) (pW_chainLength_run  e8) (by omega) ?_
  refine R_at2 (pc := 28) (st := [.int q7.1]) ?_
  refine R_const (pc := 28) (pc' := 29) (v := 2) (show z_ptc 41 28 = some (29, 2) by decide +kernel) ?_
  refine R_rem (x := q7.1) (y := 2) (show z_pt 41 29 = some (4, .irem, []) by decide +kernel) (by decide) ?_
  refine R_ifne (pc := 30) (t := 37) (show z_pt 41 30 = some (4, .ifCond .ne 7, []) by decide +kernel) (by decide) (fun c9 => ?_) (fun c9 => ?_)
  · rw [if_neg c9] at h
    refine R_pure (pc := 37) (pc' := 38) (st' := [.int q5]) (show z_pt 41 37 = some (4, .iload_n 3, []) by decide +kernel) rfl (fun _ _ _ => rfl) ?_
    refine R_pure (pc := 38) (pc' := 39) (st' := [.int (-q5)]) (show z_pt 41 38 = some (4, .ineg, []) by decide +kernel) rfl (fun _ _ _ => rfl) ?_
    cases h
    exact R_retI (show z_pt 41 39 = some (4, .ireturn, []) by decide +kernel) (by decide +kernel)
  · rw [if_pos c9] at h
    refine R_pure (pc := 33) (pc' := 34) (st' := [.int q5]) (show z_pt 41 33 = some (4, .iload_n 3, []) by decide +kernel) rfl (fun _ _ _ => rfl) ?_
    refine R_pure (pc := 34) (pc' := 39) (show z_pt 41 34 = some (4, .goto 5, []) by decide +kernel) rfl (fun _ _ _ => rfl) ?_
    cases h
    exact R_retI (show z_pt 41 39 = some (4, .ireturn, []) by decide +kernel) (by decide +kernel)
def pW_denominator  (μ : z_Mem) (i1 : Int32) (i2 : Int32) : Option Int32 := (z_rd μ 3 10 i2).bind fun v1 => (z_rd μ 3 10 i1).bind fun v3 => (pW_reduced μ v1 v3).bind fun q5 => some q5
theorem pW_denominator_run  {μ : z_Mem} {i1 : Int32} {i2 : Int32}  {r : Int32} (h : pW_denominator μ i1 i2 = some r) : Rn 2 42 0 [(0, .ref 23), (1, .int i1), (2, .int i2)] [] μ (.inl (some (.int r))) μ := by
  unfold pW_denominator at h
  refine R_pure (pc := 0) (pc' := 1) (st' := [.ref 23]) (show z_pt 42 0 = some (3, .aload_n 0, []) by decide +kernel) rfl (fun _ _ _ => rfl) ?_
  refine R_getR (pc := 1) (a := 23) (b := 2) (show z_pt 42 1 = some (3, .getfield 29, [3, 0, 1216]) by decide +kernel) (by decide +kernel) ?_
  refine R_at (pc := 4) ?_
  refine R_getR (pc := 4) (a := 2) (b := 3) (show z_pt 42 4 = some (3, .getfield 68, [2, 3, 1059]) by decide +kernel) (by decide +kernel) ?_
  refine R_at (pc := 7) ?_
  refine R_pure (pc := 7) (pc' := 8) (st' := [.int i2, .ref 3]) (show z_pt 42 7 = some (3, .iload_n 2, []) by decide +kernel) rfl (fun _ _ _ => rfl) ?_
  obtain ⟨v1, e2, h⟩ := z_bs h
  refine R_ialdR (pc := 8) (a := 3) (n := 10) (show z_pt 42 8 = some (3, .iaload, []) by decide +kernel) (show z_ar 3 0 10 = true by decide +kernel) e2 ?_
  refine R_at (pc := 9) ?_
  refine R_pure (pc := 9) (pc' := 10) (st' := [.ref 23, .int v1]) (show z_pt 42 9 = some (3, .aload_n 0, []) by decide +kernel) rfl (fun _ _ _ => rfl) ?_
  refine R_getR (pc := 10) (a := 23) (b := 2) (show z_pt 42 10 = some (3, .getfield 29, [3, 0, 1216]) by decide +kernel) (by decide +kernel) ?_
  refine R_at (pc := 13) ?_
  refine R_getR (pc := 13) (a := 2) (b := 3) (show z_pt 42 13 = some (3, .getfield 68, [2, 3, 1059]) by decide +kernel) (by decide +kernel) ?_
  refine R_at (pc := 16) ?_
  refine R_pure (pc := 16) (pc' := 17) (st' := [.int i1, .ref 3, .int v1]) (show z_pt 42 16 = some (3, .iload_n 1, []) by decide +kernel) rfl (fun _ _ _ => rfl) ?_
  obtain ⟨v3, e4, h⟩ := z_bs h
  refine R_ialdR (pc := 17) (a := 3) (n := 10) (show z_pt 42 17 = some (3, .iaload, []) by decide +kernel) (show z_ar 3 0 10 = true by decide +kernel) e4 ?_
  refine R_at (pc := 18) ?_
  obtain ⟨q5, e6, h⟩ := z_bs h
  refine R_call (pc := 18) (rr := []) (show z_pt 42 18 = some (3, .invokestatic 71, [1, 44, 2, 3125, 3126, 0, 1009, 3127]) by decide +kernel) rfl (show z_r2 44 = some (3, 6, true) by decide +kernel) rfl rfl (Or.inl (by decide)) (pW_reduced_run  e6) (by omega) ?_
  refine R_at2 (pc := 21) (st := [.int q5]) ?_
  cases h
  exact R_retI (show z_pt 42 21 = some (3, .ireturn, []) by decide +kernel) (by decide +kernel)
def pW_numeratorAlongChain_L16_B (R : Int32 → Int32 → Int32 → Option (Int32 × z_Mem))  (μ : z_Mem) (f1 : Int32) (f2 : Int32) (f3 : Int32) (K : Int32 → Int32 → Int32 → Option (Int32 × z_Mem)) (a4 : Int32) (a5 : Int32) (a6 : Int32) : Option (Int32 × z_Mem) := if f3 ≤ a6 then K a4 a5 a6 else (z_rd μ 31 10 a6).bind fun v4 => (z_rd μ 3 10 v4).bind fun v6 => (z_rd μ 31 10 (a6 + 1)).bind fun v8 => (z_rd μ 3 10 v8).bind fun v10 => (pW_reduced μ ((-a4) * v6) (a5 * v10)).bind fun q12 => (pW_reduced μ (a5 * v10) ((-a4) * v6)).bind fun q14 => R q12 q14 (a6 + 1)
def pW_numeratorAlongChain_L16 : Nat → z_Mem → Int32 → Int32 → Int32 → (Int32 → Int32 → Int32 → Option (Int32 × z_Mem)) → Int32 → Int32 → Int32 → Option (Int32 × z_Mem)
  | 0 => fun _ _ _ _ _ _ _ _ => none
  | n + 1 => fun μ f1 f2 f3 K a4 a5 a6 => pW_numeratorAlongChain_L16_B (pW_numeratorAlongChain_L16 n μ f1 f2 f3 K) μ f1 f2 f3 K a4 a5 a6
theorem pW_numeratorAlongChain_L16_run  (μ : z_Mem) (f1 : Int32) (f2 : Int32) (f3 : Int32) (K : Int32 → Int32 → Int32 → Option (Int32 × z_Mem))  (D : Nat) (hD : 15 ≤ D) (hK : ∀ (a4 a5 a6 : Int32) (r : (Int32 × z_Mem)), K a4 a5 a6 = some r → Rn D 43 89 [(0, .ref 23), (1, .int f1), (2, .int f2), (3, .int f3), (4, .int a4), (5, .int a5), (6, .int a6)] [] μ (.inl (some (.int r.1))) r.2) : ∀ (n : Nat) (a4 : Int32) (a5 : Int32) (a6 : Int32) (r : (Int32 × z_Mem)), pW_numeratorAlongChain_L16 n μ f1 f2 f3 K a4 a5 a6 = some r → Rn D 43 16 [(0, .ref 23), (1, .int f1), (2, .int f2), (3, .int f3), (4, .int a4), (5, .int a5), (6, .int a6)] [] μ (.inl (some (.int r.1))) r.2 := by
  intro n
  induction n with
  | zero => intro a4 a5 a6 r h; cases h
  | succ n ih =>
    intro a4 a5 a6 r h
    have h : pW_numeratorAlongChain_L16_B (pW_numeratorAlongChain_L16 n μ f1 f2 f3 K) μ f1 f2 f3 K a4 a5 a6 = some r := h
    unfold pW_numeratorAlongChain_L16_B at h
    refine R_pure (pc := 16) (pc' := 18) (st' := [.int a6]) (show z_pt 43 16 = some (9, .iload 6, []) by decide +kernel) rfl (fun _ _ _ => rfl) ?_
    refine R_pure (pc := 18) (pc' := 19) (st' := [.int f3, .int a6]) (show z_pt 43 18 = some (9, .iload_n 3, []) by decide +kernel) rfl (fun _ _ _ => rfl) ?_
    refine R_icmge (pc := 19) (t := 89) (show z_pt 43 19 = some (9, .if_icmp .ge 70, []) by decide +kernel) (by decide) (fun c3 => ?_) (fun c3 => ?_)
    · rw [if_pos c3] at h
      exact hK _ _ _  _ h
    · rw [if_neg c3] at h
      refine R_pure (pc := 22) (pc' := 24) (st' := [.int a4]) (show z_pt 43 22 = some (9, .iload 4, []) by decide +kernel) rfl (fun _ _ _ => rfl) ?_
      refine R_pure (pc := 24) (pc' := 25) (st' := [.int (-a4)]) (show z_pt 43 24 = some (9, .ineg, []) by decide +kernel) rfl (fun _ _ _ => rfl) ?_
      refine R_pure (pc := 25) (pc' := 26) (st' := [.ref 23, .int (-a4)]) (show z_pt 43 25 = some (9, .aload_n 0, []) by decide +kernel) rfl (fun _ _ _ => rfl) ?_
      refine R_getR (pc := 26) (a := 23) (b := 2) (show z_pt 43 26 = some (9, .getfield 29, [3, 0, 1216]) by decide +kernel) (by decide +kernel) ?_
      refine R_at (pc := 29) ?_
      refine R_getR (pc := 29) (a := 2) (b := 3) (show z_pt 43 29 = some (9, .getfield 68, [2, 3, 1059]) by decide +kernel) (by decide +kernel) ?_
      refine R_at (pc := 32) ?_
      refine R_pure (pc := 32) (pc' := 33) (st' := [.ref 23, .ref 3, .int (-a4)]) (show z_pt 43 32 = some (9, .aload_n 0, []) by decide +kernel) rfl (fun _ _ _ => rfl) ?_
      refine R_getR (pc := 33) (a := 23) (b := 31) (show z_pt 43 33 = some (9, .getfield 18, [3, 2, 1218]) by decide +kernel) (by decide +kernel) ?_
      refine R_at (pc := 36) ?_
      refine R_pure (pc := 36) (pc' := 38) (st' := [.int a6, .ref 31, .ref 3, .int (-a4)]) (show z_pt 43 36 = some (9, .iload 6, []) by decide +kernel) rfl (fun _ _ _ => rfl) ?_
      obtain ⟨v4, e5, h⟩ := z_bs h
      refine R_ialdR (pc := 38) (a := 31) (n := 10) (show z_pt 43 38 = some (9, .iaload, []) by decide +kernel) (show z_ar 31 0 10 = true by decide +kernel) e5 ?_
      refine R_at (pc := 39) ?_
      obtain ⟨v6, e7, h⟩ := z_bs h
      refine R_ialdR (pc := 39) (a := 3) (n := 10) (show z_pt 43 39 = some (9, .iaload, []) by decide +kernel) (show z_ar 3 0 10 = true by decide +kernel) e7 ?_
      refine R_at (pc := 40) ?_
      refine R_pure (pc := 40) (pc' := 41) (st' := [.int ((-a4) * v6)]) (show z_pt 43 40 = some (9, .imul, []) by decide +kernel) rfl (fun _ _ _ => rfl) ?_
      refine R_pure (pc := 41) (pc' := 43) (ls' := [(0, .ref 23), (1, .int f1), (2, .int f2), (3, .int f3), (4, .int a4), (5, .int a5), (6, .int a6), (7, .int ((-a4) * v6))]) (st' := []) (show z_pt 43 41 = some (9, .istore 7, []) by decide +kernel) rfl (fun _ _ _ => rfl) ?_
      refine R_pure (pc := 43) (pc' := 45) (st' := [.int a5]) (show z_pt 43 43 = some (9, .iload 5, []) by decide +kernel) rfl (fun _ _ _ => rfl) ?_
      refine R_pure (pc := 45) (pc' := 46) (st' := [.ref 23, .int a5]) (show z_pt 43 45 = some (9, .aload_n 0, []) by decide +kernel) rfl (fun _ _ _ => rfl) ?_
      refine R_getR (pc := 46) (a := 23) (b := 2) (show z_pt 43 46 = some (9, .getfield 29, [3, 0, 1216]) by decide +kernel) (by decide +kernel) ?_
      refine R_at (pc := 49) ?_
      refine R_getR (pc := 49) (a := 2) (b := 3) (show z_pt 43 49 = some (9, .getfield 68, [2, 3, 1059]) by decide +kernel) (by decide +kernel) ?_
      refine R_at (pc := 52) ?_
      refine R_pure (pc := 52) (pc' := 53) (st' := [.ref 23, .ref 3, .int a5]) (show z_pt 43 52 = some (9, .aload_n 0, []) by decide +kernel) rfl (fun _ _ _ => rfl) ?_
      refine R_getR (pc := 53) (a := 23) (b := 31) (show z_pt 43 53 = some (9, .getfield 18, [3, 2, 1218]) by decide +kernel) (by decide +kernel) ?_
      refine R_at (pc := 56) ?_
      refine R_pure (pc := 56) (pc' := 58) (st' := [.int a6, .ref 31, .ref 3, .int a5]) (show z_pt 43 56 = some (9, .iload 6, []) by decide +kernel) rfl (fun _ _ _ => rfl) ?_
      refine R_const (pc := 58) (pc' := 59) (v := 1) (show z_ptc 43 58 = some (59, 1) by decide +kernel) ?_
      refine R_pure (pc := 59) (pc' := 60) (st' := [.int (a6 + 1), .ref 31, .ref 3, .int a5]) (show z_pt 43 59 = some (9, .iadd, []) by decide +kernel) rfl (fun _ _ _ => rfl) ?_
      obtain ⟨v8, e9, h⟩ := z_bs h
      refine R_ialdR (pc := 60) (a := 31) (n := 10) (show z_pt 43 60 = some (9, .iaload, []) by decide +kernel) (show z_ar 31 0 10 = true by decide +kernel) e9 ?_
      refine R_at (pc := 61) ?_
      obtain ⟨v10, e11, h⟩ := z_bs h
      refine R_ialdR (pc := 61) (a := 3) (n := 10) (show z_pt 43 61 = some (9, .iaload, []) by decide +kernel) (show z_ar 3 0 10 = true by decide +kernel) e11 ?_
      refine R_at (pc := 62) ?_
      refine R_pure (pc := 62) (pc' := 63) (st' := [.int (a5 * v10)]) (show z_pt 43 62 = some (9, .imul, []) by decide +kernel) rfl (fun _ _ _ => rfl) ?_
      refine R_pure (pc := 63) (pc' := 65) (ls' := [(0, .ref 23), (1, .int f1), (2, .int f2), (3, .int f3), (4, .int a4), (5, .int a5), (6, .int a6), (7, .int ((-a4) * v6)), (8, .int (a5 * v10))]) (st' := []) (show z_pt 43 63 = some (9, .istore 8, []) by decide +kernel) rfl (fun _ _ _ => rfl) ?_
      refine R_pure (pc := 65) (pc' := 67) (st' := [.int ((-a4) * v6)]) (show z_pt 43 65 = some (9, .iload 7, []) by decide +kernel) rfl (fun _ _ _ => rfl) ?_
      refine R_pure (pc := 67) (pc' := 69) (st' := [.int (a5 * v10), .int ((-a4) * v6)]) (show z_pt 43 67 = some (9, .iload 8, []) by decide +kernel) rfl (fun _ _ _ => rfl) ?_
      obtain ⟨q12, e13, h⟩ := z_bs h
      refine R_call (pc := 69) (rr := []) (show z_pt 43 69 = some (9, .invokestatic 71, [1, 44, 2, 3125, 3126, 0, 1009, 3127]) by decide +kernel) rfl (show z_r2 44 = some (3, 6, true) by decide +kernel) rfl rfl (Or.inl (by decide)) (pW_reduced_run  e13) (by omega) ?_
      refine R_at2 (pc := 72) (st := [.int q12]) ?_
      refine R_pure (pc := 72) (pc' := 74) (ls' := [(0, .ref 23), (1, .int f1), (2, .int f2), (3, .int f3), (4, .int q12), (5, .int a5), (6, .int a6), (7, .int ((-a4) * v6)), (8, .int (a5 * v10))]) (st' := []) (show z_pt 43 72 = some (9, .istore 4, []) by decide +kernel) rfl (fun _ _ _ => rfl) ?_
      refine R_pure (pc := 74) (pc' := 76) (st' := [.int (a5 * v10)]) (show z_pt 43 74 = some (9, .iload 8, []) by decide +kernel) rfl (fun _ _ _ => rfl) ?_
      refine R_pure (pc := 76) (pc' := 78) (st' := [.int ((-a4) * v6), .int (a5 * v10)]) (show z_pt 43 76 = some (9, .iload 7, []) by decide +kernel) rfl (fun _ _ _ => rfl) ?_
      obtain ⟨q14, e15, h⟩ := z_bs h
      refine R_call (pc := 78) (rr := []) (show z_pt 43 78 = some (9, .invokestatic 71, [1, 44, 2, 3125, 3126, 0, 1009, 3127]) by decide +kernel) rfl (show z_r2 44 = some (3, 6, true) by decide +kernel) rfl rfl (Or.inl (by decide)) (pW_reduced_run  e15) (by omega) ?_
      refine R_at2 (pc := 81) (st := [.int q14]) ?_
      refine R_pure (pc := 81) (pc' := 83) (ls' := [(0, .ref 23), (1, .int f1), (2, .int f2), (3, .int f3), (4, .int q12), (5, .int q14), (6, .int a6), (7, .int ((-a4) * v6)), (8, .int (a5 * v10))]) (st' := []) (show z_pt 43 81 = some (9, .istore 5, []) by decide +kernel) rfl (fun _ _ _ => rfl) ?_
      refine R_inc (pc := 83) (pc' := 86) (ls' := [(0, .ref 23), (1, .int f1), (2, .int f2), (3, .int f3), (4, .int q12), (5, .int q14), (6, .int (a6 + 1)), (7, .int ((-a4) * v6)), (8, .int (a5 * v10))]) (c := 1) (show z_pt 43 83 = some (9, .iinc 6 1, []) by decide +kernel) (by decide) rfl rfl ?_
      refine R_pure (pc := 86) (pc' := 16) (ls' := [(0, .ref 23), (1, .int f1), (2, .int f2), (3, .int f3), (4, .int q12), (5, .int q14), (6, .int (a6 + 1))]) (st' := []) (show z_pt 43 86 = some (9, .goto (-70), [7]) by decide +kernel) rfl (fun _ _ _ => rfl) ?_
      exact ih _ _ _ _  h
def pW_numeratorAlongChain  (μ : z_Mem) (i1 : Int32) (i2 : Int32) : Option (Int32 × z_Mem) := (pW_chainLength μ i1 i2).bind fun q1 => pW_numeratorAlongChain_L16 z_fu q1.2 i1 i2 q1.1 (fun k16 k17 k18 => some (k16, q1.2)) 1 1 0
theorem pW_numeratorAlongChain_run  {μ : z_Mem} {i1 : Int32} {i2 : Int32}  {r : (Int32 × z_Mem)} (h : pW_numeratorAlongChain μ i1 i2 = some r) : Rn 15 43 0 [(0, .ref 23), (1, .int i1), (2, .int i2)] [] μ (.inl (some (.int r.1))) r.2 := by
  unfold pW_numeratorAlongChain at h
  refine R_pure (pc := 0) (pc' := 1) (st' := [.ref 23]) (show z_pt 43 0 = some (9, .aload_n 0, []) by decide +kernel) rfl (fun _ _ _ => rfl) ?_
  refine R_pure (pc := 1) (pc' := 2) (st' := [.int i1, .ref 23]) (show z_pt 43 1 = some (9, .iload_n 1, []) by decide +kernel) rfl (fun _ _ _ => rfl) ?_
  refine R_pure (pc := 2) (pc' := 3) (st' := [.int i2, .int i1, .ref 23]) (show z_pt 43 2 = some (9, .iload_n 2, []) by decide +kernel) rfl (fun _ _ _ => rfl) ?_
  obtain ⟨q1, e2, h⟩ := z_bs h
  refine R_call (pc := 3) (rr := []) (show z_pt 43 3 = some (9, .invokevirtual 74, [0, 33, 2, 3129, 3115, 3116, 1009, 3117]) by decide +kernel) rfl (show z_r2 33 = some (3, 3, true) by decide +kernel) rfl rfl (Or.inr ⟨_, _, rfl, (by decide +kernel)⟩) (pW_chainLength_run  e2) (by omega) ?_
  refine R_at2 (pc := 6) (st := [.int q1.1]) ?_
  refine R_pure (pc := 6) (pc' := 7) (ls' := [(0, .ref 23), (1, .int i1), (2, .int i2), (3, .int q1.1)]) (st' := []) (show z_pt 43 6 = some (9, .istore_n 3, []) by decide +kernel) rfl (fun _ _ _ => rfl) ?_
  refine R_const (pc := 7) (pc' := 8) (v := 1) (show z_ptc 43 7 = some (8, 1) by decide +kernel) ?_
  refine R_pure (pc := 8) (pc' := 10) (ls' := [(0, .ref 23), (1, .int i1), (2, .int i2), (3, .int q1.1), (4, .int 1)]) (st' := []) (show z_pt 43 8 = some (9, .istore 4, []) by decide +kernel) rfl (fun _ _ _ => rfl) ?_
  refine R_const (pc := 10) (pc' := 11) (v := 1) (show z_ptc 43 10 = some (11, 1) by decide +kernel) ?_
  refine R_pure (pc := 11) (pc' := 13) (ls' := [(0, .ref 23), (1, .int i1), (2, .int i2), (3, .int q1.1), (4, .int 1), (5, .int 1)]) (st' := []) (show z_pt 43 11 = some (9, .istore 5, []) by decide +kernel) rfl (fun _ _ _ => rfl) ?_
  refine R_const (pc := 13) (pc' := 14) (v := 0) (show z_ptc 43 13 = some (14, 0) by decide +kernel) ?_
  refine R_pure (pc := 14) (pc' := 16) (ls' := [(0, .ref 23), (1, .int i1), (2, .int i2), (3, .int q1.1), (4, .int 1), (5, .int 1), (6, .int 0)]) (st' := []) (show z_pt 43 14 = some (9, .istore 6, []) by decide +kernel) rfl (fun _ _ _ => rfl) ?_
  refine pW_numeratorAlongChain_L16_run  _ _ _ _ _  _ (by omega) ?_ _ _ _ _ _ h
  intro k16 k17 k18 r h
  refine R_pure (pc := 89) (pc' := 91) (st' := [.int k16]) (show z_pt 43 89 = some (9, .iload 4, []) by decide +kernel) rfl (fun _ _ _ => rfl) ?_
  cases h
  exact R_retI (show z_pt 43 91 = some (9, .ireturn, []) by decide +kernel) (by decide +kernel)
def pW_playOfGaps_L13_B (R : Int32 → Int32 → Option (Int32 × z_Mem))  (μ : z_Mem) (f1 : Int32) (f2 : Int32) (f3 : Int32) (K : Int32 → Int32 → Option (Int32 × z_Mem)) (a4 : Int32) (a5 : Int32) : Option (Int32 × z_Mem) := if f3 ≤ a5 then K a4 a5 else (z_rd μ 31 10 a5).bind fun v4 => (z_rd μ 31 10 (a5 + 1)).bind fun v6 => (pT_meshBetween μ v4 v6).bind fun q8 => if q8 = (-1) then R a4 (a5 + 1) else if (a5 - a5 / 2 * 2) = 0 then (z_rd μ 8 9 q8).bind fun v16 => R (a4 + v16) (a5 + 1) else (z_rd μ 7 9 q8).bind fun v12 => (z_rd μ 8 9 q8).bind fun v14 => R (a4 + (v12 - v14)) (a5 + 1)
def pW_playOfGaps_L13 : Nat → z_Mem → Int32 → Int32 → Int32 → (Int32 → Int32 → Option (Int32 × z_Mem)) → Int32 → Int32 → Option (Int32 × z_Mem)
  | 0 => fun _ _ _ _ _ _ _ => none
  | n + 1 => fun μ f1 f2 f3 K a4 a5 => pW_playOfGaps_L13_B (pW_playOfGaps_L13 n μ f1 f2 f3 K) μ f1 f2 f3 K a4 a5
theorem pW_playOfGaps_L13_run  (μ : z_Mem) (f1 : Int32) (f2 : Int32) (f3 : Int32) (K : Int32 → Int32 → Option (Int32 × z_Mem))  (D : Nat) (hD : 15 ≤ D) (hK : ∀ (a4 a5 : Int32) (r : (Int32 × z_Mem)), K a4 a5 = some r → Rn D 45 102 [(0, .ref 23), (1, .int f1), (2, .int f2), (3, .int f3), (4, .int a4), (5, .int a5)] [] μ (.inl (some (.int r.1))) r.2) : ∀ (n : Nat) (a4 : Int32) (a5 : Int32) (r : (Int32 × z_Mem)), pW_playOfGaps_L13 n μ f1 f2 f3 K a4 a5 = some r → Rn D 45 13 [(0, .ref 23), (1, .int f1), (2, .int f2), (3, .int f3), (4, .int a4), (5, .int a5)] [] μ (.inl (some (.int r.1))) r.2 := by
  intro n
  induction n with
  | zero => intro a4 a5 r h; cases h
  | succ n ih =>
    intro a4 a5 r h
    have h : pW_playOfGaps_L13_B (pW_playOfGaps_L13 n μ f1 f2 f3 K) μ f1 f2 f3 K a4 a5 = some r := h
    unfold pW_playOfGaps_L13_B at h
    refine R_pure (pc := 13) (pc' := 15) (st' := [.int a5]) (show z_pt 45 13 = some (7, .iload 5, []) by decide +kernel) rfl (fun _ _ _ => rfl) ?_
    refine R_pure (pc := 15) (pc' := 16) (st' := [.int f3, .int a5]) (show z_pt 45 15 = some (7, .iload_n 3, []) by decide +kernel) rfl (fun _ _ _ => rfl) ?_
    refine R_icmge (pc := 16) (t := 102) (show z_pt 45 16 = some (7, .if_icmp .ge 86, []) by decide +kernel) (by decide) (fun c3 => ?_) (fun c3 => ?_)
    · rw [if_pos c3] at h
      exact hK _ _  _ h
    · rw [if_neg c3] at h
      refine R_pure (pc := 19) (pc' := 20) (st' := [.ref 23]) (show z_pt 45 19 = some (7, .aload_n 0, []) by decide +kernel) rfl (fun _ _ _ => rfl) ?_
      refine R_getR (pc := 20) (a := 23) (b := 2) (show z_pt 45 20 = some (7, .getfield 29, [3, 0, 1216]) by decide +kernel) (by decide +kernel) ?_
      refine R_at (pc := 23) ?_
      refine R_pure (pc := 23) (pc' := 24) (st' := [.ref 23, .ref 2]) (show z_pt 45 23 = some (7, .aload_n 0, []) by decide +kernel) rfl (fun _ _ _ => rfl) ?_
      refine R_getR (pc := 24) (a := 23) (b := 31) (show z_pt 45 24 = some (7, .getfield 18, [3, 2, 1218]) by decide +kernel) (by decide +kernel) ?_
      refine R_at (pc := 27) ?_
      refine R_pure (pc := 27) (pc' := 29) (st' := [.int a5, .ref 31, .ref 2]) (show z_pt 45 27 = some (7, .iload 5, []) by decide +kernel) rfl (fun _ _ _ => rfl) ?_
      obtain ⟨v4, e5, h⟩ := z_bs h
      refine R_ialdR (pc := 29) (a := 31) (n := 10) (show z_pt 45 29 = some (7, .iaload, []) by decide +kernel) (show z_ar 31 0 10 = true by decide +kernel) e5 ?_
      refine R_at (pc := 30) ?_
      refine R_pure (pc := 30) (pc' := 31) (st' := [.ref 23, .int v4, .ref 2]) (show z_pt 45 30 = some (7, .aload_n 0, []) by decide +kernel) rfl (fun _ _ _ => rfl) ?_
      refine R_getR (pc := 31) (a := 23) (b := 31) (show z_pt 45 31 = some (7, .getfield 18, [3, 2, 1218]) by decide +kernel) (by decide +kernel) ?_
      refine R_at (pc := 34) ?_
      refine R_pure (pc := 34) (pc' := 36) (st' := [.int a5, .ref 31, .int v4, .ref 2]) (show z_pt 45 34 = some (7, .iload 5, []) by decide +kernel) rfl (fun _ _ _ => rfl) ?_
      refine R_const (pc := 36) (pc' := 37) (v := 1) (show z_ptc 45 36 = some (37, 1) by decide +kernel) ?_
      refine R_pure (pc := 37) (pc' := 38) (st' := [.int (a5 + 1), .ref 31, .int v4, .ref 2]) (show z_pt 45 37 = some (7, .iadd, []) by decide +kernel) rfl (fun _ _ _ => rfl) ?_
      obtain ⟨v6, e7, h⟩ := z_bs h
      refine R_ialdR (pc := 38) (a := 31) (n := 10) (show z_pt 45 38 = some (7, .iaload, []) by decide +kernel) (show z_ar 31 0 10 = true by decide +kernel) e7 ?_
      refine R_at (pc := 39) ?_
      obtain ⟨q8, e9, h⟩ := z_bs h
      refine R_call (pc := 39) (rr := []) (show z_pt 45 39 = some (7, .invokevirtual 83, [0, 28, 2, 3154, 3010, 3011, 1003, 3012]) by decide +kernel) rfl (show z_r2 28 = some (2, 4, true) by decide +kernel) rfl rfl (Or.inr ⟨_, _, rfl, (by decide +kernel)⟩) (pT_meshBetween_run  e9) (by omega) ?_
      refine R_at2 (pc := 42) (st := [.int q8]) ?_
      refine R_pure (pc := 42) (pc' := 44) (ls' := [(0, .ref 23), (1, .int f1), (2, .int f2), (3, .int f3), (4, .int a4), (5, .int a5), (6, .int q8)]) (st' := []) (show z_pt 45 42 = some (7, .istore 6, []) by decide +kernel) rfl (fun _ _ _ => rfl) ?_
      refine R_pure (pc := 44) (pc' := 46) (st' := [.int q8]) (show z_pt 45 44 = some (7, .iload 6, []) by decide +kernel) rfl (fun _ _ _ => rfl) ?_
      refine R_const (pc := 46) (pc' := 47) (v := (-1)) (show z_ptc 45 46 = some (47, (-1)) by decide +kernel) ?_
      refine R_icmeq (pc := 47) (t := 96) (show z_pt 45 47 = some (7, .if_icmp .eq 49, []) by decide +kernel) (by decide) (fun c10 => ?_) (fun c10 => ?_)
      · rw [if_pos c10] at h
        refine R_inc (pc := 96) (pc' := 99) (ls' := [(0, .ref 23), (1, .int f1), (2, .int f2), (3, .int f3), (4, .int a4), (5, .int (a5 + 1)), (6, .int q8)]) (c := 1) (show z_pt 45 96 = some (7, .iinc 5 1, []) by decide +kernel) (by decide) rfl rfl ?_
        refine R_pure (pc := 99) (pc' := 13) (ls' := [(0, .ref 23), (1, .int f1), (2, .int f2), (3, .int f3), (4, .int a4), (5, .int (a5 + 1))]) (st' := []) (show z_pt 45 99 = some (7, .goto (-86), [6]) by decide +kernel) rfl (fun _ _ _ => rfl) ?_
        exact ih _ _ _  h
      · rw [if_neg c10] at h
        refine R_pure (pc := 50) (pc' := 52) (st' := [.int a4]) (show z_pt 45 50 = some (7, .iload 4, []) by decide +kernel) rfl (fun _ _ _ => rfl) ?_
        refine R_pure (pc := 52) (pc' := 54) (st' := [.int a5, .int a4]) (show z_pt 45 52 = some (7, .iload 5, []) by decide +kernel) rfl (fun _ _ _ => rfl) ?_
        refine R_const (pc := 54) (pc' := 55) (v := 2) (show z_ptc 45 54 = some (55, 2) by decide +kernel) ?_
        refine R_rem (x := a5) (y := 2) (show z_pt 45 55 = some (7, .irem, []) by decide +kernel) (by decide) ?_
        refine R_ifne (pc := 56) (t := 72) (show z_pt 45 56 = some (7, .ifCond .ne 16, []) by decide +kernel) (by decide) (fun c11 => ?_) (fun c11 => ?_)
        · rw [if_neg c11] at h
          refine R_pure (pc := 72) (pc' := 73) (st' := [.ref 23, .int a4]) (show z_pt 45 72 = some (7, .aload_n 0, []) by decide +kernel) rfl (fun _ _ _ => rfl) ?_
          refine R_getR (pc := 73) (a := 23) (b := 2) (show z_pt 45 73 = some (7, .getfield 29, [3, 0, 1216]) by decide +kernel) (by decide +kernel) ?_
          refine R_at (pc := 76) ?_
          refine R_getR (pc := 76) (a := 2) (b := 7) (show z_pt 45 76 = some (7, .getfield 89, [2, 7, 1071]) by decide +kernel) (by decide +kernel) ?_
          refine R_at (pc := 79) ?_
          refine R_pure (pc := 79) (pc' := 81) (st' := [.int q8, .ref 7, .int a4]) (show z_pt 45 79 = some (7, .iload 6, []) by decide +kernel) rfl (fun _ _ _ => rfl) ?_
          obtain ⟨v12, e13, h⟩ := z_bs h
          refine R_ialdR (pc := 81) (a := 7) (n := 9) (show z_pt 45 81 = some (7, .iaload, []) by decide +kernel) (show z_ar 7 0 9 = true by decide +kernel) e13 ?_
          refine R_at (pc := 82) ?_
          refine R_pure (pc := 82) (pc' := 83) (st' := [.ref 23, .int v12, .int a4]) (show z_pt 45 82 = some (7, .aload_n 0, []) by decide +kernel) rfl (fun _ _ _ => rfl) ?_
          refine R_getR (pc := 83) (a := 23) (b := 2) (show z_pt 45 83 = some (7, .getfield 29, [3, 0, 1216]) by decide +kernel) (by decide +kernel) ?_
          refine R_at (pc := 86) ?_
          refine R_getR (pc := 86) (a := 2) (b := 8) (show z_pt 45 86 = some (7, .getfield 86, [2, 8, 1074]) by decide +kernel) (by decide +kernel) ?_
          refine R_at (pc := 89) ?_
          refine R_pure (pc := 89) (pc' := 91) (st' := [.int q8, .ref 8, .int v12, .int a4]) (show z_pt 45 89 = some (7, .iload 6, []) by decide +kernel) rfl (fun _ _ _ => rfl) ?_
          obtain ⟨v14, e15, h⟩ := z_bs h
          refine R_ialdR (pc := 91) (a := 8) (n := 9) (show z_pt 45 91 = some (7, .iaload, []) by decide +kernel) (show z_ar 8 0 9 = true by decide +kernel) e15 ?_
          refine R_at (pc := 92) ?_
          refine R_pure (pc := 92) (pc' := 93) (st' := [.int (v12 - v14), .int a4]) (show z_pt 45 92 = some (7, .isub, []) by decide +kernel) rfl (fun _ _ _ => rfl) ?_
          refine R_pure (pc := 93) (pc' := 94) (st' := [.int (a4 + (v12 - v14))]) (show z_pt 45 93 = some (7, .iadd, []) by decide +kernel) rfl (fun _ _ _ => rfl) ?_
          refine R_pure (pc := 94) (pc' := 96) (ls' := [(0, .ref 23), (1, .int f1), (2, .int f2), (3, .int f3), (4, .int (a4 + (v12 - v14))), (5, .int a5), (6, .int q8)]) (st' := []) (show z_pt 45 94 = some (7, .istore 4, []) by decide +kernel) rfl (fun _ _ _ => rfl) ?_
          refine R_inc (pc := 96) (pc' := 99) (ls' := [(0, .ref 23), (1, .int f1), (2, .int f2), (3, .int f3), (4, .int (a4 + (v12 - v14))), (5, .int (a5 + 1)), (6, .int q8)]) (c := 1) (show z_pt 45 96 = some (7, .iinc 5 1, []) by decide +kernel) (by decide) rfl rfl ?_
          refine R_pure (pc := 99) (pc' := 13) (ls' := [(0, .ref 23), (1, .int f1), (2, .int f2), (3, .int f3), (4, .int (a4 + (v12 - v14))), (5, .int (a5 + 1))]) (st' := []) (show z_pt 45 99 = some (7, .goto (-86), [6]) by decide +kernel) rfl (fun _ _ _ => rfl) ?_
          exact ih _ _ _  h
        · rw [if_pos c11] at h
          refine R_pure (pc := 59) (pc' := 60) (st' := [.ref 23, .int a4]) (show z_pt 45 59 = some (7, .aload_n 0, []) by decide +kernel) rfl (fun _ _ _ => rfl) ?_
          refine R_getR (pc := 60) (a := 23) (b := 2) (show z_pt 45 60 = some (7, .getfield 29, [3, 0, 1216]) by decide +kernel) (by decide +kernel) ?_
          refine R_at (pc := 63) ?_
          refine R_getR (pc := 63) (a := 2) (b := 8) (show z_pt 45 63 = some (7, .getfield 86, [2, 8, 1074]) by decide +kernel) (by decide +kernel) ?_
          refine R_at (pc := 66) ?_
          refine R_pure (pc := 66) (pc' := 68) (st' := [.int q8, .ref 8, .int a4]) (show z_pt 45 66 = some (7, .iload 6, []) by decide +kernel) rfl (fun _ _ _ => rfl) ?_
          obtain ⟨v16, e17, h⟩ := z_bs h
          refine R_ialdR (pc := 68) (a := 8) (n := 9) (show z_pt 45 68 = some (7, .iaload, []) by decide +kernel) (show z_ar 8 0 9 = true by decide +kernel) e17 ?_
          refine R_at (pc := 69) ?_
          refine R_pure (pc := 69) (pc' := 93) (show z_pt 45 69 = some (7, .goto 24, []) by decide +kernel) rfl (fun _ _ _ => rfl) ?_
          refine R_pure (pc := 93) (pc' := 94) (st' := [.int (a4 + v16)]) (show z_pt 45 93 = some (7, .iadd, []) by decide +kernel) rfl (fun _ _ _ => rfl) ?_
          refine R_pure (pc := 94) (pc' := 96) (ls' := [(0, .ref 23), (1, .int f1), (2, .int f2), (3, .int f3), (4, .int (a4 + v16)), (5, .int a5), (6, .int q8)]) (st' := []) (show z_pt 45 94 = some (7, .istore 4, []) by decide +kernel) rfl (fun _ _ _ => rfl) ?_
          refine R_inc (pc := 96) (pc' := 99) (ls' := [(0, .ref 23), (1, .int f1), (2, .int f2), (3, .int f3), (4, .int (a4 + v16)), (5, .int (a5 + 1)), (6, .int q8)]) (c := 1) (show z_pt 45 96 = some (7, .iinc 5 1, []) by decide +kernel) (by decide) rfl rfl ?_
          refine R_pure (pc := 99) (pc' := 13) (ls' := [(0, .ref 23), (1, .int f1), (2, .int f2), (3, .int f3), (4, .int (a4 + v16)), (5, .int (a5 + 1))]) (st' := []) (show z_pt 45 99 = some (7, .goto (-86), [6]) by decide +kernel) rfl (fun _ _ _ => rfl) ?_
          exact ih _ _ _  h
def pW_playOfGaps  (μ : z_Mem) (i1 : Int32) (i2 : Int32) : Option (Int32 × z_Mem) := (pW_chainLength μ i1 i2).bind fun q1 => pW_playOfGaps_L13 z_fu q1.2 i1 i2 q1.1 (fun k18 k19 => some (k18, q1.2)) 0 0
theorem pW_playOfGaps_run  {μ : z_Mem} {i1 : Int32} {i2 : Int32}  {r : (Int32 × z_Mem)} (h : pW_playOfGaps μ i1 i2 = some r) : Rn 15 45 0 [(0, .ref 23), (1, .int i1), (2, .int i2)] [] μ (.inl (some (.int r.1))) r.2 := by
  unfold pW_playOfGaps at h
  refine R_pure (pc := 0) (pc' := 1) (st' := [.ref 23]) (show z_pt 45 0 = some (7, .aload_n 0, []) by decide +kernel) rfl (fun _ _ _ => rfl) ?_
  refine R_pure (pc := 1) (pc' := 2) (st' := [.int i1, .ref 23]) (show z_pt 45 1 = some (7, .iload_n 1, []) by decide +kernel) rfl (fun _ _ _ => rfl) ?_
  refine R_pure (pc := 2) (pc' := 3) (st' := [.int i2, .int i1, .ref 23]) (show z_pt 45 2 = some (7, .iload_n 2, []) by decide +kernel) rfl (fun _ _ _ => rfl) ?_
  obtain ⟨q1, e2, h⟩ := z_bs h
  refine R_call (pc := 3) (rr := []) (show z_pt 45 3 = some (7, .invokevirtual 74, [0, 33, 2, 3129, 3115, 3116, 1009, 3117]) by decide +kernel) rfl (show z_r2 33 = some (3, 3, true) by decide +kernel) rfl rfl (Or.inr ⟨_, _, rfl, (by decide +kernel)⟩) (pW_chainLength_run  e2) (by omega) ?_
  refine R_at2 (pc := 6) (st := [.int q1.1]) ?_
  refine R_pure (pc := 6) (pc' := 7) (ls' := [(0, .ref 23), (1, .int i1), (2, .int i2), (3, .int q1.1)]) (st' := []) (show z_pt 45 6 = some (7, .istore_n 3, []) by decide +kernel) rfl (fun _ _ _ => rfl) ?_
  refine R_const (pc := 7) (pc' := 8) (v := 0) (show z_ptc 45 7 = some (8, 0) by decide +kernel) ?_
  refine R_pure (pc := 8) (pc' := 10) (ls' := [(0, .ref 23), (1, .int i1), (2, .int i2), (3, .int q1.1), (4, .int 0)]) (st' := []) (show z_pt 45 8 = some (7, .istore 4, []) by decide +kernel) rfl (fun _ _ _ => rfl) ?_
  refine R_const (pc := 10) (pc' := 11) (v := 0) (show z_ptc 45 10 = some (11, 0) by decide +kernel) ?_
  refine R_pure (pc := 11) (pc' := 13) (ls' := [(0, .ref 23), (1, .int i1), (2, .int i2), (3, .int q1.1), (4, .int 0), (5, .int 0)]) (st' := []) (show z_pt 45 11 = some (7, .istore 5, []) by decide +kernel) rfl (fun _ _ _ => rfl) ?_
  refine pW_playOfGaps_L13_run  _ _ _ _ _  _ (by omega) ?_ _ _ _ _ h
  intro k18 k19 r h
  refine R_pure (pc := 102) (pc' := 104) (st' := [.int k18]) (show z_pt 45 102 = some (7, .iload 4, []) by decide +kernel) rfl (fun _ _ _ => rfl) ?_
  cases h
  exact R_retI (show z_pt 45 104 = some (7, .ireturn, []) by decide +kernel) (by decide +kernel)
def pW_playOfTrial_L27_B (R : z_Mem → Int32 → Int32 → Option (Int32 × z_Mem))  (f1 : Int32) (f2 : Int32) (f3 : Int32) (K : z_Mem → Int32 → Int32 → Option (Int32 × z_Mem)) (μ : z_Mem) (a4 : Int32) (a5 : Int32) : Option (Int32 × z_Mem) := if 45 < a5 then K μ a4 a5 else (pT_turnGear 24 μ f1 1).bind fun q6 => (z_rd q6.2 26 10 f2).bind fun v8 => if v8 = f3 then R q6.2 (a4 + 1) (a5 + 1) else some (a4, q6.2)
def pW_playOfTrial_L27 : Nat → Int32 → Int32 → Int32 → (z_Mem → Int32 → Int32 → Option (Int32 × z_Mem)) → z_Mem → Int32 → Int32 → Option (Int32 × z_Mem)
  | 0 => fun _ _ _ _ _ _ _ => none
  | n + 1 => fun f1 f2 f3 K μ a4 a5 => pW_playOfTrial_L27_B (pW_playOfTrial_L27 n f1 f2 f3 K) f1 f2 f3 K μ a4 a5
theorem pW_playOfTrial_L27_run  (f1 : Int32) (f2 : Int32) (f3 : Int32) (K : z_Mem → Int32 → Int32 → Option (Int32 × z_Mem))  (D : Nat) (hD : 16 ≤ D) (hK : ∀ (μ : z_Mem) (a4 a5 : Int32) (r : (Int32 × z_Mem)), K μ a4 a5 = some r → Rn D 46 69 [(0, .ref 23), (1, .int f1), (2, .int f2), (3, .int f3), (4, .int a4), (5, .int a5)] [] μ (.inl (some (.int r.1))) r.2) : ∀ (n : Nat) (μ : z_Mem) (a4 : Int32) (a5 : Int32) (r : (Int32 × z_Mem)), pW_playOfTrial_L27 n f1 f2 f3 K μ a4 a5 = some r → Rn D 46 27 [(0, .ref 23), (1, .int f1), (2, .int f2), (3, .int f3), (4, .int a4), (5, .int a5)] [] μ (.inl (some (.int r.1))) r.2 := by
  intro n
  induction n with
  | zero => intro μ a4 a5 r h; cases h
  | succ n ih =>
    intro μ a4 a5 r h
    have h : pW_playOfTrial_L27_B (pW_playOfTrial_L27 n f1 f2 f3 K) f1 f2 f3 K μ a4 a5 = some r := h
    unfold pW_playOfTrial_L27_B at h
    refine R_pure (pc := 27) (pc' := 29) (st' := [.int a5]) (show z_pt 46 27 = some (6, .iload 5, []) by decide +kernel) rfl (fun _ _ _ => rfl) ?_
    refine R_const (pc := 29) (pc' := 31) (v := 45) (show z_ptc 46 29 = some (31, 45) by decide +kernel) ?_
    refine R_icmgt (pc := 31) (t := 69) (show z_pt 46 31 = some (6, .if_icmp .gt 38, []) by decide +kernel) (by decide) (fun c5 => ?_) (fun c5 => ?_)
    · rw [if_pos c5] at h
      exact hK _ _ _  _ h
    · rw [if_neg c5] at h
      refine R_pure (pc := 34) (pc' := 35) (st' := [.ref 23]) (show z_pt 46 34 = some (6, .aload_n 0, []) by decide +kernel) rfl (fun _ _ _ => rfl) ?_
      refine R_getR (pc := 35) (a := 23) (b := 24) (show z_pt 46 35 = some (6, .getfield 12, [3, 1, 1217]) by decide +kernel) (by decide +kernel) ?_
      refine R_at (pc := 38) ?_
      refine R_pure (pc := 38) (pc' := 39) (st' := [.int f1, .ref 24]) (show z_pt 46 38 = some (6, .iload_n 1, []) by decide +kernel) rfl (fun _ _ _ => rfl) ?_
      refine R_const (pc := 39) (pc' := 40) (v := 1) (show z_ptc 46 39 = some (40, 1) by decide +kernel) ?_
      obtain ⟨q6, e7, h⟩ := z_bs h
      refine R_call (pc := 40) (rr := []) (show z_pt 46 40 = some (6, .invokevirtual 99, [0, 29, 2, 3164, 3030, 3031, 1003, 3032]) by decide +kernel) rfl (show z_r2 29 = some (2, 3, true) by decide +kernel) rfl rfl (Or.inr ⟨_, _, rfl, (by decide +kernel)⟩) (pT_turnGear_run (show zTr 24 = true by decide +kernel) e7) (by omega) ?_
      refine R_at2 (pc := 43) (st := [.int q6.1]) ?_
      refine R_pure (pc := 43) (pc' := 44) (st' := []) (show z_pt 46 43 = some (6, .pop, []) by decide +kernel) rfl (fun _ _ _ => rfl) ?_
      refine R_pure (pc := 44) (pc' := 45) (st' := [.ref 23]) (show z_pt 46 44 = some (6, .aload_n 0, []) by decide +kernel) rfl (fun _ _ _ => rfl) ?_
      refine R_getR (pc := 45) (a := 23) (b := 24) (show z_pt 46 45 = some (6, .getfield 12, [3, 1, 1217]) by decide +kernel) (by decide +kernel) ?_
      refine R_at (pc := 48) ?_
      refine R_getR (pc := 48) (a := 24) (b := 26) (show z_pt 46 48 = some (6, .getfield 96, [2, 4, 1064]) by decide +kernel) (by decide +kernel) ?_
      refine R_at (pc := 51) ?_
      refine R_pure (pc := 51) (pc' := 52) (st' := [.int f2, .ref 26]) (show z_pt 46 51 = some (6, .iload_n 2, []) by decide +kernel) rfl (fun _ _ _ => rfl) ?_
      obtain ⟨v8, e9, h⟩ := z_bs h
      refine R_ialdR (pc := 52) (a := 26) (n := 10) (show z_pt 46 52 = some (6, .iaload, []) by decide +kernel) (show z_ar 26 0 10 = true by decide +kernel) e9 ?_
      refine R_at (pc := 53) ?_
      refine R_pure (pc := 53) (pc' := 54) (st' := [.int f3, .int v8]) (show z_pt 46 53 = some (6, .iload_n 3, []) by decide +kernel) rfl (fun _ _ _ => rfl) ?_
      refine R_icmeq (pc := 54) (t := 60) (show z_pt 46 54 = some (6, .if_icmp .eq 6, []) by decide +kernel) (by decide) (fun c10 => ?_) (fun c10 => ?_)
      · rw [if_pos c10] at h
        refine R_inc (pc := 60) (pc' := 63) (ls' := [(0, .ref 23), (1, .int f1), (2, .int f2), (3, .int f3), (4, .int (a4 + 1)), (5, .int a5)]) (c := 1) (show z_pt 46 60 = some (6, .iinc 4 1, []) by decide +kernel) (by decide) rfl rfl ?_
        refine R_inc (pc := 63) (pc' := 66) (ls' := [(0, .ref 23), (1, .int f1), (2, .int f2), (3, .int f3), (4, .int (a4 + 1)), (5, .int (a5 + 1))]) (c := 1) (show z_pt 46 63 = some (6, .iinc 5 1, []) by decide +kernel) (by decide) rfl rfl ?_
        refine R_pure (pc := 66) (pc' := 27) (ls' := [(0, .ref 23), (1, .int f1), (2, .int f2), (3, .int f3), (4, .int (a4 + 1)), (5, .int (a5 + 1))]) (st' := []) (show z_pt 46 66 = some (6, .goto (-39), [6]) by decide +kernel) rfl (fun _ _ _ => rfl) ?_
        exact ih _ _ _ _  h
      · rw [if_neg c10] at h
        refine R_pure (pc := 57) (pc' := 59) (st' := [.int a4]) (show z_pt 46 57 = some (6, .iload 4, []) by decide +kernel) rfl (fun _ _ _ => rfl) ?_
        cases h
        exact R_retI (show z_pt 46 59 = some (6, .ireturn, []) by decide +kernel) (by decide +kernel)
def pW_playOfTrial  (μ : z_Mem) (i1 : Int32) (i2 : Int32) : Option (Int32 × z_Mem) := (pT_copyFrom 24 2 μ).bind fun q1 => (z_rd q1 26 10 i2).bind fun v3 => pW_playOfTrial_L27 z_fu i1 i2 v3 (fun M13 k11 k12 => some (k11, M13)) q1 0 0
theorem pW_playOfTrial_run  {μ : z_Mem} {i1 : Int32} {i2 : Int32}  {r : (Int32 × z_Mem)} (h : pW_playOfTrial μ i1 i2 = some r) : Rn 16 46 0 [(0, .ref 23), (1, .int i1), (2, .int i2)] [] μ (.inl (some (.int r.1))) r.2 := by
  unfold pW_playOfTrial at h
  refine R_pure (pc := 0) (pc' := 1) (st' := [.ref 23]) (show z_pt 46 0 = some (6, .aload_n 0, []) by decide +kernel) rfl (fun _ _ _ => rfl) ?_
  refine R_getR (pc := 1) (a := 23) (b := 24) (show z_pt 46 1 = some (6, .getfield 12, [3, 1, 1217]) by decide +kernel) (by decide +kernel) ?_
  refine R_at (pc := 4) ?_
  refine R_pure (pc := 4) (pc' := 5) (st' := [.ref 23, .ref 24]) (show z_pt 46 4 = some (6, .aload_n 0, []) by decide +kernel) rfl (fun _ _ _ => rfl) ?_
  refine R_getR (pc := 5) (a := 23) (b := 2) (show z_pt 46 5 = some (6, .getfield 29, [3, 0, 1216]) by decide +kernel) (by decide +kernel) ?_
  refine R_at (pc := 8) ?_
  obtain ⟨q1, e2, h⟩ := z_bs h
  refine R_call (pc := 8) (rr := []) (show z_pt 46 8 = some (6, .invokevirtual 92, [0, 22, 1, 3163, 2081, 2082, 1003, 2083]) by decide +kernel) rfl (show z_r2 22 = some (2, 2, true) by decide +kernel) rfl rfl (Or.inr ⟨_, _, rfl, (by decide +kernel)⟩) (pT_copyFrom_run (show zTr 24 = true by decide +kernel) (show zTr 2 = true by decide +kernel) e2) (by omega) ?_
  refine R_at2 (pc := 11) (st := []) ?_
  refine R_pure (pc := 11) (pc' := 12) (st' := [.ref 23]) (show z_pt 46 11 = some (6, .aload_n 0, []) by decide +kernel) rfl (fun _ _ _ => rfl) ?_
  refine R_getR (pc := 12) (a := 23) (b := 24) (show z_pt 46 12 = some (6, .getfield 12, [3, 1, 1217]) by decide +kernel) (by decide +kernel) ?_
  refine R_at (pc := 15) ?_
  refine R_getR (pc := 15) (a := 24) (b := 26) (show z_pt 46 15 = some (6, .getfield 96, [2, 4, 1064]) by decide +kernel) (by decide +kernel) ?_
  refine R_at (pc := 18) ?_
  refine R_pure (pc := 18) (pc' := 19) (st' := [.int i2, .ref 26]) (show z_pt 46 18 = some (6, .iload_n 2, []) by decide +kernel) rfl (fun _ _ _ => rfl) ?_
  obtain ⟨v3, e4, h⟩ := z_bs h
  refine R_ialdR (pc := 19) (a := 26) (n := 10) (show z_pt 46 19 = some (6, .iaload, []) by decide +kernel) (show z_ar 26 0 10 = true by decide +kernel) e4 ?_
  refine R_at (pc := 20) ?_
  refine R_pure (pc := 20) (pc' := 21) (ls' := [(0, .ref 23), (1, .int i1), (2, .int i2), (3, .int v3)]) (st' := []) (show z_pt 46 20 = some (6, .istore_n 3, []) by decide +kernel) rfl (fun _ _ _ => rfl) ?_
  refine R_const (pc := 21) (pc' := 22) (v := 0) (show z_ptc 46 21 = some (22, 0) by decide +kernel) ?_
  refine R_pure (pc := 22) (pc' := 24) (ls' := [(0, .ref 23), (1, .int i1), (2, .int i2), (3, .int v3), (4, .int 0)]) (st' := []) (show z_pt 46 22 = some (6, .istore 4, []) by decide +kernel) rfl (fun _ _ _ => rfl) ?_
  refine R_const (pc := 24) (pc' := 25) (v := 0) (show z_ptc 46 24 = some (25, 0) by decide +kernel) ?_
  refine R_pure (pc := 25) (pc' := 27) (ls' := [(0, .ref 23), (1, .int i1), (2, .int i2), (3, .int v3), (4, .int 0), (5, .int 0)]) (st' := []) (show z_pt 46 25 = some (6, .istore 5, []) by decide +kernel) rfl (fun _ _ _ => rfl) ?_
  refine pW_playOfTrial_L27_run  _ _ _ _  _ (by omega) ?_ _ _ _ _ _ h
  intro M13 k11 k12 r h
  refine R_pure (pc := 69) (pc' := 71) (st' := [.int k11]) (show z_pt 46 69 = some (6, .iload 4, []) by decide +kernel) rfl (fun _ _ _ => rfl) ?_
  cases h
  exact R_retI (show z_pt 46 71 = some (6, .ireturn, []) by decide +kernel) (by decide +kernel)
def pW_methodsAgreeFor  (μ : z_Mem) (i1 : Int32) (i2 : Int32) : Option (Int32 × z_Mem) := (pW_chainLength μ i1 i2).bind fun q1 => if q1.1 = (-1) then some (1, q1.2) else (pW_numerator q1.2 i1 i2).bind fun q4 => (pW_numeratorAlongChain q4.2 i1 i2).bind fun q6 => if q4.1 = q6.1 then (pW_playOfGaps q6.2 i1 i2).bind fun q9 => (pW_playOfTrial q9.2 i1 i2).bind fun q11 => if q9.1 = q11.1 then some (1, q11.2) else some (0, q11.2) else some (0, q6.2)
theorem pW_methodsAgreeFor_run  {μ : z_Mem} {i1 : Int32} {i2 : Int32}  {r : (Int32 × z_Mem)} (h : pW_methodsAgreeFor μ i1 i2 = some r) : Rn 17 47 0 [(0, .ref 23), (1, .int i1), (2, .int i2)] [] μ (.inl (some (.int r.1))) r.2 := by
  unfold pW_methodsAgreeFor at h
  refine R_pure (pc := 0) (pc' := 1) (st' := [.ref 23]) (show z_pt 47 0 = some (3, .aload_n 0, []) by decide +kernel) rfl (fun _ _ _ => rfl) ?_
  refine R_pure (pc := 1) (pc' := 2) (st' := [.int i1, .ref 23]) (show z_pt 47 1 = some (3, .iload_n 1, []) by decide +kernel) rfl (fun _ _ _ => rfl) ?_
  refine R_pure (pc := 2) (pc' := 3) (st' := [.int i2, .int i1, .ref 23]) (show z_pt 47 2 = some (3, .iload_n 2, []) by decide +kernel) rfl (fun _ _ _ => rfl) ?_
  obtain ⟨q1, e2, h⟩ := z_bs h
  refine R_call (pc := 3) (rr := []) (show z_pt 47 3 = some (3, .invokevirtual 74, [0, 33, 2, 3129, 3115, 3116, 1009, 3117]) by decide +kernel) rfl (show z_r2 33 = some (3, 3, true) by decide +kernel) rfl rfl (Or.inr ⟨_, _, rfl, (by decide +kernel)⟩) (pW_chainLength_run  e2) (by omega) ?_
  refine R_at2 (pc := 6) (st := [.int q1.1]) ?_
  refine R_const (pc := 6) (pc' := 7) (v := (-1)) (show z_ptc 47 6 = some (7, (-1)) by decide +kernel) ?_
  refine R_icmne (pc := 7) (t := 12) (show z_pt 47 7 = some (3, .if_icmp .ne 5, []) by decide +kernel) (by decide) (fun c3 => ?_) (fun c3 => ?_)
  · rw [if_neg c3] at h
    refine R_pure (pc := 12) (pc' := 13) (st' := [.ref 23]) (show z_pt 47 12 = some (3, .aload_n 0, []) by decide +kernel) rfl (fun _ _ _ => rfl) ?_
    refine R_pure (pc := 13) (pc' := 14) (st' := [.int i1, .ref 23]) (show z_pt 47 13 = some (3, .iload_n 1, []) by decide +kernel) rfl (fun _ _ _ => rfl) ?_
    refine R_pure (pc := 14) (pc' := 15) (st' := [.int i2, .int i1, .ref 23]) (show z_pt 47 14 = some (3, .iload_n 2, []) by decide +kernel) rfl (fun _ _ _ => rfl) ?_
    obtain ⟨q4, e5, h⟩ := z_bs h
    refine R_call (pc := 15) (rr := []) (show z_pt 47 15 = some (3, .invokevirtual 102, [0, 41, 2, 4157, 3122, 3123, 1009, 3124]) by decide +kernel) rfl (show z_r2 41 = some (3, 4, true) by decide +kernel) rfl rfl (Or.inr ⟨_, _, rfl, (by decide +kernel)⟩) (pW_numerator_run  e5) (by omega) ?_
    refine R_at2 (pc := 18) (st := [.int q4.1]) ?_
    refine R_pure (pc := 18) (pc' := 19) (st' := [.ref 23, .int q4.1]) (show z_pt 47 18 = some (3, .aload_n 0, []) by decide +kernel) rfl (fun _ _ _ => rfl) ?_
    refine R_pure (pc := 19) (pc' := 20) (st' := [.int i1, .ref 23, .int q4.1]) (show z_pt 47 19 = some (3, .iload_n 1, []) by decide +kernel) rfl (fun _ _ _ => rfl) ?_
    refine R_pure (pc := 20) (pc' := 21) (st' := [.int i2, .int i1, .ref 23, .int q4.1]) (show z_pt 47 20 = some (3, .iload_n 2, []) by decide +kernel) rfl (fun _ _ _ => rfl) ?_
    obtain ⟨q6, e7, h⟩ := z_bs h
    refine R_call (pc := 21) (rr := [.int q4.1]) (show z_pt 47 21 = some (3, .invokevirtual 105, [0, 43, 2, 4158, 3143, 3144, 1009, 3145]) by decide +kernel) rfl (show z_r2 43 = some (3, 9, true) by decide +kernel) rfl rfl (Or.inr ⟨_, _, rfl, (by decide +kernel)⟩) (pW_numeratorAlongChain_run  e7) (by omega) ?_
    refine R_at2 (pc := 24) (st := [.int q6.1, .int q4.1]) ?_
    refine R_icmne (pc := 24) (t := 46) (show z_pt 47 24 = some (3, .if_icmp .ne 22, []) by decide +kernel) (by decide) (fun c8 => ?_) (fun c8 => ?_)
    · rw [if_neg c8] at h
      refine R_const (pc := 46) (pc' := 47) (v := 0) (show z_ptc 47 46 = some (47, 0) by decide +kernel) ?_
      cases h
      exact R_retZ (show z_pt 47 47 = some (3, .ireturn, []) by decide +kernel) (t := .boolean) (by decide +kernel) (by decide)
    · rw [if_pos c8] at h
      refine R_pure (pc := 27) (pc' := 28) (st' := [.ref 23]) (show z_pt 47 27 = some (3, .aload_n 0, []) by decide +kernel) rfl (fun _ _ _ => rfl) ?_
      refine R_pure (pc := 28) (pc' := 29) (st' := [.int i1, .ref 23]) (show z_pt 47 28 = some (3, .iload_n 1, []) by decide +kernel) rfl (fun _ _ _ => rfl) ?_
      refine R_pure (pc := 29) (pc' := 30) (st' := [.int i2, .int i1, .ref 23]) (show z_pt 47 29 = some (3, .iload_n 2, []) by decide +kernel) rfl (fun _ _ _ => rfl) ?_
      obtain ⟨q9, e10, h⟩ := z_bs h
      refine R_call (pc := 30) (rr := []) (show z_pt 47 30 = some (3, .invokevirtual 108, [0, 45, 2, 4159, 3151, 3152, 1009, 3153]) by decide +kernel) rfl (show z_r2 45 = some (3, 7, true) by decide +kernel) rfl rfl (Or.inr ⟨_, _, rfl, (by decide +kernel)⟩) (pW_playOfGaps_run  e10) (by omega) ?_
      refine R_at2 (pc := 33) (st := [.int q9.1]) ?_
      refine R_pure (pc := 33) (pc' := 34) (st' := [.ref 23, .int q9.1]) (show z_pt 47 33 = some (3, .aload_n 0, []) by decide +kernel) rfl (fun _ _ _ => rfl) ?_
      refine R_pure (pc := 34) (pc' := 35) (st' := [.int i1, .ref 23, .int q9.1]) (show z_pt 47 34 = some (3, .iload_n 1, []) by decide +kernel) rfl (fun _ _ _ => rfl) ?_
      refine R_pure (pc := 35) (pc' := 36) (st' := [.int i2, .int i1, .ref 23, .int q9.1]) (show z_pt 47 35 = some (3, .iload_n 2, []) by decide +kernel) rfl (fun _ _ _ => rfl) ?_
      obtain ⟨q11, e12, h⟩ := z_bs h
      refine R_call (pc := 36) (rr := [.int q9.1]) (show z_pt 47 36 = some (3, .invokevirtual 111, [0, 46, 2, 4160, 3160, 3161, 1009, 3162]) by decide +kernel) rfl (show z_r2 46 = some (3, 6, true) by decide +kernel) rfl rfl (Or.inr ⟨_, _, rfl, (by decide +kernel)⟩) (pW_playOfTrial_run  e12) (by omega) ?_
      refine R_at2 (pc := 39) (st := [.int q11.1, .int q9.1]) ?_
      refine R_icmne (pc := 39) (t := 46) (show z_pt 47 39 = some (3, .if_icmp .ne 7, []) by decide +kernel) (by decide) (fun c13 => ?_) (fun c13 => ?_)
      · rw [if_neg c13] at h
        refine R_const (pc := 46) (pc' := 47) (v := 0) (show z_ptc 47 46 = some (47, 0) by decide +kernel) ?_
        cases h
        exact R_retZ (show z_pt 47 47 = some (3, .ireturn, []) by decide +kernel) (t := .boolean) (by decide +kernel) (by decide)
      · rw [if_pos c13] at h
        refine R_const (pc := 42) (pc' := 43) (v := 1) (show z_ptc 47 42 = some (43, 1) by decide +kernel) ?_
        refine R_pure (pc := 43) (pc' := 47) (show z_pt 47 43 = some (3, .goto 4, []) by decide +kernel) rfl (fun _ _ _ => rfl) ?_
        cases h
        exact R_retZ (show z_pt 47 47 = some (3, .ireturn, []) by decide +kernel) (t := .boolean) (by decide +kernel) (by decide)
  · rw [if_pos c3] at h
    refine R_const (pc := 10) (pc' := 11) (v := 1) (show z_ptc 47 10 = some (11, 1) by decide +kernel) ?_
    cases h
    exact R_retZ (show z_pt 47 11 = some (3, .ireturn, []) by decide +kernel) (t := .boolean) (by decide +kernel) (by decide)
def pY_copyFrom (t : Nat) (u : Nat) (μ : z_Mem)  : Option z_Mem := some (z_cp (z_cp (z_cp (z_u (z_u (z_u μ t 0 (μ u 0)) t 1 ((z_u μ t 0 (μ u 0)) u 1)) t 2 ((z_u (z_u μ t 0 (μ u 0)) t 1 ((z_u μ t 0 (μ u 0)) u 1)) u 2)) (u + 1) (t + 1) 0 0 8) (u + 2) (t + 2) 0 0 8) (u + 3) (t + 3) 0 0 8)
theorem pY_copyFrom_run {t : Nat} {u : Nat} {μ : z_Mem}  (ht : zSk t = true) (hu : zSk u = true) {r : z_Mem} (h : pY_copyFrom t u μ = some r) : Rn 1 57 0 [(0, .ref t), (1, .ref u)] [] μ (.inl none) r := by
  unfold pY_copyFrom at h
  refine R_pure (pc := 0) (pc' := 1) (st' := [.ref t]) (show z_pt 57 0 = some (2, .aload_n 0, []) by decide +kernel) rfl (fun _ _ _ => rfl) ?_
  refine R_pure (pc := 1) (pc' := 2) (st' := [.ref u, .ref t]) (show z_pt 57 1 = some (2, .aload_n 1, []) by decide +kernel) rfl (fun _ _ _ => rfl) ?_
  refine R_getI (pc := 2) (a := u) (show z_pt 57 2 = some (2, .getfield 21, [6, 0, 1122]) by decide +kernel) (zSk_all hu).2.1 ?_
  refine R_at (pc := 5) ?_
  refine R_putI (pc := 5) (a := t) (show z_pt 57 5 = some (2, .putfield 21, [6, 0, 1122]) by decide +kernel) (zSk_all ht).2.1 ⟨rfl, rfl⟩ ?_
  refine R_at (pc := 8) ?_
  refine R_pure (pc := 8) (pc' := 9) (st' := [.ref t]) (show z_pt 57 8 = some (2, .aload_n 0, []) by decide +kernel) rfl (fun _ _ _ => rfl) ?_
  refine R_pure (pc := 9) (pc' := 10) (st' := [.ref u, .ref t]) (show z_pt 57 9 = some (2, .aload_n 1, []) by decide +kernel) rfl (fun _ _ _ => rfl) ?_
  refine R_getI (pc := 10) (a := u) (show z_pt 57 10 = some (2, .getfield 25, [6, 1, 1125]) by decide +kernel) (zSk_all hu).2.2.1 ?_
  refine R_at (pc := 13) ?_
  refine R_putI (pc := 13) (a := t) (show z_pt 57 13 = some (2, .putfield 25, [6, 1, 1125]) by decide +kernel) (zSk_all ht).2.2.1 ⟨rfl, rfl⟩ ?_
  refine R_at (pc := 16) ?_
  refine R_pure (pc := 16) (pc' := 17) (st' := [.ref t]) (show z_pt 57 16 = some (2, .aload_n 0, []) by decide +kernel) rfl (fun _ _ _ => rfl) ?_
  refine R_pure (pc := 17) (pc' := 18) (st' := [.ref u, .ref t]) (show z_pt 57 17 = some (2, .aload_n 1, []) by decide +kernel) rfl (fun _ _ _ => rfl) ?_
  refine R_getI (pc := 18) (a := u) (show z_pt 57 18 = some (2, .getfield 28, [6, 2, 1126]) by decide +kernel) (zSk_all hu).2.2.2.1 ?_
  refine R_at (pc := 21) ?_
  refine R_putI (pc := 21) (a := t) (show z_pt 57 21 = some (2, .putfield 28, [6, 2, 1126]) by decide +kernel) (zSk_all ht).2.2.2.1 ⟨rfl, rfl⟩ ?_
  refine R_at (pc := 24) ?_
  refine R_pure (pc := 24) (pc' := 25) (st' := [.ref u]) (show z_pt 57 24 = some (2, .aload_n 1, []) by decide +kernel) rfl (fun _ _ _ => rfl) ?_
  refine R_getR (pc := 25) (a := u) (b := (u + 1)) (show z_pt 57 25 = some (2, .getfield 9, [6, 3, 1127]) by decide +kernel) (zSk_all hu).2.2.2.2.1 ?_
  refine R_at (pc := 28) ?_
  refine R_const (pc := 28) (pc' := 29) (v := 0) (show z_ptc 57 28 = some (29, 0) by decide +kernel) ?_
  refine R_pure (pc := 29) (pc' := 30) (st' := [.ref t, .int 0, .ref (u + 1)]) (show z_pt 57 29 = some (2, .aload_n 0, []) by decide +kernel) rfl (fun _ _ _ => rfl) ?_
  refine R_getR (pc := 30) (a := t) (b := (t + 1)) (show z_pt 57 30 = some (2, .getfield 9, [6, 3, 1127]) by decide +kernel) (zSk_all ht).2.2.2.2.1 ?_
  refine R_at (pc := 33) ?_
  refine R_const (pc := 33) (pc' := 34) (v := 0) (show z_ptc 57 33 = some (34, 0) by decide +kernel) ?_
  refine R_const (pc := 34) (pc' := 36) (v := 8) (show z_ptc 57 34 = some (36, 8) by decide +kernel) ?_
  refine R_cpyK (t0 := 0) (t1 := 0) (pc := 36) (b := (u + 1)) (a := (t + 1)) (n0 := 8) (n1 := 8) (sn := 0) (dn := 0) (nn := 8) (show z_pt 57 36 = some (2, .invokestatic 31, [7, 0, 5, 2096, 2086, 2085, 1018]) by decide +kernel) rfl (by omega) (zSk_all hu).2.2.2.2.2.2.2.1 (zSk_all ht).2.2.2.2.2.2.2.1 rfl (by decide) ?_
  refine R_at (pc := 39) ?_
  refine R_pure (pc := 39) (pc' := 40) (st' := [.ref u]) (show z_pt 57 39 = some (2, .aload_n 1, []) by decide +kernel) rfl (fun _ _ _ => rfl) ?_
  refine R_getR (pc := 40) (a := u) (b := (u + 2)) (show z_pt 57 40 = some (2, .getfield 15, [6, 4, 1129]) by decide +kernel) (zSk_all hu).2.2.2.2.2.1 ?_
  refine R_at (pc := 43) ?_
  refine R_const (pc := 43) (pc' := 44) (v := 0) (show z_ptc 57 43 = some (44, 0) by decide +kernel) ?_
  refine R_pure (pc := 44) (pc' := 45) (st' := [.ref t, .int 0, .ref (u + 2)]) (show z_pt 57 44 = some (2, .aload_n 0, []) by decide +kernel) rfl (fun _ _ _ => rfl) ?_
  refine R_getR (pc := 45) (a := t) (b := (t + 2)) (show z_pt 57 45 = some (2, .getfield 15, [6, 4, 1129]) by decide +kernel) (zSk_all ht).2.2.2.2.2.1 ?_
  refine R_at (pc := 48) ?_
  refine R_const (pc := 48) (pc' := 49) (v := 0) (show z_ptc 57 48 = some (49, 0) by decide +kernel) ?_
  refine R_const (pc := 49) (pc' := 51) (v := 8) (show z_ptc 57 49 = some (51, 8) by decide +kernel) ?_
  refine R_cpyK (t0 := 0) (t1 := 0) (pc := 51) (b := (u + 2)) (a := (t + 2)) (n0 := 8) (n1 := 8) (sn := 0) (dn := 0) (nn := 8) (show z_pt 57 51 = some (2, .invokestatic 31, [7, 0, 5, 2096, 2086, 2085, 1018]) by decide +kernel) rfl (by omega) (zSk_all hu).2.2.2.2.2.2.2.2.1 (zSk_all ht).2.2.2.2.2.2.2.2.1 rfl (by decide) ?_
  refine R_at (pc := 54) ?_
  refine R_pure (pc := 54) (pc' := 55) (st' := [.ref u]) (show z_pt 57 54 = some (2, .aload_n 1, []) by decide +kernel) rfl (fun _ _ _ => rfl) ?_
  refine R_getR (pc := 55) (a := u) (b := (u + 3)) (show z_pt 57 55 = some (2, .getfield 18, [6, 5, 1132]) by decide +kernel) (zSk_all hu).2.2.2.2.2.2.1 ?_
  refine R_at (pc := 58) ?_
  refine R_const (pc := 58) (pc' := 59) (v := 0) (show z_ptc 57 58 = some (59, 0) by decide +kernel) ?_
  refine R_pure (pc := 59) (pc' := 60) (st' := [.ref t, .int 0, .ref (u + 3)]) (show z_pt 57 59 = some (2, .aload_n 0, []) by decide +kernel) rfl (fun _ _ _ => rfl) ?_
  refine R_getR (pc := 60) (a := t) (b := (t + 3)) (show z_pt 57 60 = some (2, .getfield 18, [6, 5, 1132]) by decide +kernel) (zSk_all ht).2.2.2.2.2.2.1 ?_
  refine R_at (pc := 63) ?_
  refine R_const (pc := 63) (pc' := 64) (v := 0) (show z_ptc 57 63 = some (64, 0) by decide +kernel) ?_
  refine R_const (pc := 64) (pc' := 66) (v := 8) (show z_ptc 57 64 = some (66, 8) by decide +kernel) ?_
  refine R_cpyK (t0 := 0) (t1 := 0) (pc := 66) (b := (u + 3)) (a := (t + 3)) (n0 := 8) (n1 := 8) (sn := 0) (dn := 0) (nn := 8) (show z_pt 57 66 = some (2, .invokestatic 31, [7, 0, 5, 2096, 2086, 2085, 1018]) by decide +kernel) rfl (by omega) (zSk_all hu).2.2.2.2.2.2.2.2.2 (zSk_all ht).2.2.2.2.2.2.2.2.2 rfl (by decide) ?_
  refine R_at (pc := 69) ?_
  cases h
  exact R_retV (show z_pt 57 69 = some (2, .return_, []) by decide +kernel) (by decide +kernel)
def pQ_copyFrom (t : Nat) (u : Nat) (μ : z_Mem)  : Option z_Mem := some (z_cp (z_cp (z_u μ t 0 (μ u 0)) (u + 1) (t + 1) 0 0 4) (u + 2) (t + 2) 0 0 4)
theorem pQ_copyFrom_run {t : Nat} {u : Nat} {μ : z_Mem}  (ht : zWh t = true) (hu : zWh u = true) {r : z_Mem} (h : pQ_copyFrom t u μ = some r) : Rn 1 71 0 [(0, .ref t), (1, .ref u)] [] μ (.inl none) r := by
  unfold pQ_copyFrom at h
  refine R_pure (pc := 0) (pc' := 1) (st' := [.ref t]) (show z_pt 71 0 = some (2, .aload_n 0, []) by decide +kernel) rfl (fun _ _ _ => rfl) ?_
  refine R_pure (pc := 1) (pc' := 2) (st' := [.ref u, .ref t]) (show z_pt 71 1 = some (2, .aload_n 1, []) by decide +kernel) rfl (fun _ _ _ => rfl) ?_
  refine R_getI (pc := 2) (a := u) (show z_pt 71 2 = some (2, .getfield 18, [8, 0, 1101]) by decide +kernel) (zWh_all hu).2.1 ?_
  refine R_at (pc := 5) ?_
  refine R_putI (pc := 5) (a := t) (show z_pt 71 5 = some (2, .putfield 18, [8, 0, 1101]) by decide +kernel) (zWh_all ht).2.1 ⟨rfl, rfl⟩ ?_
  refine R_at (pc := 8) ?_
  refine R_pure (pc := 8) (pc' := 9) (st' := [.ref u]) (show z_pt 71 8 = some (2, .aload_n 1, []) by decide +kernel) rfl (fun _ _ _ => rfl) ?_
  refine R_getR (pc := 9) (a := u) (b := (u + 1)) (show z_pt 71 9 = some (2, .getfield 9, [8, 1, 1103]) by decide +kernel) (zWh_all hu).2.2.1 ?_
  refine R_at (pc := 12) ?_
  refine R_const (pc := 12) (pc' := 13) (v := 0) (show z_ptc 71 12 = some (13, 0) by decide +kernel) ?_
  refine R_pure (pc := 13) (pc' := 14) (st' := [.ref t, .int 0, .ref (u + 1)]) (show z_pt 71 13 = some (2, .aload_n 0, []) by decide +kernel) rfl (fun _ _ _ => rfl) ?_
  refine R_getR (pc := 14) (a := t) (b := (t + 1)) (show z_pt 71 14 = some (2, .getfield 9, [8, 1, 1103]) by decide +kernel) (zWh_all ht).2.2.1 ?_
  refine R_at (pc := 17) ?_
  refine R_const (pc := 17) (pc' := 18) (v := 0) (show z_ptc 71 17 = some (18, 0) by decide +kernel) ?_
  refine R_const (pc := 18) (pc' := 19) (v := 4) (show z_ptc 71 18 = some (19, 4) by decide +kernel) ?_
  refine R_cpyK (t0 := 0) (t1 := 0) (pc := 19) (b := (u + 1)) (a := (t + 1)) (n0 := 4) (n1 := 4) (sn := 0) (dn := 0) (nn := 4) (show z_pt 71 19 = some (2, .invokestatic 22, [7, 0, 5, 2091, 2086, 2085, 1018]) by decide +kernel) rfl (by omega) (zWh_all hu).2.2.2.2.1 (zWh_all ht).2.2.2.2.1 rfl (by decide) ?_
  refine R_at (pc := 22) ?_
  refine R_pure (pc := 22) (pc' := 23) (st' := [.ref u]) (show z_pt 71 22 = some (2, .aload_n 1, []) by decide +kernel) rfl (fun _ _ _ => rfl) ?_
  refine R_getR (pc := 23) (a := u) (b := (u + 2)) (show z_pt 71 23 = some (2, .getfield 15, [8, 2, 1106]) by decide +kernel) (zWh_all hu).2.2.2.1 ?_
  refine R_at (pc := 26) ?_
  refine R_const (pc := 26) (pc' := 27) (v := 0) (show z_ptc 71 26 = some (27, 0) by decide +kernel) ?_
  refine R_pure (pc := 27) (pc' := 28) (st' := [.ref t, .int 0, .ref (u + 2)]) (show z_pt 71 27 = some (2, .aload_n 0, []) by decide +kernel) rfl (fun _ _ _ => rfl) ?_
  refine R_getR (pc := 28) (a := t) (b := (t + 2)) (show z_pt 71 28 = some (2, .getfield 15, [8, 2, 1106]) by decide +kernel) (zWh_all ht).2.2.2.1 ?_
  refine R_at (pc := 31) ?_
  refine R_const (pc := 31) (pc' := 32) (v := 0) (show z_ptc 71 31 = some (32, 0) by decide +kernel) ?_
  refine R_const (pc := 32) (pc' := 33) (v := 4) (show z_ptc 71 32 = some (33, 4) by decide +kernel) ?_
  refine R_cpyK (t0 := 0) (t1 := 0) (pc := 33) (b := (u + 2)) (a := (t + 2)) (n0 := 4) (n1 := 4) (sn := 0) (dn := 0) (nn := 4) (show z_pt 71 33 = some (2, .invokestatic 22, [7, 0, 5, 2091, 2086, 2085, 1018]) by decide +kernel) rfl (by omega) (zWh_all hu).2.2.2.2.2 (zWh_all ht).2.2.2.2.2 rfl (by decide) ?_
  refine R_at (pc := 36) ?_
  cases h
  exact R_retV (show z_pt 71 36 = some (2, .return_, []) by decide +kernel) (by decide +kernel)
def pA_copyFrom (t : Nat) (u : Nat) (μ : z_Mem)  : Option z_Mem := (pT_copyFrom (t + 1) (u + 1) μ).bind fun q1 => (pQ_copyFrom (t + 8) (u + 8) q1).bind fun q3 => (pY_copyFrom (t + 11) (u + 11) q3).bind fun q5 => (pE_copyFrom (t + 15) (u + 15) q5).bind fun q7 => some q7
theorem pA_copyFrom_run {t : Nat} {u : Nat} {μ : z_Mem}  (ht : zSt t = true) (hu : zSt u = true) {r : z_Mem} (h : pA_copyFrom t u μ = some r) : Rn 2 65 0 [(0, .ref t), (1, .ref u)] [] μ (.inl none) r := by
  unfold pA_copyFrom at h
  refine R_pure (pc := 0) (pc' := 1) (st' := [.ref t]) (show z_pt 65 0 = some (2, .aload_n 0, []) by decide +kernel) rfl (fun _ _ _ => rfl) ?_
  refine R_getR (pc := 1) (a := t) (b := (t + 1)) (show z_pt 65 1 = some (2, .getfield 12, [7, 0, 1171]) by decide +kernel) (zSt_all ht).2.1 ?_
  refine R_at (pc := 4) ?_
  refine R_pure (pc := 4) (pc' := 5) (st' := [.ref u, .ref (t + 1)]) (show z_pt 65 4 = some (2, .aload_n 1, []) by decide +kernel) rfl (fun _ _ _ => rfl) ?_
  refine R_getR (pc := 5) (a := u) (b := (u + 1)) (show z_pt 65 5 = some (2, .getfield 12, [7, 0, 1171]) by decide +kernel) (zSt_all hu).2.1 ?_
  refine R_at (pc := 8) ?_
  obtain ⟨q1, e2, h⟩ := z_bs h
  refine R_call (pc := 8) (rr := []) (show z_pt 65 8 = some (2, .invokevirtual 39, [0, 22, 1, 2080, 2081, 2082, 1003, 2083]) by decide +kernel) rfl (show z_r2 22 = some (2, 2, true) by decide +kernel) rfl rfl (Or.inr ⟨_, _, rfl, (zSt_all ht).2.2.2.2.2.1⟩) (pT_copyFrom_run (zSt_tr ht) (zSt_tr hu) e2) (by omega) ?_
  refine R_at2 (pc := 11) (st := []) ?_
  refine R_pure (pc := 11) (pc' := 12) (st' := [.ref t]) (show z_pt 65 11 = some (2, .aload_n 0, []) by decide +kernel) rfl (fun _ _ _ => rfl) ?_
  refine R_getR (pc := 12) (a := t) (b := (t + 8)) (show z_pt 65 12 = some (2, .getfield 21, [7, 1, 1173]) by decide +kernel) (zSt_all ht).2.2.1 ?_
  refine R_at (pc := 15) ?_
  refine R_pure (pc := 15) (pc' := 16) (st' := [.ref u, .ref (t + 8)]) (show z_pt 65 15 = some (2, .aload_n 1, []) by decide +kernel) rfl (fun _ _ _ => rfl) ?_
  refine R_getR (pc := 16) (a := u) (b := (u + 8)) (show z_pt 65 16 = some (2, .getfield 21, [7, 1, 1173]) by decide +kernel) (zSt_all hu).2.2.1 ?_
  refine R_at (pc := 19) ?_
  obtain ⟨q3, e4, h⟩ := z_bs h
  refine R_call (pc := 19) (rr := []) (show z_pt 65 19 = some (2, .invokevirtual 43, [0, 71, 1, 2087, 2088, 2089, 1004, 2090]) by decide +kernel) rfl (show z_r2 71 = some (8, 2, true) by decide +kernel) rfl rfl (Or.inr ⟨_, _, rfl, (zSt_all ht).2.2.2.2.2.2.2.2.2.2.2.2.2.2.2.2.2.2.2.2.2.1⟩) (pQ_copyFrom_run (zSt_wh ht) (zSt_wh hu) e4) (by omega) ?_
  refine R_at2 (pc := 22) (st := []) ?_
  refine R_pure (pc := 22) (pc' := 23) (st' := [.ref t]) (show z_pt 65 22 = some (2, .aload_n 0, []) by decide +kernel) rfl (fun _ _ _ => rfl) ?_
  refine R_getR (pc := 23) (a := t) (b := (t + 11)) (show z_pt 65 23 = some (2, .getfield 28, [7, 2, 1175]) by decide +kernel) (zSt_all ht).2.2.2.1 ?_
  refine R_at (pc := 26) ?_
  refine R_pure (pc := 26) (pc' := 27) (st' := [.ref u, .ref (t + 11)]) (show z_pt 65 26 = some (2, .aload_n 1, []) by decide +kernel) rfl (fun _ _ _ => rfl) ?_
  refine R_getR (pc := 27) (a := u) (b := (u + 11)) (show z_pt 65 27 = some (2, .getfield 28, [7, 2, 1175]) by decide +kernel) (zSt_all hu).2.2.2.1 ?_
  refine R_at (pc := 30) ?_
  obtain ⟨q5, e6, h⟩ := z_bs h
  refine R_call (pc := 30) (rr := []) (show z_pt 65 30 = some (2, .invokevirtual 46, [0, 57, 1, 2092, 2093, 2094, 1005, 2095]) by decide +kernel) rfl (show z_r2 57 = some (6, 2, true) by decide +kernel) rfl rfl (Or.inr ⟨_, _, rfl, (zSt_all ht).2.2.2.2.2.2.2.2.2.2.2.2.2.2.2.2.2.2.2.2.2.2.2.2.2.2.2.1⟩) (pY_copyFrom_run (zSt_sk ht) (zSt_sk hu) e6) (by omega) ?_
  refine R_at2 (pc := 33) (st := []) ?_
  refine R_pure (pc := 33) (pc' := 34) (st' := [.ref t]) (show z_pt 65 33 = some (2, .aload_n 0, []) by decide +kernel) rfl (fun _ _ _ => rfl) ?_
  refine R_getR (pc := 34) (a := t) (b := (t + 15)) (show z_pt 65 34 = some (2, .getfield 35, [7, 3, 1177]) by decide +kernel) (zSt_all ht).2.2.2.2.1 ?_
  refine R_at (pc := 37) ?_
  refine R_pure (pc := 37) (pc' := 38) (st' := [.ref u, .ref (t + 15)]) (show z_pt 65 37 = some (2, .aload_n 1, []) by decide +kernel) rfl (fun _ _ _ => rfl) ?_
  refine R_getR (pc := 38) (a := u) (b := (u + 15)) (show z_pt 65 38 = some (2, .getfield 35, [7, 3, 1177]) by decide +kernel) (zSt_all hu).2.2.2.2.1 ?_
  refine R_at (pc := 41) ?_
  obtain ⟨q7, e8, h⟩ := z_bs h
  refine R_call (pc := 41) (rr := []) (show z_pt 65 41 = some (2, .invokevirtual 49, [0, 15, 1, 2097, 2098, 2099, 1006, 2100]) by decide +kernel) rfl (show z_r2 15 = some (1, 2, true) by decide +kernel) rfl rfl (Or.inr ⟨_, _, rfl, (zSt_all ht).2.2.2.2.2.2.2.2.2.2.2.2.2.2.2.2.2.2.2.2.2.2.2.2.2.2.2.2.2.2.2.2.2.2.2.2.2.1⟩) (pE_copyFrom_run (zSt_en ht) (zSt_en hu) e8) (by omega) ?_
  refine R_at2 (pc := 44) (st := []) ?_
  cases h
  exact R_retV (show z_pt 65 44 = some (2, .return_, []) by decide +kernel) (by decide +kernel)
def pH_begin  (μ : z_Mem)  : Option z_Mem := if z_inb (μ 57 1) 9 = true then (some (z_rg (μ 57 1))).bind fun w2 => (pA_copyFrom w2 1 μ).bind fun q3 => some q3 else none
theorem pH_begin_run  {μ : z_Mem}   {r : z_Mem} (h : pH_begin μ = some r) : Rn 3 49 0 [(0, .ref 57), (1, .ref 1)] [] μ (.inl none) r := by
  unfold pH_begin at h
  refine R_pure (pc := 0) (pc' := 1) (st' := [.ref 57]) (show z_pt 49 0 = some (3, .aload_n 0, []) by decide +kernel) rfl (fun _ _ _ => rfl) ?_
  refine R_getR (pc := 1) (a := 57) (b := 58) (show z_pt 49 1 = some (3, .getfield 13, [4, 2, 2029]) by decide +kernel) (by decide +kernel) ?_
  refine R_at (pc := 4) ?_
  refine R_pure (pc := 4) (pc' := 5) (st' := [.ref 57, .ref 58]) (show z_pt 49 4 = some (3, .aload_n 0, []) by decide +kernel) rfl (fun _ _ _ => rfl) ?_
  refine R_getI (pc := 5) (a := 57) (show z_pt 49 5 = some (3, .getfield 18, [4, 1, 2028]) by decide +kernel) (by decide +kernel) ?_
  refine R_at (pc := 8) ?_
  obtain ⟨g1, h⟩ := z_ig h
  obtain ⟨w2, ew2, h⟩ := z_bs h
  have hw2 : zSt w2 = true := z_rg_ok g1 ew2
  refine R_ring (pc := 8) (w := w2) (show z_pt 49 8 = some (3, .aaload, []) by decide +kernel) g1 ew2 ?_
  refine R_at (pc := 9) ?_
  refine R_pure (pc := 9) (pc' := 10) (ls' := [(0, .ref 57), (1, .ref 1), (2, .ref w2)]) (st' := []) (show z_pt 49 9 = some (3, .astore_n 2, []) by decide +kernel) rfl (fun _ _ _ => rfl) ?_
  refine R_pure (pc := 10) (pc' := 11) (st' := [.ref w2]) (show z_pt 49 10 = some (3, .aload_n 2, []) by decide +kernel) rfl (fun _ _ _ => rfl) ?_
  refine R_pure (pc := 11) (pc' := 14) (st' := []) (show z_pt 49 11 = some (3, .ifnull 8, []) by decide +kernel) rfl (fun _ _ _ => rfl) ?_
  refine R_pure (pc := 14) (pc' := 15) (st' := [.ref w2]) (show z_pt 49 14 = some (3, .aload_n 2, []) by decide +kernel) rfl (fun _ _ _ => rfl) ?_
  refine R_pure (pc := 15) (pc' := 16) (st' := [.ref 1, .ref w2]) (show z_pt 49 15 = some (3, .aload_n 1, []) by decide +kernel) rfl (fun _ _ _ => rfl) ?_
  obtain ⟨q3, e4, h⟩ := z_bs h
  refine R_call (pc := 16) (rr := []) (show z_pt 49 16 = some (3, .invokevirtual 22, [0, 65, 1, 2076, 2077, 2078, 1002, 2079]) by decide +kernel) rfl (show z_r2 65 = some (7, 2, true) by decide +kernel) rfl rfl (Or.inr ⟨_, _, rfl, (zSt_all hw2).1⟩) (pA_copyFrom_run hw2 (show zSt 1 = true by decide +kernel) e4) (by omega) ?_
  refine R_at2 (pc := 19) (st := []) ?_
  cases h
  exact R_retV (show z_pt 49 19 = some (3, .return_, []) by decide +kernel) (by decide +kernel)
def pH_takeBack  (μ : z_Mem)  : Option z_Mem := if z_inb (μ 57 1) 9 = true then (some (z_rg (μ 57 1))).bind fun w2 => (pA_copyFrom 1 w2 μ).bind fun q3 => some q3 else none
theorem pH_takeBack_run  {μ : z_Mem}   {r : z_Mem} (h : pH_takeBack μ = some r) : Rn 3 50 0 [(0, .ref 57), (1, .ref 1)] [] μ (.inl none) r := by
  unfold pH_takeBack at h
  refine R_pure (pc := 0) (pc' := 1) (st' := [.ref 57]) (show z_pt 50 0 = some (3, .aload_n 0, []) by decide +kernel) rfl (fun _ _ _ => rfl) ?_
  refine R_getR (pc := 1) (a := 57) (b := 58) (show z_pt 50 1 = some (3, .getfield 13, [4, 2, 2029]) by decide +kernel) (by decide +kernel) ?_
  refine R_at (pc := 4) ?_
  refine R_pure (pc := 4) (pc' := 5) (st' := [.ref 57, .ref 58]) (show z_pt 50 4 = some (3, .aload_n 0, []) by decide +kernel) rfl (fun _ _ _ => rfl) ?_
  refine R_getI (pc := 5) (a := 57) (show z_pt 50 5 = some (3, .getfield 18, [4, 1, 2028]) by decide +kernel) (by decide +kernel) ?_
  refine R_at (pc := 8) ?_
  obtain ⟨g1, h⟩ := z_ig h
  obtain ⟨w2, ew2, h⟩ := z_bs h
  have hw2 : zSt w2 = true := z_rg_ok g1 ew2
  refine R_ring (pc := 8) (w := w2) (show z_pt 50 8 = some (3, .aaload, []) by decide +kernel) g1 ew2 ?_
  refine R_at (pc := 9) ?_
  refine R_pure (pc := 9) (pc' := 10) (ls' := [(0, .ref 57), (1, .ref 1), (2, .ref w2)]) (st' := []) (show z_pt 50 9 = some (3, .astore_n 2, []) by decide +kernel) rfl (fun _ _ _ => rfl) ?_
  refine R_pure (pc := 10) (pc' := 11) (st' := [.ref w2]) (show z_pt 50 10 = some (3, .aload_n 2, []) by decide +kernel) rfl (fun _ _ _ => rfl) ?_
  refine R_pure (pc := 11) (pc' := 14) (st' := []) (show z_pt 50 11 = some (3, .ifnull 8, []) by decide +kernel) rfl (fun _ _ _ => rfl) ?_
  refine R_pure (pc := 14) (pc' := 15) (st' := [.ref 1]) (show z_pt 50 14 = some (3, .aload_n 1, []) by decide +kernel) rfl (fun _ _ _ => rfl) ?_
  refine R_pure (pc := 15) (pc' := 16) (st' := [.ref w2, .ref 1]) (show z_pt 50 15 = some (3, .aload_n 2, []) by decide +kernel) rfl (fun _ _ _ => rfl) ?_
  obtain ⟨q3, e4, h⟩ := z_bs h
  refine R_call (pc := 16) (rr := []) (show z_pt 50 16 = some (3, .invokevirtual 22, [0, 65, 1, 2076, 2077, 2078, 1002, 2079]) by decide +kernel) rfl (show z_r2 65 = some (7, 2, true) by decide +kernel) rfl rfl (Or.inr ⟨_, _, rfl, (by decide +kernel)⟩) (pA_copyFrom_run (show zSt 1 = true by decide +kernel) hw2 e4) (by omega) ?_
  refine R_at2 (pc := 19) (st := []) ?_
  cases h
  exact R_retV (show z_pt 50 19 = some (3, .return_, []) by decide +kernel) (by decide +kernel)
def pH_keep  (μ : z_Mem)  : Option z_Mem := (pJ_min (z_u μ 57 1 (((μ 57 1) + 1) - ((μ 57 1) + 1) / 9 * 9)) (((z_u μ 57 1 (((μ 57 1) + 1) - ((μ 57 1) + 1) / 9 * 9)) 57 0) + 1) 8).bind fun q1 => some (z_u (z_u μ 57 1 (((μ 57 1) + 1) - ((μ 57 1) + 1) / 9 * 9)) 57 0 q1)
theorem pH_keep_run  {μ : z_Mem}   {r : z_Mem} (h : pH_keep μ = some r) : Rn 1 51 0 [(0, .ref 57)] [] μ (.inl none) r := by
  unfold pH_keep at h
  refine R_pure (pc := 0) (pc' := 1) (st' := [.ref 57]) (show z_pt 51 0 = some (1, .aload_n 0, []) by decide +kernel) rfl (fun _ _ _ => rfl) ?_
  refine R_pure (pc := 1) (pc' := 2) (st' := [.ref 57, .ref 57]) (show z_pt 51 1 = some (1, .aload_n 0, []) by decide +kernel) rfl (fun _ _ _ => rfl) ?_
  refine R_getI (pc := 2) (a := 57) (show z_pt 51 2 = some (1, .getfield 18, [4, 1, 2028]) by decide +kernel) (by decide +kernel) ?_
  refine R_at (pc := 5) ?_
  refine R_const (pc := 5) (pc' := 6) (v := 1) (show z_ptc 51 5 = some (6, 1) by decide +kernel) ?_
  refine R_pure (pc := 6) (pc' := 7) (st' := [.int ((μ 57 1) + 1), .ref 57]) (show z_pt 51 6 = some (1, .iadd, []) by decide +kernel) rfl (fun _ _ _ => rfl) ?_
  refine R_const (pc := 7) (pc' := 9) (v := 9) (show z_ptc 51 7 = some (9, 9) by decide +kernel) ?_
  refine R_rem (x := ((μ 57 1) + 1)) (y := 9) (show z_pt 51 9 = some (1, .irem, []) by decide +kernel) (by decide) ?_
  refine R_putI (pc := 10) (a := 57) (show z_pt 51 10 = some (1, .putfield 18, [4, 1, 2028]) by decide +kernel) (by decide +kernel) ⟨rfl, rfl⟩ ?_
  refine R_at (pc := 13) ?_
  refine R_pure (pc := 13) (pc' := 14) (st' := [.ref 57]) (show z_pt 51 13 = some (1, .aload_n 0, []) by decide +kernel) rfl (fun _ _ _ => rfl) ?_
  refine R_pure (pc := 14) (pc' := 15) (st' := [.ref 57, .ref 57]) (show z_pt 51 14 = some (1, .aload_n 0, []) by decide +kernel) rfl (fun _ _ _ => rfl) ?_
  refine R_getI (pc := 15) (a := 57) (show z_pt 51 15 = some (1, .getfield 26, [4, 0, 2026]) by decide +kernel) (by decide +kernel) ?_
  refine R_at (pc := 18) ?_
  refine R_const (pc := 18) (pc' := 19) (v := 1) (show z_ptc 51 18 = some (19, 1) by decide +kernel) ?_
  refine R_pure (pc := 19) (pc' := 20) (st' := [.int (((z_u μ 57 1 (((μ 57 1) + 1) - ((μ 57 1) + 1) / 9 * 9)) 57 0) + 1), .ref 57]) (show z_pt 51 19 = some (1, .iadd, []) by decide +kernel) rfl (fun _ _ _ => rfl) ?_
  refine R_const (pc := 20) (pc' := 22) (v := 8) (show z_ptc 51 20 = some (22, 8) by decide +kernel) ?_
  obtain ⟨q1, e2, h⟩ := z_bs h
  refine R_call (pc := 22) (rr := [.ref 57]) (show z_pt 51 22 = some (1, .invokestatic 29, [1, 160, 2, 2234, 2235, 0, 1008, 2236]) by decide +kernel) rfl (show z_r2 160 = some (12, 2, true) by decide +kernel) rfl rfl (Or.inl (by decide)) (pJ_min_run  e2) (by omega) ?_
  refine R_at2 (pc := 25) (st := [.int q1, .ref 57]) ?_
  refine R_putI (pc := 25) (a := 57) (show z_pt 51 25 = some (1, .putfield 26, [4, 0, 2026]) by decide +kernel) (by decide +kernel) ⟨rfl, rfl⟩ ?_
  refine R_at (pc := 28) ?_
  cases h
  exact R_retV (show z_pt 51 28 = some (1, .return_, []) by decide +kernel) (by decide +kernel)
def pH_undoLatest  (μ : z_Mem)  : Option z_Mem := (pH_takeBack (z_u (z_u μ 57 1 ((((μ 57 1) + 9) - 1) - (((μ 57 1) + 9) - 1) / 9 * 9)) 57 0 (((z_u μ 57 1 ((((μ 57 1) + 9) - 1) - (((μ 57 1) + 9) - 1) / 9 * 9)) 57 0) - 1))).bind fun q1 => some q1
theorem pH_undoLatest_run  {μ : z_Mem}   {r : z_Mem} (h : pH_undoLatest μ = some r) : Rn 4 52 0 [(0, .ref 57), (1, .ref 1)] [] μ (.inl none) r := by
  unfold pH_undoLatest at h
  refine R_pure (pc := 0) (pc' := 1) (st' := [.ref 57]) (show z_pt 52 0 = some (2, .aload_n 0, []) by decide +kernel) rfl (fun _ _ _ => rfl) ?_
  refine R_pure (pc := 1) (pc' := 2) (st' := [.ref 57, .ref 57]) (show z_pt 52 1 = some (2, .aload_n 0, []) by decide +kernel) rfl (fun _ _ _ => rfl) ?_
  refine R_getI (pc := 2) (a := 57) (show z_pt 52 2 = some (2, .getfield 18, [4, 1, 2028]) by decide +kernel) (by decide +kernel) ?_
  refine R_at (pc := 5) ?_
  refine R_const (pc := 5) (pc' := 7) (v := 9) (show z_ptc 52 5 = some (7, 9) by decide +kernel) ?_
  refine R_pure (pc := 7) (pc' := 8) (st' := [.int ((μ 57 1) + 9), .ref 57]) (show z_pt 52 7 = some (2, .iadd, []) by decide +kernel) rfl (fun _ _ _ => rfl) ?_
  refine R_const (pc := 8) (pc' := 9) (v := 1) (show z_ptc 52 8 = some (9, 1) by decide +kernel) ?_
  refine R_pure (pc := 9) (pc' := 10) (st' := [.int (((μ 57 1) + 9) - 1), .ref 57]) (show z_pt 52 9 = some (2, .isub, []) by decide +kernel) rfl (fun _ _ _ => rfl) ?_
  refine R_const (pc := 10) (pc' := 12) (v := 9) (show z_ptc 52 10 = some (12, 9) by decide +kernel) ?_
  refine R_rem (x := (((μ 57 1) + 9) - 1)) (y := 9) (show z_pt 52 12 = some (2, .irem, []) by decide +kernel) (by decide) ?_
  refine R_putI (pc := 13) (a := 57) (show z_pt 52 13 = some (2, .putfield 18, [4, 1, 2028]) by decide +kernel) (by decide +kernel) ⟨rfl, rfl⟩ ?_
  refine R_at (pc := 16) ?_
  refine R_pure (pc := 16) (pc' := 17) (st' := [.ref 57]) (show z_pt 52 16 = some (2, .aload_n 0, []) by decide +kernel) rfl (fun _ _ _ => rfl) ?_
  refine R_pure (pc := 17) (pc' := 18) (st' := [.ref 57, .ref 57]) (show z_pt 52 17 = some (2, .dup, []) by decide +kernel) rfl (fun _ _ _ => rfl) ?_
  refine R_getI (pc := 18) (a := 57) (show z_pt 52 18 = some (2, .getfield 26, [4, 0, 2026]) by decide +kernel) (by decide +kernel) ?_
  refine R_at (pc := 21) ?_
  refine R_const (pc := 21) (pc' := 22) (v := 1) (show z_ptc 52 21 = some (22, 1) by decide +kernel) ?_
  refine R_pure (pc := 22) (pc' := 23) (st' := [.int (((z_u μ 57 1 ((((μ 57 1) + 9) - 1) - (((μ 57 1) + 9) - 1) / 9 * 9)) 57 0) - 1), .ref 57]) (show z_pt 52 22 = some (2, .isub, []) by decide +kernel) rfl (fun _ _ _ => rfl) ?_
  refine R_putI (pc := 23) (a := 57) (show z_pt 52 23 = some (2, .putfield 26, [4, 0, 2026]) by decide +kernel) (by decide +kernel) ⟨rfl, rfl⟩ ?_
  refine R_at (pc := 26) ?_
  refine R_pure (pc := 26) (pc' := 27) (st' := [.ref 57]) (show z_pt 52 26 = some (2, .aload_n 0, []) by decide +kernel) rfl (fun _ _ _ => rfl) ?_
  refine R_pure (pc := 27) (pc' := 28) (st' := [.ref 1, .ref 57]) (show z_pt 52 27 = some (2, .aload_n 1, []) by decide +kernel) rfl (fun _ _ _ => rfl) ?_
  obtain ⟨q1, e2, h⟩ := z_bs h
  refine R_call (pc := 28) (rr := []) (show z_pt 52 28 = some (2, .invokevirtual 35, [0, 50, 1, 5083, 5052, 5053, 1011, 5054]) by decide +kernel) rfl (show z_r2 50 = some (4, 3, true) by decide +kernel) rfl rfl (Or.inr ⟨_, _, rfl, (by decide +kernel)⟩) (pH_takeBack_run  e2) (by omega) ?_
  refine R_at2 (pc := 31) (st := []) ?_
  cases h
  exact R_retV (show z_pt 52 31 = some (2, .return_, []) by decide +kernel) (by decide +kernel)
def pS_clear (t : Nat) (n : Nat) (μ : z_Mem)  : Option z_Mem := some (z_u μ t 0 0)
theorem pS_clear_run {t : Nat} {n : Nat} {μ : z_Mem}  (ht : zSg t n = true) {r : z_Mem} (h : pS_clear t n μ = some r) : Rn 0 54 0 [(0, .ref t)] [] μ (.inl none) r := by
  unfold pS_clear at h
  refine R_pure (pc := 0) (pc' := 1) (st' := [.ref t]) (show z_pt 54 0 = some (1, .aload_n 0, []) by decide +kernel) rfl (fun _ _ _ => rfl) ?_
  refine R_const (pc := 1) (pc' := 2) (v := 0) (show z_ptc 54 1 = some (2, 0) by decide +kernel) ?_
  refine R_putI (pc := 2) (a := t) (show z_pt 54 2 = some (1, .putfield 19, [5, 0, 1197]) by decide +kernel) (zSg_all ht).2.1 ⟨rfl, rfl⟩ ?_
  refine R_at (pc := 5) ?_
  cases h
  exact R_retV (show z_pt 54 5 = some (1, .return_, []) by decide +kernel) (by decide +kernel)
def pS_put (t : Nat) (n : Nat) (μ : z_Mem) (i1 : Int32) : Option (Int32 × z_Mem) := if (μ t 0) < (Int32.ofNat n) then if z_inb (μ t 0) n = true then some (1, (z_u (z_u μ (t + 1) (μ t 0).toNatClampNeg (vp_nar .char i1)) t 0 (((z_u μ (t + 1) (μ t 0).toNatClampNeg (vp_nar .char i1)) t 0) + 1))) else none else some (0, μ)
theorem pS_put_run {t : Nat} {n : Nat} {μ : z_Mem} {i1 : Int32} (ht : zSg t n = true) {r : (Int32 × z_Mem)} (h : pS_put t n μ i1 = some r) : Rn 0 55 0 [(0, .ref t), (1, .int i1)] [] μ (.inl (some (.int r.1))) r.2 := by
  unfold pS_put at h
  refine R_pure (pc := 0) (pc' := 1) (st' := [.ref t]) (show z_pt 55 0 = some (2, .aload_n 0, []) by decide +kernel) rfl (fun _ _ _ => rfl) ?_
  refine R_getI (pc := 1) (a := t) (show z_pt 55 1 = some (2, .getfield 19, [5, 0, 1197]) by decide +kernel) (zSg_all ht).2.1 ?_
  refine R_at (pc := 4) ?_
  refine R_pure (pc := 4) (pc' := 5) (st' := [.ref t, .int (μ t 0)]) (show z_pt 55 4 = some (2, .aload_n 0, []) by decide +kernel) rfl (fun _ _ _ => rfl) ?_
  refine R_getR (pc := 5) (a := t) (b := (t + 1)) (show z_pt 55 5 = some (2, .getfield 13, [5, 1, 1200]) by decide +kernel) (zSg_all ht).2.2.1 ?_
  refine R_at (pc := 8) ?_
  refine R_len (pc := 8) (a := (t + 1)) (n := n) (show z_pt 55 8 = some (2, .arraylength, []) by decide +kernel) (zSg_all ht).2.2.2 rfl ?_
  refine R_at (pc := 9) ?_
  refine R_icmlt (pc := 9) (t := 14) (show z_pt 55 9 = some (2, .if_icmp .lt 5, []) by decide +kernel) (by decide) (fun c1 => ?_) (fun c1 => ?_)
  · rw [if_pos c1] at h
    refine R_pure (pc := 14) (pc' := 15) (st' := [.ref t]) (show z_pt 55 14 = some (2, .aload_n 0, []) by decide +kernel) rfl (fun _ _ _ => rfl) ?_
    refine R_getR (pc := 15) (a := t) (b := (t + 1)) (show z_pt 55 15 = some (2, .getfield 13, [5, 1, 1200]) by decide +kernel) (zSg_all ht).2.2.1 ?_
    refine R_at (pc := 18) ?_
    refine R_pure (pc := 18) (pc' := 19) (st' := [.ref t, .ref (t + 1)]) (show z_pt 55 18 = some (2, .aload_n 0, []) by decide +kernel) rfl (fun _ _ _ => rfl) ?_
    refine R_getI (pc := 19) (a := t) (show z_pt 55 19 = some (2, .getfield 19, [5, 0, 1197]) by decide +kernel) (zSg_all ht).2.1 ?_
    refine R_at (pc := 22) ?_
    refine R_pure (pc := 22) (pc' := 23) (st' := [.int i1, .int (μ t 0), .ref (t + 1)]) (show z_pt 55 22 = some (2, .iload_n 1, []) by decide +kernel) rfl (fun _ _ _ => rfl) ?_
    obtain ⟨g2, h⟩ := z_ig h
    refine R_cast (pc := 23) (a := (t + 1)) (n := n) (show z_pt 55 23 = some (2, .castore, []) by decide +kernel) (zSg_all ht).2.2.2 g2 ?_
    refine R_at (pc := 24) ?_
    refine R_pure (pc := 24) (pc' := 25) (st' := [.ref t]) (show z_pt 55 24 = some (2, .aload_n 0, []) by decide +kernel) rfl (fun _ _ _ => rfl) ?_
    refine R_pure (pc := 25) (pc' := 26) (st' := [.ref t, .ref t]) (show z_pt 55 25 = some (2, .dup, []) by decide +kernel) rfl (fun _ _ _ => rfl) ?_
    refine R_getI (pc := 26) (a := t) (show z_pt 55 26 = some (2, .getfield 19, [5, 0, 1197]) by decide +kernel) (zSg_all ht).2.1 ?_
    refine R_at (pc := 29) ?_
    refine R_const (pc := 29) (pc' := 30) (v := 1) (show z_ptc 55 29 = some (30, 1) by decide +kernel) ?_
    refine R_pure (pc := 30) (pc' := 31) (st' := [.int (((z_u μ (t + 1) (μ t 0).toNatClampNeg (vp_nar .char i1)) t 0) + 1), .ref t]) (show z_pt 55 30 = some (2, .iadd, []) by decide +kernel) rfl (fun _ _ _ => rfl) ?_
    refine R_putI (pc := 31) (a := t) (show z_pt 55 31 = some (2, .putfield 19, [5, 0, 1197]) by decide +kernel) (zSg_all ht).2.1 ⟨rfl, rfl⟩ ?_
    refine R_at (pc := 34) ?_
    refine R_const (pc := 34) (pc' := 35) (v := 1) (show z_ptc 55 34 = some (35, 1) by decide +kernel) ?_
    cases h
    exact R_retZ (show z_pt 55 35 = some (2, .ireturn, []) by decide +kernel) (t := .boolean) (by decide +kernel) (by decide)
  · rw [if_neg c1] at h
    refine R_const (pc := 12) (pc' := 13) (v := 0) (show z_ptc 55 12 = some (13, 0) by decide +kernel) ?_
    cases h
    exact R_retZ (show z_pt 55 13 = some (2, .ireturn, []) by decide +kernel) (t := .boolean) (by decide +kernel) (by decide)
def pY_placeOf_L2_B (R : Int32 → Option Int32)  (μ : z_Mem) (f1 : Int32) (K : Int32 → Option Int32) (a2 : Int32) : Option Int32 := if (μ 12 0) ≤ a2 then K a2 else (z_rd μ 13 8 a2).bind fun v2 => if v2 = f1 then some a2 else R (a2 + 1)
def pY_placeOf_L2 : Nat → z_Mem → Int32 → (Int32 → Option Int32) → Int32 → Option Int32
  | 0 => fun _ _ _ _ => none
  | n + 1 => fun μ f1 K a2 => pY_placeOf_L2_B (pY_placeOf_L2 n μ f1 K) μ f1 K a2
theorem pY_placeOf_L2_run  (μ : z_Mem) (f1 : Int32) (K : Int32 → Option Int32)  (D : Nat) (hD : 0 ≤ D) (hK : ∀ (a2 : Int32) (r : Int32), K a2 = some r → Rn D 58 28 [(0, .ref 12), (1, .int f1), (2, .int a2)] [] μ (.inl (some (.int r))) μ) : ∀ (n : Nat) (a2 : Int32) (r : Int32), pY_placeOf_L2 n μ f1 K a2 = some r → Rn D 58 2 [(0, .ref 12), (1, .int f1), (2, .int a2)] [] μ (.inl (some (.int r))) μ := by
  intro n
  induction n with
  | zero => intro a2 r h; cases h
  | succ n ih =>
    intro a2 r h
    have h : pY_placeOf_L2_B (pY_placeOf_L2 n μ f1 K) μ f1 K a2 = some r := h
    unfold pY_placeOf_L2_B at h
    refine R_pure (pc := 2) (pc' := 3) (st' := [.int a2]) (show z_pt 58 2 = some (3, .iload_n 2, []) by decide +kernel) rfl (fun _ _ _ => rfl) ?_
    refine R_pure (pc := 3) (pc' := 4) (st' := [.ref 12, .int a2]) (show z_pt 58 3 = some (3, .aload_n 0, []) by decide +kernel) rfl (fun _ _ _ => rfl) ?_
    refine R_getI (pc := 4) (a := 12) (show z_pt 58 4 = some (3, .getfield 21, [6, 0, 1122]) by decide +kernel) (by decide +kernel) ?_
    refine R_at (pc := 7) ?_
    refine R_icmge (pc := 7) (t := 28) (show z_pt 58 7 = some (3, .if_icmp .ge 21, []) by decide +kernel) (by decide) (fun c1 => ?_) (fun c1 => ?_)
    · rw [if_pos c1] at h
      exact hK _  _ h
    · rw [if_neg c1] at h
      refine R_pure (pc := 10) (pc' := 11) (st' := [.ref 12]) (show z_pt 58 10 = some (3, .aload_n 0, []) by decide +kernel) rfl (fun _ _ _ => rfl) ?_
      refine R_getR (pc := 11) (a := 12) (b := 13) (show z_pt 58 11 = some (3, .getfield 9, [6, 3, 1127]) by decide +kernel) (by decide +kernel) ?_
      refine R_at (pc := 14) ?_
      refine R_pure (pc := 14) (pc' := 15) (st' := [.int a2, .ref 13]) (show z_pt 58 14 = some (3, .iload_n 2, []) by decide +kernel) rfl (fun _ _ _ => rfl) ?_
      obtain ⟨v2, e3, h⟩ := z_bs h
      refine R_ialdR (pc := 15) (a := 13) (n := 8) (show z_pt 58 15 = some (3, .iaload, []) by decide +kernel) (show z_ar 13 0 8 = true by decide +kernel) e3 ?_
      refine R_at (pc := 16) ?_
      refine R_pure (pc := 16) (pc' := 17) (st' := [.int f1, .int v2]) (show z_pt 58 16 = some (3, .iload_n 1, []) by decide +kernel) rfl (fun _ _ _ => rfl) ?_
      refine R_icmne (pc := 17) (t := 22) (show z_pt 58 17 = some (3, .if_icmp .ne 5, []) by decide +kernel) (by decide) (fun c4 => ?_) (fun c4 => ?_)
      · rw [if_neg c4] at h
        refine R_inc (pc := 22) (pc' := 25) (ls' := [(0, .ref 12), (1, .int f1), (2, .int (a2 + 1))]) (c := 1) (show z_pt 58 22 = some (3, .iinc 2 1, []) by decide +kernel) (by decide) rfl rfl ?_
        refine R_pure (pc := 25) (pc' := 2) (ls' := [(0, .ref 12), (1, .int f1), (2, .int (a2 + 1))]) (st' := []) (show z_pt 58 25 = some (3, .goto (-23), [3]) by decide +kernel) rfl (fun _ _ _ => rfl) ?_
        exact ih _ _  h
      · rw [if_pos c4] at h
        refine R_pure (pc := 20) (pc' := 21) (st' := [.int a2]) (show z_pt 58 20 = some (3, .iload_n 2, []) by decide +kernel) rfl (fun _ _ _ => rfl) ?_
        cases h
        exact R_retI (show z_pt 58 21 = some (3, .ireturn, []) by decide +kernel) (by decide +kernel)
def pY_placeOf  (μ : z_Mem) (i1 : Int32) : Option Int32 := pY_placeOf_L2 z_fu μ i1 (fun k5 => some (-1)) 0
theorem pY_placeOf_run  {μ : z_Mem} {i1 : Int32}  {r : Int32} (h : pY_placeOf μ i1 = some r) : Rn 0 58 0 [(0, .ref 12), (1, .int i1)] [] μ (.inl (some (.int r))) μ := by
  unfold pY_placeOf at h
  refine R_const (pc := 0) (pc' := 1) (v := 0) (show z_ptc 58 0 = some (1, 0) by decide +kernel) ?_
  refine R_pure (pc := 1) (pc' := 2) (ls' := [(0, .ref 12), (1, .int i1), (2, .int 0)]) (st' := []) (show z_pt 58 1 = some (3, .istore_n 2, []) by decide +kernel) rfl (fun _ _ _ => rfl) ?_
  refine pY_placeOf_L2_run  _ _ _  _ (by omega) ?_ _ _ _ h
  intro k5 r h
  refine R_const (pc := 28) (pc' := 29) (v := (-1)) (show z_ptc 58 28 = some (29, (-1)) by decide +kernel) ?_
  cases h
  exact R_retI (show z_pt 58 29 = some (3, .ireturn, []) by decide +kernel) (by decide +kernel)
def pY_add  (μ : z_Mem) (i1 : Int32) (i2 : Int32) : Option (Int32 × z_Mem) := if 8 ≤ (μ 12 0) then some ((μ 12 1), μ) else if z_inb (μ 12 0) 8 = true then if z_inb ((z_u μ 13 (μ 12 0).toNatClampNeg (μ 12 1)) 12 0) 8 = true then if z_inb ((z_u (z_u μ 13 (μ 12 0).toNatClampNeg (μ 12 1)) 14 ((z_u μ 13 (μ 12 0).toNatClampNeg (μ 12 1)) 12 0).toNatClampNeg i1) 12 0) 8 = true then some ((μ 12 1), (z_u (z_u (z_u (z_u (z_u μ 13 (μ 12 0).toNatClampNeg (μ 12 1)) 14 ((z_u μ 13 (μ 12 0).toNatClampNeg (μ 12 1)) 12 0).toNatClampNeg i1) 15 ((z_u (z_u μ 13 (μ 12 0).toNatClampNeg (μ 12 1)) 14 ((z_u μ 13 (μ 12 0).toNatClampNeg (μ 12 1)) 12 0).toNatClampNeg i1) 12 0).toNatClampNeg i2) 12 0 (((z_u (z_u (z_u μ 13 (μ 12 0).toNatClampNeg (μ 12 1)) 14 ((z_u μ 13 (μ 12 0).toNatClampNeg (μ 12 1)) 12 0).toNatClampNeg i1) 15 ((z_u (z_u μ 13 (μ 12 0).toNatClampNeg (μ 12 1)) 14 ((z_u μ 13 (μ 12 0).toNatClampNeg (μ 12 1)) 12 0).toNatClampNeg i1) 12 0).toNatClampNeg i2) 12 0) + 1)) 12 1 (((z_u (z_u (z_u (z_u μ 13 (μ 12 0).toNatClampNeg (μ 12 1)) 14 ((z_u μ 13 (μ 12 0).toNatClampNeg (μ 12 1)) 12 0).toNatClampNeg i1) 15 ((z_u (z_u μ 13 (μ 12 0).toNatClampNeg (μ 12 1)) 14 ((z_u μ 13 (μ 12 0).toNatClampNeg (μ 12 1)) 12 0).toNatClampNeg i1) 12 0).toNatClampNeg i2) 12 0 (((z_u (z_u (z_u μ 13 (μ 12 0).toNatClampNeg (μ 12 1)) 14 ((z_u μ 13 (μ 12 0).toNatClampNeg (μ 12 1)) 12 0).toNatClampNeg i1) 15 ((z_u (z_u μ 13 (μ 12 0).toNatClampNeg (μ 12 1)) 14 ((z_u μ 13 (μ 12 0).toNatClampNeg (μ 12 1)) 12 0).toNatClampNeg i1) 12 0).toNatClampNeg i2) 12 0) + 1)) 12 1) + 1))) else none else none else none
theorem pY_add_run  {μ : z_Mem} {i1 : Int32} {i2 : Int32}  {r : (Int32 × z_Mem)} (h : pY_add μ i1 i2 = some r) : Rn 0 59 0 [(0, .ref 12), (1, .int i1), (2, .int i2)] [] μ (.inl (some (.int r.1))) r.2 := by
  unfold pY_add at h
  refine R_pure (pc := 0) (pc' := 1) (st' := [.ref 12]) (show z_pt 59 0 = some (4, .aload_n 0, []) by decide +kernel) rfl (fun _ _ _ => rfl) ?_
  refine R_getI (pc := 1) (a := 12) (show z_pt 59 1 = some (4, .getfield 25, [6, 1, 1125]) by decide +kernel) (by decide +kernel) ?_
  refine R_at (pc := 4) ?_
  refine R_pure (pc := 4) (pc' := 5) (ls' := [(0, .ref 12), (1, .int i1), (2, .int i2), (3, .int (μ 12 1))]) (st' := []) (show z_pt 59 4 = some (4, .istore_n 3, []) by decide +kernel) rfl (fun _ _ _ => rfl) ?_
  refine R_pure (pc := 5) (pc' := 6) (st' := [.ref 12]) (show z_pt 59 5 = some (4, .aload_n 0, []) by decide +kernel) rfl (fun _ _ _ => rfl) ?_
  refine R_getI (pc := 6) (a := 12) (show z_pt 59 6 = some (4, .getfield 21, [6, 0, 1122]) by decide +kernel) (by decide +kernel) ?_
  refine R_at (pc := 9) ?_
  refine R_const (pc := 9) (pc' := 11) (v := 8) (show z_ptc 59 9 = some (11, 8) by decide +kernel) ?_
  refine R_icmge (pc := 11) (t := 64) (show z_pt 59 11 = some (4, .if_icmp .ge 53, []) by decide +kernel) (by decide) (fun c1 => ?_) (fun c1 => ?_)
  · rw [if_pos c1] at h
    refine R_pure (pc := 64) (pc' := 65) (st' := [.int (μ 12 1)]) (show z_pt 59 64 = some (4, .iload_n 3, []) by decide +kernel) rfl (fun _ _ _ => rfl) ?_
    cases h
    exact R_retI (show z_pt 59 65 = some (4, .ireturn, []) by decide +kernel) (by decide +kernel)
  · rw [if_neg c1] at h
    refine R_pure (pc := 14) (pc' := 15) (st' := [.ref 12]) (show z_pt 59 14 = some (4, .aload_n 0, []) by decide +kernel) rfl (fun _ _ _ => rfl) ?_
    refine R_getR (pc := 15) (a := 12) (b := 13) (show z_pt 59 15 = some (4, .getfield 9, [6, 3, 1127]) by decide +kernel) (by decide +kernel) ?_
    refine R_at (pc := 18) ?_
    refine R_pure (pc := 18) (pc' := 19) (st' := [.ref 12, .ref 13]) (show z_pt 59 18 = some (4, .aload_n 0, []) by decide +kernel) rfl (fun _ _ _ => rfl) ?_
    refine R_getI (pc := 19) (a := 12) (show z_pt 59 19 = some (4, .getfield 21, [6, 0, 1122]) by decide +kernel) (by decide +kernel) ?_
    refine R_at (pc := 22) ?_
    refine R_pure (pc := 22) (pc' := 23) (st' := [.int (μ 12 1), .int (μ 12 0), .ref 13]) (show z_pt 59 22 = some (4, .iload_n 3, []) by decide +kernel) rfl (fun _ _ _ => rfl) ?_
    obtain ⟨g2, h⟩ := z_ig h
    refine R_iast (pc := 23) (a := 13) (n := 8) (show z_pt 59 23 = some (4, .iastore, []) by decide +kernel) (show z_ar 13 0 8 = true by decide +kernel) g2 ?_
    refine R_at (pc := 24) ?_
    refine R_pure (pc := 24) (pc' := 25) (st' := [.ref 12]) (show z_pt 59 24 = some (4, .aload_n 0, []) by decide +kernel) rfl (fun _ _ _ => rfl) ?_
    refine R_getR (pc := 25) (a := 12) (b := 14) (show z_pt 59 25 = some (4, .getfield 15, [6, 4, 1129]) by decide +kernel) (by decide +kernel) ?_
    refine R_at (pc := 28) ?_
    refine R_pure (pc := 28) (pc' := 29) (st' := [.ref 12, .ref 14]) (show z_pt 59 28 = some (4, .aload_n 0, []) by decide +kernel) rfl (fun _ _ _ => rfl) ?_
    refine R_getI (pc := 29) (a := 12) (show z_pt 59 29 = some (4, .getfield 21, [6, 0, 1122]) by decide +kernel) (by decide +kernel) ?_
    refine R_at (pc := 32) ?_
    refine R_pure (pc := 32) (pc' := 33) (st' := [.int i1, .int ((z_u μ 13 (μ 12 0).toNatClampNeg (μ 12 1)) 12 0), .ref 14]) (show z_pt 59 32 = some (4, .iload_n 1, []) by decide +kernel) rfl (fun _ _ _ => rfl) ?_
    obtain ⟨g3, h⟩ := z_ig h
    refine R_iast (pc := 33) (a := 14) (n := 8) (show z_pt 59 33 = some (4, .iastore, []) by decide +kernel) (show z_ar 14 0 8 = true by decide +kernel) g3 ?_
    refine R_at (pc := 34) ?_
    refine R_pure (pc := 34) (pc' := 35) (st' := [.ref 12]) (show z_pt 59 34 = some (4, .aload_n 0, []) by decide +kernel) rfl (fun _ _ _ => rfl) ?_
    refine R_getR (pc := 35) (a := 12) (b := 15) (show z_pt 59 35 = some (4, .getfield 18, [6, 5, 1132]) by decide +kernel) (by decide +kernel) ?_
    refine R_at (pc := 38) ?_
    refine R_pure (pc := 38) (pc' := 39) (st' := [.ref 12, .ref 15]) (show z_pt 59 38 = some (4, .aload_n 0, []) by decide +kernel) rfl (fun _ _ _ => rfl) ?_
    refine R_getI (pc := 39) (a := 12) (show z_pt 59 39 = some (4, .getfield 21, [6, 0, 1122]) by decide +kernel) (by decide +kernel) ?_
    refine R_at (pc := 42) ?_
    refine R_pure (pc := 42) (pc' := 43) (st' := [.int i2, .int ((z_u (z_u μ 13 (μ 12 0).toNatClampNeg (μ 12 1)) 14 ((z_u μ 13 (μ 12 0).toNatClampNeg (μ 12 1)) 12 0).toNatClampNeg i1) 12 0), .ref 15]) (show z_pt 59 42 = some (4, .iload_n 2, []) by decide +kernel) rfl (fun _ _ _ => rfl) ?_
    obtain ⟨g4, h⟩ := z_ig h
    refine R_iast (pc := 43) (a := 15) (n := 8) (show z_pt 59 43 = some (4, .iastore, []) by decide +kernel) (show z_ar 15 0 8 = true by decide +kernel) g4 ?_
    refine R_at (pc := 44) ?_
    refine R_pure (pc := 44) (pc' := 45) (st' := [.ref 12]) (show z_pt 59 44 = some (4, .aload_n 0, []) by decide +kernel) rfl (fun _ _ _ => rfl) ?_
    refine R_pure (pc := 45) (pc' := 46) (st' := [.ref 12, .ref 12]) (show z_pt 59 45 = some (4, .dup, []) by decide +kernel) rfl (fun _ _ _ => rfl) ?_
    refine R_getI (pc := 46) (a := 12) (show z_pt 59 46 = some (4, .getfield 21, [6, 0, 1122]) by decide +kernel) (by decide +kernel) ?_
    refine R_at (pc := 49) ?_
    refine R_const (pc := 49) (pc' := 50) (v := 1) (show z_ptc 59 49 = some (50, 1) by decide +kernel) ?_
    refine R_pure (pc := 50) (pc' := 51) (st' := [.int (((z_u (z_u (z_u μ 13 (μ 12 0).toNatClampNeg (μ 12 1)) 14 ((z_u μ 13 (μ 12 0).toNatClampNeg (μ 12 1)) 12 0).toNatClampNeg i1) 15 ((z_u (z_u μ 13 (μ 12 0).toNatClampNeg (μ 12 1)) 14 ((z_u μ 13 (μ 12 0).toNatClampNeg (μ 12 1)) 12 0).toNatClampNeg i1) 12 0).toNatClampNeg i2) 12 0) + 1), .ref 12]) (show z_pt 59 50 = some (4, .iadd, []) by decide +kernel) rfl (fun _ _ _ => rfl) ?_
    refine R_putI (pc := 51) (a := 12) (show z_pt 59 51 = some (4, .putfield 21, [6, 0, 1122]) by decide +kernel) (by decide +kernel) ⟨rfl, rfl⟩ ?_
    refine R_at (pc := 54) ?_
    refine R_pure (pc := 54) (pc' := 55) (st' := [.ref 12]) (show z_pt 59 54 = some (4, .aload_n 0, []) by decide +kernel) rfl (fun _ _ _ => rfl) ?_
    refine R_pure (pc := 55) (pc' := 56) (st' := [.ref 12, .ref 12]) (show z_pt 59 55 = some (4, .dup, []) by decide +kernel) rfl (fun _ _ _ => rfl) ?_
    refine R_getI (pc := 56) (a := 12) (show z_pt 59 56 = some (4, .getfield 25, [6, 1, 1125]) by decide +kernel) (by decide +kernel) ?_
    refine R_at (pc := 59) ?_
    refine R_const (pc := 59) (pc' := 60) (v := 1) (show z_ptc 59 59 = some (60, 1) by decide +kernel) ?_
    refine R_pure (pc := 60) (pc' := 61) (st' := [.int (((z_u (z_u (z_u (z_u μ 13 (μ 12 0).toNatClampNeg (μ 12 1)) 14 ((z_u μ 13 (μ 12 0).toNatClampNeg (μ 12 1)) 12 0).toNatClampNeg i1) 15 ((z_u (z_u μ 13 (μ 12 0).toNatClampNeg (μ 12 1)) 14 ((z_u μ 13 (μ 12 0).toNatClampNeg (μ 12 1)) 12 0).toNatClampNeg i1) 12 0).toNatClampNeg i2) 12 0 (((z_u (z_u (z_u μ 13 (μ 12 0).toNatClampNeg (μ 12 1)) 14 ((z_u μ 13 (μ 12 0).toNatClampNeg (μ 12 1)) 12 0).toNatClampNeg i1) 15 ((z_u (z_u μ 13 (μ 12 0).toNatClampNeg (μ 12 1)) 14 ((z_u μ 13 (μ 12 0).toNatClampNeg (μ 12 1)) 12 0).toNatClampNeg i1) 12 0).toNatClampNeg i2) 12 0) + 1)) 12 1) + 1), .ref 12]) (show z_pt 59 60 = some (4, .iadd, []) by decide +kernel) rfl (fun _ _ _ => rfl) ?_
    refine R_putI (pc := 61) (a := 12) (show z_pt 59 61 = some (4, .putfield 25, [6, 1, 1125]) by decide +kernel) (by decide +kernel) ⟨rfl, rfl⟩ ?_
    refine R_at (pc := 64) ?_
    refine R_pure (pc := 64) (pc' := 65) (st' := [.int (μ 12 1)]) (show z_pt 59 64 = some (4, .iload_n 3, []) by decide +kernel) rfl (fun _ _ _ => rfl) ?_
    cases h
    exact R_retI (show z_pt 59 65 = some (4, .ireturn, []) by decide +kernel) (by decide +kernel)
def pY_removeAt_L12_B (R : z_Mem → Int32 → Option (Int32 × z_Mem))  (f1 : Int32) (K : z_Mem → Int32 → Option (Int32 × z_Mem)) (μ : z_Mem) (a2 : Int32) : Option (Int32 × z_Mem) := if (μ 12 0) ≤ a2 then K μ a2 else (z_rd μ 13 8 (a2 + 1)).bind fun v2 => if z_inb a2 8 = true then (z_rd (z_u μ 13 a2.toNatClampNeg v2) 14 8 (a2 + 1)).bind fun v5 => if z_inb a2 8 = true then (z_rd (z_u (z_u μ 13 a2.toNatClampNeg v2) 14 a2.toNatClampNeg v5) 15 8 (a2 + 1)).bind fun v8 => if z_inb a2 8 = true then R (z_u (z_u (z_u μ 13 a2.toNatClampNeg v2) 14 a2.toNatClampNeg v5) 15 a2.toNatClampNeg v8) (a2 + 1) else none else none else none
def pY_removeAt_L12 : Nat → Int32 → (z_Mem → Int32 → Option (Int32 × z_Mem)) → z_Mem → Int32 → Option (Int32 × z_Mem)
  | 0 => fun _ _ _ _ => none
  | n + 1 => fun f1 K μ a2 => pY_removeAt_L12_B (pY_removeAt_L12 n f1 K) f1 K μ a2
theorem pY_removeAt_L12_run  (f1 : Int32) (K : z_Mem → Int32 → Option (Int32 × z_Mem))  (D : Nat) (hD : 0 ≤ D) (hK : ∀ (μ : z_Mem) (a2 : Int32) (r : (Int32 × z_Mem)), K μ a2 = some r → Rn D 60 68 [(0, .ref 12), (1, .int f1), (2, .int a2)] [] μ (.inl (some (.int r.1))) r.2) : ∀ (n : Nat) (μ : z_Mem) (a2 : Int32) (r : (Int32 × z_Mem)), pY_removeAt_L12 n f1 K μ a2 = some r → Rn D 60 12 [(0, .ref 12), (1, .int f1), (2, .int a2)] [] μ (.inl (some (.int r.1))) r.2 := by
  intro n
  induction n with
  | zero => intro μ a2 r h; cases h
  | succ n ih =>
    intro μ a2 r h
    have h : pY_removeAt_L12_B (pY_removeAt_L12 n f1 K) f1 K μ a2 = some r := h
    unfold pY_removeAt_L12_B at h
    refine R_pure (pc := 12) (pc' := 13) (st' := [.int a2]) (show z_pt 60 12 = some (3, .iload_n 2, []) by decide +kernel) rfl (fun _ _ _ => rfl) ?_
    refine R_pure (pc := 13) (pc' := 14) (st' := [.ref 12, .int a2]) (show z_pt 60 13 = some (3, .aload_n 0, []) by decide +kernel) rfl (fun _ _ _ => rfl) ?_
    refine R_getI (pc := 14) (a := 12) (show z_pt 60 14 = some (3, .getfield 21, [6, 0, 1122]) by decide +kernel) (by decide +kernel) ?_
    refine R_at (pc := 17) ?_
    refine R_icmge (pc := 17) (t := 68) (show z_pt 60 17 = some (3, .if_icmp .ge 51, []) by decide +kernel) (by decide) (fun c1 => ?_) (fun c1 => ?_)
    · rw [if_pos c1] at h
      exact hK _ _  _ h
    · rw [if_neg c1] at h
      refine R_pure (pc := 20) (pc' := 21) (st' := [.ref 12]) (show z_pt 60 20 = some (3, .aload_n 0, []) by decide +kernel) rfl (fun _ _ _ => rfl) ?_
      refine R_getR (pc := 21) (a := 12) (b := 13) (show z_pt 60 21 = some (3, .getfield 9, [6, 3, 1127]) by decide +kernel) (by decide +kernel) ?_
      refine R_at (pc := 24) ?_
      refine R_pure (pc := 24) (pc' := 25) (st' := [.int a2, .ref 13]) (show z_pt 60 24 = some (3, .iload_n 2, []) by decide +kernel) rfl (fun _ _ _ => rfl) ?_
      refine R_pure (pc := 25) (pc' := 26) (st' := [.ref 12, .int a2, .ref 13]) (show z_pt 60 25 = some (3, .aload_n 0, []) by decide +kernel) rfl (fun _ _ _ => rfl) ?_
      refine R_getR (pc := 26) (a := 12) (b := 13) (show z_pt 60 26 = some (3, .getfield 9, [6, 3, 1127]) by decide +kernel) (by decide +kernel) ?_
      refine R_at (pc := 29) ?_
      refine R_pure (pc := 29) (pc' := 30) (st' := [.int a2, .ref 13, .int a2, .ref 13]) (show z_pt 60 29 = some (3, .iload_n 2, []) by decide +kernel) rfl (fun _ _ _ => rfl) ?_
      refine R_const (pc := 30) (pc' := 31) (v := 1) (show z_ptc 60 30 = some (31, 1) by decide +kernel) ?_
      refine R_pure (pc := 31) (pc' := 32) (st' := [.int (a2 + 1), .ref 13, .int a2, .ref 13]) (show z_pt 60 31 = some (3, .iadd, []) by decide +kernel) rfl (fun _ _ _ => rfl) ?_
      obtain ⟨v2, e3, h⟩ := z_bs h
      refine R_ialdR (pc := 32) (a := 13) (n := 8) (show z_pt 60 32 = some (3, .iaload, []) by decide +kernel) (show z_ar 13 0 8 = true by decide +kernel) e3 ?_
      refine R_at (pc := 33) ?_
      obtain ⟨g4, h⟩ := z_ig h
      refine R_iast (pc := 33) (a := 13) (n := 8) (show z_pt 60 33 = some (3, .iastore, []) by decide +kernel) (show z_ar 13 0 8 = true by decide +kernel) g4 ?_
      refine R_at (pc := 34) ?_
      refine R_pure (pc := 34) (pc' := 35) (st' := [.ref 12]) (show z_pt 60 34 = some (3, .aload_n 0, []) by decide +kernel) rfl (fun _ _ _ => rfl) ?_
      refine R_getR (pc := 35) (a := 12) (b := 14) (show z_pt 60 35 = some (3, .getfield 15, [6, 4, 1129]) by decide +kernel) (by decide +kernel) ?_
      refine R_at (pc := 38) ?_
      refine R_pure (pc := 38) (pc' := 39) (st' := [.int a2, .ref 14]) (show z_pt 60 38 = some (3, .iload_n 2, []) by decide +kernel) rfl (fun _ _ _ => rfl) ?_
      refine R_pure (pc := 39) (pc' := 40) (st' := [.ref 12, .int a2, .ref 14]) (show z_pt 60 39 = some (3, .aload_n 0, []) by decide +kernel) rfl (fun _ _ _ => rfl) ?_
      refine R_getR (pc := 40) (a := 12) (b := 14) (show z_pt 60 40 = some (3, .getfield 15, [6, 4, 1129]) by decide +kernel) (by decide +kernel) ?_
      refine R_at (pc := 43) ?_
      refine R_pure (pc := 43) (pc' := 44) (st' := [.int a2, .ref 14, .int a2, .ref 14]) (show z_pt 60 43 = some (3, .iload_n 2, []) by decide +kernel) rfl (fun _ _ _ => rfl) ?_
      refine R_const (pc := 44) (pc' := 45) (v := 1) (show z_ptc 60 44 = some (45, 1) by decide +kernel) ?_
      refine R_pure (pc := 45) (pc' := 46) (st' := [.int (a2 + 1), .ref 14, .int a2, .ref 14]) (show z_pt 60 45 = some (3, .iadd, []) by decide +kernel) rfl (fun _ _ _ => rfl) ?_
      obtain ⟨v5, e6, h⟩ := z_bs h
      refine R_ialdR (pc := 46) (a := 14) (n := 8) (show z_pt 60 46 = some (3, .iaload, []) by decide +kernel) (show z_ar 14 0 8 = true by decide +kernel) e6 ?_
      refine R_at (pc := 47) ?_
      obtain ⟨g7, h⟩ := z_ig h
      refine R_iast (pc := 47) (a := 14) (n := 8) (show z_pt 60 47 = some (3, .iastore, []) by decide +kernel) (show z_ar 14 0 8 = true by decide +kernel) g7 ?_
      refine R_at (pc := 48) ?_
      refine R_pure (pc := 48) (pc' := 49) (st' := [.ref 12]) (show z_pt 60 48 = some (3, .aload_n 0, []) by decide +kernel) rfl (fun _ _ _ => rfl) ?_
      refine R_getR (pc := 49) (a := 12) (b := 15) (show z_pt 60 49 = some (3, .getfield 18, [6, 5, 1132]) by decide +kernel) (by decide +kernel) ?_
      refine R_at (pc := 52) ?_
      refine R_pure (pc := 52) (pc' := 53) (st' := [.int a2, .ref 15]) (show z_pt 60 52 = some (3, .iload_n 2, []) by decide +kernel) rfl (fun _ _ _ => rfl) ?_
      refine R_pure (pc := 53) (pc' := 54) (st' := [.ref 12, .int a2, .ref 15]) (show z_pt 60 53 = some (3, .aload_n 0, []) by decide +kernel) rfl (fun _ _ _ => rfl) ?_
      refine R_getR (pc := 54) (a := 12) (b := 15) (show z_pt 60 54 = some (3, .getfield 18, [6, 5, 1132]) by decide +kernel) (by decide +kernel) ?_
      refine R_at (pc := 57) ?_
      refine R_pure (pc := 57) (pc' := 58) (st' := [.int a2, .ref 15, .int a2, .ref 15]) (show z_pt 60 57 = some (3, .iload_n 2, []) by decide +kernel) rfl (fun _ _ _ => rfl) ?_
      refine R_const (pc := 58) (pc' := 59) (v := 1) (show z_ptc 60 58 = some (59, 1) by decide +kernel) ?_
      refine R_pure (pc := 59) (pc' := 60) (st' := [.int (a2 + 1), .ref 15, .int a2, .ref 15]) (show z_pt 60 59 = some (3, .iadd, []) by decide +kernel) rfl (fun _ _ _ => rfl) ?_
      obtain ⟨v8, e9, h⟩ := z_bs h
      refine R_ialdR (pc := 60) (a := 15) (n := 8) (show z_pt 60 60 = some (3, .iaload, []) by decide +kernel) (show z_ar 15 0 8 = true by decide +kernel) e9 ?_
      refine R_at (pc := 61) ?_
      obtain ⟨g10, h⟩ := z_ig h
      refine R_iast (pc := 61) (a := 15) (n := 8) (show z_pt 60 61 = some (3, .iastore, []) by decide +kernel) (show z_ar 15 0 8 = true by decide +kernel) g10 ?_
      refine R_at (pc := 62) ?_
      refine R_inc (pc := 62) (pc' := 65) (ls' := [(0, .ref 12), (1, .int f1), (2, .int (a2 + 1))]) (c := 1) (show z_pt 60 62 = some (3, .iinc 2 1, []) by decide +kernel) (by decide) rfl rfl ?_
      refine R_pure (pc := 65) (pc' := 12) (ls' := [(0, .ref 12), (1, .int f1), (2, .int (a2 + 1))]) (st' := []) (show z_pt 60 65 = some (3, .goto (-53), [3]) by decide +kernel) rfl (fun _ _ _ => rfl) ?_
      exact ih _ _ _  h
def pY_removeAt  (μ : z_Mem) (i1 : Int32) : Option (Int32 × z_Mem) := pY_removeAt_L12 z_fu i1 (fun M12 k11 => some ((M12 12 0), M12)) (z_u μ 12 0 ((μ 12 0) - 1)) i1
theorem pY_removeAt_run  {μ : z_Mem} {i1 : Int32}  {r : (Int32 × z_Mem)} (h : pY_removeAt μ i1 = some r) : Rn 0 60 0 [(0, .ref 12), (1, .int i1)] [] μ (.inl (some (.int r.1))) r.2 := by
  unfold pY_removeAt at h
  refine R_pure (pc := 0) (pc' := 1) (st' := [.ref 12]) (show z_pt 60 0 = some (3, .aload_n 0, []) by decide +kernel) rfl (fun _ _ _ => rfl) ?_
  refine R_pure (pc := 1) (pc' := 2) (st' := [.ref 12, .ref 12]) (show z_pt 60 1 = some (3, .dup, []) by decide +kernel) rfl (fun _ _ _ => rfl) ?_
  refine R_getI (pc := 2) (a := 12) (show z_pt 60 2 = some (3, .getfield 21, [6, 0, 1122]) by decide +kernel) (by decide +kernel) ?_
  refine R_at (pc := 5) ?_
  refine R_const (pc := 5) (pc' := 6) (v := 1) (show z_ptc 60 5 = some (6, 1) by decide +kernel) ?_
  refine R_pure (pc := 6) (pc' := 7) (st' := [.int ((μ 12 0) - 1), .ref 12]) (show z_pt 60 6 = some (3, .isub, []) by decide +kernel) rfl (fun _ _ _ => rfl) ?_
  refine R_putI (pc := 7) (a := 12) (show z_pt 60 7 = some (3, .putfield 21, [6, 0, 1122]) by decide +kernel) (by decide +kernel) ⟨rfl, rfl⟩ ?_
  refine R_at (pc := 10) ?_
  refine R_pure (pc := 10) (pc' := 11) (st' := [.int i1]) (show z_pt 60 10 = some (3, .iload_n 1, []) by decide +kernel) rfl (fun _ _ _ => rfl) ?_
  refine R_pure (pc := 11) (pc' := 12) (ls' := [(0, .ref 12), (1, .int i1), (2, .int i1)]) (st' := []) (show z_pt 60 11 = some (3, .istore_n 2, []) by decide +kernel) rfl (fun _ _ _ => rfl) ?_
  refine pY_removeAt_L12_run  _ _  _ (by omega) ?_ _ _ _ _ h
  intro M12 k11 r h
  refine R_pure (pc := 68) (pc' := 69) (st' := [.ref 12]) (show z_pt 60 68 = some (3, .aload_n 0, []) by decide +kernel) rfl (fun _ _ _ => rfl) ?_
  refine R_getI (pc := 69) (a := 12) (show z_pt 60 69 = some (3, .getfield 21, [6, 0, 1122]) by decide +kernel) (by decide +kernel) ?_
  refine R_at (pc := 72) ?_
  cases h
  exact R_retI (show z_pt 60 72 = some (3, .ireturn, []) by decide +kernel) (by decide +kernel)
def pJ_floorMod  (μ : z_Mem) (i0 : Int32) (i1 : Int32) : Option Int32 := if i1 = 0 then none else if 0 ≤ (i0 ^^^ i1) then some (i0 - i0 / i1 * i1) else if (i0 - i0 / i1 * i1) = 0 then some (i0 - i0 / i1 * i1) else some ((i0 - i0 / i1 * i1) + i1)
theorem pJ_floorMod_run  {μ : z_Mem} {i0 : Int32} {i1 : Int32}  {r : Int32} (h : pJ_floorMod μ i0 i1 = some r) : Rn 0 161 0 [(0, .int i0), (1, .int i1)] [] μ (.inl (some (.int r))) μ := by
  unfold pJ_floorMod at h
  refine R_pure (pc := 0) (pc' := 1) (st' := [.int i0]) (show z_pt 161 0 = some (3, .iload_n 0, []) by decide +kernel) rfl (fun _ _ _ => rfl) ?_
  refine R_pure (pc := 1) (pc' := 2) (st' := [.int i1, .int i0]) (show z_pt 161 1 = some (3, .iload_n 1, []) by decide +kernel) rfl (fun _ _ _ => rfl) ?_
  obtain ⟨g1, h⟩ := z_ng h
  refine R_rem (x := i0) (y := i1) (show z_pt 161 2 = some (3, .irem, []) by decide +kernel) g1 ?_
  refine R_pure (pc := 3) (pc' := 4) (ls' := [(0, .int i0), (1, .int i1), (2, .int (i0 - i0 / i1 * i1))]) (st' := []) (show z_pt 161 3 = some (3, .istore_n 2, []) by decide +kernel) rfl (fun _ _ _ => rfl) ?_
  refine R_pure (pc := 4) (pc' := 5) (st' := [.int i0]) (show z_pt 161 4 = some (3, .iload_n 0, []) by decide +kernel) rfl (fun _ _ _ => rfl) ?_
  refine R_pure (pc := 5) (pc' := 6) (st' := [.int i1, .int i0]) (show z_pt 161 5 = some (3, .iload_n 1, []) by decide +kernel) rfl (fun _ _ _ => rfl) ?_
  refine R_pure (pc := 6) (pc' := 7) (st' := [.int (i0 ^^^ i1)]) (show z_pt 161 6 = some (3, .ixor, []) by decide +kernel) rfl (fun _ _ _ => rfl) ?_
  refine R_ifge (pc := 7) (t := 18) (show z_pt 161 7 = some (3, .ifCond .ge 11, []) by decide +kernel) (by decide) (fun c2 => ?_) (fun c2 => ?_)
  · rw [if_pos c2] at h
    refine R_pure (pc := 18) (pc' := 19) (st' := [.int (i0 - i0 / i1 * i1)]) (show z_pt 161 18 = some (3, .iload_n 2, []) by decide +kernel) rfl (fun _ _ _ => rfl) ?_
    cases h
    exact R_retI (show z_pt 161 19 = some (3, .ireturn, []) by decide +kernel) (by decide +kernel)
  · rw [if_neg c2] at h
    refine R_pure (pc := 10) (pc' := 11) (st' := [.int (i0 - i0 / i1 * i1)]) (show z_pt 161 10 = some (3, .iload_n 2, []) by decide +kernel) rfl (fun _ _ _ => rfl) ?_
    refine R_ifeq (pc := 11) (t := 18) (show z_pt 161 11 = some (3, .ifCond .eq 7, []) by decide +kernel) (by decide) (fun c3 => ?_) (fun c3 => ?_)
    · rw [if_pos c3] at h
      refine R_pure (pc := 18) (pc' := 19) (st' := [.int (i0 - i0 / i1 * i1)]) (show z_pt 161 18 = some (3, .iload_n 2, []) by decide +kernel) rfl (fun _ _ _ => rfl) ?_
      cases h
      exact R_retI (show z_pt 161 19 = some (3, .ireturn, []) by decide +kernel) (by decide +kernel)
    · rw [if_neg c3] at h
      refine R_pure (pc := 14) (pc' := 15) (st' := [.int (i0 - i0 / i1 * i1)]) (show z_pt 161 14 = some (3, .iload_n 2, []) by decide +kernel) rfl (fun _ _ _ => rfl) ?_
      refine R_pure (pc := 15) (pc' := 16) (st' := [.int i1, .int (i0 - i0 / i1 * i1)]) (show z_pt 161 15 = some (3, .iload_n 1, []) by decide +kernel) rfl (fun _ _ _ => rfl) ?_
      refine R_pure (pc := 16) (pc' := 17) (st' := [.int ((i0 - i0 / i1 * i1) + i1)]) (show z_pt 161 16 = some (3, .iadd, []) by decide +kernel) rfl (fun _ _ _ => rfl) ?_
      cases h
      exact R_retI (show z_pt 161 17 = some (3, .ireturn, []) by decide +kernel) (by decide +kernel)
def pY_directionLater  (μ : z_Mem) (i1 : Int32) (i2 : Int32) : Option Int32 := (z_rd μ 14 8 i1).bind fun v1 => (z_rd μ 15 8 i1).bind fun v3 => (pJ_floorMod μ (v1 + (v3 * i2)) 3600).bind fun q5 => some q5
theorem pY_directionLater_run  {μ : z_Mem} {i1 : Int32} {i2 : Int32}  {r : Int32} (h : pY_directionLater μ i1 i2 = some r) : Rn 1 62 0 [(0, .ref 12), (1, .int i1), (2, .int i2)] [] μ (.inl (some (.int r))) μ := by
  unfold pY_directionLater at h
  refine R_pure (pc := 0) (pc' := 1) (st' := [.ref 12]) (show z_pt 62 0 = some (3, .aload_n 0, []) by decide +kernel) rfl (fun _ _ _ => rfl) ?_
  refine R_getR (pc := 1) (a := 12) (b := 14) (show z_pt 62 1 = some (3, .getfield 15, [6, 4, 1129]) by decide +kernel) (by decide +kernel) ?_
  refine R_at (pc := 4) ?_
  refine R_pure (pc := 4) (pc' := 5) (st' := [.int i1, .ref 14]) (show z_pt 62 4 = some (3, .iload_n 1, []) by decide +kernel) rfl (fun _ _ _ => rfl) ?_
  obtain ⟨v1, e2, h⟩ := z_bs h
  refine R_ialdR (pc := 5) (a := 14) (n := 8) (show z_pt 62 5 = some (3, .iaload, []) by decide +kernel) (show z_ar 14 0 8 = true by decide +kernel) e2 ?_
  refine R_at (pc := 6) ?_
  refine R_pure (pc := 6) (pc' := 7) (st' := [.ref 12, .int v1]) (show z_pt 62 6 = some (3, .aload_n 0, []) by decide +kernel) rfl (fun _ _ _ => rfl) ?_
  refine R_getR (pc := 7) (a := 12) (b := 15) (show z_pt 62 7 = some (3, .getfield 18, [6, 5, 1132]) by decide +kernel) (by decide +kernel) ?_
  refine R_at (pc := 10) ?_
  refine R_pure (pc := 10) (pc' := 11) (st' := [.int i1, .ref 15, .int v1]) (show z_pt 62 10 = some (3, .iload_n 1, []) by decide +kernel) rfl (fun _ _ _ => rfl) ?_
  obtain ⟨v3, e4, h⟩ := z_bs h
  refine R_ialdR (pc := 11) (a := 15) (n := 8) (show z_pt 62 11 = some (3, .iaload, []) by decide +kernel) (show z_ar 15 0 8 = true by decide +kernel) e4 ?_
  refine R_at (pc := 12) ?_
  refine R_pure (pc := 12) (pc' := 13) (st' := [.int i2, .int v3, .int v1]) (show z_pt 62 12 = some (3, .iload_n 2, []) by decide +kernel) rfl (fun _ _ _ => rfl) ?_
  refine R_pure (pc := 13) (pc' := 14) (st' := [.int (v3 * i2), .int v1]) (show z_pt 62 13 = some (3, .imul, []) by decide +kernel) rfl (fun _ _ _ => rfl) ?_
  refine R_pure (pc := 14) (pc' := 15) (st' := [.int (v1 + (v3 * i2))]) (show z_pt 62 14 = some (3, .iadd, []) by decide +kernel) rfl (fun _ _ _ => rfl) ?_
  refine R_const (pc := 15) (pc' := 18) (v := 3600) (show z_ptc 62 15 = some (18, 3600) by decide +kernel) ?_
  obtain ⟨q5, e6, h⟩ := z_bs h
  refine R_call (pc := 18) (rr := []) (show z_pt 62 18 = some (3, .invokestatic 41, [1, 161, 2, 4044, 3194, 0, 1008, 3195]) by decide +kernel) rfl (show z_r2 161 = some (12, 3, true) by decide +kernel) rfl rfl (Or.inl (by decide)) (pJ_floorMod_run  e6) (by omega) ?_
  refine R_at2 (pc := 21) (st := [.int q5]) ?_
  cases h
  exact R_retI (show z_pt 62 21 = some (3, .ireturn, []) by decide +kernel) (by decide +kernel)
def pY_letPass_L2_B (R : z_Mem → Int32 → Option (Int32 × z_Mem))  (f1 : Int32) (K : z_Mem → Int32 → Option (Int32 × z_Mem)) (μ : z_Mem) (a2 : Int32) : Option (Int32 × z_Mem) := if (μ 12 0) ≤ a2 then K μ a2 else (pY_directionLater μ a2 f1).bind fun q2 => if z_inb a2 8 = true then R (z_u μ 14 a2.toNatClampNeg q2) (a2 + 1) else none
def pY_letPass_L2 : Nat → Int32 → (z_Mem → Int32 → Option (Int32 × z_Mem)) → z_Mem → Int32 → Option (Int32 × z_Mem)
  | 0 => fun _ _ _ _ => none
  | n + 1 => fun f1 K μ a2 => pY_letPass_L2_B (pY_letPass_L2 n f1 K) f1 K μ a2
theorem pY_letPass_L2_run  (f1 : Int32) (K : z_Mem → Int32 → Option (Int32 × z_Mem))  (D : Nat) (hD : 2 ≤ D) (hK : ∀ (μ : z_Mem) (a2 : Int32) (r : (Int32 × z_Mem)), K μ a2 = some r → Rn D 61 28 [(0, .ref 12), (1, .int f1), (2, .int a2)] [] μ (.inl (some (.int r.1))) r.2) : ∀ (n : Nat) (μ : z_Mem) (a2 : Int32) (r : (Int32 × z_Mem)), pY_letPass_L2 n f1 K μ a2 = some r → Rn D 61 2 [(0, .ref 12), (1, .int f1), (2, .int a2)] [] μ (.inl (some (.int r.1))) r.2 := by
  intro n
  induction n with
  | zero => intro μ a2 r h; cases h
  | succ n ih =>
    intro μ a2 r h
    have h : pY_letPass_L2_B (pY_letPass_L2 n f1 K) f1 K μ a2 = some r := h
    unfold pY_letPass_L2_B at h
    refine R_pure (pc := 2) (pc' := 3) (st' := [.int a2]) (show z_pt 61 2 = some (3, .iload_n 2, []) by decide +kernel) rfl (fun _ _ _ => rfl) ?_
    refine R_pure (pc := 3) (pc' := 4) (st' := [.ref 12, .int a2]) (show z_pt 61 3 = some (3, .aload_n 0, []) by decide +kernel) rfl (fun _ _ _ => rfl) ?_
    refine R_getI (pc := 4) (a := 12) (show z_pt 61 4 = some (3, .getfield 21, [6, 0, 1122]) by decide +kernel) (by decide +kernel) ?_
    refine R_at (pc := 7) ?_
    refine R_icmge (pc := 7) (t := 28) (show z_pt 61 7 = some (3, .if_icmp .ge 21, []) by decide +kernel) (by decide) (fun c1 => ?_) (fun c1 => ?_)
    · rw [if_pos c1] at h
      exact hK _ _  _ h
    · rw [if_neg c1] at h
      refine R_pure (pc := 10) (pc' := 11) (st' := [.ref 12]) (show z_pt 61 10 = some (3, .aload_n 0, []) by decide +kernel) rfl (fun _ _ _ => rfl) ?_
      refine R_getR (pc := 11) (a := 12) (b := 14) (show z_pt 61 11 = some (3, .getfield 15, [6, 4, 1129]) by decide +kernel) (by decide +kernel) ?_
      refine R_at (pc := 14) ?_
      refine R_pure (pc := 14) (pc' := 15) (st' := [.int a2, .ref 14]) (show z_pt 61 14 = some (3, .iload_n 2, []) by decide +kernel) rfl (fun _ _ _ => rfl) ?_
      refine R_pure (pc := 15) (pc' := 16) (st' := [.ref 12, .int a2, .ref 14]) (show z_pt 61 15 = some (3, .aload_n 0, []) by decide +kernel) rfl (fun _ _ _ => rfl) ?_
      refine R_pure (pc := 16) (pc' := 17) (st' := [.int a2, .ref 12, .int a2, .ref 14]) (show z_pt 61 16 = some (3, .iload_n 2, []) by decide +kernel) rfl (fun _ _ _ => rfl) ?_
      refine R_pure (pc := 17) (pc' := 18) (st' := [.int f1, .int a2, .ref 12, .int a2, .ref 14]) (show z_pt 61 17 = some (3, .iload_n 1, []) by decide +kernel) rfl (fun _ _ _ => rfl) ?_
      obtain ⟨q2, e3, h⟩ := z_bs h
      refine R_call (pc := 18) (rr := [.int a2, .ref 14]) (show z_pt 61 18 = some (3, .invokevirtual 37, [0, 62, 2, 4040, 4041, 4042, 1005, 4043]) by decide +kernel) rfl (show z_r2 62 = some (6, 3, true) by decide +kernel) rfl rfl (Or.inr ⟨_, _, rfl, (by decide +kernel)⟩) (pY_directionLater_run  e3) (by omega) ?_
      refine R_at2 (pc := 21) (st := [.int q2, .int a2, .ref 14]) ?_
      obtain ⟨g4, h⟩ := z_ig h
      refine R_iast (pc := 21) (a := 14) (n := 8) (show z_pt 61 21 = some (3, .iastore, []) by decide +kernel) (show z_ar 14 0 8 = true by decide +kernel) g4 ?_
      refine R_at (pc := 22) ?_
      refine R_inc (pc := 22) (pc' := 25) (ls' := [(0, .ref 12), (1, .int f1), (2, .int (a2 + 1))]) (c := 1) (show z_pt 61 22 = some (3, .iinc 2 1, []) by decide +kernel) (by decide) rfl rfl ?_
      refine R_pure (pc := 25) (pc' := 2) (ls' := [(0, .ref 12), (1, .int f1), (2, .int (a2 + 1))]) (st' := []) (show z_pt 61 25 = some (3, .goto (-23), [3]) by decide +kernel) rfl (fun _ _ _ => rfl) ?_
      exact ih _ _ _  h
def pY_letPass  (μ : z_Mem) (i1 : Int32) : Option (Int32 × z_Mem) := pY_letPass_L2 z_fu i1 (fun M6 k5 => some (((z_u M6 12 2 ((M6 12 2) + i1)) 12 2), (z_u M6 12 2 ((M6 12 2) + i1)))) μ 0
theorem pY_letPass_run  {μ : z_Mem} {i1 : Int32}  {r : (Int32 × z_Mem)} (h : pY_letPass μ i1 = some r) : Rn 2 61 0 [(0, .ref 12), (1, .int i1)] [] μ (.inl (some (.int r.1))) r.2 := by
  unfold pY_letPass at h
  refine R_const (pc := 0) (pc' := 1) (v := 0) (show z_ptc 61 0 = some (1, 0) by decide +kernel) ?_
  refine R_pure (pc := 1) (pc' := 2) (ls' := [(0, .ref 12), (1, .int i1), (2, .int 0)]) (st' := []) (show z_pt 61 1 = some (3, .istore_n 2, []) by decide +kernel) rfl (fun _ _ _ => rfl) ?_
  refine pY_letPass_L2_run  _ _  _ (by omega) ?_ _ _ _ _ h
  intro M6 k5 r h
  refine R_pure (pc := 28) (pc' := 29) (st' := [.ref 12]) (show z_pt 61 28 = some (3, .aload_n 0, []) by decide +kernel) rfl (fun _ _ _ => rfl) ?_
  refine R_pure (pc := 29) (pc' := 30) (st' := [.ref 12, .ref 12]) (show z_pt 61 29 = some (3, .dup, []) by decide +kernel) rfl (fun _ _ _ => rfl) ?_
  refine R_getI (pc := 30) (a := 12) (show z_pt 61 30 = some (3, .getfield 28, [6, 2, 1126]) by decide +kernel) (by decide +kernel) ?_
  refine R_at (pc := 33) ?_
  refine R_pure (pc := 33) (pc' := 34) (st' := [.int i1, .int (M6 12 2), .ref 12]) (show z_pt 61 33 = some (3, .iload_n 1, []) by decide +kernel) rfl (fun _ _ _ => rfl) ?_
  refine R_pure (pc := 34) (pc' := 35) (st' := [.int ((M6 12 2) + i1), .ref 12]) (show z_pt 61 34 = some (3, .iadd, []) by decide +kernel) rfl (fun _ _ _ => rfl) ?_
  refine R_putI (pc := 35) (a := 12) (show z_pt 61 35 = some (3, .putfield 28, [6, 2, 1126]) by decide +kernel) (by decide +kernel) ⟨rfl, rfl⟩ ?_
  refine R_at (pc := 38) ?_
  refine R_pure (pc := 38) (pc' := 39) (st' := [.ref 12]) (show z_pt 61 38 = some (3, .aload_n 0, []) by decide +kernel) rfl (fun _ _ _ => rfl) ?_
  refine R_getI (pc := 39) (a := 12) (show z_pt 61 39 = some (3, .getfield 28, [6, 2, 1126]) by decide +kernel) (by decide +kernel) ?_
  refine R_at (pc := 42) ?_
  cases h
  exact R_retI (show z_pt 61 42 = some (3, .ireturn, []) by decide +kernel) (by decide +kernel)
def pG_distanceBetween  (μ : z_Mem) (i0 : Int32) (i1 : Int32) : Option Int32 := (pJ_floorMod μ (i0 - i1) 3600).bind fun q1 => (pJ_min μ q1 (3600 - q1)).bind fun q3 => some q3
theorem pG_distanceBetween_run  {μ : z_Mem} {i0 : Int32} {i1 : Int32}  {r : Int32} (h : pG_distanceBetween μ i0 i1 = some r) : Rn 1 149 0 [(0, .int i0), (1, .int i1)] [] μ (.inl (some (.int r))) μ := by
  unfold pG_distanceBetween at h
  refine R_pure (pc := 0) (pc' := 1) (st' := [.int i0]) (show z_pt 149 0 = some (3, .iload_n 0, []) by decide +kernel) rfl (fun _ _ _ => rfl) ?_
  refine R_pure (pc := 1) (pc' := 2) (st' := [.int i1, .int i0]) (show z_pt 149 1 = some (3, .iload_n 1, []) by decide +kernel) rfl (fun _ _ _ => rfl) ?_
  refine R_pure (pc := 2) (pc' := 3) (st' := [.int (i0 - i1)]) (show z_pt 149 2 = some (3, .isub, []) by decide +kernel) rfl (fun _ _ _ => rfl) ?_
  refine R_const (pc := 3) (pc' := 6) (v := 3600) (show z_ptc 149 3 = some (6, 3600) by decide +kernel) ?_
  obtain ⟨q1, e2, h⟩ := z_bs h
  refine R_call (pc := 6) (rr := []) (show z_pt 149 6 = some (3, .invokestatic 231, [1, 161, 2, 3216, 3194, 0, 1008, 3195]) by decide +kernel) rfl (show z_r2 161 = some (12, 3, true) by decide +kernel) rfl rfl (Or.inl (by decide)) (pJ_floorMod_run  e2) (by omega) ?_
  refine R_at2 (pc := 9) (st := [.int q1]) ?_
  refine R_pure (pc := 9) (pc' := 10) (ls' := [(0, .int i0), (1, .int i1), (2, .int q1)]) (st' := []) (show z_pt 149 9 = some (3, .istore_n 2, []) by decide +kernel) rfl (fun _ _ _ => rfl) ?_
  refine R_pure (pc := 10) (pc' := 11) (st' := [.int q1]) (show z_pt 149 10 = some (3, .iload_n 2, []) by decide +kernel) rfl (fun _ _ _ => rfl) ?_
  refine R_const (pc := 11) (pc' := 14) (v := 3600) (show z_ptc 149 11 = some (14, 3600) by decide +kernel) ?_
  refine R_pure (pc := 14) (pc' := 15) (st' := [.int q1, .int 3600, .int q1]) (show z_pt 149 14 = some (3, .iload_n 2, []) by decide +kernel) rfl (fun _ _ _ => rfl) ?_
  refine R_pure (pc := 15) (pc' := 16) (st' := [.int (3600 - q1), .int q1]) (show z_pt 149 15 = some (3, .isub, []) by decide +kernel) rfl (fun _ _ _ => rfl) ?_
  obtain ⟨q3, e4, h⟩ := z_bs h
  refine R_call (pc := 16) (rr := []) (show z_pt 149 16 = some (3, .invokestatic 388, [1, 160, 2, 3217, 2235, 0, 1008, 2236]) by decide +kernel) rfl (show z_r2 160 = some (12, 2, true) by decide +kernel) rfl rfl (Or.inl (by decide)) (pJ_min_run  e4) (by omega) ?_
  refine R_at2 (pc := 19) (st := [.int q3]) ?_
  cases h
  exact R_retI (show z_pt 149 19 = some (3, .ireturn, []) by decide +kernel) (by decide +kernel)
def pY_idNearest_L9_B (R : Int32 → Int32 → Int32 → Option Int32)  (μ : z_Mem) (f1 : Int32) (K : Int32 → Int32 → Int32 → Option Int32) (a2 : Int32) (a3 : Int32) (a4 : Int32) : Option Int32 := if (μ 12 0) ≤ a4 then K a2 a3 a4 else (z_rd μ 14 8 a4).bind fun v2 => (pG_distanceBetween μ v2 f1).bind fun q4 => if a3 ≤ q4 then R a2 a3 (a4 + 1) else (z_rd μ 13 8 a4).bind fun v7 => R v7 q4 (a4 + 1)
def pY_idNearest_L9 : Nat → z_Mem → Int32 → (Int32 → Int32 → Int32 → Option Int32) → Int32 → Int32 → Int32 → Option Int32
  | 0 => fun _ _ _ _ _ _ => none
  | n + 1 => fun μ f1 K a2 a3 a4 => pY_idNearest_L9_B (pY_idNearest_L9 n μ f1 K) μ f1 K a2 a3 a4
theorem pY_idNearest_L9_run  (μ : z_Mem) (f1 : Int32) (K : Int32 → Int32 → Int32 → Option Int32)  (D : Nat) (hD : 2 ≤ D) (hK : ∀ (a2 a3 a4 : Int32) (r : Int32), K a2 a3 a4 = some r → Rn D 63 54 [(0, .ref 12), (1, .int f1), (2, .int a2), (3, .int a3), (4, .int a4)] [] μ (.inl (some (.int r))) μ) : ∀ (n : Nat) (a2 : Int32) (a3 : Int32) (a4 : Int32) (r : Int32), pY_idNearest_L9 n μ f1 K a2 a3 a4 = some r → Rn D 63 9 [(0, .ref 12), (1, .int f1), (2, .int a2), (3, .int a3), (4, .int a4)] [] μ (.inl (some (.int r))) μ := by
  intro n
  induction n with
  | zero => intro a2 a3 a4 r h; cases h
  | succ n ih =>
    intro a2 a3 a4 r h
    have h : pY_idNearest_L9_B (pY_idNearest_L9 n μ f1 K) μ f1 K a2 a3 a4 = some r := h
    unfold pY_idNearest_L9_B at h
    refine R_pure (pc := 9) (pc' := 11) (st' := [.int a4]) (show z_pt 63 9 = some (6, .iload 4, []) by decide +kernel) rfl (fun _ _ _ => rfl) ?_
    refine R_pure (pc := 11) (pc' := 12) (st' := [.ref 12, .int a4]) (show z_pt 63 11 = some (6, .aload_n 0, []) by decide +kernel) rfl (fun _ _ _ => rfl) ?_
    refine R_getI (pc := 12) (a := 12) (show z_pt 63 12 = some (6, .getfield 21, [6, 0, 1122]) by decide +kernel) (by decide +kernel) ?_
    refine R_at (pc := 15) ?_
    refine R_icmge (pc := 15) (t := 54) (show z_pt 63 15 = some (6, .if_icmp .ge 39, []) by decide +kernel) (by decide) (fun c1 => ?_) (fun c1 => ?_)
    · rw [if_pos c1] at h
      exact hK _ _ _  _ h
    · rw [if_neg c1] at h
      refine R_pure (pc := 18) (pc' := 19) (st' := [.ref 12]) (show z_pt 63 18 = some (6, .aload_n 0, []) by decide +kernel) rfl (fun _ _ _ => rfl) ?_
      refine R_getR (pc := 19) (a := 12) (b := 14) (show z_pt 63 19 = some (6, .getfield 15, [6, 4, 1129]) by decide +kernel) (by decide +kernel) ?_
      refine R_at (pc := 22) ?_
      refine R_pure (pc := 22) (pc' := 24) (st' := [.int a4, .ref 14]) (show z_pt 63 22 = some (6, .iload 4, []) by decide +kernel) rfl (fun _ _ _ => rfl) ?_
      obtain ⟨v2, e3, h⟩ := z_bs h
      refine R_ialdR (pc := 24) (a := 14) (n := 8) (show z_pt 63 24 = some (6, .iaload, []) by decide +kernel) (show z_ar 14 0 8 = true by decide +kernel) e3 ?_
      refine R_at (pc := 25) ?_
      refine R_pure (pc := 25) (pc' := 26) (st' := [.int f1, .int v2]) (show z_pt 63 25 = some (6, .iload_n 1, []) by decide +kernel) rfl (fun _ _ _ => rfl) ?_
      obtain ⟨q4, e5, h⟩ := z_bs h
      refine R_call (pc := 26) (rr := []) (show z_pt 63 26 = some (6, .invokestatic 46, [2, 149, 2, 4065, 3214, 0, 1001, 3215]) by decide +kernel) rfl (show z_r2 149 = some (9, 3, true) by decide +kernel) rfl rfl (Or.inl (by decide)) (pG_distanceBetween_run  e5) (by omega) ?_
      refine R_at2 (pc := 29) (st := [.int q4]) ?_
      refine R_pure (pc := 29) (pc' := 31) (ls' := [(0, .ref 12), (1, .int f1), (2, .int a2), (3, .int a3), (4, .int a4), (5, .int q4)]) (st' := []) (show z_pt 63 29 = some (6, .istore 5, []) by decide +kernel) rfl (fun _ _ _ => rfl) ?_
      refine R_pure (pc := 31) (pc' := 33) (st' := [.int q4]) (show z_pt 63 31 = some (6, .iload 5, []) by decide +kernel) rfl (fun _ _ _ => rfl) ?_
      refine R_pure (pc := 33) (pc' := 34) (st' := [.int a3, .int q4]) (show z_pt 63 33 = some (6, .iload_n 3, []) by decide +kernel) rfl (fun _ _ _ => rfl) ?_
      refine R_icmge (pc := 34) (t := 48) (show z_pt 63 34 = some (6, .if_icmp .ge 14, []) by decide +kernel) (by decide) (fun c6 => ?_) (fun c6 => ?_)
      · rw [if_pos c6] at h
        refine R_inc (pc := 48) (pc' := 51) (ls' := [(0, .ref 12), (1, .int f1), (2, .int a2), (3, .int a3), (4, .int (a4 + 1)), (5, .int q4)]) (c := 1) (show z_pt 63 48 = some (6, .iinc 4 1, []) by decide +kernel) (by decide) rfl rfl ?_
        refine R_pure (pc := 51) (pc' := 9) (ls' := [(0, .ref 12), (1, .int f1), (2, .int a2), (3, .int a3), (4, .int (a4 + 1))]) (st' := []) (show z_pt 63 51 = some (6, .goto (-42), [5]) by decide +kernel) rfl (fun _ _ _ => rfl) ?_
        exact ih _ _ _ _  h
      · rw [if_neg c6] at h
        refine R_pure (pc := 37) (pc' := 39) (st' := [.int q4]) (show z_pt 63 37 = some (6, .iload 5, []) by decide +kernel) rfl (fun _ _ _ => rfl) ?_
        refine R_pure (pc := 39) (pc' := 40) (ls' := [(0, .ref 12), (1, .int f1), (2, .int a2), (3, .int q4), (4, .int a4), (5, .int q4)]) (st' := []) (show z_pt 63 39 = some (6, .istore_n 3, []) by decide +kernel) rfl (fun _ _ _ => rfl) ?_
        refine R_pure (pc := 40) (pc' := 41) (st' := [.ref 12]) (show z_pt 63 40 = some (6, .aload_n 0, []) by decide +kernel) rfl (fun _ _ _ => rfl) ?_
        refine R_getR (pc := 41) (a := 12) (b := 13) (show z_pt 63 41 = some (6, .getfield 9, [6, 3, 1127]) by decide +kernel) (by decide +kernel) ?_
        refine R_at (pc := 44) ?_
        refine R_pure (pc := 44) (pc' := 46) (st' := [.int a4, .ref 13]) (show z_pt 63 44 = some (6, .iload 4, []) by decide +kernel) rfl (fun _ _ _ => rfl) ?_
        obtain ⟨v7, e8, h⟩ := z_bs h
        refine R_ialdR (pc := 46) (a := 13) (n := 8) (show z_pt 63 46 = some (6, .iaload, []) by decide +kernel) (show z_ar 13 0 8 = true by decide +kernel) e8 ?_
        refine R_at (pc := 47) ?_
        refine R_pure (pc := 47) (pc' := 48) (ls' := [(0, .ref 12), (1, .int f1), (2, .int v7), (3, .int q4), (4, .int a4), (5, .int q4)]) (st' := []) (show z_pt 63 47 = some (6, .istore_n 2, []) by decide +kernel) rfl (fun _ _ _ => rfl) ?_
        refine R_inc (pc := 48) (pc' := 51) (ls' := [(0, .ref 12), (1, .int f1), (2, .int v7), (3, .int q4), (4, .int (a4 + 1)), (5, .int q4)]) (c := 1) (show z_pt 63 48 = some (6, .iinc 4 1, []) by decide +kernel) (by decide) rfl rfl ?_
        refine R_pure (pc := 51) (pc' := 9) (ls' := [(0, .ref 12), (1, .int f1), (2, .int v7), (3, .int q4), (4, .int (a4 + 1))]) (st' := []) (show z_pt 63 51 = some (6, .goto (-42), [5]) by decide +kernel) rfl (fun _ _ _ => rfl) ?_
        exact ih _ _ _ _  h
def pY_idNearest  (μ : z_Mem) (i1 : Int32) : Option Int32 := pY_idNearest_L9 z_fu μ i1 (fun k9 k10 k11 => some k9) (-1) 3600 0
theorem pY_idNearest_run  {μ : z_Mem} {i1 : Int32}  {r : Int32} (h : pY_idNearest μ i1 = some r) : Rn 2 63 0 [(0, .ref 12), (1, .int i1)] [] μ (.inl (some (.int r))) μ := by
  unfold pY_idNearest at h
  refine R_const (pc := 0) (pc' := 1) (v := (-1)) (show z_ptc 63 0 = some (1, (-1)) by decide +kernel) ?_
  refine R_pure (pc := 1) (pc' := 2) (ls' := [(0, .ref 12), (1, .int i1), (2, .int (-1))]) (st' := []) (show z_pt 63 1 = some (6, .istore_n 2, []) by decide +kernel) rfl (fun _ _ _ => rfl) ?_
  refine R_const (pc := 2) (pc' := 5) (v := 3600) (show z_ptc 63 2 = some (5, 3600) by decide +kernel) ?_
  refine R_pure (pc := 5) (pc' := 6) (ls' := [(0, .ref 12), (1, .int i1), (2, .int (-1)), (3, .int 3600)]) (st' := []) (show z_pt 63 5 = some (6, .istore_n 3, []) by decide +kernel) rfl (fun _ _ _ => rfl) ?_
  refine R_const (pc := 6) (pc' := 7) (v := 0) (show z_ptc 63 6 = some (7, 0) by decide +kernel) ?_
  refine R_pure (pc := 7) (pc' := 9) (ls' := [(0, .ref 12), (1, .int i1), (2, .int (-1)), (3, .int 3600), (4, .int 0)]) (st' := []) (show z_pt 63 7 = some (6, .istore 4, []) by decide +kernel) rfl (fun _ _ _ => rfl) ?_
  refine pY_idNearest_L9_run  _ _ _  _ (by omega) ?_ _ _ _ _ _ h
  intro k9 k10 k11 r h
  refine R_pure (pc := 54) (pc' := 55) (st' := [.int k9]) (show z_pt 63 54 = some (6, .iload_n 2, []) by decide +kernel) rfl (fun _ _ _ => rfl) ?_
  cases h
  exact R_retI (show z_pt 63 55 = some (6, .ireturn, []) by decide +kernel) (by decide +kernel)
def pA_directionOfSpoke  (μ : z_Mem) (i1 : Int32) (i2 : Int32) (i3 : Int32) : Option Int32 := (z_rd μ 10 4 i1).bind fun v1 => (z_rd μ 3 10 v1).bind fun v3 => (z_rd μ 11 4 i1).bind fun v5 => if v3 < 8 then some 0 else if 3 ≤ v5 then (z_rd μ 4 10 v1).bind fun v9 => (pJ_floorMod μ (v9 + i3) v3).bind fun q11 => if v3 = 0 then none else if v5 = 0 then none else some ((((3600 * q11) / v3) + ((3600 * i2) / v5)) - (((3600 * q11) / v3) + ((3600 * i2) / v5)) / 3600 * 3600) else some 0
theorem pA_directionOfSpoke_run  {μ : z_Mem} {i1 : Int32} {i2 : Int32} {i3 : Int32}  {r : Int32} (h : pA_directionOfSpoke μ i1 i2 i3 = some r) : Rn 1 66 0 [(0, .ref 1), (1, .int i1), (2, .int i2), (3, .int i3)] [] μ (.inl (some (.int r))) μ := by
  unfold pA_directionOfSpoke at h
  refine R_pure (pc := 0) (pc' := 1) (st' := [.ref 1]) (show z_pt 66 0 = some (8, .aload_n 0, []) by decide +kernel) rfl (fun _ _ _ => rfl) ?_
  refine R_getR (pc := 1) (a := 1) (b := 9) (show z_pt 66 1 = some (8, .getfield 21, [7, 1, 1173]) by decide +kernel) (by decide +kernel) ?_
  refine R_at (pc := 4) ?_
  refine R_getR (pc := 4) (a := 9) (b := 10) (show z_pt 66 4 = some (8, .getfield 52, [8, 1, 1104]) by decide +kernel) (by decide +kernel) ?_
  refine R_at (pc := 7) ?_
  refine R_pure (pc := 7) (pc' := 8) (st' := [.int i1, .ref 10]) (show z_pt 66 7 = some (8, .iload_n 1, []) by decide +kernel) rfl (fun _ _ _ => rfl) ?_
  obtain ⟨v1, e2, h⟩ := z_bs h
  refine R_ialdR (pc := 8) (a := 10) (n := 4) (show z_pt 66 8 = some (8, .iaload, []) by decide +kernel) (show z_ar 10 0 4 = true by decide +kernel) e2 ?_
  refine R_at (pc := 9) ?_
  refine R_pure (pc := 9) (pc' := 11) (ls' := [(0, .ref 1), (1, .int i1), (2, .int i2), (3, .int i3), (4, .int v1)]) (st' := []) (show z_pt 66 9 = some (8, .istore 4, []) by decide +kernel) rfl (fun _ _ _ => rfl) ?_
  refine R_pure (pc := 11) (pc' := 12) (st' := [.ref 1]) (show z_pt 66 11 = some (8, .aload_n 0, []) by decide +kernel) rfl (fun _ _ _ => rfl) ?_
  refine R_getR (pc := 12) (a := 1) (b := 2) (show z_pt 66 12 = some (8, .getfield 12, [7, 0, 1171]) by decide +kernel) (by decide +kernel) ?_
  refine R_at (pc := 15) ?_
  refine R_getR (pc := 15) (a := 2) (b := 3) (show z_pt 66 15 = some (8, .getfield 56, [2, 3, 1057]) by decide +kernel) (by decide +kernel) ?_
  refine R_at (pc := 18) ?_
  refine R_pure (pc := 18) (pc' := 20) (st' := [.int v1, .ref 3]) (show z_pt 66 18 = some (8, .iload 4, []) by decide +kernel) rfl (fun _ _ _ => rfl) ?_
  obtain ⟨v3, e4, h⟩ := z_bs h
  refine R_ialdR (pc := 20) (a := 3) (n := 10) (show z_pt 66 20 = some (8, .iaload, []) by decide +kernel) (show z_ar 3 0 10 = true by decide +kernel) e4 ?_
  refine R_at (pc := 21) ?_
  refine R_pure (pc := 21) (pc' := 23) (ls' := [(0, .ref 1), (1, .int i1), (2, .int i2), (3, .int i3), (4, .int v1), (5, .int v3)]) (st' := []) (show z_pt 66 21 = some (8, .istore 5, []) by decide +kernel) rfl (fun _ _ _ => rfl) ?_
  refine R_pure (pc := 23) (pc' := 24) (st' := [.ref 1]) (show z_pt 66 23 = some (8, .aload_n 0, []) by decide +kernel) rfl (fun _ _ _ => rfl) ?_
  refine R_getR (pc := 24) (a := 1) (b := 9) (show z_pt 66 24 = some (8, .getfield 21, [7, 1, 1173]) by decide +kernel) (by decide +kernel) ?_
  refine R_at (pc := 27) ?_
  refine R_getR (pc := 27) (a := 9) (b := 11) (show z_pt 66 27 = some (8, .getfield 59, [8, 2, 1107]) by decide +kernel) (by decide +kernel) ?_
  refine R_at (pc := 30) ?_
  refine R_pure (pc := 30) (pc' := 31) (st' := [.int i1, .ref 11]) (show z_pt 66 30 = some (8, .iload_n 1, []) by decide +kernel) rfl (fun _ _ _ => rfl) ?_
  obtain ⟨v5, e6, h⟩ := z_bs h
  refine R_ialdR (pc := 31) (a := 11) (n := 4) (show z_pt 66 31 = some (8, .iaload, []) by decide +kernel) (show z_ar 11 0 4 = true by decide +kernel) e6 ?_
  refine R_at (pc := 32) ?_
  refine R_pure (pc := 32) (pc' := 34) (ls' := [(0, .ref 1), (1, .int i1), (2, .int i2), (3, .int i3), (4, .int v1), (5, .int v3), (6, .int v5)]) (st' := []) (show z_pt 66 32 = some (8, .istore 6, []) by decide +kernel) rfl (fun _ _ _ => rfl) ?_
  refine R_pure (pc := 34) (pc' := 36) (st' := [.int v3]) (show z_pt 66 34 = some (8, .iload 5, []) by decide +kernel) rfl (fun _ _ _ => rfl) ?_
  refine R_const (pc := 36) (pc' := 38) (v := 8) (show z_ptc 66 36 = some (38, 8) by decide +kernel) ?_
  refine R_icmlt (pc := 38) (t := 47) (show z_pt 66 38 = some (8, .if_icmp .lt 9, []) by decide +kernel) (by decide) (fun c7 => ?_) (fun c7 => ?_)
  · rw [if_pos c7] at h
    refine R_const (pc := 47) (pc' := 48) (v := 0) (show z_ptc 66 47 = some (48, 0) by decide +kernel) ?_
    cases h
    exact R_retI (show z_pt 66 48 = some (8, .ireturn, []) by decide +kernel) (by decide +kernel)
  · rw [if_neg c7] at h
    refine R_pure (pc := 41) (pc' := 43) (st' := [.int v5]) (show z_pt 66 41 = some (8, .iload 6, []) by decide +kernel) rfl (fun _ _ _ => rfl) ?_
    refine R_const (pc := 43) (pc' := 44) (v := 3) (show z_ptc 66 43 = some (44, 3) by decide +kernel) ?_
    refine R_icmge (pc := 44) (t := 49) (show z_pt 66 44 = some (8, .if_icmp .ge 5, []) by decide +kernel) (by decide) (fun c8 => ?_) (fun c8 => ?_)
    · rw [if_pos c8] at h
      refine R_pure (pc := 49) (pc' := 50) (st' := [.ref 1]) (show z_pt 66 49 = some (8, .aload_n 0, []) by decide +kernel) rfl (fun _ _ _ => rfl) ?_
      refine R_getR (pc := 50) (a := 1) (b := 2) (show z_pt 66 50 = some (8, .getfield 12, [7, 0, 1171]) by decide +kernel) (by decide +kernel) ?_
      refine R_at (pc := 53) ?_
      refine R_getR (pc := 53) (a := 2) (b := 4) (show z_pt 66 53 = some (8, .getfield 62, [2, 4, 1061]) by decide +kernel) (by decide +kernel) ?_
      refine R_at (pc := 56) ?_
      refine R_pure (pc := 56) (pc' := 58) (st' := [.int v1, .ref 4]) (show z_pt 66 56 = some (8, .iload 4, []) by decide +kernel) rfl (fun _ _ _ => rfl) ?_
      obtain ⟨v9, e10, h⟩ := z_bs h
      refine R_ialdR (pc := 58) (a := 4) (n := 10) (show z_pt 66 58 = some (8, .iaload, []) by decide +kernel) (show z_ar 4 0 10 = true by decide +kernel) e10 ?_
      refine R_at (pc := 59) ?_
      refine R_pure (pc := 59) (pc' := 60) (st' := [.int i3, .int v9]) (show z_pt 66 59 = some (8, .iload_n 3, []) by decide +kernel) rfl (fun _ _ _ => rfl) ?_
      refine R_pure (pc := 60) (pc' := 61) (st' := [.int (v9 + i3)]) (show z_pt 66 60 = some (8, .iadd, []) by decide +kernel) rfl (fun _ _ _ => rfl) ?_
      refine R_pure (pc := 61) (pc' := 63) (st' := [.int v3, .int (v9 + i3)]) (show z_pt 66 61 = some (8, .iload 5, []) by decide +kernel) rfl (fun _ _ _ => rfl) ?_
      obtain ⟨q11, e12, h⟩ := z_bs h
      refine R_call (pc := 63) (rr := []) (show z_pt 66 63 = some (8, .invokestatic 65, [1, 161, 2, 3193, 3194, 0, 1008, 3195]) by decide +kernel) rfl (show z_r2 161 = some (12, 3, true) by decide +kernel) rfl rfl (Or.inl (by decide)) (pJ_floorMod_run  e12) (by omega) ?_
      refine R_at2 (pc := 66) (st := [.int q11]) ?_
      refine R_pure (pc := 66) (pc' := 68) (ls' := [(0, .ref 1), (1, .int i1), (2, .int i2), (3, .int i3), (4, .int v1), (5, .int v3), (6, .int v5), (7, .int q11)]) (st' := []) (show z_pt 66 66 = some (8, .istore 7, []) by decide +kernel) rfl (fun _ _ _ => rfl) ?_
      refine R_const (pc := 68) (pc' := 71) (v := 3600) (show z_ptc 66 68 = some (71, 3600) by decide +kernel) ?_
      refine R_pure (pc := 71) (pc' := 73) (st' := [.int q11, .int 3600]) (show z_pt 66 71 = some (8, .iload 7, []) by decide +kernel) rfl (fun _ _ _ => rfl) ?_
      refine R_pure (pc := 73) (pc' := 74) (st' := [.int (3600 * q11)]) (show z_pt 66 73 = some (8, .imul, []) by decide +kernel) rfl (fun _ _ _ => rfl) ?_
      refine R_pure (pc := 74) (pc' := 76) (st' := [.int v3, .int (3600 * q11)]) (show z_pt 66 74 = some (8, .iload 5, []) by decide +kernel) rfl (fun _ _ _ => rfl) ?_
      obtain ⟨g13, h⟩ := z_ng h
      refine R_div (x := (3600 * q11)) (y := v3) (show z_pt 66 76 = some (8, .idiv, []) by decide +kernel) g13 ?_
      refine R_const (pc := 77) (pc' := 80) (v := 3600) (show z_ptc 66 77 = some (80, 3600) by decide +kernel) ?_
      refine R_pure (pc := 80) (pc' := 81) (st' := [.int i2, .int 3600, .int ((3600 * q11) / v3)]) (show z_pt 66 80 = some (8, .iload_n 2, []) by decide +kernel) rfl (fun _ _ _ => rfl) ?_
      refine R_pure (pc := 81) (pc' := 82) (st' := [.int (3600 * i2), .int ((3600 * q11) / v3)]) (show z_pt 66 81 = some (8, .imul, []) by decide +kernel) rfl (fun _ _ _ => rfl) ?_
      refine R_pure (pc := 82) (pc' := 84) (st' := [.int v5, .int (3600 * i2), .int ((3600 * q11) / v3)]) (show z_pt 66 82 = some (8, .iload 6, []) by decide +kernel) rfl (fun _ _ _ => rfl) ?_
      obtain ⟨g14, h⟩ := z_ng h
      refine R_div (x := (3600 * i2)) (y := v5) (show z_pt 66 84 = some (8, .idiv, []) by decide +kernel) g14 ?_
      refine R_pure (pc := 85) (pc' := 86) (st' := [.int (((3600 * q11) / v3) + ((3600 * i2) / v5))]) (show z_pt 66 85 = some (8, .iadd, []) by decide +kernel) rfl (fun _ _ _ => rfl) ?_
      refine R_const (pc := 86) (pc' := 89) (v := 3600) (show z_ptc 66 86 = some (89, 3600) by decide +kernel) ?_
      refine R_rem (x := (((3600 * q11) / v3) + ((3600 * i2) / v5))) (y := 3600) (show z_pt 66 89 = some (8, .irem, []) by decide +kernel) (by decide) ?_
      cases h
      exact R_retI (show z_pt 66 90 = some (8, .ireturn, []) by decide +kernel) (by decide +kernel)
    · rw [if_neg c8] at h
      refine R_const (pc := 47) (pc' := 48) (v := 0) (show z_ptc 66 47 = some (48, 0) by decide +kernel) ?_
      cases h
      exact R_retI (show z_pt 66 48 = some (8, .ireturn, []) by decide +kernel) (by decide +kernel)
end ZP2
