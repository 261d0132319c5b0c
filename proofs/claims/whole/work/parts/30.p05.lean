section ZP5
def pG_meanTeeth_L27_B (R : Int32 → Int32 → Option (UInt64 ⊕ Nat))  (μ : z_Mem) (f1 : Int32) (K : Int32 → Int32 → Option (UInt64 ⊕ Nat)) (a2 : Int32) (a3 : Int32) : Option (UInt64 ⊕ Nat) := if f1 ≤ a3 then K a2 a3 else (z_rd μ 3 10 a3).bind fun v3 => R (a2 + v3) (a3 + 1)
def pG_meanTeeth_L27 : Nat → z_Mem → Int32 → (Int32 → Int32 → Option (UInt64 ⊕ Nat)) → Int32 → Int32 → Option (UInt64 ⊕ Nat)
  | 0 => fun _ _ _ _ _ => none
  | n + 1 => fun μ f1 K a2 a3 => pG_meanTeeth_L27_B (pG_meanTeeth_L27 n μ f1 K) μ f1 K a2 a3
theorem pG_meanTeeth_L27_run  (μ : z_Mem) (f1 : Int32) (K : Int32 → Int32 → Option (UInt64 ⊕ Nat))  (D : Nat) (hD : 6 ≤ D) (hK : ∀ (a2 a3 : Int32) (r : (UInt64 ⊕ Nat)), K a2 a3 = some r → Rn D 120 53 [(0, .ref 0), (1, .int f1), (2, .int a2), (3, .int a3)] [] μ (z_oD r) μ) : ∀ (n : Nat) (a2 : Int32) (a3 : Int32) (r : (UInt64 ⊕ Nat)), pG_meanTeeth_L27 n μ f1 K a2 a3 = some r → Rn D 120 27 [(0, .ref 0), (1, .int f1), (2, .int a2), (3, .int a3)] [] μ (z_oD r) μ := by
  intro n
  induction n with
  | zero => intro a2 a3 r h; cases h
  | succ n ih =>
    intro a2 a3 r h
    have h : pG_meanTeeth_L27_B (pG_meanTeeth_L27 n μ f1 K) μ f1 K a2 a3 = some r := h
    unfold pG_meanTeeth_L27_B at h
    refine R_pure (pc := 27) (pc' := 28) (st' := [.int a3]) (show z_pt 120 27 = some (4, .iload_n 3, []) by decide +kernel) rfl (fun _ _ _ => rfl) ?_
    refine R_pure (pc := 28) (pc' := 29) (st' := [.int f1, .int a3]) (show z_pt 120 28 = some (4, .iload_n 1, []) by decide +kernel) rfl (fun _ _ _ => rfl) ?_
    refine R_icmge (pc := 29) (t := 53) (show z_pt 120 29 = some (4, .if_icmp .ge 24, []) by decide +kernel) (by decide) (fun c2 => ?_) (fun c2 => ?_)
    · rw [if_pos c2] at h
      exact hK _ _  _ h
    · rw [if_neg c2] at h
      refine R_pure (pc := 32) (pc' := 33) (st' := [.int a2]) (show z_pt 120 32 = some (4, .iload_n 2, []) by decide +kernel) rfl (fun _ _ _ => rfl) ?_
      refine R_pure (pc := 33) (pc' := 34) (st' := [.ref 0, .int a2]) (show z_pt 120 33 = some (4, .aload_n 0, []) by decide +kernel) rfl (fun _ _ _ => rfl) ?_
      refine R_getR (pc := 34) (a := 0) (b := 1) (show z_pt 120 34 = some (4, .getfield 17, [9, 0, 2039]) by decide +kernel) (by decide +kernel) ?_
      refine R_at (pc := 37) ?_
      refine R_getR (pc := 37) (a := 1) (b := 2) (show z_pt 120 37 = some (4, .getfield 23, [7, 0, 1173]) by decide +kernel) (by decide +kernel) ?_
      refine R_at (pc := 40) ?_
      refine R_getR (pc := 40) (a := 2) (b := 3) (show z_pt 120 40 = some (4, .getfield 101, [2, 3, 1059]) by decide +kernel) (by decide +kernel) ?_
      refine R_at (pc := 43) ?_
      refine R_pure (pc := 43) (pc' := 44) (st' := [.int a3, .ref 3, .int a2]) (show z_pt 120 43 = some (4, .iload_n 3, []) by decide +kernel) rfl (fun _ _ _ => rfl) ?_
      obtain ⟨v3, e4, h⟩ := z_bs h
      refine R_ialdR (pc := 44) (a := 3) (n := 10) (show z_pt 120 44 = some (4, .iaload, []) by decide +kernel) (show z_ar 3 0 10 = true by decide +kernel) e4 ?_
      refine R_at (pc := 45) ?_
      refine R_pure (pc := 45) (pc' := 46) (st' := [.int (a2 + v3)]) (show z_pt 120 45 = some (4, .iadd, []) by decide +kernel) rfl (fun _ _ _ => rfl) ?_
      refine R_pure (pc := 46) (pc' := 47) (ls' := [(0, .ref 0), (1, .int f1), (2, .int (a2 + v3)), (3, .int a3)]) (st' := []) (show z_pt 120 46 = some (4, .istore_n 2, []) by decide +kernel) rfl (fun _ _ _ => rfl) ?_
      refine R_inc (pc := 47) (pc' := 50) (ls' := [(0, .ref 0), (1, .int f1), (2, .int (a2 + v3)), (3, .int (a3 + 1))]) (c := 1) (show z_pt 120 47 = some (4, .iinc 3 1, []) by decide +kernel) (by decide) rfl rfl ?_
      refine R_pure (pc := 50) (pc' := 27) (ls' := [(0, .ref 0), (1, .int f1), (2, .int (a2 + v3)), (3, .int (a3 + 1))]) (st' := []) (show z_pt 120 50 = some (4, .goto (-23), [4]) by decide +kernel) rfl (fun _ _ _ => rfl) ?_
      exact ih _ _ _  h
def pG_meanTeeth  (μ : z_Mem)  : Option (UInt64 ⊕ Nat) := if (μ 2 0) = 0 then some (.inr 4) else pG_meanTeeth_L27 z_fu μ (μ 2 0) (fun k5 k6 => if z_n64 (FP.ddiv (FP.i2d k5) (FP.i2d (μ 2 0))) = true then some (.inl (FP.ddiv (FP.i2d k5) (FP.i2d (μ 2 0)))) else none) 0 0
theorem pG_meanTeeth_run  {μ : z_Mem}   {r : (UInt64 ⊕ Nat)} (h : pG_meanTeeth μ = some r) : Rn 6 120 0 [(0, .ref 0)] [] μ (z_oD r) μ := by
  unfold pG_meanTeeth at h
  refine R_pure (pc := 0) (pc' := 1) (st' := [.ref 0]) (show z_pt 120 0 = some (4, .aload_n 0, []) by decide +kernel) rfl (fun _ _ _ => rfl) ?_
  refine R_getR (pc := 1) (a := 0) (b := 1) (show z_pt 120 1 = some (4, .getfield 17, [9, 0, 2039]) by decide +kernel) (by decide +kernel) ?_
  refine R_at (pc := 4) ?_
  refine R_getR (pc := 4) (a := 1) (b := 2) (show z_pt 120 4 = some (4, .getfield 23, [7, 0, 1173]) by decide +kernel) (by decide +kernel) ?_
  refine R_at (pc := 7) ?_
  refine R_getI (pc := 7) (a := 2) (show z_pt 120 7 = some (4, .getfield 93, [2, 0, 1051]) by decide +kernel) (by decide +kernel) ?_
  refine R_at (pc := 10) ?_
  refine R_pure (pc := 10) (pc' := 11) (ls' := [(0, .ref 0), (1, .int (μ 2 0))]) (st' := []) (show z_pt 120 10 = some (4, .istore_n 1, []) by decide +kernel) rfl (fun _ _ _ => rfl) ?_
  refine R_pure (pc := 11) (pc' := 12) (st' := [.int (μ 2 0)]) (show z_pt 120 11 = some (4, .iload_n 1, []) by decide +kernel) rfl (fun _ _ _ => rfl) ?_
  refine R_ifne (pc := 12) (t := 23) (show z_pt 120 12 = some (4, .ifCond .ne 11, []) by decide +kernel) (by decide) (fun c1 => ?_) (fun c1 => ?_)
  · rw [if_neg c1] at h
    refine R_const (pc := 23) (pc' := 24) (v := 0) (show z_ptc 120 23 = some (24, 0) by decide +kernel) ?_
    refine R_pure (pc := 24) (pc' := 25) (ls' := [(0, .ref 0), (1, .int (μ 2 0)), (2, .int 0)]) (st' := []) (show z_pt 120 24 = some (4, .istore_n 2, []) by decide +kernel) rfl (fun _ _ _ => rfl) ?_
    refine R_const (pc := 25) (pc' := 26) (v := 0) (show z_ptc 120 25 = some (26, 0) by decide +kernel) ?_
    refine R_pure (pc := 26) (pc' := 27) (ls' := [(0, .ref 0), (1, .int (μ 2 0)), (2, .int 0), (3, .int 0)]) (st' := []) (show z_pt 120 26 = some (4, .istore_n 3, []) by decide +kernel) rfl (fun _ _ _ => rfl) ?_
    refine pG_meanTeeth_L27_run  _ _ _  _ (by omega) ?_ _ _ _ _ h
    intro k5 k6 r h
    refine R_pure (pc := 53) (pc' := 54) (st' := [.int k5]) (show z_pt 120 53 = some (4, .iload_n 2, []) by decide +kernel) rfl (fun _ _ _ => rfl) ?_
    refine R_pure (pc := 54) (pc' := 55) (st' := [.double (FP.i2d k5)]) (show z_pt 120 54 = some (4, .i2d, []) by decide +kernel) rfl (fun _ _ _ => rfl) ?_
    refine R_pure (pc := 55) (pc' := 56) (st' := [.int (μ 2 0), .double (FP.i2d k5)]) (show z_pt 120 55 = some (4, .iload_n 1, []) by decide +kernel) rfl (fun _ _ _ => rfl) ?_
    refine R_pure (pc := 56) (pc' := 57) (st' := [.double (FP.i2d (μ 2 0)), .double (FP.i2d k5)]) (show z_pt 120 56 = some (4, .i2d, []) by decide +kernel) rfl (fun _ _ _ => rfl) ?_
    obtain ⟨g7, h⟩ := z_ig h
    refine R_ddiv (show z_pt 120 57 = some (4, .ddiv, []) by decide +kernel) g7 ?_
    cases h
    exact R_retD (show z_pt 120 58 = some (4, .dreturn, []) by decide +kernel) (by decide +kernel)
  · rw [if_pos c1] at h
    cases h
    exact R_thr (show z_thx 120 15 = some 4 by decide +kernel) (by omega)
def pG_alignedFraction_L47_B (R : Int32 → Int32 → Option (UInt32 ⊕ Nat))  (μ : z_Mem) (f1 : Int32) (f2 : Int32) (K : Int32 → Int32 → Option (UInt32 ⊕ Nat)) (a3 : Int32) (a4 : Int32) : Option (UInt32 ⊕ Nat) := if f2 ≤ a4 then K a3 a4 else (pA_isAligned μ a4 f1).bind fun q6 => if q6 = 0 then R a3 (a4 + 1) else R (a3 + 1) (a4 + 1)
def pG_alignedFraction_L47 : Nat → z_Mem → Int32 → Int32 → (Int32 → Int32 → Option (UInt32 ⊕ Nat)) → Int32 → Int32 → Option (UInt32 ⊕ Nat)
  | 0 => fun _ _ _ _ _ _ => none
  | n + 1 => fun μ f1 f2 K a3 a4 => pG_alignedFraction_L47_B (pG_alignedFraction_L47 n μ f1 f2 K) μ f1 f2 K a3 a4
theorem pG_alignedFraction_L47_run  (μ : z_Mem) (f1 : Int32) (f2 : Int32) (K : Int32 → Int32 → Option (UInt32 ⊕ Nat))  (D : Nat) (hD : 6 ≤ D) (hK : ∀ (a3 a4 : Int32) (r : (UInt32 ⊕ Nat)), K a3 a4 = some r → Rn D 121 75 [(0, .ref 0), (1, .int f1), (2, .int f2), (3, .int a3), (4, .int a4)] [] μ (z_oF r) μ) : ∀ (n : Nat) (a3 : Int32) (a4 : Int32) (r : (UInt32 ⊕ Nat)), pG_alignedFraction_L47 n μ f1 f2 K a3 a4 = some r → Rn D 121 47 [(0, .ref 0), (1, .int f1), (2, .int f2), (3, .int a3), (4, .int a4)] [] μ (z_oF r) μ := by
  intro n
  induction n with
  | zero => intro a3 a4 r h; cases h
  | succ n ih =>
    intro a3 a4 r h
    have h : pG_alignedFraction_L47_B (pG_alignedFraction_L47 n μ f1 f2 K) μ f1 f2 K a3 a4 = some r := h
    unfold pG_alignedFraction_L47_B at h
    refine R_pure (pc := 47) (pc' := 49) (st' := [.int a4]) (show z_pt 121 47 = some (5, .iload 4, []) by decide +kernel) rfl (fun _ _ _ => rfl) ?_
    refine R_pure (pc := 49) (pc' := 50) (st' := [.int f2, .int a4]) (show z_pt 121 49 = some (5, .iload_n 2, []) by decide +kernel) rfl (fun _ _ _ => rfl) ?_
    refine R_icmge (pc := 50) (t := 75) (show z_pt 121 50 = some (5, .if_icmp .ge 25, []) by decide +kernel) (by decide) (fun c5 => ?_) (fun c5 => ?_)
    · rw [if_pos c5] at h
      exact hK _ _  _ h
    · rw [if_neg c5] at h
      refine R_pure (pc := 53) (pc' := 54) (st' := [.ref 0]) (show z_pt 121 53 = some (5, .aload_n 0, []) by decide +kernel) rfl (fun _ _ _ => rfl) ?_
      refine R_getR (pc := 54) (a := 0) (b := 1) (show z_pt 121 54 = some (5, .getfield 17, [9, 0, 2039]) by decide +kernel) (by decide +kernel) ?_
      refine R_at (pc := 57) ?_
      refine R_pure (pc := 57) (pc' := 59) (st' := [.int a4, .ref 1]) (show z_pt 121 57 = some (5, .iload 4, []) by decide +kernel) rfl (fun _ _ _ => rfl) ?_
      refine R_pure (pc := 59) (pc' := 60) (st' := [.int f1, .int a4, .ref 1]) (show z_pt 121 59 = some (5, .iload_n 1, []) by decide +kernel) rfl (fun _ _ _ => rfl) ?_
      obtain ⟨q6, e7, h⟩ := z_bs h
      refine R_call (pc := 60) (rr := []) (show z_pt 121 60 = some (5, .invokevirtual 284, [0, 71, 2, 5138, 5139, 5140, 1002, 5141]) by decide +kernel) rfl (show z_r2 71 = some (7, 4, true) by decide +kernel) rfl rfl (Or.inr ⟨_, _, rfl, (by decide +kernel)⟩) (pA_isAligned_run  e7) (by omega) ?_
      refine R_at2 (pc := 63) (st := [.int q6]) ?_
      refine R_ifeq (pc := 63) (t := 69) (show z_pt 121 63 = some (5, .ifCond .eq 6, []) by decide +kernel) (by decide) (fun c8 => ?_) (fun c8 => ?_)
      · rw [if_pos c8] at h
        refine R_inc (pc := 69) (pc' := 72) (ls' := [(0, .ref 0), (1, .int f1), (2, .int f2), (3, .int a3), (4, .int (a4 + 1))]) (c := 1) (show z_pt 121 69 = some (5, .iinc 4 1, []) by decide +kernel) (by decide) rfl rfl ?_
        refine R_pure (pc := 72) (pc' := 47) (ls' := [(0, .ref 0), (1, .int f1), (2, .int f2), (3, .int a3), (4, .int (a4 + 1))]) (st' := []) (show z_pt 121 72 = some (5, .goto (-25), [5]) by decide +kernel) rfl (fun _ _ _ => rfl) ?_
        exact ih _ _ _  h
      · rw [if_neg c8] at h
        refine R_inc (pc := 66) (pc' := 69) (ls' := [(0, .ref 0), (1, .int f1), (2, .int f2), (3, .int (a3 + 1)), (4, .int a4)]) (c := 1) (show z_pt 121 66 = some (5, .iinc 3 1, []) by decide +kernel) (by decide) rfl rfl ?_
        refine R_inc (pc := 69) (pc' := 72) (ls' := [(0, .ref 0), (1, .int f1), (2, .int f2), (3, .int (a3 + 1)), (4, .int (a4 + 1))]) (c := 1) (show z_pt 121 69 = some (5, .iinc 4 1, []) by decide +kernel) (by decide) rfl rfl ?_
        refine R_pure (pc := 72) (pc' := 47) (ls' := [(0, .ref 0), (1, .int f1), (2, .int f2), (3, .int (a3 + 1)), (4, .int (a4 + 1))]) (st' := []) (show z_pt 121 72 = some (5, .goto (-25), [5]) by decide +kernel) rfl (fun _ _ _ => rfl) ?_
        exact ih _ _ _  h
def pG_alignedFraction  (μ : z_Mem) (i1 : Int32) : Option (UInt32 ⊕ Nat) := (pG_isWithin μ i1 0 1800).bind fun q1 => if q1 = 0 then some (.inr 1) else if (μ 9 0) = 0 then some (.inr 4) else pG_alignedFraction_L47 z_fu μ i1 (μ 9 0) (fun k9 k10 => if z_n32 (FP.fdiv (FP.i2f k9) (FP.i2f (μ 9 0))) = true then some (.inl (FP.fdiv (FP.i2f k9) (FP.i2f (μ 9 0)))) else none) 0 0
theorem pG_alignedFraction_run  {μ : z_Mem} {i1 : Int32}  {r : (UInt32 ⊕ Nat)} (h : pG_alignedFraction μ i1 = some r) : Rn 6 121 0 [(0, .ref 0), (1, .int i1)] [] μ (z_oF r) μ := by
  unfold pG_alignedFraction at h
  refine R_pure (pc := 0) (pc' := 1) (st' := [.int i1]) (show z_pt 121 0 = some (5, .iload_n 1, []) by decide +kernel) rfl (fun _ _ _ => rfl) ?_
  refine R_const (pc := 1) (pc' := 2) (v := 0) (show z_ptc 121 1 = some (2, 0) by decide +kernel) ?_
  refine R_const (pc := 2) (pc' := 5) (v := 1800) (show z_ptc 121 2 = some (5, 1800) by decide +kernel) ?_
  obtain ⟨q1, e2, h⟩ := z_bs h
  refine R_call (pc := 5) (rr := []) (show z_pt 121 5 = some (5, .invokestatic 239, [1, 156, 3, 2236, 2237, 0, 1001, 2238]) by decide +kernel) rfl (show z_r2 156 = some (9, 3, true) by decide +kernel) rfl rfl (Or.inl (by decide)) (pG_isWithin_run  e2) (by omega) ?_
  refine R_at2 (pc := 8) (st := [.int q1]) ?_
  refine R_ifne (pc := 8) (t := 19) (show z_pt 121 8 = some (5, .ifCond .ne 11, []) by decide +kernel) (by decide) (fun c3 => ?_) (fun c3 => ?_)
  · rw [if_neg c3] at h
    refine R_pure (pc := 19) (pc' := 20) (st' := [.ref 0]) (show z_pt 121 19 = some (5, .aload_n 0, []) by decide +kernel) rfl (fun _ _ _ => rfl) ?_
    refine R_getR (pc := 20) (a := 0) (b := 1) (show z_pt 121 20 = some (5, .getfield 17, [9, 0, 2039]) by decide +kernel) (by decide +kernel) ?_
    refine R_at (pc := 23) ?_
    refine R_getR (pc := 23) (a := 1) (b := 9) (show z_pt 121 23 = some (5, .getfield 161, [7, 1, 1175]) by decide +kernel) (by decide +kernel) ?_
    refine R_at (pc := 26) ?_
    refine R_getI (pc := 26) (a := 9) (show z_pt 121 26 = some (5, .getfield 165, [8, 0, 1103]) by decide +kernel) (by decide +kernel) ?_
    refine R_at (pc := 29) ?_
    refine R_pure (pc := 29) (pc' := 30) (ls' := [(0, .ref 0), (1, .int i1), (2, .int (μ 9 0))]) (st' := []) (show z_pt 121 29 = some (5, .istore_n 2, []) by decide +kernel) rfl (fun _ _ _ => rfl) ?_
    refine R_pure (pc := 30) (pc' := 31) (st' := [.int (μ 9 0)]) (show z_pt 121 30 = some (5, .iload_n 2, []) by decide +kernel) rfl (fun _ _ _ => rfl) ?_
    refine R_ifne (pc := 31) (t := 42) (show z_pt 121 31 = some (5, .ifCond .ne 11, []) by decide +kernel) (by decide) (fun c4 => ?_) (fun c4 => ?_)
    · rw [if_neg c4] at h
      refine R_const (pc := 42) (pc' := 43) (v := 0) (show z_ptc 121 42 = some (43, 0) by decide +kernel) ?_
      refine R_pure (pc := 43) (pc' := 44) (ls' := [(0, .ref 0), (1, .int i1), (2, .int (μ 9 0)), (3, .int 0)]) (st' := []) (show z_pt 121 43 = some (5, .istore_n 3, []) by decide +kernel) rfl (fun _ _ _ => rfl) ?_
      refine R_const (pc := 44) (pc' := 45) (v := 0) (show z_ptc 121 44 = some (45, 0) by decide +kernel) ?_
      refine R_pure (pc := 45) (pc' := 47) (ls' := [(0, .ref 0), (1, .int i1), (2, .int (μ 9 0)), (3, .int 0), (4, .int 0)]) (st' := []) (show z_pt 121 45 = some (5, .istore 4, []) by decide +kernel) rfl (fun _ _ _ => rfl) ?_
      refine pG_alignedFraction_L47_run  _ _ _ _  _ (by omega) ?_ _ _ _ _ h
      intro k9 k10 r h
      refine R_pure (pc := 75) (pc' := 76) (st' := [.int k9]) (show z_pt 121 75 = some (5, .iload_n 3, []) by decide +kernel) rfl (fun _ _ _ => rfl) ?_
      refine R_pure (pc := 76) (pc' := 77) (st' := [.float (FP.i2f k9)]) (show z_pt 121 76 = some (5, .i2f, []) by decide +kernel) rfl (fun _ _ _ => rfl) ?_
      refine R_pure (pc := 77) (pc' := 78) (st' := [.int (μ 9 0), .float (FP.i2f k9)]) (show z_pt 121 77 = some (5, .iload_n 2, []) by decide +kernel) rfl (fun _ _ _ => rfl) ?_
      refine R_pure (pc := 78) (pc' := 79) (st' := [.float (FP.i2f (μ 9 0)), .float (FP.i2f k9)]) (show z_pt 121 78 = some (5, .i2f, []) by decide +kernel) rfl (fun _ _ _ => rfl) ?_
      obtain ⟨g11, h⟩ := z_ig h
      refine R_fdiv (show z_pt 121 79 = some (5, .fdiv, []) by decide +kernel) g11 ?_
      cases h
      exact R_retF (show z_pt 121 80 = some (5, .freturn, []) by decide +kernel) (by decide +kernel)
    · rw [if_pos c4] at h
      cases h
      exact R_thr (show z_thx 121 34 = some 4 by decide +kernel) (by omega)
  · rw [if_pos c3] at h
    cases h
    exact R_thr (show z_thx 121 11 = some 1 by decide +kernel) (by omega)
def pG_writeGear_L58_B (R : z_Mem → Int32 → Option ((Int32 ⊕ Nat) × z_Mem))  (f1 : Int32) (K : z_Mem → Int32 → Option ((Int32 ⊕ Nat) × z_Mem)) (μ : z_Mem) (a3 : Int32) : Option ((Int32 ⊕ Nat) × z_Mem) := if (μ 2 0) ≤ a3 then K μ a3 else (pT_meshBetween μ f1 a3).bind fun q18 => if q18 = (-1) then R μ (a3 + 1) else (pS_put 239 50 μ 45).bind fun q21 => (pS_putNumber q21.2 a3).bind fun q23 => (pS_put 239 50 q23 47).bind fun q25 => (z_rd q25.2 8 9 q18).bind fun v27 => (pS_putNumber q25.2 v27).bind fun q29 => R q29 (a3 + 1)
def pG_writeGear_L58 : Nat → Int32 → (z_Mem → Int32 → Option ((Int32 ⊕ Nat) × z_Mem)) → z_Mem → Int32 → Option ((Int32 ⊕ Nat) × z_Mem)
  | 0 => fun _ _ _ _ => none
  | n + 1 => fun f1 K μ a3 => pG_writeGear_L58_B (pG_writeGear_L58 n f1 K) f1 K μ a3
theorem pG_writeGear_L58_run  (f1 : Int32) (K : z_Mem → Int32 → Option ((Int32 ⊕ Nat) × z_Mem))  (D : Nat) (hD : 7 ≤ D) (hK : ∀ (μ : z_Mem) (a3 : Int32) (r : ((Int32 ⊕ Nat) × z_Mem)), K μ a3 = some r → Rn D 122 128 [(0, .ref 0), (1, .int f1), (2, .ref 2), (3, .int a3)] [] μ (z_oX r.1) r.2) : ∀ (n : Nat) (μ : z_Mem) (a3 : Int32) (r : ((Int32 ⊕ Nat) × z_Mem)), pG_writeGear_L58 n f1 K μ a3 = some r → Rn D 122 58 [(0, .ref 0), (1, .int f1), (2, .ref 2), (3, .int a3)] [] μ (z_oX r.1) r.2 := by
  intro n
  induction n with
  | zero => intro μ a3 r h; cases h
  | succ n ih =>
    intro μ a3 r h
    have h : pG_writeGear_L58_B (pG_writeGear_L58 n f1 K) f1 K μ a3 = some r := h
    unfold pG_writeGear_L58_B at h
    refine R_pure (pc := 58) (pc' := 59) (st' := [.int a3]) (show z_pt 122 58 = some (5, .iload_n 3, []) by decide +kernel) rfl (fun _ _ _ => rfl) ?_
    refine R_pure (pc := 59) (pc' := 60) (st' := [.ref 2, .int a3]) (show z_pt 122 59 = some (5, .aload_n 2, []) by decide +kernel) rfl (fun _ _ _ => rfl) ?_
    refine R_getI (pc := 60) (a := 2) (show z_pt 122 60 = some (5, .getfield 93, [2, 0, 1051]) by decide +kernel) (by decide +kernel) ?_
    refine R_at (pc := 63) ?_
    refine R_icmge (pc := 63) (t := 128) (show z_pt 122 63 = some (5, .if_icmp .ge 65, []) by decide +kernel) (by decide) (fun c17 => ?_) (fun c17 => ?_)
    · rw [if_pos c17] at h
      exact hK _ _  _ h
    · rw [if_neg c17] at h
      refine R_pure (pc := 66) (pc' := 67) (st' := [.ref 2]) (show z_pt 122 66 = some (5, .aload_n 2, []) by decide +kernel) rfl (fun _ _ _ => rfl) ?_
      refine R_pure (pc := 67) (pc' := 68) (st' := [.int f1, .ref 2]) (show z_pt 122 67 = some (5, .iload_n 1, []) by decide +kernel) rfl (fun _ _ _ => rfl) ?_
      refine R_pure (pc := 68) (pc' := 69) (st' := [.int a3, .int f1, .ref 2]) (show z_pt 122 68 = some (5, .iload_n 3, []) by decide +kernel) rfl (fun _ _ _ => rfl) ?_
      obtain ⟨q18, e19, h⟩ := z_bs h
      refine R_call (pc := 69) (rr := []) (show z_pt 122 69 = some (5, .invokevirtual 111, [0, 28, 2, 3187, 2159, 2160, 1003, 2161]) by decide +kernel) rfl (show z_r2 28 = some (2, 4, true) by decide +kernel) rfl rfl (Or.inr ⟨_, _, rfl, (by decide +kernel)⟩) (pT_meshBetween_run  e19) (by omega) ?_
      refine R_at2 (pc := 72) (st := [.int q18]) ?_
      refine R_pure (pc := 72) (pc' := 74) (ls' := [(0, .ref 0), (1, .int f1), (2, .ref 2), (3, .int a3), (4, .int q18)]) (st' := []) (show z_pt 122 72 = some (5, .istore 4, []) by decide +kernel) rfl (fun _ _ _ => rfl) ?_
      refine R_pure (pc := 74) (pc' := 76) (st' := [.int q18]) (show z_pt 122 74 = some (5, .iload 4, []) by decide +kernel) rfl (fun _ _ _ => rfl) ?_
      refine R_const (pc := 76) (pc' := 77) (v := (-1)) (show z_ptc 122 76 = some (77, (-1)) by decide +kernel) ?_
      refine R_icmeq (pc := 77) (t := 122) (show z_pt 122 77 = some (5, .if_icmp .eq 45, []) by decide +kernel) (by decide) (fun c20 => ?_) (fun c20 => ?_)
      · rw [if_pos c20] at h
        refine R_inc (pc := 122) (pc' := 125) (ls' := [(0, .ref 0), (1, .int f1), (2, .ref 2), (3, .int (a3 + 1)), (4, .int q18)]) (c := 1) (show z_pt 122 122 = some (5, .iinc 3 1, []) by decide +kernel) (by decide) rfl rfl ?_
        refine R_pure (pc := 125) (pc' := 58) (ls' := [(0, .ref 0), (1, .int f1), (2, .ref 2), (3, .int (a3 + 1))]) (st' := []) (show z_pt 122 125 = some (5, .goto (-67), [4]) by decide +kernel) rfl (fun _ _ _ => rfl) ?_
        exact ih _ _ _  h
      · rw [if_neg c20] at h
        refine R_pure (pc := 80) (pc' := 81) (st' := [.ref 0]) (show z_pt 122 80 = some (5, .aload_n 0, []) by decide +kernel) rfl (fun _ _ _ => rfl) ?_
        refine R_getR (pc := 81) (a := 0) (b := 239) (show z_pt 122 81 = some (5, .getfield 57, [9, 5, 2044]) by decide +kernel) (by decide +kernel) ?_
        refine R_at (pc := 84) ?_
        refine R_const (pc := 84) (pc' := 86) (v := 45) (show z_ptc 122 84 = some (86, 45) by decide +kernel) ?_
        obtain ⟨q21, e22, h⟩ := z_bs h
        refine R_call (pc := 86) (rr := []) (show z_pt 122 86 = some (5, .invokevirtual 294, [0, 55, 1, 5163, 5158, 5159, 1007, 5160]) by decide +kernel) rfl (show z_r2 55 = some (5, 2, true) by decide +kernel) rfl rfl (Or.inr ⟨_, _, rfl, (by decide +kernel)⟩) (pS_put_run (show zSg 239 50 = true by decide +kernel) e22) (by omega) ?_
        refine R_at2 (pc := 89) (st := [.int q21.1]) ?_
        refine R_pure (pc := 89) (pc' := 90) (st' := []) (show z_pt 122 89 = some (5, .pop, []) by decide +kernel) rfl (fun _ _ _ => rfl) ?_
        refine R_pure (pc := 90) (pc' := 91) (st' := [.ref 0]) (show z_pt 122 90 = some (5, .aload_n 0, []) by decide +kernel) rfl (fun _ _ _ => rfl) ?_
        refine R_getR (pc := 91) (a := 0) (b := 239) (show z_pt 122 91 = some (5, .getfield 57, [9, 5, 2044]) by decide +kernel) (by decide +kernel) ?_
        refine R_at (pc := 94) ?_
        refine R_pure (pc := 94) (pc' := 95) (st' := [.int a3, .ref 239]) (show z_pt 122 94 = some (5, .iload_n 3, []) by decide +kernel) rfl (fun _ _ _ => rfl) ?_
        obtain ⟨q23, e24, h⟩ := z_bs h
        refine R_call (pc := 95) (rr := []) (show z_pt 122 95 = some (5, .invokevirtual 291, [0, 56, 1, 5153, 5154, 5155, 1007, 5156]) by decide +kernel) rfl (show z_r2 56 = some (5, 5, true) by decide +kernel) rfl rfl (Or.inr ⟨_, _, rfl, (by decide +kernel)⟩) (pS_putNumber_run  e24) (by omega) ?_
        refine R_at2 (pc := 98) (st := []) ?_
        refine R_pure (pc := 98) (pc' := 99) (st' := [.ref 0]) (show z_pt 122 98 = some (5, .aload_n 0, []) by decide +kernel) rfl (fun _ _ _ => rfl) ?_
        refine R_getR (pc := 99) (a := 0) (b := 239) (show z_pt 122 99 = some (5, .getfield 57, [9, 5, 2044]) by decide +kernel) (by decide +kernel) ?_
        refine R_at (pc := 102) ?_
        refine R_const (pc := 102) (pc' := 104) (v := 47) (show z_ptc 122 102 = some (104, 47) by decide +kernel) ?_
        obtain ⟨q25, e26, h⟩ := z_bs h
        refine R_call (pc := 104) (rr := []) (show z_pt 122 104 = some (5, .invokevirtual 294, [0, 55, 1, 5163, 5158, 5159, 1007, 5160]) by decide +kernel) rfl (show z_r2 55 = some (5, 2, true) by decide +kernel) rfl rfl (Or.inr ⟨_, _, rfl, (by decide +kernel)⟩) (pS_put_run (show zSg 239 50 = true by decide +kernel) e26) (by omega) ?_
        refine R_at2 (pc := 107) (st := [.int q25.1]) ?_
        refine R_pure (pc := 107) (pc' := 108) (st' := []) (show z_pt 122 107 = some (5, .pop, []) by decide +kernel) rfl (fun _ _ _ => rfl) ?_
        refine R_pure (pc := 108) (pc' := 109) (st' := [.ref 0]) (show z_pt 122 108 = some (5, .aload_n 0, []) by decide +kernel) rfl (fun _ _ _ => rfl) ?_
        refine R_getR (pc := 109) (a := 0) (b := 239) (show z_pt 122 109 = some (5, .getfield 57, [9, 5, 2044]) by decide +kernel) (by decide +kernel) ?_
        refine R_at (pc := 112) ?_
        refine R_pure (pc := 112) (pc' := 113) (st' := [.ref 2, .ref 239]) (show z_pt 122 112 = some (5, .aload_n 2, []) by decide +kernel) rfl (fun _ _ _ => rfl) ?_
        refine R_getR (pc := 113) (a := 2) (b := 8) (show z_pt 122 113 = some (5, .getfield 120, [2, 8, 1074]) by decide +kernel) (by decide +kernel) ?_
        refine R_at (pc := 116) ?_
        refine R_pure (pc := 116) (pc' := 118) (st' := [.int q18, .ref 8, .ref 239]) (show z_pt 122 116 = some (5, .iload 4, []) by decide +kernel) rfl (fun _ _ _ => rfl) ?_
        obtain ⟨v27, e28, h⟩ := z_bs h
        refine R_ialdR (pc := 118) (a := 8) (n := 9) (show z_pt 122 118 = some (5, .iaload, []) by decide +kernel) (show z_ar 8 0 9 = true by decide +kernel) e28 ?_
        refine R_at (pc := 119) ?_
        obtain ⟨q29, e30, h⟩ := z_bs h
        refine R_call (pc := 119) (rr := []) (show z_pt 122 119 = some (5, .invokevirtual 291, [0, 56, 1, 5153, 5154, 5155, 1007, 5156]) by decide +kernel) rfl (show z_r2 56 = some (5, 5, true) by decide +kernel) rfl rfl (Or.inr ⟨_, _, rfl, (by decide +kernel)⟩) (pS_putNumber_run  e30) (by omega) ?_
        refine R_at2 (pc := 122) (st := []) ?_
        refine R_inc (pc := 122) (pc' := 125) (ls' := [(0, .ref 0), (1, .int f1), (2, .ref 2), (3, .int (a3 + 1)), (4, .int q18)]) (c := 1) (show z_pt 122 122 = some (5, .iinc 3 1, []) by decide +kernel) (by decide) rfl rfl ?_
        refine R_pure (pc := 125) (pc' := 58) (ls' := [(0, .ref 0), (1, .int f1), (2, .ref 2), (3, .int (a3 + 1))]) (st' := []) (show z_pt 122 125 = some (5, .goto (-67), [4]) by decide +kernel) rfl (fun _ _ _ => rfl) ?_
        exact ih _ _ _  h
def pG_writeGear  (μ : z_Mem) (i1 : Int32) : Option ((Int32 ⊕ Nat) × z_Mem) := (pG_needGear μ i1).bind fun q1 => (match q1 with | none => (pS_clear 239 50 μ).bind fun q5 => (z_rd q5 3 10 i1).bind fun v7 => (pS_putNumber q5 v7).bind fun q9 => (pS_put 239 50 q9 64).bind fun q11 => (z_rd q11.2 4 10 i1).bind fun v13 => (pS_putNumber q11.2 v13).bind fun q15 => pG_writeGear_L58 z_fu i1 (fun M32 k31 => some ((.inl (M32 239 0)), M32)) q15 0 | some E4 => some ((.inr E4), μ))
theorem pG_writeGear_run  {μ : z_Mem} {i1 : Int32}  {r : ((Int32 ⊕ Nat) × z_Mem)} (h : pG_writeGear μ i1 = some r) : Rn 7 122 0 [(0, .ref 0), (1, .int i1)] [] μ (z_oX r.1) r.2 := by
  unfold pG_writeGear at h
  refine R_pure (pc := 0) (pc' := 1) (st' := [.ref 0]) (show z_pt 122 0 = some (5, .aload_n 0, []) by decide +kernel) rfl (fun _ _ _ => rfl) ?_
  refine R_pure (pc := 1) (pc' := 2) (st' := [.int i1, .ref 0]) (show z_pt 122 1 = some (5, .iload_n 1, []) by decide +kernel) rfl (fun _ _ _ => rfl) ?_
  obtain ⟨q1, e2, h⟩ := z_bs h
  have y33 := pG_needGear_run  e2
  cases x3h : q1 with
  | none =>
    rw [x3h] at h y33
    dsimp only at h
    refine R_call (pc := 2) (rr := []) (show z_pt 122 2 = some (5, .invokevirtual 98, [0, 147, 1, 3211, 3213, 9, 1001, 3214]) by decide +kernel) rfl (show z_r2 147 = some (9, 2, true) by decide +kernel) rfl rfl (Or.inr ⟨_, _, rfl, (by decide +kernel)⟩) y33 (by omega) ?_
    refine R_at2 (pc := 5) (st := []) ?_
    refine R_pure (pc := 5) (pc' := 6) (st' := [.ref 0]) (show z_pt 122 5 = some (5, .aload_n 0, []) by decide +kernel) rfl (fun _ _ _ => rfl) ?_
    refine R_getR (pc := 6) (a := 0) (b := 1) (show z_pt 122 6 = some (5, .getfield 17, [9, 0, 2039]) by decide +kernel) (by decide +kernel) ?_
    refine R_at (pc := 9) ?_
    refine R_getR (pc := 9) (a := 1) (b := 2) (show z_pt 122 9 = some (5, .getfield 23, [7, 0, 1173]) by decide +kernel) (by decide +kernel) ?_
    refine R_at (pc := 12) ?_
    refine R_pure (pc := 12) (pc' := 13) (ls' := [(0, .ref 0), (1, .int i1), (2, .ref 2)]) (st' := []) (show z_pt 122 12 = some (5, .astore_n 2, []) by decide +kernel) rfl (fun _ _ _ => rfl) ?_
    refine R_pure (pc := 13) (pc' := 14) (st' := [.ref 0]) (show z_pt 122 13 = some (5, .aload_n 0, []) by decide +kernel) rfl (fun _ _ _ => rfl) ?_
    refine R_getR (pc := 14) (a := 0) (b := 239) (show z_pt 122 14 = some (5, .getfield 57, [9, 5, 2044]) by decide +kernel) (by decide +kernel) ?_
    refine R_at (pc := 17) ?_
    obtain ⟨q5, e6, h⟩ := z_bs h
    refine R_call (pc := 17) (rr := []) (show z_pt 122 17 = some (5, .invokevirtual 288, [0, 54, 0, 5149, 5150, 5151, 1007, 5152]) by decide +kernel) rfl (show z_r2 54 = some (5, 1, true) by decide +kernel) rfl rfl (Or.inr ⟨_, _, rfl, (by decide +kernel)⟩) (pS_clear_run (show zSg 239 50 = true by decide +kernel) e6) (by omega) ?_
    refine R_at2 (pc := 20) (st := []) ?_
    refine R_pure (pc := 20) (pc' := 21) (st' := [.ref 0]) (show z_pt 122 20 = some (5, .aload_n 0, []) by decide +kernel) rfl (fun _ _ _ => rfl) ?_
    refine R_getR (pc := 21) (a := 0) (b := 239) (show z_pt 122 21 = some (5, .getfield 57, [9, 5, 2044]) by decide +kernel) (by decide +kernel) ?_
    refine R_at (pc := 24) ?_
    refine R_pure (pc := 24) (pc' := 25) (st' := [.ref 2, .ref 239]) (show z_pt 122 24 = some (5, .aload_n 2, []) by decide +kernel) rfl (fun _ _ _ => rfl) ?_
    refine R_getR (pc := 25) (a := 2) (b := 3) (show z_pt 122 25 = some (5, .getfield 101, [2, 3, 1059]) by decide +kernel) (by decide +kernel) ?_
    refine R_at (pc := 28) ?_
    refine R_pure (pc := 28) (pc' := 29) (st' := [.int i1, .ref 3, .ref 239]) (show z_pt 122 28 = some (5, .iload_n 1, []) by decide +kernel) rfl (fun _ _ _ => rfl) ?_
    obtain ⟨v7, e8, h⟩ := z_bs h
    refine R_ialdR (pc := 29) (a := 3) (n := 10) (show z_pt 122 29 = some (5, .iaload, []) by decide +kernel) (show z_ar 3 0 10 = true by decide +kernel) e8 ?_
    refine R_at (pc := 30) ?_
    obtain ⟨q9, e10, h⟩ := z_bs h
    refine R_call (pc := 30) (rr := []) (show z_pt 122 30 = some (5, .invokevirtual 291, [0, 56, 1, 5153, 5154, 5155, 1007, 5156]) by decide +kernel) rfl (show z_r2 56 = some (5, 5, true) by decide +kernel) rfl rfl (Or.inr ⟨_, _, rfl, (by decide +kernel)⟩) (pS_putNumber_run  e10) (by omega) ?_
    refine R_at2 (pc := 33) (st := []) ?_
    refine R_pure (pc := 33) (pc' := 34) (st' := [.ref 0]) (show z_pt 122 33 = some (5, .aload_n 0, []) by decide +kernel) rfl (fun _ _ _ => rfl) ?_
    refine R_getR (pc := 34) (a := 0) (b := 239) (show z_pt 122 34 = some (5, .getfield 57, [9, 5, 2044]) by decide +kernel) (by decide +kernel) ?_
    refine R_at (pc := 37) ?_
    refine R_const (pc := 37) (pc' := 39) (v := 64) (show z_ptc 122 37 = some (39, 64) by decide +kernel) ?_
    obtain ⟨q11, e12, h⟩ := z_bs h
    refine R_call (pc := 39) (rr := []) (show z_pt 122 39 = some (5, .invokevirtual 294, [0, 55, 1, 5163, 5158, 5159, 1007, 5160]) by decide +kernel) rfl (show z_r2 55 = some (5, 2, true) by decide +kernel) rfl rfl (Or.inr ⟨_, _, rfl, (by decide +kernel)⟩) (pS_put_run (show zSg 239 50 = true by decide +kernel) e12) (by omega) ?_
    refine R_at2 (pc := 42) (st := [.int q11.1]) ?_
    refine R_pure (pc := 42) (pc' := 43) (st' := []) (show z_pt 122 42 = some (5, .pop, []) by decide +kernel) rfl (fun _ _ _ => rfl) ?_
    refine R_pure (pc := 43) (pc' := 44) (st' := [.ref 0]) (show z_pt 122 43 = some (5, .aload_n 0, []) by decide +kernel) rfl (fun _ _ _ => rfl) ?_
    refine R_getR (pc := 44) (a := 0) (b := 239) (show z_pt 122 44 = some (5, .getfield 57, [9, 5, 2044]) by decide +kernel) (by decide +kernel) ?_
    refine R_at (pc := 47) ?_
    refine R_pure (pc := 47) (pc' := 48) (st' := [.ref 2, .ref 239]) (show z_pt 122 47 = some (5, .aload_n 2, []) by decide +kernel) rfl (fun _ _ _ => rfl) ?_
    refine R_getR (pc := 48) (a := 2) (b := 4) (show z_pt 122 48 = some (5, .getfield 105, [2, 4, 1064]) by decide +kernel) (by decide +kernel) ?_
    refine R_at (pc := 51) ?_
    refine R_pure (pc := 51) (pc' := 52) (st' := [.int i1, .ref 4, .ref 239]) (show z_pt 122 51 = some (5, .iload_n 1, []) by decide +kernel) rfl (fun _ _ _ => rfl) ?_
    obtain ⟨v13, e14, h⟩ := z_bs h
    refine R_ialdR (pc := 52) (a := 4) (n := 10) (show z_pt 122 52 = some (5, .iaload, []) by decide +kernel) (show z_ar 4 0 10 = true by decide +kernel) e14 ?_
    refine R_at (pc := 53) ?_
    obtain ⟨q15, e16, h⟩ := z_bs h
    refine R_call (pc := 53) (rr := []) (show z_pt 122 53 = some (5, .invokevirtual 291, [0, 56, 1, 5153, 5154, 5155, 1007, 5156]) by decide +kernel) rfl (show z_r2 56 = some (5, 5, true) by decide +kernel) rfl rfl (Or.inr ⟨_, _, rfl, (by decide +kernel)⟩) (pS_putNumber_run  e16) (by omega) ?_
    refine R_at2 (pc := 56) (st := []) ?_
    refine R_const (pc := 56) (pc' := 57) (v := 0) (show z_ptc 122 56 = some (57, 0) by decide +kernel) ?_
    refine R_pure (pc := 57) (pc' := 58) (ls' := [(0, .ref 0), (1, .int i1), (2, .ref 2), (3, .int 0)]) (st' := []) (show z_pt 122 57 = some (5, .istore_n 3, []) by decide +kernel) rfl (fun _ _ _ => rfl) ?_
    refine pG_writeGear_L58_run  _ _  _ (by omega) ?_ _ _ _ _ h
    intro M32 k31 r h
    refine R_pure (pc := 128) (pc' := 129) (st' := [.ref 0]) (show z_pt 122 128 = some (5, .aload_n 0, []) by decide +kernel) rfl (fun _ _ _ => rfl) ?_
    refine R_getR (pc := 129) (a := 0) (b := 239) (show z_pt 122 129 = some (5, .getfield 57, [9, 5, 2044]) by decide +kernel) (by decide +kernel) ?_
    refine R_at (pc := 132) ?_
    refine R_getI (pc := 132) (a := 239) (show z_pt 122 132 = some (5, .getfield 298, [5, 0, 1200]) by decide +kernel) (by decide +kernel) ?_
    refine R_at (pc := 135) ?_
    cases h
    exact R_retI (show z_pt 122 135 = some (5, .ireturn, []) by decide +kernel) (by decide +kernel)
  | some E4 =>
    rw [x3h] at h y33
    cases h
    exact R_callX (pc := 2) (rr := []) (show z_pt 122 2 = some (5, .invokevirtual 98, [0, 147, 1, 3211, 3213, 9, 1001, 3214]) by decide +kernel) rfl (show z_r2 147 = some (9, 2, true) by decide +kernel) rfl rfl (Or.inr ⟨_, _, rfl, (by decide +kernel)⟩) y33 (by decide) (by decide +kernel) (by omega)
def pG_outputCharacter  (μ : z_Mem) (i1 : Int32) : Option (Int32 ⊕ Nat) := if i1 < 0 then some (.inr 0) else if i1 < (μ 239 0) then (z_rd μ 240 50 i1).bind fun v3 => if vp_nar .char v3 = v3 then some (.inl v3) else none else some (.inr 0)
theorem pG_outputCharacter_run  {μ : z_Mem} {i1 : Int32}  {r : (Int32 ⊕ Nat)} (h : pG_outputCharacter μ i1 = some r) : Rn 6 123 0 [(0, .ref 0), (1, .int i1)] [] μ (z_oX r) μ := by
  unfold pG_outputCharacter at h
  refine R_pure (pc := 0) (pc' := 1) (st' := [.int i1]) (show z_pt 123 0 = some (2, .iload_n 1, []) by decide +kernel) rfl (fun _ _ _ => rfl) ?_
  refine R_iflt (pc := 1) (t := 15) (show z_pt 123 1 = some (2, .ifCond .lt 14, []) by decide +kernel) (by decide) (fun c1 => ?_) (fun c1 => ?_)
  · rw [if_pos c1] at h
    cases h
    exact R_thr (show z_thx 123 15 = some 0 by decide +kernel) (by omega)
  · rw [if_neg c1] at h
    refine R_pure (pc := 4) (pc' := 5) (st' := [.int i1]) (show z_pt 123 4 = some (2, .iload_n 1, []) by decide +kernel) rfl (fun _ _ _ => rfl) ?_
    refine R_pure (pc := 5) (pc' := 6) (st' := [.ref 0, .int i1]) (show z_pt 123 5 = some (2, .aload_n 0, []) by decide +kernel) rfl (fun _ _ _ => rfl) ?_
    refine R_getR (pc := 6) (a := 0) (b := 239) (show z_pt 123 6 = some (2, .getfield 57, [9, 5, 2044]) by decide +kernel) (by decide +kernel) ?_
    refine R_at (pc := 9) ?_
    refine R_getI (pc := 9) (a := 239) (show z_pt 123 9 = some (2, .getfield 298, [5, 0, 1200]) by decide +kernel) (by decide +kernel) ?_
    refine R_at (pc := 12) ?_
    refine R_icmlt (pc := 12) (t := 23) (show z_pt 123 12 = some (2, .if_icmp .lt 11, []) by decide +kernel) (by decide) (fun c2 => ?_) (fun c2 => ?_)
    · rw [if_pos c2] at h
      refine R_pure (pc := 23) (pc' := 24) (st' := [.ref 0]) (show z_pt 123 23 = some (2, .aload_n 0, []) by decide +kernel) rfl (fun _ _ _ => rfl) ?_
      refine R_getR (pc := 24) (a := 0) (b := 239) (show z_pt 123 24 = some (2, .getfield 57, [9, 5, 2044]) by decide +kernel) (by decide +kernel) ?_
      refine R_at (pc := 27) ?_
      refine R_getR (pc := 27) (a := 239) (b := 240) (show z_pt 123 27 = some (2, .getfield 301, [5, 1, 1203]) by decide +kernel) (by decide +kernel) ?_
      refine R_at (pc := 30) ?_
      refine R_pure (pc := 30) (pc' := 31) (st' := [.int i1, .ref 240]) (show z_pt 123 30 = some (2, .iload_n 1, []) by decide +kernel) rfl (fun _ _ _ => rfl) ?_
      obtain ⟨v3, e4, h⟩ := z_bs h
      refine R_caldR (pc := 31) (a := 240) (n := 50) (show z_pt 123 31 = some (2, .caload, []) by decide +kernel) (show z_ar 240 1 50 = true by decide +kernel) e4 ?_
      refine R_at (pc := 32) ?_
      obtain ⟨g5, h⟩ := z_ig h
      cases h
      exact R_retZ (show z_pt 123 32 = some (2, .ireturn, []) by decide +kernel) (t := .char) (by decide +kernel) (z_nrC g5)
    · rw [if_neg c2] at h
      cases h
      exact R_thr (show z_thx 123 15 = some 0 by decide +kernel) (by omega)
def pG_isConsistent_L44_B (R : z_Mem → Int32 → Int32 → Option (Int32 × z_Mem))  (f1 : Int32) (f3 : Int32) (K : z_Mem → Int32 → Int32 → Option (Int32 × z_Mem)) (μ : z_Mem) (a2 : Int32) (a4 : Int32) : Option (Int32 × z_Mem) := if f1 ≤ a4 then K μ a2 a4 else if a2 = 0 then R μ 0 (a4 + 1) else (pW_methodsAgreeFor μ f3 a4).bind fun q9 => if q9.1 = 0 then R q9.2 0 (a4 + 1) else R q9.2 1 (a4 + 1)
def pG_isConsistent_L44 : Nat → Int32 → Int32 → (z_Mem → Int32 → Int32 → Option (Int32 × z_Mem)) → z_Mem → Int32 → Int32 → Option (Int32 × z_Mem)
  | 0 => fun _ _ _ _ _ _ => none
  | n + 1 => fun f1 f3 K μ a2 a4 => pG_isConsistent_L44_B (pG_isConsistent_L44 n f1 f3 K) f1 f3 K μ a2 a4
theorem pG_isConsistent_L44_run  (f1 : Int32) (f3 : Int32) (K : z_Mem → Int32 → Int32 → Option (Int32 × z_Mem))  (D : Nat) (hD : 18 ≤ D) (hK : ∀ (μ : z_Mem) (a2 a4 : Int32) (r : (Int32 × z_Mem)), K μ a2 a4 = some r → Rn D 124 79 [(0, .ref 0), (1, .int f1), (2, .int a2), (3, .int f3), (4, .int a4)] [] μ (.inl (some (.int r.1))) r.2) : ∀ (n : Nat) (μ : z_Mem) (a2 : Int32) (a4 : Int32) (r : (Int32 × z_Mem)), pG_isConsistent_L44 n f1 f3 K μ a2 a4 = some r → Rn D 124 44 [(0, .ref 0), (1, .int f1), (2, .int a2), (3, .int f3), (4, .int a4)] [] μ (.inl (some (.int r.1))) r.2 := by
  intro n
  induction n with
  | zero => intro μ a2 a4 r h; cases h
  | succ n ih =>
    intro μ a2 a4 r h
    have h : pG_isConsistent_L44_B (pG_isConsistent_L44 n f1 f3 K) f1 f3 K μ a2 a4 = some r := h
    unfold pG_isConsistent_L44_B at h
    refine R_pure (pc := 44) (pc' := 46) (st' := [.int a4]) (show z_pt 124 44 = some (5, .iload 4, []) by decide +kernel) rfl (fun _ _ _ => rfl) ?_
    refine R_pure (pc := 46) (pc' := 47) (st' := [.int f1, .int a4]) (show z_pt 124 46 = some (5, .iload_n 1, []) by decide +kernel) rfl (fun _ _ _ => rfl) ?_
    refine R_icmge (pc := 47) (t := 79) (show z_pt 124 47 = some (5, .if_icmp .ge 32, []) by decide +kernel) (by decide) (fun c7 => ?_) (fun c7 => ?_)
    · rw [if_pos c7] at h
      exact hK _ _ _  _ h
    · rw [if_neg c7] at h
      refine R_pure (pc := 50) (pc' := 51) (st' := [.int a2]) (show z_pt 124 50 = some (5, .iload_n 2, []) by decide +kernel) rfl (fun _ _ _ => rfl) ?_
      refine R_ifeq (pc := 51) (t := 71) (show z_pt 124 51 = some (5, .ifCond .eq 20, []) by decide +kernel) (by decide) (fun c8 => ?_) (fun c8 => ?_)
      · rw [if_pos c8] at h
        refine R_const (pc := 71) (pc' := 72) (v := 0) (show z_ptc 124 71 = some (72, 0) by decide +kernel) ?_
        refine R_pure (pc := 72) (pc' := 73) (ls' := [(0, .ref 0), (1, .int f1), (2, .int 0), (3, .int f3), (4, .int a4)]) (st' := []) (show z_pt 124 72 = some (5, .istore_n 2, []) by decide +kernel) rfl (fun _ _ _ => rfl) ?_
        refine R_inc (pc := 73) (pc' := 76) (ls' := [(0, .ref 0), (1, .int f1), (2, .int 0), (3, .int f3), (4, .int (a4 + 1))]) (c := 1) (show z_pt 124 73 = some (5, .iinc 4 1, []) by decide +kernel) (by decide) rfl rfl ?_
        refine R_pure (pc := 76) (pc' := 44) (ls' := [(0, .ref 0), (1, .int f1), (2, .int 0), (3, .int f3), (4, .int (a4 + 1))]) (st' := []) (show z_pt 124 76 = some (5, .goto (-32), [5]) by decide +kernel) rfl (fun _ _ _ => rfl) ?_
        exact ih _ _ _ _  h
      · rw [if_neg c8] at h
        refine R_pure (pc := 54) (pc' := 55) (st' := [.ref 0]) (show z_pt 124 54 = some (5, .aload_n 0, []) by decide +kernel) rfl (fun _ _ _ => rfl) ?_
        refine R_getR (pc := 55) (a := 0) (b := 23) (show z_pt 124 55 = some (5, .getfield 30, [9, 3, 2042]) by decide +kernel) (by decide +kernel) ?_
        refine R_at (pc := 58) ?_
        refine R_pure (pc := 58) (pc' := 59) (st' := [.int f3, .ref 23]) (show z_pt 124 58 = some (5, .iload_n 3, []) by decide +kernel) rfl (fun _ _ _ => rfl) ?_
        refine R_pure (pc := 59) (pc' := 61) (st' := [.int a4, .int f3, .ref 23]) (show z_pt 124 59 = some (5, .iload 4, []) by decide +kernel) rfl (fun _ _ _ => rfl) ?_
        obtain ⟨q9, e10, h⟩ := z_bs h
        refine R_call (pc := 61) (rr := []) (show z_pt 124 61 = some (5, .invokevirtual 305, [0, 47, 2, 2129, 2130, 2131, 1009, 2132]) by decide +kernel) rfl (show z_r2 47 = some (3, 3, true) by decide +kernel) rfl rfl (Or.inr ⟨_, _, rfl, (by decide +kernel)⟩) (pW_methodsAgreeFor_run  e10) (by omega) ?_
        refine R_at2 (pc := 64) (st := [.int q9.1]) ?_
        refine R_ifeq (pc := 64) (t := 71) (show z_pt 124 64 = some (5, .ifCond .eq 7, []) by decide +kernel) (by decide) (fun c11 => ?_) (fun c11 => ?_)
        · rw [if_pos c11] at h
          refine R_const (pc := 71) (pc' := 72) (v := 0) (show z_ptc 124 71 = some (72, 0) by decide +kernel) ?_
          refine R_pure (pc := 72) (pc' := 73) (ls' := [(0, .ref 0), (1, .int f1), (2, .int 0), (3, .int f3), (4, .int a4)]) (st' := []) (show z_pt 124 72 = some (5, .istore_n 2, []) by decide +kernel) rfl (fun _ _ _ => rfl) ?_
          refine R_inc (pc := 73) (pc' := 76) (ls' := [(0, .ref 0), (1, .int f1), (2, .int 0), (3, .int f3), (4, .int (a4 + 1))]) (c := 1) (show z_pt 124 73 = some (5, .iinc 4 1, []) by decide +kernel) (by decide) rfl rfl ?_
          refine R_pure (pc := 76) (pc' := 44) (ls' := [(0, .ref 0), (1, .int f1), (2, .int 0), (3, .int f3), (4, .int (a4 + 1))]) (st' := []) (show z_pt 124 76 = some (5, .goto (-32), [5]) by decide +kernel) rfl (fun _ _ _ => rfl) ?_
          exact ih _ _ _ _  h
        · rw [if_neg c11] at h
          refine R_const (pc := 67) (pc' := 68) (v := 1) (show z_ptc 124 67 = some (68, 1) by decide +kernel) ?_
          refine R_pure (pc := 68) (pc' := 72) (show z_pt 124 68 = some (5, .goto 4, []) by decide +kernel) rfl (fun _ _ _ => rfl) ?_
          refine R_pure (pc := 72) (pc' := 73) (ls' := [(0, .ref 0), (1, .int f1), (2, .int 1), (3, .int f3), (4, .int a4)]) (st' := []) (show z_pt 124 72 = some (5, .istore_n 2, []) by decide +kernel) rfl (fun _ _ _ => rfl) ?_
          refine R_inc (pc := 73) (pc' := 76) (ls' := [(0, .ref 0), (1, .int f1), (2, .int 1), (3, .int f3), (4, .int (a4 + 1))]) (c := 1) (show z_pt 124 73 = some (5, .iinc 4 1, []) by decide +kernel) (by decide) rfl rfl ?_
          refine R_pure (pc := 76) (pc' := 44) (ls' := [(0, .ref 0), (1, .int f1), (2, .int 1), (3, .int f3), (4, .int (a4 + 1))]) (st' := []) (show z_pt 124 76 = some (5, .goto (-32), [5]) by decide +kernel) rfl (fun _ _ _ => rfl) ?_
          exact ih _ _ _ _  h
def pG_isConsistent_L36_B (R : z_Mem → Int32 → Int32 → Option (Int32 × z_Mem))  (f1 : Int32) (K : z_Mem → Int32 → Int32 → Option (Int32 × z_Mem)) (μ : z_Mem) (a2 : Int32) (a3 : Int32) : Option (Int32 × z_Mem) := if f1 ≤ a3 then K μ a2 a3 else pG_isConsistent_L44 z_fu f1 a3 (fun M14 k12 k13 => R M14 k12 (a3 + 1)) μ a2 0
def pG_isConsistent_L36 : Nat → Int32 → (z_Mem → Int32 → Int32 → Option (Int32 × z_Mem)) → z_Mem → Int32 → Int32 → Option (Int32 × z_Mem)
  | 0 => fun _ _ _ _ _ => none
  | n + 1 => fun f1 K μ a2 a3 => pG_isConsistent_L36_B (pG_isConsistent_L36 n f1 K) f1 K μ a2 a3
theorem pG_isConsistent_L36_run  (f1 : Int32) (K : z_Mem → Int32 → Int32 → Option (Int32 × z_Mem))  (D : Nat) (hD : 18 ≤ D) (hK : ∀ (μ : z_Mem) (a2 a3 : Int32) (r : (Int32 × z_Mem)), K μ a2 a3 = some r → Rn D 124 85 [(0, .ref 0), (1, .int f1), (2, .int a2), (3, .int a3)] [] μ (.inl (some (.int r.1))) r.2) : ∀ (n : Nat) (μ : z_Mem) (a2 : Int32) (a3 : Int32) (r : (Int32 × z_Mem)), pG_isConsistent_L36 n f1 K μ a2 a3 = some r → Rn D 124 36 [(0, .ref 0), (1, .int f1), (2, .int a2), (3, .int a3)] [] μ (.inl (some (.int r.1))) r.2 := by
  intro n
  induction n with
  | zero => intro μ a2 a3 r h; cases h
  | succ n ih =>
    intro μ a2 a3 r h
    have h : pG_isConsistent_L36_B (pG_isConsistent_L36 n f1 K) f1 K μ a2 a3 = some r := h
    unfold pG_isConsistent_L36_B at h
    refine R_pure (pc := 36) (pc' := 37) (st' := [.int a3]) (show z_pt 124 36 = some (5, .iload_n 3, []) by decide +kernel) rfl (fun _ _ _ => rfl) ?_
    refine R_pure (pc := 37) (pc' := 38) (st' := [.int f1, .int a3]) (show z_pt 124 37 = some (5, .iload_n 1, []) by decide +kernel) rfl (fun _ _ _ => rfl) ?_
    refine R_icmge (pc := 38) (t := 85) (show z_pt 124 38 = some (5, .if_icmp .ge 47, []) by decide +kernel) (by decide) (fun c6 => ?_) (fun c6 => ?_)
    · rw [if_pos c6] at h
      exact hK _ _ _  _ h
    · rw [if_neg c6] at h
      refine R_const (pc := 41) (pc' := 42) (v := 0) (show z_ptc 124 41 = some (42, 0) by decide +kernel) ?_
      refine R_pure (pc := 42) (pc' := 44) (ls' := [(0, .ref 0), (1, .int f1), (2, .int a2), (3, .int a3), (4, .int 0)]) (st' := []) (show z_pt 124 42 = some (5, .istore 4, []) by decide +kernel) rfl (fun _ _ _ => rfl) ?_
      refine pG_isConsistent_L44_run  _ _ _  _ (by omega) ?_ _ _ _ _ _ h
      intro M14 k12 k13 r h
      refine R_inc (pc := 79) (pc' := 82) (ls' := [(0, .ref 0), (1, .int f1), (2, .int k12), (3, .int (a3 + 1)), (4, .int k13)]) (c := 1) (show z_pt 124 79 = some (5, .iinc 3 1, []) by decide +kernel) (by decide) rfl rfl ?_
      refine R_pure (pc := 82) (pc' := 36) (ls' := [(0, .ref 0), (1, .int f1), (2, .int k12), (3, .int (a3 + 1))]) (st' := []) (show z_pt 124 82 = some (5, .goto (-46), [4]) by decide +kernel) rfl (fun _ _ _ => rfl) ?_
      exact ih _ _ _ _  h
def pG_isConsistent  (μ : z_Mem)  : Option (Int32 × z_Mem) := (pW_countByWalks μ).bind fun q1 => (pW_countByUniting q1.2).bind fun q3 => if q1.1 = q3.1 then pG_isConsistent_L36 z_fu (μ 2 0) (fun M21 k19 k20 => if vp_nar .boolean k19 = k19 then some (k19, M21) else none) q3.2 1 0 else pG_isConsistent_L36 z_fu (μ 2 0) (fun M17 k15 k16 => if vp_nar .boolean k15 = k15 then some (k15, M17) else none) q3.2 0 0
theorem pG_isConsistent_run  {μ : z_Mem}   {r : (Int32 × z_Mem)} (h : pG_isConsistent μ = some r) : Rn 18 124 0 [(0, .ref 0)] [] μ (.inl (some (.int r.1))) r.2 := by
  unfold pG_isConsistent at h
  refine R_pure (pc := 0) (pc' := 1) (st' := [.ref 0]) (show z_pt 124 0 = some (5, .aload_n 0, []) by decide +kernel) rfl (fun _ _ _ => rfl) ?_
  refine R_getR (pc := 1) (a := 0) (b := 1) (show z_pt 124 1 = some (5, .getfield 17, [9, 0, 2039]) by decide +kernel) (by decide +kernel) ?_
  refine R_at (pc := 4) ?_
  refine R_getR (pc := 4) (a := 1) (b := 2) (show z_pt 124 4 = some (5, .getfield 23, [7, 0, 1173]) by decide +kernel) (by decide +kernel) ?_
  refine R_at (pc := 7) ?_
  refine R_getI (pc := 7) (a := 2) (show z_pt 124 7 = some (5, .getfield 93, [2, 0, 1051]) by decide +kernel) (by decide +kernel) ?_
  refine R_at (pc := 10) ?_
  refine R_pure (pc := 10) (pc' := 11) (ls' := [(0, .ref 0), (1, .int (μ 2 0))]) (st' := []) (show z_pt 124 10 = some (5, .istore_n 1, []) by decide +kernel) rfl (fun _ _ _ => rfl) ?_
  refine R_pure (pc := 11) (pc' := 12) (st' := [.ref 0]) (show z_pt 124 11 = some (5, .aload_n 0, []) by decide +kernel) rfl (fun _ _ _ => rfl) ?_
  refine R_getR (pc := 12) (a := 0) (b := 23) (show z_pt 124 12 = some (5, .getfield 30, [9, 3, 2042]) by decide +kernel) (by decide +kernel) ?_
  refine R_at (pc := 15) ?_
  obtain ⟨q1, e2, h⟩ := z_bs h
  refine R_call (pc := 15) (rr := []) (show z_pt 124 15 = some (5, .invokevirtual 129, [0, 36, 0, 2082, 2083, 2084, 1009, 2085]) by decide +kernel) rfl (show z_r2 36 = some (3, 3, true) by decide +kernel) rfl rfl (Or.inr ⟨_, _, rfl, (by decide +kernel)⟩) (pW_countByWalks_run  e2) (by omega) ?_
  refine R_at2 (pc := 18) (st := [.int q1.1]) ?_
  refine R_pure (pc := 18) (pc' := 19) (st' := [.ref 0, .int q1.1]) (show z_pt 124 18 = some (5, .aload_n 0, []) by decide +kernel) rfl (fun _ _ _ => rfl) ?_
  refine R_getR (pc := 19) (a := 0) (b := 23) (show z_pt 124 19 = some (5, .getfield 30, [9, 3, 2042]) by decide +kernel) (by decide +kernel) ?_
  refine R_at (pc := 22) ?_
  obtain ⟨q3, e4, h⟩ := z_bs h
  refine R_call (pc := 22) (rr := [.int q1.1]) (show z_pt 124 22 = some (5, .invokevirtual 133, [0, 39, 0, 2105, 2106, 2107, 1009, 2108]) by decide +kernel) rfl (show z_r2 39 = some (3, 5, true) by decide +kernel) rfl rfl (Or.inr ⟨_, _, rfl, (by decide +kernel)⟩) (pW_countByUniting_run  e4) (by omega) ?_
  refine R_at2 (pc := 25) (st := [.int q3.1, .int q1.1]) ?_
  refine R_icmne (pc := 25) (t := 32) (show z_pt 124 25 = some (5, .if_icmp .ne 7, []) by decide +kernel) (by decide) (fun c5 => ?_) (fun c5 => ?_)
  · rw [if_neg c5] at h
    refine R_const (pc := 32) (pc' := 33) (v := 0) (show z_ptc 124 32 = some (33, 0) by decide +kernel) ?_
    refine R_pure (pc := 33) (pc' := 34) (ls' := [(0, .ref 0), (1, .int (μ 2 0)), (2, .int 0)]) (st' := []) (show z_pt 124 33 = some (5, .istore_n 2, []) by decide +kernel) rfl (fun _ _ _ => rfl) ?_
    refine R_const (pc := 34) (pc' := 35) (v := 0) (show z_ptc 124 34 = some (35, 0) by decide +kernel) ?_
    refine R_pure (pc := 35) (pc' := 36) (ls' := [(0, .ref 0), (1, .int (μ 2 0)), (2, .int 0), (3, .int 0)]) (st' := []) (show z_pt 124 35 = some (5, .istore_n 3, []) by decide +kernel) rfl (fun _ _ _ => rfl) ?_
    refine pG_isConsistent_L36_run  _ _  _ (by omega) ?_ _ _ _ _ _ h
    intro M17 k15 k16 r h
    refine R_pure (pc := 85) (pc' := 86) (st' := [.int k15]) (show z_pt 124 85 = some (5, .iload_n 2, []) by decide +kernel) rfl (fun _ _ _ => rfl) ?_
    obtain ⟨g18, h⟩ := z_ig h
    cases h
    exact R_retZ (show z_pt 124 86 = some (5, .ireturn, []) by decide +kernel) (t := .boolean) (by decide +kernel) (z_nrZ g18)
  · rw [if_pos c5] at h
    refine R_const (pc := 28) (pc' := 29) (v := 1) (show z_ptc 124 28 = some (29, 1) by decide +kernel) ?_
    refine R_pure (pc := 29) (pc' := 33) (show z_pt 124 29 = some (5, .goto 4, []) by decide +kernel) rfl (fun _ _ _ => rfl) ?_
    refine R_pure (pc := 33) (pc' := 34) (ls' := [(0, .ref 0), (1, .int (μ 2 0)), (2, .int 1)]) (st' := []) (show z_pt 124 33 = some (5, .istore_n 2, []) by decide +kernel) rfl (fun _ _ _ => rfl) ?_
    refine R_const (pc := 34) (pc' := 35) (v := 0) (show z_ptc 124 34 = some (35, 0) by decide +kernel) ?_
    refine R_pure (pc := 35) (pc' := 36) (ls' := [(0, .ref 0), (1, .int (μ 2 0)), (2, .int 1), (3, .int 0)]) (st' := []) (show z_pt 124 35 = some (5, .istore_n 3, []) by decide +kernel) rfl (fun _ _ _ => rfl) ?_
    refine pG_isConsistent_L36_run  _ _  _ (by omega) ?_ _ _ _ _ _ h
    intro M21 k19 k20 r h
    refine R_pure (pc := 85) (pc' := 86) (st' := [.int k19]) (show z_pt 124 85 = some (5, .iload_n 2, []) by decide +kernel) rfl (fun _ _ _ => rfl) ?_
    obtain ⟨g22, h⟩ := z_ig h
    cases h
    exact R_retZ (show z_pt 124 86 = some (5, .ireturn, []) by decide +kernel) (t := .boolean) (by decide +kernel) (z_nrZ g22)
def pG_feed  (μ : z_Mem) (i1 : Int32) : Option ((Int32 ⊕ Nat) × z_Mem) := (pS_put 21 60 μ i1).bind fun q1 => if q1.1 = 0 then some ((.inr 2), q1.2) else some ((.inl (q1.2 21 0)), q1.2)
theorem pG_feed_run  {μ : z_Mem} {i1 : Int32}  {r : ((Int32 ⊕ Nat) × z_Mem)} (h : pG_feed μ i1 = some r) : Rn 6 125 0 [(0, .ref 0), (1, .int i1)] [] μ (z_oX r.1) r.2 := by
  unfold pG_feed at h
  refine R_pure (pc := 0) (pc' := 1) (st' := [.ref 0]) (show z_pt 125 0 = some (2, .aload_n 0, []) by decide +kernel) rfl (fun _ _ _ => rfl) ?_
  refine R_getR (pc := 1) (a := 0) (b := 21) (show z_pt 125 1 = some (2, .getfield 34, [9, 4, 2043]) by decide +kernel) (by decide +kernel) ?_
  refine R_at (pc := 4) ?_
  refine R_pure (pc := 4) (pc' := 5) (st' := [.int i1, .ref 21]) (show z_pt 125 4 = some (2, .iload_n 1, []) by decide +kernel) rfl (fun _ _ _ => rfl) ?_
  obtain ⟨q1, e2, h⟩ := z_bs h
  refine R_call (pc := 5) (rr := []) (show z_pt 125 5 = some (2, .invokevirtual 294, [0, 55, 1, 5163, 5158, 5159, 1007, 5160]) by decide +kernel) rfl (show z_r2 55 = some (5, 2, true) by decide +kernel) rfl rfl (Or.inr ⟨_, _, rfl, (by decide +kernel)⟩) (pS_put_run (show zSg 21 60 = true by decide +kernel) e2) (by omega) ?_
  refine R_at2 (pc := 8) (st := [.int q1.1]) ?_
  refine R_ifne (pc := 8) (t := 19) (show z_pt 125 8 = some (2, .ifCond .ne 11, []) by decide +kernel) (by decide) (fun c3 => ?_) (fun c3 => ?_)
  · rw [if_neg c3] at h
    refine R_pure (pc := 19) (pc' := 20) (st' := [.ref 0]) (show z_pt 125 19 = some (2, .aload_n 0, []) by decide +kernel) rfl (fun _ _ _ => rfl) ?_
    refine R_getR (pc := 20) (a := 0) (b := 21) (show z_pt 125 20 = some (2, .getfield 34, [9, 4, 2043]) by decide +kernel) (by decide +kernel) ?_
    refine R_at (pc := 23) ?_
    refine R_getI (pc := 23) (a := 21) (show z_pt 125 23 = some (2, .getfield 298, [5, 0, 1200]) by decide +kernel) (by decide +kernel) ?_
    refine R_at (pc := 26) ?_
    cases h
    exact R_retI (show z_pt 125 26 = some (2, .ireturn, []) by decide +kernel) (by decide +kernel)
  · rw [if_pos c3] at h
    cases h
    exact R_thr (show z_thx 125 11 = some 2 by decide +kernel) (by omega)
def pG_perform  (μ : z_Mem) (i1 : Int32) : Option (Int32 × z_Mem) := (pR_valueOf μ i1 0).bind fun q1 => (pR_valueOf μ i1 1).bind fun q3 => (pR_valueOf μ i1 2).bind fun q5 => (pR_kindOf μ i1).bind fun q7 => if q7 = 103 then (pG_tryGear μ q1).bind fun q10 => some (q10.1, q10.2) else if q7 = 104 then (pG_tryHours μ q1).bind fun q13 => some (q13.1, q13.2) else if q7 = 109 then (pG_tryMesh μ q1 q3 q5).bind fun q16 => some (q16.1, q16.2) else if q7 = 110 then (pG_tryEntry μ (((q1 : Int32).toUInt32 % 65536).toInt32) q3).bind fun q19 => some (q19.1, q19.2) else if q7 = 116 then (pG_tryTurn μ q1 q3).bind fun q22 => some (q22.1, q22.2) else if q7 = 119 then (pG_tryWheel μ q1 q3).bind fun q25 => some (q25.1, q25.2) else some ((-3), μ)
theorem pG_perform_run  {μ : z_Mem} {i1 : Int32}  {r : (Int32 × z_Mem)} (h : pG_perform μ i1 = some r) : Rn 17 146 0 [(0, .ref 0), (1, .int i1)] [] μ (.inl (some (.int r.1))) r.2 := by
  unfold pG_perform at h
  refine R_pure (pc := 0) (pc' := 1) (st' := [.ref 0]) (show z_pt 146 0 = some (5, .aload_n 0, []) by decide +kernel) rfl (fun _ _ _ => rfl) ?_
  refine R_getR (pc := 1) (a := 0) (b := 34) (show z_pt 146 1 = some (5, .getfield 43, [9, 6, 2045]) by decide +kernel) (by decide +kernel) ?_
  refine R_at (pc := 4) ?_
  refine R_pure (pc := 4) (pc' := 5) (st' := [.int i1, .ref 34]) (show z_pt 146 4 = some (5, .iload_n 1, []) by decide +kernel) rfl (fun _ _ _ => rfl) ?_
  refine R_const (pc := 5) (pc' := 6) (v := 0) (show z_ptc 146 5 = some (6, 0) by decide +kernel) ?_
  obtain ⟨q1, e2, h⟩ := z_bs h
  refine R_call (pc := 6) (rr := []) (show z_pt 146 6 = some (5, .invokevirtual 382, [0, 3, 2, 6052, 6053, 6054, 1010, 6055]) by decide +kernel) rfl (show z_r2 3 = some (0, 3, true) by decide +kernel) rfl rfl (Or.inr ⟨_, _, rfl, (by decide +kernel)⟩) (pR_valueOf_run  e2) (by omega) ?_
  refine R_at2 (pc := 9) (st := [.int q1]) ?_
  refine R_pure (pc := 9) (pc' := 10) (ls' := [(0, .ref 0), (1, .int i1), (2, .int q1)]) (st' := []) (show z_pt 146 9 = some (5, .istore_n 2, []) by decide +kernel) rfl (fun _ _ _ => rfl) ?_
  refine R_pure (pc := 10) (pc' := 11) (st' := [.ref 0]) (show z_pt 146 10 = some (5, .aload_n 0, []) by decide +kernel) rfl (fun _ _ _ => rfl) ?_
  refine R_getR (pc := 11) (a := 0) (b := 34) (show z_pt 146 11 = some (5, .getfield 43, [9, 6, 2045]) by decide +kernel) (by decide +kernel) ?_
  refine R_at (pc := 14) ?_
  refine R_pure (pc := 14) (pc' := 15) (st' := [.int i1, .ref 34]) (show z_pt 146 14 = some (5, .iload_n 1, []) by decide +kernel) rfl (fun _ _ _ => rfl) ?_
  refine R_const (pc := 15) (pc' := 16) (v := 1) (show z_ptc 146 15 = some (16, 1) by decide +kernel) ?_
  obtain ⟨q3, e4, h⟩ := z_bs h
  refine R_call (pc := 16) (rr := []) (show z_pt 146 16 = some (5, .invokevirtual 382, [0, 3, 2, 6052, 6053, 6054, 1010, 6055]) by decide +kernel) rfl (show z_r2 3 = some (0, 3, true) by decide +kernel) rfl rfl (Or.inr ⟨_, _, rfl, (by decide +kernel)⟩) (pR_valueOf_run  e4) (by omega) ?_
  refine R_at2 (pc := 19) (st := [.int q3]) ?_
  refine R_pure (pc := 19) (pc' := 20) (ls' := [(0, .ref 0), (1, .int i1), (2, .int q1), (3, .int q3)]) (st' := []) (show z_pt 146 19 = some (5, .istore_n 3, []) by decide +kernel) rfl (fun _ _ _ => rfl) ?_
  refine R_pure (pc := 20) (pc' := 21) (st' := [.ref 0]) (show z_pt 146 20 = some (5, .aload_n 0, []) by decide +kernel) rfl (fun _ _ _ => rfl) ?_
  refine R_getR (pc := 21) (a := 0) (b := 34) (show z_pt 146 21 = some (5, .getfield 43, [9, 6, 2045]) by decide +kernel) (by decide +kernel) ?_
  refine R_at (pc := 24) ?_
  refine R_pure (pc := 24) (pc' := 25) (st' := [.int i1, .ref 34]) (show z_pt 146 24 = some (5, .iload_n 1, []) by decide +kernel) rfl (fun _ _ _ => rfl) ?_
  refine R_const (pc := 25) (pc' := 26) (v := 2) (show z_ptc 146 25 = some (26, 2) by decide +kernel) ?_
  obtain ⟨q5, e6, h⟩ := z_bs h
  refine R_call (pc := 26) (rr := []) (show z_pt 146 26 = some (5, .invokevirtual 382, [0, 3, 2, 6052, 6053, 6054, 1010, 6055]) by decide +kernel) rfl (show z_r2 3 = some (0, 3, true) by decide +kernel) rfl rfl (Or.inr ⟨_, _, rfl, (by decide +kernel)⟩) (pR_valueOf_run  e6) (by omega) ?_
  refine R_at2 (pc := 29) (st := [.int q5]) ?_
  refine R_pure (pc := 29) (pc' := 31) (ls' := [(0, .ref 0), (1, .int i1), (2, .int q1), (3, .int q3), (4, .int q5)]) (st' := []) (show z_pt 146 29 = some (5, .istore 4, []) by decide +kernel) rfl (fun _ _ _ => rfl) ?_
  refine R_pure (pc := 31) (pc' := 32) (st' := [.ref 0]) (show z_pt 146 31 = some (5, .aload_n 0, []) by decide +kernel) rfl (fun _ _ _ => rfl) ?_
  refine R_getR (pc := 32) (a := 0) (b := 34) (show z_pt 146 32 = some (5, .getfield 43, [9, 6, 2045]) by decide +kernel) (by decide +kernel) ?_
  refine R_at (pc := 35) ?_
  refine R_pure (pc := 35) (pc' := 36) (st' := [.int i1, .ref 34]) (show z_pt 146 35 = some (5, .iload_n 1, []) by decide +kernel) rfl (fun _ _ _ => rfl) ?_
  obtain ⟨q7, e8, h⟩ := z_bs h
  refine R_call (pc := 36) (rr := []) (show z_pt 146 36 = some (5, .invokevirtual 385, [0, 2, 1, 6056, 6057, 6058, 1010, 6059]) by decide +kernel) rfl (show z_r2 2 = some (0, 2, true) by decide +kernel) rfl rfl (Or.inr ⟨_, _, rfl, (by decide +kernel)⟩) (pR_kindOf_run  e8) (by omega) ?_
  refine R_at2 (pc := 39) (st := [.int q7]) ?_
  by_cases c9 : q7 = 103
  · rw [if_pos c9] at h
    refine R_sw (pc := 39) (t := 120) (v := 103) (show z_pt 146 39 = some (5, .tableswitch 124 103 119 #[81, 118, 124, 124, 124, 124, 87, 110, 124, 124, 124, 124, 124, 96, 124, 124, 103], []) by decide +kernel) c9 (show z_swt 146 39 103 = some 120 by decide +kernel) ?_
    refine R_pure (pc := 120) (pc' := 121) (st' := [.ref 0]) (show z_pt 146 120 = some (5, .aload_n 0, []) by decide +kernel) rfl (fun _ _ _ => rfl) ?_
    refine R_pure (pc := 121) (pc' := 122) (st' := [.int q1, .ref 0]) (show z_pt 146 121 = some (5, .iload_n 2, []) by decide +kernel) rfl (fun _ _ _ => rfl) ?_
    obtain ⟨q10, e11, h⟩ := z_bs h
    refine R_call (pc := 122) (rr := []) (show z_pt 146 122 = some (5, .invokevirtual 75, [0, 133, 1, 2232, 2234, 3, 1001, 2235]) by decide +kernel) rfl (show z_r2 133 = some (9, 2, true) by decide +kernel) rfl rfl (Or.inr ⟨_, _, rfl, (by decide +kernel)⟩) (pG_tryGear_run  e11) (by omega) ?_
    refine R_at2 (pc := 125) (st := [.int q10.1]) ?_
    cases h
    exact R_retI (show z_pt 146 125 = some (5, .ireturn, []) by decide +kernel) (by decide +kernel)
  rw [if_neg c9] at h
  by_cases c12 : q7 = 104
  · rw [if_pos c12] at h
    refine R_sw (pc := 39) (t := 157) (v := 104) (show z_pt 146 39 = some (5, .tableswitch 124 103 119 #[81, 118, 124, 124, 124, 124, 87, 110, 124, 124, 124, 124, 124, 96, 124, 124, 103], []) by decide +kernel) c12 (show z_swt 146 39 104 = some 157 by decide +kernel) ?_
    refine R_pure (pc := 157) (pc' := 158) (st' := [.ref 0]) (show z_pt 146 157 = some (5, .aload_n 0, []) by decide +kernel) rfl (fun _ _ _ => rfl) ?_
    refine R_pure (pc := 158) (pc' := 159) (st' := [.int q1, .ref 0]) (show z_pt 146 158 = some (5, .iload_n 2, []) by decide +kernel) rfl (fun _ _ _ => rfl) ?_
    obtain ⟨q13, e14, h⟩ := z_bs h
    refine R_call (pc := 159) (rr := []) (show z_pt 146 159 = some (5, .invokevirtual 222, [0, 141, 1, 4227, 4229, 18, 1001, 4230]) by decide +kernel) rfl (show z_r2 141 = some (9, 2, true) by decide +kernel) rfl rfl (Or.inr ⟨_, _, rfl, (by decide +kernel)⟩) (pG_tryHours_run  e14) (by omega) ?_
    refine R_at2 (pc := 162) (st := [.int q13.1]) ?_
    cases h
    exact R_retI (show z_pt 146 162 = some (5, .ireturn, []) by decide +kernel) (by decide +kernel)
  rw [if_neg c12] at h
  by_cases c15 : q7 = 109
  · rw [if_pos c15] at h
    refine R_sw (pc := 39) (t := 126) (v := 109) (show z_pt 146 39 = some (5, .tableswitch 124 103 119 #[81, 118, 124, 124, 124, 124, 87, 110, 124, 124, 124, 124, 124, 96, 124, 124, 103], []) by decide +kernel) c15 (show z_swt 146 39 109 = some 126 by decide +kernel) ?_
    refine R_pure (pc := 126) (pc' := 127) (st' := [.ref 0]) (show z_pt 146 126 = some (5, .aload_n 0, []) by decide +kernel) rfl (fun _ _ _ => rfl) ?_
    refine R_pure (pc := 127) (pc' := 128) (st' := [.int q1, .ref 0]) (show z_pt 146 127 = some (5, .iload_n 2, []) by decide +kernel) rfl (fun _ _ _ => rfl) ?_
    refine R_pure (pc := 128) (pc' := 129) (st' := [.int q3, .int q1, .ref 0]) (show z_pt 146 128 = some (5, .iload_n 3, []) by decide +kernel) rfl (fun _ _ _ => rfl) ?_
    refine R_pure (pc := 129) (pc' := 131) (st' := [.int q5, .int q3, .int q1, .ref 0]) (show z_pt 146 129 = some (5, .iload 4, []) by decide +kernel) rfl (fun _ _ _ => rfl) ?_
    obtain ⟨q16, e17, h⟩ := z_bs h
    refine R_call (pc := 131) (rr := []) (show z_pt 146 131 = some (5, .invokevirtual 82, [0, 134, 3, 3165, 3167, 6, 1001, 3168]) by decide +kernel) rfl (show z_r2 134 = some (9, 4, true) by decide +kernel) rfl rfl (Or.inr ⟨_, _, rfl, (by decide +kernel)⟩) (pG_tryMesh_run  e17) (by omega) ?_
    refine R_at2 (pc := 134) (st := [.int q16.1]) ?_
    cases h
    exact R_retI (show z_pt 146 134 = some (5, .ireturn, []) by decide +kernel) (by decide +kernel)
  rw [if_neg c15] at h
  by_cases c18 : q7 = 110
  · rw [if_pos c18] at h
    refine R_sw (pc := 39) (t := 149) (v := 110) (show z_pt 146 39 = some (5, .tableswitch 124 103 119 #[81, 118, 124, 124, 124, 124, 87, 110, 124, 124, 124, 124, 124, 96, 124, 124, 103], []) by decide +kernel) c18 (show z_swt 146 39 110 = some 149 by decide +kernel) ?_
    refine R_pure (pc := 149) (pc' := 150) (st' := [.ref 0]) (show z_pt 146 149 = some (5, .aload_n 0, []) by decide +kernel) rfl (fun _ _ _ => rfl) ?_
    refine R_pure (pc := 150) (pc' := 151) (st' := [.int q1, .ref 0]) (show z_pt 146 150 = some (5, .iload_n 2, []) by decide +kernel) rfl (fun _ _ _ => rfl) ?_
    refine R_pure (pc := 151) (pc' := 152) (st' := [.int (((q1 : Int32).toUInt32 % 65536).toInt32), .ref 0]) (show z_pt 146 151 = some (5, .i2c, []) by decide +kernel) rfl (fun _ _ _ => rfl) ?_
    refine R_pure (pc := 152) (pc' := 153) (st' := [.int q3, .int (((q1 : Int32).toUInt32 % 65536).toInt32), .ref 0]) (show z_pt 146 152 = some (5, .iload_n 3, []) by decide +kernel) rfl (fun _ _ _ => rfl) ?_
    obtain ⟨q19, e20, h⟩ := z_bs h
    refine R_call (pc := 153) (rr := []) (show z_pt 146 153 = some (5, .invokevirtual 249, [0, 142, 2, 5037, 5039, 19, 1001, 5040]) by decide +kernel) rfl (show z_r2 142 = some (9, 3, true) by decide +kernel) rfl rfl (Or.inr ⟨_, _, rfl, (by decide +kernel)⟩) (pG_tryEntry_run  e20) (by omega) ?_
    refine R_at2 (pc := 156) (st := [.int q19.1]) ?_
    cases h
    exact R_retI (show z_pt 146 156 = some (5, .ireturn, []) by decide +kernel) (by decide +kernel)
  rw [if_neg c18] at h
  by_cases c21 : q7 = 116
  · rw [if_pos c21] at h
    refine R_sw (pc := 39) (t := 135) (v := 116) (show z_pt 146 39 = some (5, .tableswitch 124 103 119 #[81, 118, 124, 124, 124, 124, 87, 110, 124, 124, 124, 124, 124, 96, 124, 124, 103], []) by decide +kernel) c21 (show z_swt 146 39 116 = some 135 by decide +kernel) ?_
    refine R_pure (pc := 135) (pc' := 136) (st' := [.ref 0]) (show z_pt 146 135 = some (5, .aload_n 0, []) by decide +kernel) rfl (fun _ _ _ => rfl) ?_
    refine R_pure (pc := 136) (pc' := 137) (st' := [.int q1, .ref 0]) (show z_pt 146 136 = some (5, .iload_n 2, []) by decide +kernel) rfl (fun _ _ _ => rfl) ?_
    refine R_pure (pc := 137) (pc' := 138) (st' := [.int q3, .int q1, .ref 0]) (show z_pt 146 137 = some (5, .iload_n 3, []) by decide +kernel) rfl (fun _ _ _ => rfl) ?_
    obtain ⟨q22, e23, h⟩ := z_bs h
    refine R_call (pc := 138) (rr := []) (show z_pt 146 138 = some (5, .invokevirtual 90, [0, 136, 2, 3199, 3201, 8, 1001, 3202]) by decide +kernel) rfl (show z_r2 136 = some (9, 3, true) by decide +kernel) rfl rfl (Or.inr ⟨_, _, rfl, (by decide +kernel)⟩) (pG_tryTurn_run  e23) (by omega) ?_
    refine R_at2 (pc := 141) (st := [.int q22.1]) ?_
    cases h
    exact R_retI (show z_pt 146 141 = some (5, .ireturn, []) by decide +kernel) (by decide +kernel)
  rw [if_neg c21] at h
  by_cases c24 : q7 = 119
  · rw [if_pos c24] at h
    refine R_sw (pc := 39) (t := 142) (v := 119) (show z_pt 146 39 = some (5, .tableswitch 124 103 119 #[81, 118, 124, 124, 124, 124, 87, 110, 124, 124, 124, 124, 124, 96, 124, 124, 103], []) by decide +kernel) c24 (show z_swt 146 39 119 = some 142 by decide +kernel) ?_
    refine R_pure (pc := 142) (pc' := 143) (st' := [.ref 0]) (show z_pt 146 142 = some (5, .aload_n 0, []) by decide +kernel) rfl (fun _ _ _ => rfl) ?_
    refine R_pure (pc := 143) (pc' := 144) (st' := [.int q1, .ref 0]) (show z_pt 146 143 = some (5, .iload_n 2, []) by decide +kernel) rfl (fun _ _ _ => rfl) ?_
    refine R_pure (pc := 144) (pc' := 145) (st' := [.int q3, .int q1, .ref 0]) (show z_pt 146 144 = some (5, .iload_n 3, []) by decide +kernel) rfl (fun _ _ _ => rfl) ?_
    obtain ⟨q25, e26, h⟩ := z_bs h
    refine R_call (pc := 145) (rr := []) (show z_pt 146 145 = some (5, .invokevirtual 158, [0, 137, 2, 4079, 4081, 12, 1001, 4082]) by decide +kernel) rfl (show z_r2 137 = some (9, 3, true) by decide +kernel) rfl rfl (Or.inr ⟨_, _, rfl, (by decide +kernel)⟩) (pG_tryWheel_run  e26) (by omega) ?_
    refine R_at2 (pc := 148) (st := [.int q25.1]) ?_
    cases h
    exact R_retI (show z_pt 146 148 = some (5, .ireturn, []) by decide +kernel) (by decide +kernel)
  rw [if_neg c24] at h
  refine R_swd (pc := 39) (t := 163) (cs := [103, 104, 109, 110, 116, 119]) (show z_pt 146 39 = some (5, .tableswitch 124 103 119 #[81, 118, 124, 124, 124, 124, 87, 110, 124, 124, 124, 124, 124, 96, 124, 124, 103], []) by decide +kernel) (show z_swd 146 39 [103, 104, 109, 110, 116, 119] = some 163 by decide +kernel) (z_nc c9 (z_nc c12 (z_nc c15 (z_nc c18 (z_nc c21 (z_nc c24 (z_nn _))))))) ?_
  refine R_const (pc := 163) (pc' := 165) (v := (-3)) (show z_ptc 146 163 = some (165, (-3)) by decide +kernel) ?_
  cases h
  exact R_retI (show z_pt 146 165 = some (5, .ireturn, []) by decide +kernel) (by decide +kernel)
def pG_performUpToFailure_L2_B (R : z_Mem → Int32 → Option (Int32 × z_Mem))   (K : z_Mem → Int32 → Option (Int32 × z_Mem)) (μ : z_Mem) (a1 : Int32) : Option (Int32 × z_Mem) := if (μ 34 1) ≤ a1 then K μ a1 else (pG_perform μ a1).bind fun q2 => if 0 ≤ q2.1 then R q2.2 (a1 + 1) else some (a1, q2.2)
def pG_performUpToFailure_L2 : Nat → (z_Mem → Int32 → Option (Int32 × z_Mem)) → z_Mem → Int32 → Option (Int32 × z_Mem)
  | 0 => fun _ _ _ => none
  | n + 1 => fun K μ a1 => pG_performUpToFailure_L2_B (pG_performUpToFailure_L2 n K) K μ a1
theorem pG_performUpToFailure_L2_run   (K : z_Mem → Int32 → Option (Int32 × z_Mem))  (D : Nat) (hD : 18 ≤ D) (hK : ∀ (μ : z_Mem) (a1 : Int32) (r : (Int32 × z_Mem)), K μ a1 = some r → Rn D 145 29 [(0, .ref 0), (1, .int a1)] [] μ (.inl (some (.int r.1))) r.2) : ∀ (n : Nat) (μ : z_Mem) (a1 : Int32) (r : (Int32 × z_Mem)), pG_performUpToFailure_L2 n K μ a1 = some r → Rn D 145 2 [(0, .ref 0), (1, .int a1)] [] μ (.inl (some (.int r.1))) r.2 := by
  intro n
  induction n with
  | zero => intro μ a1 r h; cases h
  | succ n ih =>
    intro μ a1 r h
    have h : pG_performUpToFailure_L2_B (pG_performUpToFailure_L2 n K) K μ a1 = some r := h
    unfold pG_performUpToFailure_L2_B at h
    refine R_pure (pc := 2) (pc' := 3) (st' := [.int a1]) (show z_pt 145 2 = some (2, .iload_n 1, []) by decide +kernel) rfl (fun _ _ _ => rfl) ?_
    refine R_pure (pc := 3) (pc' := 4) (st' := [.ref 0, .int a1]) (show z_pt 145 3 = some (2, .aload_n 0, []) by decide +kernel) rfl (fun _ _ _ => rfl) ?_
    refine R_getR (pc := 4) (a := 0) (b := 34) (show z_pt 145 4 = some (2, .getfield 43, [9, 6, 2045]) by decide +kernel) (by decide +kernel) ?_
    refine R_at (pc := 7) ?_
    refine R_getI (pc := 7) (a := 34) (show z_pt 145 7 = some (2, .getfield 321, [0, 1, 2004]) by decide +kernel) (by decide +kernel) ?_
    refine R_at (pc := 10) ?_
    refine R_icmge (pc := 10) (t := 29) (show z_pt 145 10 = some (2, .if_icmp .ge 19, []) by decide +kernel) (by decide) (fun c1 => ?_) (fun c1 => ?_)
    · rw [if_pos c1] at h
      exact hK _ _  _ h
    · rw [if_neg c1] at h
      refine R_pure (pc := 13) (pc' := 14) (st' := [.ref 0]) (show z_pt 145 13 = some (2, .aload_n 0, []) by decide +kernel) rfl (fun _ _ _ => rfl) ?_
      refine R_pure (pc := 14) (pc' := 15) (st' := [.int a1, .ref 0]) (show z_pt 145 14 = some (2, .iload_n 1, []) by decide +kernel) rfl (fun _ _ _ => rfl) ?_
      obtain ⟨q2, e3, h⟩ := z_bs h
      refine R_call (pc := 15) (rr := []) (show z_pt 145 15 = some (2, .invokevirtual 379, [0, 146, 1, 6048, 6050, 33, 1001, 6051]) by decide +kernel) rfl (show z_r2 146 = some (9, 5, true) by decide +kernel) rfl rfl (Or.inr ⟨_, _, rfl, (by decide +kernel)⟩) (pG_perform_run  e3) (by omega) ?_
      refine R_at2 (pc := 18) (st := [.int q2.1]) ?_
      refine R_ifge (pc := 18) (t := 23) (show z_pt 145 18 = some (2, .ifCond .ge 5, []) by decide +kernel) (by decide) (fun c4 => ?_) (fun c4 => ?_)
      · rw [if_pos c4] at h
        refine R_inc (pc := 23) (pc' := 26) (ls' := [(0, .ref 0), (1, .int (a1 + 1))]) (c := 1) (show z_pt 145 23 = some (2, .iinc 1 1, []) by decide +kernel) (by decide) rfl rfl ?_
        refine R_pure (pc := 26) (pc' := 2) (ls' := [(0, .ref 0), (1, .int (a1 + 1))]) (st' := []) (show z_pt 145 26 = some (2, .goto (-24), [2]) by decide +kernel) rfl (fun _ _ _ => rfl) ?_
        exact ih _ _ _  h
      · rw [if_neg c4] at h
        refine R_pure (pc := 21) (pc' := 22) (st' := [.int a1]) (show z_pt 145 21 = some (2, .iload_n 1, []) by decide +kernel) rfl (fun _ _ _ => rfl) ?_
        cases h
        exact R_retI (show z_pt 145 22 = some (2, .ireturn, []) by decide +kernel) (by decide +kernel)
def pG_performUpToFailure  (μ : z_Mem)  : Option (Int32 × z_Mem) := pG_performUpToFailure_L2 z_fu (fun M6 k5 => some ((M6 34 1), M6)) μ 0
theorem pG_performUpToFailure_run  {μ : z_Mem}   {r : (Int32 × z_Mem)} (h : pG_performUpToFailure μ = some r) : Rn 18 145 0 [(0, .ref 0)] [] μ (.inl (some (.int r.1))) r.2 := by
  unfold pG_performUpToFailure at h
  refine R_const (pc := 0) (pc' := 1) (v := 0) (show z_ptc 145 0 = some (1, 0) by decide +kernel) ?_
  refine R_pure (pc := 1) (pc' := 2) (ls' := [(0, .ref 0), (1, .int 0)]) (st' := []) (show z_pt 145 1 = some (2, .istore_n 1, []) by decide +kernel) rfl (fun _ _ _ => rfl) ?_
  refine pG_performUpToFailure_L2_run   _  _ (by omega) ?_ _ _ _ _ h
  intro M6 k5 r h
  refine R_pure (pc := 29) (pc' := 30) (st' := [.ref 0]) (show z_pt 145 29 = some (2, .aload_n 0, []) by decide +kernel) rfl (fun _ _ _ => rfl) ?_
  refine R_getR (pc := 30) (a := 0) (b := 34) (show z_pt 145 30 = some (2, .getfield 43, [9, 6, 2045]) by decide +kernel) (by decide +kernel) ?_
  refine R_at (pc := 33) ?_
  refine R_getI (pc := 33) (a := 34) (show z_pt 145 33 = some (2, .getfield 321, [0, 1, 2004]) by decide +kernel) (by decide +kernel) ?_
  refine R_at (pc := 36) ?_
  cases h
  exact R_retI (show z_pt 145 36 = some (2, .ireturn, []) by decide +kernel) (by decide +kernel)
def pG_execute  (μ : z_Mem)  : Option ((Int32 ⊕ Nat) × z_Mem) := (pR_readText μ).bind fun q1 => (pS_clear 21 60 q1.2).bind fun q3 => if q1.1 = 0 then some ((.inr 1), (z_u q3 0 8 (q3 34 0))) else (pH_begin q3).bind fun q6 => (pG_performUpToFailure q6).bind fun q8 => if (q8.2 34 1) ≤ q8.1 then (pH_keep q8.2).bind fun q11 => some ((.inl q8.1), q11) else (pH_takeBack q8.2).bind fun q13 => some ((.inr 5), (z_u q13 0 9 q8.1))
theorem pG_execute_run  {μ : z_Mem}   {r : ((Int32 ⊕ Nat) × z_Mem)} (h : pG_execute μ = some r) : Rn 19 126 0 [(0, .ref 0)] [] μ (z_oX r.1) r.2 := by
  unfold pG_execute at h
  refine R_pure (pc := 0) (pc' := 1) (st' := [.ref 0]) (show z_pt 126 0 = some (3, .aload_n 0, []) by decide +kernel) rfl (fun _ _ _ => rfl) ?_
  refine R_getR (pc := 1) (a := 0) (b := 34) (show z_pt 126 1 = some (3, .getfield 43, [9, 6, 2045]) by decide +kernel) (by decide +kernel) ?_
  refine R_at (pc := 4) ?_
  obtain ⟨q1, e2, h⟩ := z_bs h
  refine R_call (pc := 4) (rr := []) (show z_pt 126 4 = some (3, .invokevirtual 311, [0, 1, 0, 5186, 5187, 5188, 1010, 5189]) by decide +kernel) rfl (show z_r2 1 = some (0, 2, true) by decide +kernel) rfl rfl (Or.inr ⟨_, _, rfl, (by decide +kernel)⟩) (pR_readText_run  e2) (by omega) ?_
  refine R_at2 (pc := 7) (st := [.int q1.1]) ?_
  refine R_pure (pc := 7) (pc' := 8) (ls' := [(0, .ref 0), (1, .int q1.1)]) (st' := []) (show z_pt 126 7 = some (3, .istore_n 1, []) by decide +kernel) rfl (fun _ _ _ => rfl) ?_
  refine R_pure (pc := 8) (pc' := 9) (st' := [.ref 0]) (show z_pt 126 8 = some (3, .aload_n 0, []) by decide +kernel) rfl (fun _ _ _ => rfl) ?_
  refine R_getR (pc := 9) (a := 0) (b := 21) (show z_pt 126 9 = some (3, .getfield 34, [9, 4, 2043]) by decide +kernel) (by decide +kernel) ?_
  refine R_at (pc := 12) ?_
  obtain ⟨q3, e4, h⟩ := z_bs h
  refine R_call (pc := 12) (rr := []) (show z_pt 126 12 = some (3, .invokevirtual 288, [0, 54, 0, 5149, 5150, 5151, 1007, 5152]) by decide +kernel) rfl (show z_r2 54 = some (5, 1, true) by decide +kernel) rfl rfl (Or.inr ⟨_, _, rfl, (by decide +kernel)⟩) (pS_clear_run (show zSg 21 60 = true by decide +kernel) e4) (by omega) ?_
  refine R_at2 (pc := 15) (st := []) ?_
  refine R_pure (pc := 15) (pc' := 16) (st' := [.int q1.1]) (show z_pt 126 15 = some (3, .iload_n 1, []) by decide +kernel) rfl (fun _ _ _ => rfl) ?_
  refine R_ifne (pc := 16) (t := 38) (show z_pt 126 16 = some (3, .ifCond .ne 22, []) by decide +kernel) (by decide) (fun c5 => ?_) (fun c5 => ?_)
  · rw [if_neg c5] at h
    refine R_pure (pc := 38) (pc' := 39) (st' := [.ref 0]) (show z_pt 126 38 = some (3, .aload_n 0, []) by decide +kernel) rfl (fun _ _ _ => rfl) ?_
    refine R_getR (pc := 39) (a := 0) (b := 57) (show z_pt 126 39 = some (3, .getfield 53, [9, 2, 2041]) by decide +kernel) (by decide +kernel) ?_
    refine R_at (pc := 42) ?_
    refine R_pure (pc := 42) (pc' := 43) (st' := [.ref 0, .ref 57]) (show z_pt 126 42 = some (3, .aload_n 0, []) by decide +kernel) rfl (fun _ _ _ => rfl) ?_
    refine R_getR (pc := 43) (a := 0) (b := 1) (show z_pt 126 43 = some (3, .getfield 17, [9, 0, 2039]) by decide +kernel) (by decide +kernel) ?_
    refine R_at (pc := 46) ?_
    obtain ⟨q6, e7, h⟩ := z_bs h
    refine R_call (pc := 46) (rr := []) (show z_pt 126 46 = some (3, .invokevirtual 71, [0, 49, 1, 2227, 2228, 2229, 1011, 2230]) by decide +kernel) rfl (show z_r2 49 = some (4, 3, true) by decide +kernel) rfl rfl (Or.inr ⟨_, _, rfl, (by decide +kernel)⟩) (pH_begin_run  e7) (by omega) ?_
    refine R_at2 (pc := 49) (st := []) ?_
    refine R_pure (pc := 49) (pc' := 50) (st' := [.ref 0]) (show z_pt 126 49 = some (3, .aload_n 0, []) by decide +kernel) rfl (fun _ _ _ => rfl) ?_
    obtain ⟨q8, e9, h⟩ := z_bs h
    refine R_call (pc := 50) (rr := []) (show z_pt 126 50 = some (3, .invokevirtual 318, [0, 145, 0, 6044, 6046, 32, 1001, 6047]) by decide +kernel) rfl (show z_r2 145 = some (9, 2, true) by decide +kernel) rfl rfl (Or.inr ⟨_, _, rfl, (by decide +kernel)⟩) (pG_performUpToFailure_run  e9) (by omega) ?_
    refine R_at2 (pc := 53) (st := [.int q8.1]) ?_
    refine R_pure (pc := 53) (pc' := 54) (ls' := [(0, .ref 0), (1, .int q1.1), (2, .int q8.1)]) (st' := []) (show z_pt 126 53 = some (3, .istore_n 2, []) by decide +kernel) rfl (fun _ _ _ => rfl) ?_
    refine R_pure (pc := 54) (pc' := 55) (st' := [.int q8.1]) (show z_pt 126 54 = some (3, .iload_n 2, []) by decide +kernel) rfl (fun _ _ _ => rfl) ?_
    refine R_pure (pc := 55) (pc' := 56) (st' := [.ref 0, .int q8.1]) (show z_pt 126 55 = some (3, .aload_n 0, []) by decide +kernel) rfl (fun _ _ _ => rfl) ?_
    refine R_getR (pc := 56) (a := 0) (b := 34) (show z_pt 126 56 = some (3, .getfield 43, [9, 6, 2045]) by decide +kernel) (by decide +kernel) ?_
    refine R_at (pc := 59) ?_
    refine R_getI (pc := 59) (a := 34) (show z_pt 126 59 = some (3, .getfield 321, [0, 1, 2004]) by decide +kernel) (by decide +kernel) ?_
    refine R_at (pc := 62) ?_
    refine R_icmge (pc := 62) (t := 89) (show z_pt 126 62 = some (3, .if_icmp .ge 27, []) by decide +kernel) (by decide) (fun c10 => ?_) (fun c10 => ?_)
    · rw [if_pos c10] at h
      refine R_pure (pc := 89) (pc' := 90) (st' := [.ref 0]) (show z_pt 126 89 = some (3, .aload_n 0, []) by decide +kernel) rfl (fun _ _ _ => rfl) ?_
      refine R_getR (pc := 90) (a := 0) (b := 57) (show z_pt 126 90 = some (3, .getfield 53, [9, 2, 2041]) by decide +kernel) (by decide +kernel) ?_
      refine R_at (pc := 93) ?_
      obtain ⟨q11, e12, h⟩ := z_bs h
      refine R_call (pc := 93) (rr := []) (show z_pt 126 93 = some (3, .invokevirtual 328, [0, 51, 0, 3120, 3121, 3122, 1011, 3123]) by decide +kernel) rfl (show z_r2 51 = some (4, 1, true) by decide +kernel) rfl rfl (Or.inr ⟨_, _, rfl, (by decide +kernel)⟩) (pH_keep_run  e12) (by omega) ?_
      refine R_at2 (pc := 96) (st := []) ?_
      refine R_pure (pc := 96) (pc' := 97) (st' := [.int q8.1]) (show z_pt 126 96 = some (3, .iload_n 2, []) by decide +kernel) rfl (fun _ _ _ => rfl) ?_
      cases h
      exact R_retI (show z_pt 126 97 = some (3, .ireturn, []) by decide +kernel) (by decide +kernel)
    · rw [if_neg c10] at h
      refine R_pure (pc := 65) (pc' := 66) (st' := [.ref 0]) (show z_pt 126 65 = some (3, .aload_n 0, []) by decide +kernel) rfl (fun _ _ _ => rfl) ?_
      refine R_getR (pc := 66) (a := 0) (b := 57) (show z_pt 126 66 = some (3, .getfield 53, [9, 2, 2041]) by decide +kernel) (by decide +kernel) ?_
      refine R_at (pc := 69) ?_
      refine R_pure (pc := 69) (pc' := 70) (st' := [.ref 0, .ref 57]) (show z_pt 126 69 = some (3, .aload_n 0, []) by decide +kernel) rfl (fun _ _ _ => rfl) ?_
      refine R_getR (pc := 70) (a := 0) (b := 1) (show z_pt 126 70 = some (3, .getfield 17, [9, 0, 2039]) by decide +kernel) (by decide +kernel) ?_
      refine R_at (pc := 73) ?_
      obtain ⟨q13, e14, h⟩ := z_bs h
      refine R_call (pc := 73) (rr := []) (show z_pt 126 73 = some (3, .invokevirtual 322, [0, 50, 1, 6060, 6061, 6062, 1011, 6063]) by decide +kernel) rfl (show z_r2 50 = some (4, 3, true) by decide +kernel) rfl rfl (Or.inr ⟨_, _, rfl, (by decide +kernel)⟩) (pH_takeBack_run  e14) (by omega) ?_
      refine R_at2 (pc := 76) (st := []) ?_
      refine R_pure (pc := 76) (pc' := 77) (st' := [.ref 0]) (show z_pt 126 76 = some (3, .aload_n 0, []) by decide +kernel) rfl (fun _ _ _ => rfl) ?_
      refine R_pure (pc := 77) (pc' := 78) (st' := [.int q8.1, .ref 0]) (show z_pt 126 77 = some (3, .iload_n 2, []) by decide +kernel) rfl (fun _ _ _ => rfl) ?_
      refine R_putI (pc := 78) (a := 0) (show z_pt 126 78 = some (3, .putfield 68, [9, 9, 2048]) by decide +kernel) (by decide +kernel) ⟨rfl, rfl⟩ ?_
      refine R_at (pc := 81) ?_
      cases h
      exact R_thr (show z_thx 126 81 = some 5 by decide +kernel) (by omega)
  · rw [if_pos c5] at h
    refine R_pure (pc := 19) (pc' := 20) (st' := [.ref 0]) (show z_pt 126 19 = some (3, .aload_n 0, []) by decide +kernel) rfl (fun _ _ _ => rfl) ?_
    refine R_pure (pc := 20) (pc' := 21) (st' := [.ref 0, .ref 0]) (show z_pt 126 20 = some (3, .aload_n 0, []) by decide +kernel) rfl (fun _ _ _ => rfl) ?_
    refine R_getR (pc := 21) (a := 0) (b := 34) (show z_pt 126 21 = some (3, .getfield 43, [9, 6, 2045]) by decide +kernel) (by decide +kernel) ?_
    refine R_at (pc := 24) ?_
    refine R_getI (pc := 24) (a := 34) (show z_pt 126 24 = some (3, .getfield 315, [0, 0, 2002]) by decide +kernel) (by decide +kernel) ?_
    refine R_at (pc := 27) ?_
    refine R_putI (pc := 27) (a := 0) (show z_pt 126 27 = some (3, .putfield 64, [9, 8, 2047]) by decide +kernel) (by decide +kernel) ⟨rfl, rfl⟩ ?_
    refine R_at (pc := 30) ?_
    cases h
    exact R_thr (show z_thx 126 30 = some 1 by decide +kernel) (by omega)
def pG_errorPosition  (μ : z_Mem)  : Option (Int32 ⊕ Nat) := if (μ 0 8) = (-1) then some (.inr 3) else some (.inl (μ 0 8))
theorem pG_errorPosition_run  {μ : z_Mem}   {r : (Int32 ⊕ Nat)} (h : pG_errorPosition μ = some r) : Rn 6 127 0 [(0, .ref 0)] [] μ (z_oX r) μ := by
  unfold pG_errorPosition at h
  refine R_pure (pc := 0) (pc' := 1) (st' := [.ref 0]) (show z_pt 127 0 = some (1, .aload_n 0, []) by decide +kernel) rfl (fun _ _ _ => rfl) ?_
  refine R_getI (pc := 1) (a := 0) (show z_pt 127 1 = some (1, .getfield 64, [9, 8, 2047]) by decide +kernel) (by decide +kernel) ?_
  refine R_at (pc := 4) ?_
  refine R_const (pc := 4) (pc' := 5) (v := (-1)) (show z_ptc 127 4 = some (5, (-1)) by decide +kernel) ?_
  refine R_icmne (pc := 5) (t := 16) (show z_pt 127 5 = some (1, .if_icmp .ne 11, []) by decide +kernel) (by decide) (fun c1 => ?_) (fun c1 => ?_)
  · rw [if_neg c1] at h
    refine R_pure (pc := 16) (pc' := 17) (st' := [.ref 0]) (show z_pt 127 16 = some (1, .aload_n 0, []) by decide +kernel) rfl (fun _ _ _ => rfl) ?_
    refine R_getI (pc := 17) (a := 0) (show z_pt 127 17 = some (1, .getfield 64, [9, 8, 2047]) by decide +kernel) (by decide +kernel) ?_
    refine R_at (pc := 20) ?_
    cases h
    exact R_retI (show z_pt 127 20 = some (1, .ireturn, []) by decide +kernel) (by decide +kernel)
  · rw [if_pos c1] at h
    cases h
    exact R_thr (show z_thx 127 8 = some 3 by decide +kernel) (by omega)
def pG_failedCommand  (μ : z_Mem)  : Option (Int32 ⊕ Nat) := if (μ 0 9) = (-1) then some (.inr 3) else some (.inl (μ 0 9))
theorem pG_failedCommand_run  {μ : z_Mem}   {r : (Int32 ⊕ Nat)} (h : pG_failedCommand μ = some r) : Rn 6 128 0 [(0, .ref 0)] [] μ (z_oX r) μ := by
  unfold pG_failedCommand at h
  refine R_pure (pc := 0) (pc' := 1) (st' := [.ref 0]) (show z_pt 128 0 = some (1, .aload_n 0, []) by decide +kernel) rfl (fun _ _ _ => rfl) ?_
  refine R_getI (pc := 1) (a := 0) (show z_pt 128 1 = some (1, .getfield 68, [9, 9, 2048]) by decide +kernel) (by decide +kernel) ?_
  refine R_at (pc := 4) ?_
  refine R_const (pc := 4) (pc' := 5) (v := (-1)) (show z_ptc 128 4 = some (5, (-1)) by decide +kernel) ?_
  refine R_icmne (pc := 5) (t := 16) (show z_pt 128 5 = some (1, .if_icmp .ne 11, []) by decide +kernel) (by decide) (fun c1 => ?_) (fun c1 => ?_)
  · rw [if_neg c1] at h
    refine R_pure (pc := 16) (pc' := 17) (st' := [.ref 0]) (show z_pt 128 16 = some (1, .aload_n 0, []) by decide +kernel) rfl (fun _ _ _ => rfl) ?_
    refine R_getI (pc := 17) (a := 0) (show z_pt 128 17 = some (1, .getfield 68, [9, 9, 2048]) by decide +kernel) (by decide +kernel) ?_
    refine R_at (pc := 20) ?_
    cases h
    exact R_retI (show z_pt 128 20 = some (1, .ireturn, []) by decide +kernel) (by decide +kernel)
  · rw [if_pos c1] at h
    cases h
    exact R_thr (show z_thx 128 8 = some 3 by decide +kernel) (by omega)
def pG_undo  (μ : z_Mem)  : Option ((Int32 ⊕ Nat) × z_Mem) := if (μ 57 0) = 0 then some ((.inr 2), μ) else (pH_undoLatest μ).bind fun q2 => some ((.inl (q2 57 0)), q2)
theorem pG_undo_run  {μ : z_Mem}   {r : ((Int32 ⊕ Nat) × z_Mem)} (h : pG_undo μ = some r) : Rn 6 129 0 [(0, .ref 0)] [] μ (z_oX r.1) r.2 := by
  unfold pG_undo at h
  refine R_pure (pc := 0) (pc' := 1) (st' := [.ref 0]) (show z_pt 129 0 = some (1, .aload_n 0, []) by decide +kernel) rfl (fun _ _ _ => rfl) ?_
  refine R_getR (pc := 1) (a := 0) (b := 57) (show z_pt 129 1 = some (1, .getfield 53, [9, 2, 2041]) by decide +kernel) (by decide +kernel) ?_
  refine R_at (pc := 4) ?_
  refine R_getI (pc := 4) (a := 57) (show z_pt 129 4 = some (1, .getfield 331, [4, 0, 2029]) by decide +kernel) (by decide +kernel) ?_
  refine R_at (pc := 7) ?_
  refine R_ifne (pc := 7) (t := 18) (show z_pt 129 7 = some (1, .ifCond .ne 11, []) by decide +kernel) (by decide) (fun c1 => ?_) (fun c1 => ?_)
  · rw [if_neg c1] at h
    refine R_pure (pc := 18) (pc' := 19) (st' := [.ref 0]) (show z_pt 129 18 = some (1, .aload_n 0, []) by decide +kernel) rfl (fun _ _ _ => rfl) ?_
    refine R_getR (pc := 19) (a := 0) (b := 57) (show z_pt 129 19 = some (1, .getfield 53, [9, 2, 2041]) by decide +kernel) (by decide +kernel) ?_
    refine R_at (pc := 22) ?_
    refine R_pure (pc := 22) (pc' := 23) (st' := [.ref 0, .ref 57]) (show z_pt 129 22 = some (1, .aload_n 0, []) by decide +kernel) rfl (fun _ _ _ => rfl) ?_
    refine R_getR (pc := 23) (a := 0) (b := 1) (show z_pt 129 23 = some (1, .getfield 17, [9, 0, 2039]) by decide +kernel) (by decide +kernel) ?_
    refine R_at (pc := 26) ?_
    obtain ⟨q2, e3, h⟩ := z_bs h
    refine R_call (pc := 26) (rr := []) (show z_pt 129 26 = some (1, .invokevirtual 332, [0, 52, 1, 6100, 6101, 6102, 1011, 6103]) by decide +kernel) rfl (show z_r2 52 = some (4, 2, true) by decide +kernel) rfl rfl (Or.inr ⟨_, _, rfl, (by decide +kernel)⟩) (pH_undoLatest_run  e3) (by omega) ?_
    refine R_at2 (pc := 29) (st := []) ?_
    refine R_pure (pc := 29) (pc' := 30) (st' := [.ref 0]) (show z_pt 129 29 = some (1, .aload_n 0, []) by decide +kernel) rfl (fun _ _ _ => rfl) ?_
    refine R_getR (pc := 30) (a := 0) (b := 57) (show z_pt 129 30 = some (1, .getfield 53, [9, 2, 2041]) by decide +kernel) (by decide +kernel) ?_
    refine R_at (pc := 33) ?_
    refine R_getI (pc := 33) (a := 57) (show z_pt 129 33 = some (1, .getfield 331, [4, 0, 2029]) by decide +kernel) (by decide +kernel) ?_
    refine R_at (pc := 36) ?_
    cases h
    exact R_retI (show z_pt 129 36 = some (1, .ireturn, []) by decide +kernel) (by decide +kernel)
  · rw [if_pos c1] at h
    cases h
    exact R_thr (show z_thx 129 10 = some 2 by decide +kernel) (by omega)
def pG_undoCount  (μ : z_Mem)  : Option Int32 := some (μ 57 0)
theorem pG_undoCount_run  {μ : z_Mem}   {r : Int32} (h : pG_undoCount μ = some r) : Rn 0 130 0 [(0, .ref 0)] [] μ (.inl (some (.int r))) μ := by
  unfold pG_undoCount at h
  refine R_pure (pc := 0) (pc' := 1) (st' := [.ref 0]) (show z_pt 130 0 = some (1, .aload_n 0, []) by decide +kernel) rfl (fun _ _ _ => rfl) ?_
  refine R_getR (pc := 1) (a := 0) (b := 57) (show z_pt 130 1 = some (1, .getfield 53, [9, 2, 2041]) by decide +kernel) (by decide +kernel) ?_
  refine R_at (pc := 4) ?_
  refine R_getI (pc := 4) (a := 57) (show z_pt 130 4 = some (1, .getfield 331, [4, 0, 2029]) by decide +kernel) (by decide +kernel) ?_
  refine R_at (pc := 7) ?_
  cases h
  exact R_retI (show z_pt 130 7 = some (1, .ireturn, []) by decide +kernel) (by decide +kernel)
def pG_save  (μ : z_Mem)  : Option (Int32 × z_Mem) := (pA_copyFrom 37 1 μ).bind fun q1 => some (((z_u q1 0 7 1) 2 0), (z_u q1 0 7 1))
theorem pG_save_run  {μ : z_Mem}   {r : (Int32 × z_Mem)} (h : pG_save μ = some r) : Rn 3 131 0 [(0, .ref 0)] [] μ (.inl (some (.int r.1))) r.2 := by
  unfold pG_save at h
  refine R_pure (pc := 0) (pc' := 1) (st' := [.ref 0]) (show z_pt 131 0 = some (1, .aload_n 0, []) by decide +kernel) rfl (fun _ _ _ => rfl) ?_
  refine R_getR (pc := 1) (a := 0) (b := 37) (show z_pt 131 1 = some (1, .getfield 47, [9, 1, 2040]) by decide +kernel) (by decide +kernel) ?_
  refine R_at (pc := 4) ?_
  refine R_pure (pc := 4) (pc' := 5) (st' := [.ref 0, .ref 37]) (show z_pt 131 4 = some (1, .aload_n 0, []) by decide +kernel) rfl (fun _ _ _ => rfl) ?_
  refine R_getR (pc := 5) (a := 0) (b := 1) (show z_pt 131 5 = some (1, .getfield 17, [9, 0, 2039]) by decide +kernel) (by decide +kernel) ?_
  refine R_at (pc := 8) ?_
  obtain ⟨q1, e2, h⟩ := z_bs h
  refine R_call (pc := 8) (rr := []) (show z_pt 131 8 = some (1, .invokevirtual 335, [0, 66, 1, 2198, 2199, 2200, 1002, 2201]) by decide +kernel) rfl (show z_r2 66 = some (7, 2, true) by decide +kernel) rfl rfl (Or.inr ⟨_, _, rfl, (by decide +kernel)⟩) (pA_copyFrom_run (show zSt 37 = true by decide +kernel) (show zSt 1 = true by decide +kernel) e2) (by omega) ?_
  refine R_at2 (pc := 11) (st := []) ?_
  refine R_pure (pc := 11) (pc' := 12) (st' := [.ref 0]) (show z_pt 131 11 = some (1, .aload_n 0, []) by decide +kernel) rfl (fun _ _ _ => rfl) ?_
  refine R_const (pc := 12) (pc' := 13) (v := 1) (show z_ptc 131 12 = some (13, 1) by decide +kernel) ?_
  refine R_putI (pc := 13) (a := 0) (show z_pt 131 13 = some (1, .putfield 60, [9, 7, 2046]) by decide +kernel) (by decide +kernel) (by decide) ?_
  refine R_at (pc := 16) ?_
  refine R_pure (pc := 16) (pc' := 17) (st' := [.ref 0]) (show z_pt 131 16 = some (1, .aload_n 0, []) by decide +kernel) rfl (fun _ _ _ => rfl) ?_
  refine R_getR (pc := 17) (a := 0) (b := 1) (show z_pt 131 17 = some (1, .getfield 17, [9, 0, 2039]) by decide +kernel) (by decide +kernel) ?_
  refine R_at (pc := 20) ?_
  refine R_getR (pc := 20) (a := 1) (b := 2) (show z_pt 131 20 = some (1, .getfield 23, [7, 0, 1173]) by decide +kernel) (by decide +kernel) ?_
  refine R_at (pc := 23) ?_
  refine R_getI (pc := 23) (a := 2) (show z_pt 131 23 = some (1, .getfield 93, [2, 0, 1051]) by decide +kernel) (by decide +kernel) ?_
  refine R_at (pc := 26) ?_
  cases h
  exact R_retI (show z_pt 131 26 = some (1, .ireturn, []) by decide +kernel) (by decide +kernel)
def pG_restore  (μ : z_Mem)  : Option ((Int32 ⊕ Nat) × z_Mem) := if (μ 0 7) = 0 then some ((.inr 2), μ) else (pA_copyFrom 1 37 μ).bind fun q2 => some ((.inl ((z_u q2 57 0 0) 2 0)), (z_u q2 57 0 0))
theorem pG_restore_run  {μ : z_Mem}   {r : ((Int32 ⊕ Nat) × z_Mem)} (h : pG_restore μ = some r) : Rn 6 132 0 [(0, .ref 0)] [] μ (z_oX r.1) r.2 := by
  unfold pG_restore at h
  refine R_pure (pc := 0) (pc' := 1) (st' := [.ref 0]) (show z_pt 132 0 = some (1, .aload_n 0, []) by decide +kernel) rfl (fun _ _ _ => rfl) ?_
  refine R_getI (pc := 1) (a := 0) (show z_pt 132 1 = some (1, .getfield 60, [9, 7, 2046]) by decide +kernel) (by decide +kernel) ?_
  refine R_at (pc := 4) ?_
  refine R_ifne (pc := 4) (t := 15) (show z_pt 132 4 = some (1, .ifCond .ne 11, []) by decide +kernel) (by decide) (fun c1 => ?_) (fun c1 => ?_)
  · rw [if_neg c1] at h
    refine R_pure (pc := 15) (pc' := 16) (st' := [.ref 0]) (show z_pt 132 15 = some (1, .aload_n 0, []) by decide +kernel) rfl (fun _ _ _ => rfl) ?_
    refine R_getR (pc := 16) (a := 0) (b := 1) (show z_pt 132 16 = some (1, .getfield 17, [9, 0, 2039]) by decide +kernel) (by decide +kernel) ?_
    refine R_at (pc := 19) ?_
    refine R_pure (pc := 19) (pc' := 20) (st' := [.ref 0, .ref 1]) (show z_pt 132 19 = some (1, .aload_n 0, []) by decide +kernel) rfl (fun _ _ _ => rfl) ?_
    refine R_getR (pc := 20) (a := 0) (b := 37) (show z_pt 132 20 = some (1, .getfield 47, [9, 1, 2040]) by decide +kernel) (by decide +kernel) ?_
    refine R_at (pc := 23) ?_
    obtain ⟨q2, e3, h⟩ := z_bs h
    refine R_call (pc := 23) (rr := []) (show z_pt 132 23 = some (1, .invokevirtual 335, [0, 66, 1, 2198, 2199, 2200, 1002, 2201]) by decide +kernel) rfl (show z_r2 66 = some (7, 2, true) by decide +kernel) rfl rfl (Or.inr ⟨_, _, rfl, (by decide +kernel)⟩) (pA_copyFrom_run (show zSt 1 = true by decide +kernel) (show zSt 37 = true by decide +kernel) e3) (by omega) ?_
    refine R_at2 (pc := 26) (st := []) ?_
    refine R_pure (pc := 26) (pc' := 27) (st' := [.ref 0]) (show z_pt 132 26 = some (1, .aload_n 0, []) by decide +kernel) rfl (fun _ _ _ => rfl) ?_
    refine R_getR (pc := 27) (a := 0) (b := 57) (show z_pt 132 27 = some (1, .getfield 53, [9, 2, 2041]) by decide +kernel) (by decide +kernel) ?_
    refine R_at (pc := 30) ?_
    refine R_const (pc := 30) (pc' := 31) (v := 0) (show z_ptc 132 30 = some (31, 0) by decide +kernel) ?_
    refine R_putI (pc := 31) (a := 57) (show z_pt 132 31 = some (1, .putfield 331, [4, 0, 2029]) by decide +kernel) (by decide +kernel) ⟨rfl, rfl⟩ ?_
    refine R_at (pc := 34) ?_
    refine R_pure (pc := 34) (pc' := 35) (st' := [.ref 0]) (show z_pt 132 34 = some (1, .aload_n 0, []) by decide +kernel) rfl (fun _ _ _ => rfl) ?_
    refine R_getR (pc := 35) (a := 0) (b := 1) (show z_pt 132 35 = some (1, .getfield 17, [9, 0, 2039]) by decide +kernel) (by decide +kernel) ?_
    refine R_at (pc := 38) ?_
    refine R_getR (pc := 38) (a := 1) (b := 2) (show z_pt 132 38 = some (1, .getfield 23, [7, 0, 1173]) by decide +kernel) (by decide +kernel) ?_
    refine R_at (pc := 41) ?_
    refine R_getI (pc := 41) (a := 2) (show z_pt 132 41 = some (1, .getfield 93, [2, 0, 1051]) by decide +kernel) (by decide +kernel) ?_
    refine R_at (pc := 44) ?_
    cases h
    exact R_retI (show z_pt 132 44 = some (1, .ireturn, []) by decide +kernel) (by decide +kernel)
  · rw [if_pos c1] at h
    cases h
    exact R_thr (show z_thx 132 7 = some 2 by decide +kernel) (by omega)
def pm_thrown  (μ : z_Mem)  : Option Int32 := some (μ 241 12)
theorem pm_thrown_run  {μ : z_Mem}   {r : Int32} (h : pm_thrown μ = some r) : Rn 0 159 0 [(0, .ref 241)] [] μ (.inl (some (.int r))) μ := by
  unfold pm_thrown at h
  refine R_pure (pc := 0) (pc' := 1) (st' := [.ref 241]) (show z_pt 159 0 = some (1, .aload_n 0, []) by decide +kernel) rfl (fun _ _ _ => rfl) ?_
  refine R_getI (pc := 1) (a := 241) (show z_pt 159 1 = some (1, .getfield 45, [10, 12, 6130]) by decide +kernel) (by decide +kernel) ?_
  refine R_at (pc := 4) ?_
  cases h
  exact R_retI (show z_pt 159 4 = some (1, .ireturn, []) by decide +kernel) (by decide +kernel)
def pm_in  (μ : z_Mem) (i0 : Int32) (i1 : Int32) (i2 : Int32) : Option Int32 := if i0 < i1 then some 0 else if i2 < i0 then some 0 else some 1
theorem pm_in_run  {μ : z_Mem} {i0 : Int32} {i1 : Int32} {i2 : Int32}  {r : Int32} (h : pm_in μ i0 i1 i2 = some r) : Rn 0 160 0 [(0, .int i0), (1, .int i1), (2, .int i2)] [] μ (.inl (some (.int r))) μ := by
  unfold pm_in at h
  refine R_pure (pc := 0) (pc' := 1) (st' := [.int i0]) (show z_pt 160 0 = some (3, .iload_n 0, []) by decide +kernel) rfl (fun _ _ _ => rfl) ?_
  refine R_pure (pc := 1) (pc' := 2) (st' := [.int i1, .int i0]) (show z_pt 160 1 = some (3, .iload_n 1, []) by decide +kernel) rfl (fun _ _ _ => rfl) ?_
  refine R_icmlt (pc := 2) (t := 14) (show z_pt 160 2 = some (3, .if_icmp .lt 12, []) by decide +kernel) (by decide) (fun c1 => ?_) (fun c1 => ?_)
  · rw [if_pos c1] at h
    refine R_const (pc := 14) (pc' := 15) (v := 0) (show z_ptc 160 14 = some (15, 0) by decide +kernel) ?_
    cases h
    exact R_retZ (show z_pt 160 15 = some (3, .ireturn, []) by decide +kernel) (t := .boolean) (by decide +kernel) (by decide)
  · rw [if_neg c1] at h
    refine R_pure (pc := 5) (pc' := 6) (st' := [.int i0]) (show z_pt 160 5 = some (3, .iload_n 0, []) by decide +kernel) rfl (fun _ _ _ => rfl) ?_
    refine R_pure (pc := 6) (pc' := 7) (st' := [.int i2, .int i0]) (show z_pt 160 6 = some (3, .iload_n 2, []) by decide +kernel) rfl (fun _ _ _ => rfl) ?_
    refine R_icmgt (pc := 7) (t := 14) (show z_pt 160 7 = some (3, .if_icmp .gt 7, []) by decide +kernel) (by decide) (fun c2 => ?_) (fun c2 => ?_)
    · rw [if_pos c2] at h
      refine R_const (pc := 14) (pc' := 15) (v := 0) (show z_ptc 160 14 = some (15, 0) by decide +kernel) ?_
      cases h
      exact R_retZ (show z_pt 160 15 = some (3, .ireturn, []) by decide +kernel) (t := .boolean) (by decide +kernel) (by decide)
    · rw [if_neg c2] at h
      refine R_const (pc := 10) (pc' := 11) (v := 1) (show z_ptc 160 10 = some (11, 1) by decide +kernel) ?_
      refine R_pure (pc := 11) (pc' := 15) (show z_pt 160 11 = some (3, .goto 4, []) by decide +kernel) rfl (fun _ _ _ => rfl) ?_
      cases h
      exact R_retZ (show z_pt 160 15 = some (3, .ireturn, []) by decide +kernel) (t := .boolean) (by decide +kernel) (by decide)
def pm_size  (μ : z_Mem) (i0 : Int32) : Option Int32 := if 0 ≤ i0 then some i0 else some (-i0)
theorem pm_size_run  {μ : z_Mem} {i0 : Int32}  {r : Int32} (h : pm_size μ i0 = some r) : Rn 0 161 0 [(0, .int i0)] [] μ (.inl (some (.int r))) μ := by
  unfold pm_size at h
  refine R_pure (pc := 0) (pc' := 1) (st' := [.int i0]) (show z_pt 161 0 = some (1, .iload_n 0, []) by decide +kernel) rfl (fun _ _ _ => rfl) ?_
  refine R_ifge (pc := 1) (t := 9) (show z_pt 161 1 = some (1, .ifCond .ge 8, []) by decide +kernel) (by decide) (fun c1 => ?_) (fun c1 => ?_)
  · rw [if_pos c1] at h
    refine R_pure (pc := 9) (pc' := 10) (st' := [.int i0]) (show z_pt 161 9 = some (1, .iload_n 0, []) by decide +kernel) rfl (fun _ _ _ => rfl) ?_
    cases h
    exact R_retI (show z_pt 161 10 = some (1, .ireturn, []) by decide +kernel) (by decide +kernel)
  · rw [if_neg c1] at h
    refine R_pure (pc := 4) (pc' := 5) (st' := [.int i0]) (show z_pt 161 4 = some (1, .iload_n 0, []) by decide +kernel) rfl (fun _ _ _ => rfl) ?_
    refine R_pure (pc := 5) (pc' := 6) (st' := [.int (-i0)]) (show z_pt 161 5 = some (1, .ineg, []) by decide +kernel) rfl (fun _ _ _ => rfl) ?_
    refine R_pure (pc := 6) (pc' := 10) (show z_pt 161 6 = some (1, .goto 4, []) by decide +kernel) rfl (fun _ _ _ => rfl) ?_
    cases h
    exact R_retI (show z_pt 161 10 = some (1, .ireturn, []) by decide +kernel) (by decide +kernel)
def pm_less  (μ : z_Mem) (i0 : Int32) (i1 : Int32) : Option Int32 := if i1 ≤ i0 then some i1 else some i0
theorem pm_less_run  {μ : z_Mem} {i0 : Int32} {i1 : Int32}  {r : Int32} (h : pm_less μ i0 i1 = some r) : Rn 0 162 0 [(0, .int i0), (1, .int i1)] [] μ (.inl (some (.int r))) μ := by
  unfold pm_less at h
  refine R_pure (pc := 0) (pc' := 1) (st' := [.int i0]) (show z_pt 162 0 = some (2, .iload_n 0, []) by decide +kernel) rfl (fun _ _ _ => rfl) ?_
  refine R_pure (pc := 1) (pc' := 2) (st' := [.int i1, .int i0]) (show z_pt 162 1 = some (2, .iload_n 1, []) by decide +kernel) rfl (fun _ _ _ => rfl) ?_
  refine R_icmge (pc := 2) (t := 9) (show z_pt 162 2 = some (2, .if_icmp .ge 7, []) by decide +kernel) (by decide) (fun c1 => ?_) (fun c1 => ?_)
  · rw [if_pos c1] at h
    refine R_pure (pc := 9) (pc' := 10) (st' := [.int i1]) (show z_pt 162 9 = some (2, .iload_n 1, []) by decide +kernel) rfl (fun _ _ _ => rfl) ?_
    cases h
    exact R_retI (show z_pt 162 10 = some (2, .ireturn, []) by decide +kernel) (by decide +kernel)
  · rw [if_neg c1] at h
    refine R_pure (pc := 5) (pc' := 6) (st' := [.int i0]) (show z_pt 162 5 = some (2, .iload_n 0, []) by decide +kernel) rfl (fun _ _ _ => rfl) ?_
    refine R_pure (pc := 6) (pc' := 10) (show z_pt 162 6 = some (2, .goto 4, []) by decide +kernel) rfl (fun _ _ _ => rfl) ?_
    cases h
    exact R_retI (show z_pt 162 10 = some (2, .ireturn, []) by decide +kernel) (by decide +kernel)
def pm_rest  (μ : z_Mem) (i0 : Int32) (i1 : Int32) : Option Int32 := if i1 = 0 then none else if i1 = 0 then none else some (((i0 - i0 / i1 * i1) + i1) - ((i0 - i0 / i1 * i1) + i1) / i1 * i1)
theorem pm_rest_run  {μ : z_Mem} {i0 : Int32} {i1 : Int32}  {r : Int32} (h : pm_rest μ i0 i1 = some r) : Rn 0 163 0 [(0, .int i0), (1, .int i1)] [] μ (.inl (some (.int r))) μ := by
  unfold pm_rest at h
  refine R_pure (pc := 0) (pc' := 1) (st' := [.int i0]) (show z_pt 163 0 = some (2, .iload_n 0, []) by decide +kernel) rfl (fun _ _ _ => rfl) ?_
  refine R_pure (pc := 1) (pc' := 2) (st' := [.int i1, .int i0]) (show z_pt 163 1 = some (2, .iload_n 1, []) by decide +kernel) rfl (fun _ _ _ => rfl) ?_
  obtain ⟨g1, h⟩ := z_ng h
  refine R_rem (x := i0) (y := i1) (show z_pt 163 2 = some (2, .irem, []) by decide +kernel) g1 ?_
  refine R_pure (pc := 3) (pc' := 4) (st' := [.int i1, .int (i0 - i0 / i1 * i1)]) (show z_pt 163 3 = some (2, .iload_n 1, []) by decide +kernel) rfl (fun _ _ _ => rfl) ?_
  refine R_pure (pc := 4) (pc' := 5) (st' := [.int ((i0 - i0 / i1 * i1) + i1)]) (show z_pt 163 4 = some (2, .iadd, []) by decide +kernel) rfl (fun _ _ _ => rfl) ?_
  refine R_pure (pc := 5) (pc' := 6) (st' := [.int i1, .int ((i0 - i0 / i1 * i1) + i1)]) (show z_pt 163 5 = some (2, .iload_n 1, []) by decide +kernel) rfl (fun _ _ _ => rfl) ?_
  obtain ⟨g2, h⟩ := z_ng h
  refine R_rem (x := ((i0 - i0 / i1 * i1) + i1)) (y := i1) (show z_pt 163 6 = some (2, .irem, []) by decide +kernel) g2 ?_
  cases h
  exact R_retI (show z_pt 163 7 = some (2, .ireturn, []) by decide +kernel) (by decide +kernel)
def pm_done  (μ : z_Mem) (i1 : Int32) : Option (Int32 × z_Mem) := some (i1, (z_u μ 241 12 0))
theorem pm_done_run  {μ : z_Mem} {i1 : Int32}  {r : (Int32 × z_Mem)} (h : pm_done μ i1 = some r) : Rn 0 164 0 [(0, .ref 241), (1, .int i1)] [] μ (.inl (some (.int r.1))) r.2 := by
  unfold pm_done at h
  refine R_pure (pc := 0) (pc' := 1) (st' := [.ref 241]) (show z_pt 164 0 = some (2, .aload_n 0, []) by decide +kernel) rfl (fun _ _ _ => rfl) ?_
  refine R_const (pc := 1) (pc' := 2) (v := 0) (show z_ptc 164 1 = some (2, 0) by decide +kernel) ?_
  refine R_putI (pc := 2) (a := 241) (show z_pt 164 2 = some (2, .putfield 45, [10, 12, 6130]) by decide +kernel) (by decide +kernel) ⟨rfl, rfl⟩ ?_
  refine R_at (pc := 5) ?_
  refine R_pure (pc := 5) (pc' := 6) (st' := [.int i1]) (show z_pt 164 5 = some (2, .iload_n 1, []) by decide +kernel) rfl (fun _ _ _ => rfl) ?_
  cases h
  exact R_retI (show z_pt 164 6 = some (2, .ireturn, []) by decide +kernel) (by decide +kernel)
def pm_fails  (μ : z_Mem) (i1 : Int32) : Option (Int32 × z_Mem) := some (0, (z_u μ 241 12 i1))
theorem pm_fails_run  {μ : z_Mem} {i1 : Int32}  {r : (Int32 × z_Mem)} (h : pm_fails μ i1 = some r) : Rn 0 165 0 [(0, .ref 241), (1, .int i1)] [] μ (.inl (some (.int r.1))) r.2 := by
  unfold pm_fails at h
  refine R_pure (pc := 0) (pc' := 1) (st' := [.ref 241]) (show z_pt 165 0 = some (2, .aload_n 0, []) by decide +kernel) rfl (fun _ _ _ => rfl) ?_
  refine R_pure (pc := 1) (pc' := 2) (st' := [.int i1, .ref 241]) (show z_pt 165 1 = some (2, .iload_n 1, []) by decide +kernel) rfl (fun _ _ _ => rfl) ?_
  refine R_putI (pc := 2) (a := 241) (show z_pt 165 2 = some (2, .putfield 45, [10, 12, 6130]) by decide +kernel) (by decide +kernel) ⟨rfl, rfl⟩ ?_
  refine R_at (pc := 5) ?_
  refine R_const (pc := 5) (pc' := 6) (v := 0) (show z_ptc 165 5 = some (6, 0) by decide +kernel) ?_
  cases h
  exact R_retI (show z_pt 165 6 = some (2, .ireturn, []) by decide +kernel) (by decide +kernel)
def pm_copy_L3_B (R : z_Mem → Int32 → Option z_Mem) (b : Nat) (nb : Nat) (a : Nat) (na : Nat) (f1 : Int32) (f3 : Int32) (K : z_Mem → Int32 → Option z_Mem) (μ : z_Mem) (a4 : Int32) : Option z_Mem := if 331 ≤ a4 then K μ a4 else (z_rd μ b nb (f1 + a4)).bind fun v2 => if z_inb (f3 + a4) na = true then R (z_u μ a (f3 + a4).toNatClampNeg v2) (a4 + 1) else none
def pm_copy_L3 : Nat → Nat → Nat → Nat → Nat → Int32 → Int32 → (z_Mem → Int32 → Option z_Mem) → z_Mem → Int32 → Option z_Mem
  | 0 => fun _ _ _ _ _ _ _ _ _ => none
  | n + 1 => fun b nb a na f1 f3 K μ a4 => pm_copy_L3_B (pm_copy_L3 n b nb a na f1 f3 K) b nb a na f1 f3 K μ a4
theorem pm_copy_L3_run (b : Nat) (nb : Nat) (a : Nat) (na : Nat) (f1 : Int32) (f3 : Int32) (K : z_Mem → Int32 → Option z_Mem) (hb : z_ar b 0 nb = true) (ha : z_ar a 0 na = true) (D : Nat) (hD : 0 ≤ D) (hK : ∀ (μ : z_Mem) (a4 : Int32) (r : z_Mem), K μ a4 = some r → Rn D 166 29 [(0, .ref b), (1, .int f1), (2, .ref a), (3, .int f3), (4, .int a4)] [] μ (.inl none) r) : ∀ (n : Nat) (μ : z_Mem) (a4 : Int32) (r : z_Mem), pm_copy_L3 n b nb a na f1 f3 K μ a4 = some r → Rn D 166 3 [(0, .ref b), (1, .int f1), (2, .ref a), (3, .int f3), (4, .int a4)] [] μ (.inl none) r := by
  intro n
  induction n with
  | zero => intro μ a4 r h; cases h
  | succ n ih =>
    intro μ a4 r h
    have h : pm_copy_L3_B (pm_copy_L3 n b nb a na f1 f3 K) b nb a na f1 f3 K μ a4 = some r := h
    unfold pm_copy_L3_B at h
    refine R_pure (pc := 3) (pc' := 5) (st' := [.int a4]) (show z_pt 166 3 = some (5, .iload 4, []) by decide +kernel) rfl (fun _ _ _ => rfl) ?_
    refine R_const (pc := 5) (pc' := 8) (v := 331) (show z_ptc 166 5 = some (8, 331) by decide +kernel) ?_
    refine R_icmge (pc := 8) (t := 29) (show z_pt 166 8 = some (5, .if_icmp .ge 21, []) by decide +kernel) (by decide) (fun c1 => ?_) (fun c1 => ?_)
    · rw [if_pos c1] at h
      exact hK _ _  _ h
    · rw [if_neg c1] at h
      refine R_pure (pc := 11) (pc' := 12) (st' := [.ref a]) (show z_pt 166 11 = some (5, .aload_n 2, []) by decide +kernel) rfl (fun _ _ _ => rfl) ?_
      refine R_pure (pc := 12) (pc' := 13) (st' := [.int f3, .ref a]) (show z_pt 166 12 = some (5, .iload_n 3, []) by decide +kernel) rfl (fun _ _ _ => rfl) ?_
      refine R_pure (pc := 13) (pc' := 15) (st' := [.int a4, .int f3, .ref a]) (show z_pt 166 13 = some (5, .iload 4, []) by decide +kernel) rfl (fun _ _ _ => rfl) ?_
      refine R_pure (pc := 15) (pc' := 16) (st' := [.int (f3 + a4), .ref a]) (show z_pt 166 15 = some (5, .iadd, []) by decide +kernel) rfl (fun _ _ _ => rfl) ?_
      refine R_pure (pc := 16) (pc' := 17) (st' := [.ref b, .int (f3 + a4), .ref a]) (show z_pt 166 16 = some (5, .aload_n 0, []) by decide +kernel) rfl (fun _ _ _ => rfl) ?_
      refine R_pure (pc := 17) (pc' := 18) (st' := [.int f1, .ref b, .int (f3 + a4), .ref a]) (show z_pt 166 17 = some (5, .iload_n 1, []) by decide +kernel) rfl (fun _ _ _ => rfl) ?_
      refine R_pure (pc := 18) (pc' := 20) (st' := [.int a4, .int f1, .ref b, .int (f3 + a4), .ref a]) (show z_pt 166 18 = some (5, .iload 4, []) by decide +kernel) rfl (fun _ _ _ => rfl) ?_
      refine R_pure (pc := 20) (pc' := 21) (st' := [.int (f1 + a4), .ref b, .int (f3 + a4), .ref a]) (show z_pt 166 20 = some (5, .iadd, []) by decide +kernel) rfl (fun _ _ _ => rfl) ?_
      obtain ⟨v2, e3, h⟩ := z_bs h
      refine R_ialdR (pc := 21) (a := b) (n := nb) (show z_pt 166 21 = some (5, .iaload, []) by decide +kernel) hb e3 ?_
      refine R_at (pc := 22) ?_
      obtain ⟨g4, h⟩ := z_ig h
      refine R_iast (pc := 22) (a := a) (n := na) (show z_pt 166 22 = some (5, .iastore, []) by decide +kernel) ha g4 ?_
      refine R_at (pc := 23) ?_
      refine R_inc (pc := 23) (pc' := 26) (ls' := [(0, .ref b), (1, .int f1), (2, .ref a), (3, .int f3), (4, .int (a4 + 1))]) (c := 1) (show z_pt 166 23 = some (5, .iinc 4 1, []) by decide +kernel) (by decide) rfl rfl ?_
      refine R_pure (pc := 26) (pc' := 3) (ls' := [(0, .ref b), (1, .int f1), (2, .ref a), (3, .int f3), (4, .int (a4 + 1))]) (st' := []) (show z_pt 166 26 = some (5, .goto (-23), [5]) by decide +kernel) rfl (fun _ _ _ => rfl) ?_
      exact ih _ _ _  h
def pm_copy (b : Nat) (nb : Nat) (a : Nat) (na : Nat) (μ : z_Mem) (i1 : Int32) (i3 : Int32) : Option z_Mem := pm_copy_L3 z_fu b nb a na i1 i3 (fun M6 k5 => some M6) μ 0
theorem pm_copy_run {b : Nat} {nb : Nat} {a : Nat} {na : Nat} {μ : z_Mem} {i1 : Int32} {i3 : Int32} (hb : z_ar b 0 nb = true) (ha : z_ar a 0 na = true) {r : z_Mem} (h : pm_copy b nb a na μ i1 i3 = some r) : Rn 0 166 0 [(0, .ref b), (1, .int i1), (2, .ref a), (3, .int i3)] [] μ (.inl none) r := by
  unfold pm_copy at h
  refine R_const (pc := 0) (pc' := 1) (v := 0) (show z_ptc 166 0 = some (1, 0) by decide +kernel) ?_
  refine R_pure (pc := 1) (pc' := 3) (ls' := [(0, .ref b), (1, .int i1), (2, .ref a), (3, .int i3), (4, .int 0)]) (st' := []) (show z_pt 166 1 = some (5, .istore 4, []) by decide +kernel) rfl (fun _ _ _ => rfl) ?_
  refine pm_copy_L3_run _ _ _ _ _ _ _ hb ha _ (by omega) ?_ _ _ _ _ h
  intro M6 k5 r h
  cases h
  exact R_retV (show z_pt 166 29 = some (5, .return_, []) by decide +kernel) (by decide +kernel)
def pm_begin  (μ : z_Mem)  : Option z_Mem := (pm_copy 242 331 243 331 μ 0 0).bind fun q1 => some q1
theorem pm_begin_run  {μ : z_Mem}   {r : z_Mem} (h : pm_begin μ = some r) : Rn 1 167 0 [(0, .ref 241)] [] μ (.inl none) r := by
  unfold pm_begin at h
  refine R_pure (pc := 0) (pc' := 1) (st' := [.ref 241]) (show z_pt 167 0 = some (1, .aload_n 0, []) by decide +kernel) rfl (fun _ _ _ => rfl) ?_
  refine R_getR (pc := 1) (a := 241) (b := 242) (show z_pt 167 1 = some (1, .getfield 7, [10, 0, 6118]) by decide +kernel) (by decide +kernel) ?_
  refine R_at (pc := 4) ?_
  refine R_const (pc := 4) (pc' := 5) (v := 0) (show z_ptc 167 4 = some (5, 0) by decide +kernel) ?_
  refine R_pure (pc := 5) (pc' := 6) (st' := [.ref 241, .int 0, .ref 242]) (show z_pt 167 5 = some (1, .aload_n 0, []) by decide +kernel) rfl (fun _ _ _ => rfl) ?_
  refine R_getR (pc := 6) (a := 241) (b := 243) (show z_pt 167 6 = some (1, .getfield 13, [10, 1, 6119]) by decide +kernel) (by decide +kernel) ?_
  refine R_at (pc := 9) ?_
  refine R_const (pc := 9) (pc' := 10) (v := 0) (show z_ptc 167 9 = some (10, 0) by decide +kernel) ?_
  obtain ⟨q1, e2, h⟩ := z_bs h
  refine R_call (pc := 10) (rr := []) (show z_pt 167 10 = some (1, .invokestatic 48, [1, 166, 4, 6185, 6186, 0, 1012, 6187]) by decide +kernel) rfl (show z_r2 166 = some (10, 5, true) by decide +kernel) rfl rfl (Or.inl (by decide)) (pm_copy_run (show z_ar 242 0 331 = true by decide +kernel) (show z_ar 243 0 331 = true by decide +kernel) e2) (by omega) ?_
  refine R_at2 (pc := 13) (st := []) ?_
  cases h
  exact R_retV (show z_pt 167 13 = some (1, .return_, []) by decide +kernel) (by decide +kernel)
def pm_kept_L33_B (R : z_Mem → Int32 → Option (Int32 × z_Mem))  (f1 : Int32) (K : z_Mem → Int32 → Option (Int32 × z_Mem)) (μ : z_Mem) (a2 : Int32) : Option (Int32 × z_Mem) := if 2317 ≤ a2 then K μ a2 else (z_rd μ 244 2648 (a2 + 331)).bind fun v6 => if z_inb a2 2648 = true then R (z_u μ 244 a2.toNatClampNeg v6) (a2 + 1) else none
def pm_kept_L33 : Nat → Int32 → (z_Mem → Int32 → Option (Int32 × z_Mem)) → z_Mem → Int32 → Option (Int32 × z_Mem)
  | 0 => fun _ _ _ _ => none
  | n + 1 => fun f1 K μ a2 => pm_kept_L33_B (pm_kept_L33 n f1 K) f1 K μ a2
theorem pm_kept_L33_run  (f1 : Int32) (K : z_Mem → Int32 → Option (Int32 × z_Mem))  (D : Nat) (hD : 1 ≤ D) (hK : ∀ (μ : z_Mem) (a2 : Int32) (r : (Int32 × z_Mem)), K μ a2 = some r → Rn D 168 62 [(0, .ref 241), (1, .int f1), (2, .int a2)] [] μ (.inl (some (.int r.1))) r.2) : ∀ (n : Nat) (μ : z_Mem) (a2 : Int32) (r : (Int32 × z_Mem)), pm_kept_L33 n f1 K μ a2 = some r → Rn D 168 33 [(0, .ref 241), (1, .int f1), (2, .int a2)] [] μ (.inl (some (.int r.1))) r.2 := by
  intro n
  induction n with
  | zero => intro μ a2 r h; cases h
  | succ n ih =>
    intro μ a2 r h
    have h : pm_kept_L33_B (pm_kept_L33 n f1 K) f1 K μ a2 = some r := h
    unfold pm_kept_L33_B at h
    refine R_pure (pc := 33) (pc' := 34) (st' := [.int a2]) (show z_pt 168 33 = some (3, .iload_n 2, []) by decide +kernel) rfl (fun _ _ _ => rfl) ?_
    refine R_const (pc := 34) (pc' := 37) (v := 2317) (show z_ptc 168 34 = some (37, 2317) by decide +kernel) ?_
    refine R_icmge (pc := 37) (t := 62) (show z_pt 168 37 = some (3, .if_icmp .ge 25, []) by decide +kernel) (by decide) (fun c5 => ?_) (fun c5 => ?_)
    · rw [if_pos c5] at h
      exact hK _ _  _ h
    · rw [if_neg c5] at h
      refine R_pure (pc := 40) (pc' := 41) (st' := [.ref 241]) (show z_pt 168 40 = some (3, .aload_n 0, []) by decide +kernel) rfl (fun _ _ _ => rfl) ?_
      refine R_getR (pc := 41) (a := 241) (b := 244) (show z_pt 168 41 = some (3, .getfield 16, [10, 2, 6120]) by decide +kernel) (by decide +kernel) ?_
      refine R_at (pc := 44) ?_
      refine R_pure (pc := 44) (pc' := 45) (st' := [.int a2, .ref 244]) (show z_pt 168 44 = some (3, .iload_n 2, []) by decide +kernel) rfl (fun _ _ _ => rfl) ?_
      refine R_pure (pc := 45) (pc' := 46) (st' := [.ref 241, .int a2, .ref 244]) (show z_pt 168 45 = some (3, .aload_n 0, []) by decide +kernel) rfl (fun _ _ _ => rfl) ?_
      refine R_getR (pc := 46) (a := 241) (b := 244) (show z_pt 168 46 = some (3, .getfield 16, [10, 2, 6120]) by decide +kernel) (by decide +kernel) ?_
      refine R_at (pc := 49) ?_
      refine R_pure (pc := 49) (pc' := 50) (st' := [.int a2, .ref 244, .int a2, .ref 244]) (show z_pt 168 49 = some (3, .iload_n 2, []) by decide +kernel) rfl (fun _ _ _ => rfl) ?_
      refine R_const (pc := 50) (pc' := 53) (v := 331) (show z_ptc 168 50 = some (53, 331) by decide +kernel) ?_
      refine R_pure (pc := 53) (pc' := 54) (st' := [.int (a2 + 331), .ref 244, .int a2, .ref 244]) (show z_pt 168 53 = some (3, .iadd, []) by decide +kernel) rfl (fun _ _ _ => rfl) ?_
      obtain ⟨v6, e7, h⟩ := z_bs h
      refine R_ialdR (pc := 54) (a := 244) (n := 2648) (show z_pt 168 54 = some (3, .iaload, []) by decide +kernel) (show z_ar 244 0 2648 = true by decide +kernel) e7 ?_
      refine R_at (pc := 55) ?_
      obtain ⟨g8, h⟩ := z_ig h
      refine R_iast (pc := 55) (a := 244) (n := 2648) (show z_pt 168 55 = some (3, .iastore, []) by decide +kernel) (show z_ar 244 0 2648 = true by decide +kernel) g8 ?_
      refine R_at (pc := 56) ?_
      refine R_inc (pc := 56) (pc' := 59) (ls' := [(0, .ref 241), (1, .int f1), (2, .int (a2 + 1))]) (c := 1) (show z_pt 168 56 = some (3, .iinc 2 1, []) by decide +kernel) (by decide) rfl rfl ?_
      refine R_pure (pc := 59) (pc' := 33) (ls' := [(0, .ref 241), (1, .int f1), (2, .int (a2 + 1))]) (st' := []) (show z_pt 168 59 = some (3, .goto (-26), [3]) by decide +kernel) rfl (fun _ _ _ => rfl) ?_
      exact ih _ _ _  h
def pm_kept  (μ : z_Mem) (i1 : Int32) : Option (Int32 × z_Mem) := if (μ 241 12) = 0 then if (μ 241 3) = 8 then pm_kept_L33 z_fu i1 (fun M10 k9 => (pm_copy 243 331 244 2648 (z_u M10 241 3 ((M10 241 3) - 1)) 0 (((z_u M10 241 3 ((M10 241 3) - 1)) 241 3) * 331)).bind fun q11 => some (i1, (z_u q11 241 3 ((q11 241 3) + 1)))) μ 0 else (pm_copy 243 331 244 2648 μ 0 ((μ 241 3) * 331)).bind fun q3 => some (i1, (z_u q3 241 3 ((q3 241 3) + 1))) else (pm_copy 243 331 242 331 μ 0 0).bind fun q13 => some (0, q13)
theorem pm_kept_run  {μ : z_Mem} {i1 : Int32}  {r : (Int32 × z_Mem)} (h : pm_kept μ i1 = some r) : Rn 1 168 0 [(0, .ref 241), (1, .int i1)] [] μ (.inl (some (.int r.1))) r.2 := by
  unfold pm_kept at h
  refine R_pure (pc := 0) (pc' := 1) (st' := [.ref 241]) (show z_pt 168 0 = some (3, .aload_n 0, []) by decide +kernel) rfl (fun _ _ _ => rfl) ?_
  refine R_getI (pc := 1) (a := 241) (show z_pt 168 1 = some (3, .getfield 45, [10, 12, 6130]) by decide +kernel) (by decide +kernel) ?_
  refine R_at (pc := 4) ?_
  refine R_ifeq (pc := 4) (t := 22) (show z_pt 168 4 = some (3, .ifCond .eq 18, []) by decide +kernel) (by decide) (fun c1 => ?_) (fun c1 => ?_)
  · rw [if_pos c1] at h
    refine R_pure (pc := 22) (pc' := 23) (st' := [.ref 241]) (show z_pt 168 22 = some (3, .aload_n 0, []) by decide +kernel) rfl (fun _ _ _ => rfl) ?_
    refine R_getI (pc := 23) (a := 241) (show z_pt 168 23 = some (3, .getfield 52, [10, 3, 6121]) by decide +kernel) (by decide +kernel) ?_
    refine R_at (pc := 26) ?_
    refine R_const (pc := 26) (pc' := 28) (v := 8) (show z_ptc 168 26 = some (28, 8) by decide +kernel) ?_
    refine R_icmne (pc := 28) (t := 72) (show z_pt 168 28 = some (3, .if_icmp .ne 44, []) by decide +kernel) (by decide) (fun c2 => ?_) (fun c2 => ?_)
    · rw [if_neg c2] at h
      refine R_pure (pc := 72) (pc' := 73) (st' := [.ref 241]) (show z_pt 168 72 = some (3, .aload_n 0, []) by decide +kernel) rfl (fun _ _ _ => rfl) ?_
      refine R_getR (pc := 73) (a := 241) (b := 243) (show z_pt 168 73 = some (3, .getfield 13, [10, 1, 6119]) by decide +kernel) (by decide +kernel) ?_
      refine R_at (pc := 76) ?_
      refine R_const (pc := 76) (pc' := 77) (v := 0) (show z_ptc 168 76 = some (77, 0) by decide +kernel) ?_
      refine R_pure (pc := 77) (pc' := 78) (st' := [.ref 241, .int 0, .ref 243]) (show z_pt 168 77 = some (3, .aload_n 0, []) by decide +kernel) rfl (fun _ _ _ => rfl) ?_
      refine R_getR (pc := 78) (a := 241) (b := 244) (show z_pt 168 78 = some (3, .getfield 16, [10, 2, 6120]) by decide +kernel) (by decide +kernel) ?_
      refine R_at (pc := 81) ?_
      refine R_pure (pc := 81) (pc' := 82) (st' := [.ref 241, .ref 244, .int 0, .ref 243]) (show z_pt 168 81 = some (3, .aload_n 0, []) by decide +kernel) rfl (fun _ _ _ => rfl) ?_
      refine R_getI (pc := 82) (a := 241) (show z_pt 168 82 = some (3, .getfield 52, [10, 3, 6121]) by decide +kernel) (by decide +kernel) ?_
      refine R_at (pc := 85) ?_
      refine R_const (pc := 85) (pc' := 88) (v := 331) (show z_ptc 168 85 = some (88, 331) by decide +kernel) ?_
      refine R_pure (pc := 88) (pc' := 89) (st' := [.int ((μ 241 3) * 331), .ref 244, .int 0, .ref 243]) (show z_pt 168 88 = some (3, .imul, []) by decide +kernel) rfl (fun _ _ _ => rfl) ?_
      obtain ⟨q3, e4, h⟩ := z_bs h
      refine R_call (pc := 89) (rr := []) (show z_pt 168 89 = some (3, .invokestatic 48, [1, 166, 4, 6185, 6186, 0, 1012, 6187]) by decide +kernel) rfl (show z_r2 166 = some (10, 5, true) by decide +kernel) rfl rfl (Or.inl (by decide)) (pm_copy_run (show z_ar 243 0 331 = true by decide +kernel) (show z_ar 244 0 2648 = true by decide +kernel) e4) (by omega) ?_
      refine R_at2 (pc := 92) (st := []) ?_
      refine R_pure (pc := 92) (pc' := 93) (st' := [.ref 241]) (show z_pt 168 92 = some (3, .aload_n 0, []) by decide +kernel) rfl (fun _ _ _ => rfl) ?_
      refine R_pure (pc := 93) (pc' := 94) (st' := [.ref 241, .ref 241]) (show z_pt 168 93 = some (3, .dup, []) by decide +kernel) rfl (fun _ _ _ => rfl) ?_
      refine R_getI (pc := 94) (a := 241) (show z_pt 168 94 = some (3, .getfield 52, [10, 3, 6121]) by decide +kernel) (by decide +kernel) ?_
      refine R_at (pc := 97) ?_
      refine R_const (pc := 97) (pc' := 98) (v := 1) (show z_ptc 168 97 = some (98, 1) by decide +kernel) ?_
      refine R_pure (pc := 98) (pc' := 99) (st' := [.int ((q3 241 3) + 1), .ref 241]) (show z_pt 168 98 = some (3, .iadd, []) by decide +kernel) rfl (fun _ _ _ => rfl) ?_
      refine R_putI (pc := 99) (a := 241) (show z_pt 168 99 = some (3, .putfield 52, [10, 3, 6121]) by decide +kernel) (by decide +kernel) ⟨rfl, rfl⟩ ?_
      refine R_at (pc := 102) ?_
      refine R_pure (pc := 102) (pc' := 103) (st' := [.int i1]) (show z_pt 168 102 = some (3, .iload_n 1, []) by decide +kernel) rfl (fun _ _ _ => rfl) ?_
      cases h
      exact R_retI (show z_pt 168 103 = some (3, .ireturn, []) by decide +kernel) (by decide +kernel)
    · rw [if_pos c2] at h
      refine R_const (pc := 31) (pc' := 32) (v := 0) (show z_ptc 168 31 = some (32, 0) by decide +kernel) ?_
      refine R_pure (pc := 32) (pc' := 33) (ls' := [(0, .ref 241), (1, .int i1), (2, .int 0)]) (st' := []) (show z_pt 168 32 = some (3, .istore_n 2, []) by decide +kernel) rfl (fun _ _ _ => rfl) ?_
      refine pm_kept_L33_run  _ _  _ (by omega) ?_ _ _ _ _ h
      intro M10 k9 r h
      refine R_pure (pc := 62) (pc' := 63) (st' := [.ref 241]) (show z_pt 168 62 = some (3, .aload_n 0, []) by decide +kernel) rfl (fun _ _ _ => rfl) ?_
      refine R_pure (pc := 63) (pc' := 64) (st' := [.ref 241, .ref 241]) (show z_pt 168 63 = some (3, .dup, []) by decide +kernel) rfl (fun _ _ _ => rfl) ?_
      refine R_getI (pc := 64) (a := 241) (show z_pt 168 64 = some (3, .getfield 52, [10, 3, 6121]) by decide +kernel) (by decide +kernel) ?_
      refine R_at (pc := 67) ?_
      refine R_const (pc := 67) (pc' := 68) (v := 1) (show z_ptc 168 67 = some (68, 1) by decide +kernel) ?_
      refine R_pure (pc := 68) (pc' := 69) (st' := [.int ((M10 241 3) - 1), .ref 241]) (show z_pt 168 68 = some (3, .isub, []) by decide +kernel) rfl (fun _ _ _ => rfl) ?_
      refine R_putI (pc := 69) (a := 241) (show z_pt 168 69 = some (3, .putfield 52, [10, 3, 6121]) by decide +kernel) (by decide +kernel) ⟨rfl, rfl⟩ ?_
      refine R_at (pc := 72) ?_
      refine R_pure (pc := 72) (pc' := 73) (st' := [.ref 241]) (show z_pt 168 72 = some (3, .aload_n 0, []) by decide +kernel) rfl (fun _ _ _ => rfl) ?_
      refine R_getR (pc := 73) (a := 241) (b := 243) (show z_pt 168 73 = some (3, .getfield 13, [10, 1, 6119]) by decide +kernel) (by decide +kernel) ?_
      refine R_at (pc := 76) ?_
      refine R_const (pc := 76) (pc' := 77) (v := 0) (show z_ptc 168 76 = some (77, 0) by decide +kernel) ?_
      refine R_pure (pc := 77) (pc' := 78) (st' := [.ref 241, .int 0, .ref 243]) (show z_pt 168 77 = some (3, .aload_n 0, []) by decide +kernel) rfl (fun _ _ _ => rfl) ?_
      refine R_getR (pc := 78) (a := 241) (b := 244) (show z_pt 168 78 = some (3, .getfield 16, [10, 2, 6120]) by decide +kernel) (by decide +kernel) ?_
      refine R_at (pc := 81) ?_
      refine R_pure (pc := 81) (pc' := 82) (st' := [.ref 241, .ref 244, .int 0, .ref 243]) (show z_pt 168 81 = some (3, .aload_n 0, []) by decide +kernel) rfl (fun _ _ _ => rfl) ?_
      refine R_getI (pc := 82) (a := 241) (show z_pt 168 82 = some (3, .getfield 52, [10, 3, 6121]) by decide +kernel) (by decide +kernel) ?_
      refine R_at (pc := 85) ?_
      refine R_const (pc := 85) (pc' := 88) (v := 331) (show z_ptc 168 85 = some (88, 331) by decide +kernel) ?_
      refine R_pure (pc := 88) (pc' := 89) (st' := [.int (((z_u M10 241 3 ((M10 241 3) - 1)) 241 3) * 331), .ref 244, .int 0, .ref 243]) (show z_pt 168 88 = some (3, .imul, []) by decide +kernel) rfl (fun _ _ _ => rfl) ?_
      obtain ⟨q11, e12, h⟩ := z_bs h
      refine R_call (pc := 89) (rr := []) (show z_pt 168 89 = some (3, .invokestatic 48, [1, 166, 4, 6185, 6186, 0, 1012, 6187]) by decide +kernel) rfl (show z_r2 166 = some (10, 5, true) by decide +kernel) rfl rfl (Or.inl (by decide)) (pm_copy_run (show z_ar 243 0 331 = true by decide +kernel) (show z_ar 244 0 2648 = true by decide +kernel) e12) (by omega) ?_
      refine R_at2 (pc := 92) (st := []) ?_
      refine R_pure (pc := 92) (pc' := 93) (st' := [.ref 241]) (show z_pt 168 92 = some (3, .aload_n 0, []) by decide +kernel) rfl (fun _ _ _ => rfl) ?_
      refine R_pure (pc := 93) (pc' := 94) (st' := [.ref 241, .ref 241]) (show z_pt 168 93 = some (3, .dup, []) by decide +kernel) rfl (fun _ _ _ => rfl) ?_
      refine R_getI (pc := 94) (a := 241) (show z_pt 168 94 = some (3, .getfield 52, [10, 3, 6121]) by decide +kernel) (by decide +kernel) ?_
      refine R_at (pc := 97) ?_
      refine R_const (pc := 97) (pc' := 98) (v := 1) (show z_ptc 168 97 = some (98, 1) by decide +kernel) ?_
      refine R_pure (pc := 98) (pc' := 99) (st' := [.int ((q11 241 3) + 1), .ref 241]) (show z_pt 168 98 = some (3, .iadd, []) by decide +kernel) rfl (fun _ _ _ => rfl) ?_
      refine R_putI (pc := 99) (a := 241) (show z_pt 168 99 = some (3, .putfield 52, [10, 3, 6121]) by decide +kernel) (by decide +kernel) ⟨rfl, rfl⟩ ?_
      refine R_at (pc := 102) ?_
      refine R_pure (pc := 102) (pc' := 103) (st' := [.int i1]) (show z_pt 168 102 = some (3, .iload_n 1, []) by decide +kernel) rfl (fun _ _ _ => rfl) ?_
      cases h
      exact R_retI (show z_pt 168 103 = some (3, .ireturn, []) by decide +kernel) (by decide +kernel)
  · rw [if_neg c1] at h
    refine R_pure (pc := 7) (pc' := 8) (st' := [.ref 241]) (show z_pt 168 7 = some (3, .aload_n 0, []) by decide +kernel) rfl (fun _ _ _ => rfl) ?_
    refine R_getR (pc := 8) (a := 241) (b := 243) (show z_pt 168 8 = some (3, .getfield 13, [10, 1, 6119]) by decide +kernel) (by decide +kernel) ?_
    refine R_at (pc := 11) ?_
    refine R_const (pc := 11) (pc' := 12) (v := 0) (show z_ptc 168 11 = some (12, 0) by decide +kernel) ?_
    refine R_pure (pc := 12) (pc' := 13) (st' := [.ref 241, .int 0, .ref 243]) (show z_pt 168 12 = some (3, .aload_n 0, []) by decide +kernel) rfl (fun _ _ _ => rfl) ?_
    refine R_getR (pc := 13) (a := 241) (b := 242) (show z_pt 168 13 = some (3, .getfield 7, [10, 0, 6118]) by decide +kernel) (by decide +kernel) ?_
    refine R_at (pc := 16) ?_
    refine R_const (pc := 16) (pc' := 17) (v := 0) (show z_ptc 168 16 = some (17, 0) by decide +kernel) ?_
    obtain ⟨q13, e14, h⟩ := z_bs h
    refine R_call (pc := 17) (rr := []) (show z_pt 168 17 = some (3, .invokestatic 48, [1, 166, 4, 6185, 6186, 0, 1012, 6187]) by decide +kernel) rfl (show z_r2 166 = some (10, 5, true) by decide +kernel) rfl rfl (Or.inl (by decide)) (pm_copy_run (show z_ar 243 0 331 = true by decide +kernel) (show z_ar 242 0 331 = true by decide +kernel) e14) (by omega) ?_
    refine R_at2 (pc := 20) (st := []) ?_
    refine R_const (pc := 20) (pc' := 21) (v := 0) (show z_ptc 168 20 = some (21, 0) by decide +kernel) ?_
    cases h
    exact R_retI (show z_pt 168 21 = some (3, .ireturn, []) by decide +kernel) (by decide +kernel)
def pm_isGear  (μ : z_Mem) (i1 : Int32) : Option Int32 := (pm_in μ i1 0 ((μ 242 0) - 1)).bind fun q1 => if vp_nar .boolean q1 = q1 then some q1 else none
theorem pm_isGear_run  {μ : z_Mem} {i1 : Int32}  {r : Int32} (h : pm_isGear μ i1 = some r) : Rn 1 169 0 [(0, .ref 241), (1, .int i1)] [] μ (.inl (some (.int r))) μ := by
  unfold pm_isGear at h
  refine R_pure (pc := 0) (pc' := 1) (st' := [.int i1]) (show z_pt 169 0 = some (2, .iload_n 1, []) by decide +kernel) rfl (fun _ _ _ => rfl) ?_
  refine R_const (pc := 1) (pc' := 2) (v := 0) (show z_ptc 169 1 = some (2, 0) by decide +kernel) ?_
  refine R_pure (pc := 2) (pc' := 3) (st' := [.ref 241, .int 0, .int i1]) (show z_pt 169 2 = some (2, .aload_n 0, []) by decide +kernel) rfl (fun _ _ _ => rfl) ?_
  refine R_getR (pc := 3) (a := 241) (b := 242) (show z_pt 169 3 = some (2, .getfield 7, [10, 0, 6118]) by decide +kernel) (by decide +kernel) ?_
  refine R_at (pc := 6) ?_
  refine R_const (pc := 6) (pc' := 7) (v := 0) (show z_ptc 169 6 = some (7, 0) by decide +kernel) ?_
  refine R_ialdK (pc := 7) (a := 242) (n := 331) (jn := 0) (show z_pt 169 7 = some (2, .iaload, []) by decide +kernel) (show z_ar 242 0 331 = true by decide +kernel) (by decide) (by decide) ?_
  refine R_at (pc := 8) ?_
  refine R_const (pc := 8) (pc' := 9) (v := 1) (show z_ptc 169 8 = some (9, 1) by decide +kernel) ?_
  refine R_pure (pc := 9) (pc' := 10) (st' := [.int ((μ 242 0) - 1), .int 0, .int i1]) (show z_pt 169 9 = some (2, .isub, []) by decide +kernel) rfl (fun _ _ _ => rfl) ?_
  obtain ⟨q1, e2, h⟩ := z_bs h
  refine R_call (pc := 10) (rr := []) (show z_pt 169 10 = some (2, .invokestatic 55, [1, 160, 3, 6192, 6193, 0, 1012, 6194]) by decide +kernel) rfl (show z_r2 160 = some (10, 3, true) by decide +kernel) rfl rfl (Or.inl (by decide)) (pm_in_run  e2) (by omega) ?_
  refine R_at2 (pc := 13) (st := [.int q1]) ?_
  obtain ⟨g3, h⟩ := z_ig h
  cases h
  exact R_retZ (show z_pt 169 13 = some (2, .ireturn, []) by decide +kernel) (t := .boolean) (by decide +kernel) (z_nrZ g3)
def pm_areGears  (μ : z_Mem) (i1 : Int32) (i2 : Int32) : Option Int32 := (pm_isGear μ i1).bind fun q1 => if q1 = 0 then some 0 else (pm_isGear μ i2).bind fun q4 => if q4 = 0 then some 0 else some 1
theorem pm_areGears_run  {μ : z_Mem} {i1 : Int32} {i2 : Int32}  {r : Int32} (h : pm_areGears μ i1 i2 = some r) : Rn 2 170 0 [(0, .ref 241), (1, .int i1), (2, .int i2)] [] μ (.inl (some (.int r))) μ := by
  unfold pm_areGears at h
  refine R_pure (pc := 0) (pc' := 1) (st' := [.ref 241]) (show z_pt 170 0 = some (3, .aload_n 0, []) by decide +kernel) rfl (fun _ _ _ => rfl) ?_
  refine R_pure (pc := 1) (pc' := 2) (st' := [.int i1, .ref 241]) (show z_pt 170 1 = some (3, .iload_n 1, []) by decide +kernel) rfl (fun _ _ _ => rfl) ?_
  obtain ⟨q1, e2, h⟩ := z_bs h
  refine R_call (pc := 2) (rr := []) (show z_pt 170 2 = some (3, .invokevirtual 59, [0, 169, 1, 6219, 6221, 41, 1012, 6222]) by decide +kernel) rfl (show z_r2 169 = some (10, 2, true) by decide +kernel) rfl rfl (Or.inr ⟨_, _, rfl, (by decide +kernel)⟩) (pm_isGear_run  e2) (by omega) ?_
  refine R_at2 (pc := 5) (st := [.int q1]) ?_
  refine R_ifeq (pc := 5) (t := 20) (show z_pt 170 5 = some (3, .ifCond .eq 15, []) by decide +kernel) (by decide) (fun c3 => ?_) (fun c3 => ?_)
  · rw [if_pos c3] at h
    refine R_const (pc := 20) (pc' := 21) (v := 0) (show z_ptc 170 20 = some (21, 0) by decide +kernel) ?_
    cases h
    exact R_retZ (show z_pt 170 21 = some (3, .ireturn, []) by decide +kernel) (t := .boolean) (by decide +kernel) (by decide)
  · rw [if_neg c3] at h
    refine R_pure (pc := 8) (pc' := 9) (st' := [.ref 241]) (show z_pt 170 8 = some (3, .aload_n 0, []) by decide +kernel) rfl (fun _ _ _ => rfl) ?_
    refine R_pure (pc := 9) (pc' := 10) (st' := [.int i2, .ref 241]) (show z_pt 170 9 = some (3, .iload_n 2, []) by decide +kernel) rfl (fun _ _ _ => rfl) ?_
    obtain ⟨q4, e5, h⟩ := z_bs h
    refine R_call (pc := 10) (rr := []) (show z_pt 170 10 = some (3, .invokevirtual 59, [0, 169, 1, 6219, 6221, 41, 1012, 6222]) by decide +kernel) rfl (show z_r2 169 = some (10, 2, true) by decide +kernel) rfl rfl (Or.inr ⟨_, _, rfl, (by decide +kernel)⟩) (pm_isGear_run  e5) (by omega) ?_
    refine R_at2 (pc := 13) (st := [.int q4]) ?_
    refine R_ifeq (pc := 13) (t := 20) (show z_pt 170 13 = some (3, .ifCond .eq 7, []) by decide +kernel) (by decide) (fun c6 => ?_) (fun c6 => ?_)
    · rw [if_pos c6] at h
      refine R_const (pc := 20) (pc' := 21) (v := 0) (show z_ptc 170 20 = some (21, 0) by decide +kernel) ?_
      cases h
      exact R_retZ (show z_pt 170 21 = some (3, .ireturn, []) by decide +kernel) (t := .boolean) (by decide +kernel) (by decide)
    · rw [if_neg c6] at h
      refine R_const (pc := 16) (pc' := 17) (v := 1) (show z_ptc 170 16 = some (17, 1) by decide +kernel) ?_
      refine R_pure (pc := 17) (pc' := 21) (show z_pt 170 17 = some (3, .goto 4, []) by decide +kernel) rfl (fun _ _ _ => rfl) ?_
      cases h
      exact R_retZ (show z_pt 170 21 = some (3, .ireturn, []) by decide +kernel) (t := .boolean) (by decide +kernel) (by decide)
def pm_isWheel  (μ : z_Mem) (i1 : Int32) : Option Int32 := (pm_in μ i1 0 ((μ 242 1) - 1)).bind fun q1 => if vp_nar .boolean q1 = q1 then some q1 else none
theorem pm_isWheel_run  {μ : z_Mem} {i1 : Int32}  {r : Int32} (h : pm_isWheel μ i1 = some r) : Rn 1 171 0 [(0, .ref 241), (1, .int i1)] [] μ (.inl (some (.int r))) μ := by
  unfold pm_isWheel at h
  refine R_pure (pc := 0) (pc' := 1) (st' := [.int i1]) (show z_pt 171 0 = some (2, .iload_n 1, []) by decide +kernel) rfl (fun _ _ _ => rfl) ?_
  refine R_const (pc := 1) (pc' := 2) (v := 0) (show z_ptc 171 1 = some (2, 0) by decide +kernel) ?_
  refine R_pure (pc := 2) (pc' := 3) (st' := [.ref 241, .int 0, .int i1]) (show z_pt 171 2 = some (2, .aload_n 0, []) by decide +kernel) rfl (fun _ _ _ => rfl) ?_
  refine R_getR (pc := 3) (a := 241) (b := 242) (show z_pt 171 3 = some (2, .getfield 7, [10, 0, 6118]) by decide +kernel) (by decide +kernel) ?_
  refine R_at (pc := 6) ?_
  refine R_const (pc := 6) (pc' := 7) (v := 1) (show z_ptc 171 6 = some (7, 1) by decide +kernel) ?_
  refine R_ialdK (pc := 7) (a := 242) (n := 331) (jn := 1) (show z_pt 171 7 = some (2, .iaload, []) by decide +kernel) (show z_ar 242 0 331 = true by decide +kernel) (by decide) (by decide) ?_
  refine R_at (pc := 8) ?_
  refine R_const (pc := 8) (pc' := 9) (v := 1) (show z_ptc 171 8 = some (9, 1) by decide +kernel) ?_
  refine R_pure (pc := 9) (pc' := 10) (st' := [.int ((μ 242 1) - 1), .int 0, .int i1]) (show z_pt 171 9 = some (2, .isub, []) by decide +kernel) rfl (fun _ _ _ => rfl) ?_
  obtain ⟨q1, e2, h⟩ := z_bs h
  refine R_call (pc := 10) (rr := []) (show z_pt 171 10 = some (2, .invokestatic 55, [1, 160, 3, 6192, 6193, 0, 1012, 6194]) by decide +kernel) rfl (show z_r2 160 = some (10, 3, true) by decide +kernel) rfl rfl (Or.inl (by decide)) (pm_in_run  e2) (by omega) ?_
  refine R_at2 (pc := 13) (st := [.int q1]) ?_
  obtain ⟨g3, h⟩ := z_ig h
  cases h
  exact R_retZ (show z_pt 171 13 = some (2, .ireturn, []) by decide +kernel) (t := .boolean) (by decide +kernel) (z_nrZ g3)
def pm_pair  (μ : z_Mem) (i0 : Int32) (i1 : Int32) : Option Int32 := if i1 ≤ i0 then some ((10 * i1) + i0) else some ((10 * i0) + i1)
theorem pm_pair_run  {μ : z_Mem} {i0 : Int32} {i1 : Int32}  {r : Int32} (h : pm_pair μ i0 i1 = some r) : Rn 0 172 0 [(0, .int i0), (1, .int i1)] [] μ (.inl (some (.int r))) μ := by
  unfold pm_pair at h
  refine R_pure (pc := 0) (pc' := 1) (st' := [.int i0]) (show z_pt 172 0 = some (2, .iload_n 0, []) by decide +kernel) rfl (fun _ _ _ => rfl) ?_
  refine R_pure (pc := 1) (pc' := 2) (st' := [.int i1, .int i0]) (show z_pt 172 1 = some (2, .iload_n 1, []) by decide +kernel) rfl (fun _ _ _ => rfl) ?_
  refine R_icmge (pc := 2) (t := 14) (show z_pt 172 2 = some (2, .if_icmp .ge 12, []) by decide +kernel) (by decide) (fun c1 => ?_) (fun c1 => ?_)
  · rw [if_pos c1] at h
    refine R_const (pc := 14) (pc' := 16) (v := 10) (show z_ptc 172 14 = some (16, 10) by decide +kernel) ?_
    refine R_pure (pc := 16) (pc' := 17) (st' := [.int i1, .int 10]) (show z_pt 172 16 = some (2, .iload_n 1, []) by decide +kernel) rfl (fun _ _ _ => rfl) ?_
    refine R_pure (pc := 17) (pc' := 18) (st' := [.int (10 * i1)]) (show z_pt 172 17 = some (2, .imul, []) by decide +kernel) rfl (fun _ _ _ => rfl) ?_
    refine R_pure (pc := 18) (pc' := 19) (st' := [.int i0, .int (10 * i1)]) (show z_pt 172 18 = some (2, .iload_n 0, []) by decide +kernel) rfl (fun _ _ _ => rfl) ?_
    refine R_pure (pc := 19) (pc' := 20) (st' := [.int ((10 * i1) + i0)]) (show z_pt 172 19 = some (2, .iadd, []) by decide +kernel) rfl (fun _ _ _ => rfl) ?_
    cases h
    exact R_retI (show z_pt 172 20 = some (2, .ireturn, []) by decide +kernel) (by decide +kernel)
  · rw [if_neg c1] at h
    refine R_const (pc := 5) (pc' := 7) (v := 10) (show z_ptc 172 5 = some (7, 10) by decide +kernel) ?_
    refine R_pure (pc := 7) (pc' := 8) (st' := [.int i0, .int 10]) (show z_pt 172 7 = some (2, .iload_n 0, []) by decide +kernel) rfl (fun _ _ _ => rfl) ?_
    refine R_pure (pc := 8) (pc' := 9) (st' := [.int (10 * i0)]) (show z_pt 172 8 = some (2, .imul, []) by decide +kernel) rfl (fun _ _ _ => rfl) ?_
    refine R_pure (pc := 9) (pc' := 10) (st' := [.int i1, .int (10 * i0)]) (show z_pt 172 9 = some (2, .iload_n 1, []) by decide +kernel) rfl (fun _ _ _ => rfl) ?_
    refine R_pure (pc := 10) (pc' := 11) (st' := [.int ((10 * i0) + i1)]) (show z_pt 172 10 = some (2, .iadd, []) by decide +kernel) rfl (fun _ _ _ => rfl) ?_
    refine R_pure (pc := 11) (pc' := 20) (show z_pt 172 11 = some (2, .goto 9, []) by decide +kernel) rfl (fun _ _ _ => rfl) ?_
    cases h
    exact R_retI (show z_pt 172 20 = some (2, .ireturn, []) by decide +kernel) (by decide +kernel)
def pm_isMesh  (μ : z_Mem) (i1 : Int32) (i2 : Int32) : Option Int32 := if i1 = i2 then some 0 else (pm_pair μ i1 i2).bind fun q2 => (z_rd μ 242 331 (27 + q2)).bind fun v4 => if v4 ≤ 0 then some 0 else some 1
theorem pm_isMesh_run  {μ : z_Mem} {i1 : Int32} {i2 : Int32}  {r : Int32} (h : pm_isMesh μ i1 i2 = some r) : Rn 1 173 0 [(0, .ref 241), (1, .int i1), (2, .int i2)] [] μ (.inl (some (.int r))) μ := by
  unfold pm_isMesh at h
  refine R_pure (pc := 0) (pc' := 1) (st' := [.int i1]) (show z_pt 173 0 = some (3, .iload_n 1, []) by decide +kernel) rfl (fun _ _ _ => rfl) ?_
  refine R_pure (pc := 1) (pc' := 2) (st' := [.int i2, .int i1]) (show z_pt 173 1 = some (3, .iload_n 2, []) by decide +kernel) rfl (fun _ _ _ => rfl) ?_
  refine R_icmeq (pc := 2) (t := 25) (show z_pt 173 2 = some (3, .if_icmp .eq 23, []) by decide +kernel) (by decide) (fun c1 => ?_) (fun c1 => ?_)
  · rw [if_pos c1] at h
    refine R_const (pc := 25) (pc' := 26) (v := 0) (show z_ptc 173 25 = some (26, 0) by decide +kernel) ?_
    cases h
    exact R_retZ (show z_pt 173 26 = some (3, .ireturn, []) by decide +kernel) (t := .boolean) (by decide +kernel) (by decide)
  · rw [if_neg c1] at h
    refine R_pure (pc := 5) (pc' := 6) (st' := [.ref 241]) (show z_pt 173 5 = some (3, .aload_n 0, []) by decide +kernel) rfl (fun _ _ _ => rfl) ?_
    refine R_getR (pc := 6) (a := 241) (b := 242) (show z_pt 173 6 = some (3, .getfield 7, [10, 0, 6118]) by decide +kernel) (by decide +kernel) ?_
    refine R_at (pc := 9) ?_
    refine R_const (pc := 9) (pc' := 11) (v := 27) (show z_ptc 173 9 = some (11, 27) by decide +kernel) ?_
    refine R_pure (pc := 11) (pc' := 12) (st' := [.int i1, .int 27, .ref 242]) (show z_pt 173 11 = some (3, .iload_n 1, []) by decide +kernel) rfl (fun _ _ _ => rfl) ?_
    refine R_pure (pc := 12) (pc' := 13) (st' := [.int i2, .int i1, .int 27, .ref 242]) (show z_pt 173 12 = some (3, .iload_n 2, []) by decide +kernel) rfl (fun _ _ _ => rfl) ?_
    obtain ⟨q2, e3, h⟩ := z_bs h
    refine R_call (pc := 13) (rr := [.int 27, .ref 242]) (show z_pt 173 13 = some (3, .invokestatic 63, [1, 172, 2, 6235, 6236, 0, 1012, 6237]) by decide +kernel) rfl (show z_r2 172 = some (10, 2, true) by decide +kernel) rfl rfl (Or.inl (by decide)) (pm_pair_run  e3) (by omega) ?_
    refine R_at2 (pc := 16) (st := [.int q2, .int 27, .ref 242]) ?_
    refine R_pure (pc := 16) (pc' := 17) (st' := [.int (27 + q2), .ref 242]) (show z_pt 173 16 = some (3, .iadd, []) by decide +kernel) rfl (fun _ _ _ => rfl) ?_
    obtain ⟨v4, e5, h⟩ := z_bs h
    refine R_ialdR (pc := 17) (a := 242) (n := 331) (show z_pt 173 17 = some (3, .iaload, []) by decide +kernel) (show z_ar 242 0 331 = true by decide +kernel) e5 ?_
    refine R_at (pc := 18) ?_
    refine R_ifle (pc := 18) (t := 25) (show z_pt 173 18 = some (3, .ifCond .le 7, []) by decide +kernel) (by decide) (fun c6 => ?_) (fun c6 => ?_)
    · rw [if_pos c6] at h
      refine R_const (pc := 25) (pc' := 26) (v := 0) (show z_ptc 173 25 = some (26, 0) by decide +kernel) ?_
      cases h
      exact R_retZ (show z_pt 173 26 = some (3, .ireturn, []) by decide +kernel) (t := .boolean) (by decide +kernel) (by decide)
    · rw [if_neg c6] at h
      refine R_const (pc := 21) (pc' := 22) (v := 1) (show z_ptc 173 21 = some (22, 1) by decide +kernel) ?_
      refine R_pure (pc := 22) (pc' := 26) (show z_pt 173 22 = some (3, .goto 4, []) by decide +kernel) rfl (fun _ _ _ => rfl) ?_
      cases h
      exact R_retZ (show z_pt 173 26 = some (3, .ireturn, []) by decide +kernel) (t := .boolean) (by decide +kernel) (by decide)
def pm_slackOf  (μ : z_Mem) (i1 : Int32) (i2 : Int32) : Option Int32 := (pm_pair μ i1 i2).bind fun q1 => (z_rd μ 242 331 (27 + q1)).bind fun v3 => some (v3 - 1)
theorem pm_slackOf_run  {μ : z_Mem} {i1 : Int32} {i2 : Int32}  {r : Int32} (h : pm_slackOf μ i1 i2 = some r) : Rn 1 174 0 [(0, .ref 241), (1, .int i1), (2, .int i2)] [] μ (.inl (some (.int r))) μ := by
  unfold pm_slackOf at h
  refine R_pure (pc := 0) (pc' := 1) (st' := [.ref 241]) (show z_pt 174 0 = some (3, .aload_n 0, []) by decide +kernel) rfl (fun _ _ _ => rfl) ?_
  refine R_getR (pc := 1) (a := 241) (b := 242) (show z_pt 174 1 = some (3, .getfield 7, [10, 0, 6118]) by decide +kernel) (by decide +kernel) ?_
  refine R_at (pc := 4) ?_
  refine R_const (pc := 4) (pc' := 6) (v := 27) (show z_ptc 174 4 = some (6, 27) by decide +kernel) ?_
  refine R_pure (pc := 6) (pc' := 7) (st' := [.int i1, .int 27, .ref 242]) (show z_pt 174 6 = some (3, .iload_n 1, []) by decide +kernel) rfl (fun _ _ _ => rfl) ?_
  refine R_pure (pc := 7) (pc' := 8) (st' := [.int i2, .int i1, .int 27, .ref 242]) (show z_pt 174 7 = some (3, .iload_n 2, []) by decide +kernel) rfl (fun _ _ _ => rfl) ?_
  obtain ⟨q1, e2, h⟩ := z_bs h
  refine R_call (pc := 8) (rr := [.int 27, .ref 242]) (show z_pt 174 8 = some (3, .invokestatic 63, [1, 172, 2, 6235, 6236, 0, 1012, 6237]) by decide +kernel) rfl (show z_r2 172 = some (10, 2, true) by decide +kernel) rfl rfl (Or.inl (by decide)) (pm_pair_run  e2) (by omega) ?_
  refine R_at2 (pc := 11) (st := [.int q1, .int 27, .ref 242]) ?_
  refine R_pure (pc := 11) (pc' := 12) (st' := [.int (27 + q1), .ref 242]) (show z_pt 174 11 = some (3, .iadd, []) by decide +kernel) rfl (fun _ _ _ => rfl) ?_
  obtain ⟨v3, e4, h⟩ := z_bs h
  refine R_ialdR (pc := 12) (a := 242) (n := 331) (show z_pt 174 12 = some (3, .iaload, []) by decide +kernel) (show z_ar 242 0 331 = true by decide +kernel) e4 ?_
  refine R_at (pc := 13) ?_
  refine R_const (pc := 13) (pc' := 14) (v := 1) (show z_ptc 174 13 = some (14, 1) by decide +kernel) ?_
  refine R_pure (pc := 14) (pc' := 15) (st' := [.int (v3 - 1)]) (show z_pt 174 14 = some (3, .isub, []) by decide +kernel) rfl (fun _ _ _ => rfl) ?_
  cases h
  exact R_retI (show z_pt 174 15 = some (3, .ireturn, []) by decide +kernel) (by decide +kernel)
def pm_gapOf  (μ : z_Mem) (i1 : Int32) (i2 : Int32) : Option Int32 := (pm_pair μ i1 i2).bind fun q1 => (z_rd μ 242 331 (127 + q1)).bind fun v3 => some v3
theorem pm_gapOf_run  {μ : z_Mem} {i1 : Int32} {i2 : Int32}  {r : Int32} (h : pm_gapOf μ i1 i2 = some r) : Rn 1 175 0 [(0, .ref 241), (1, .int i1), (2, .int i2)] [] μ (.inl (some (.int r))) μ := by
  unfold pm_gapOf at h
  refine R_pure (pc := 0) (pc' := 1) (st' := [.ref 241]) (show z_pt 175 0 = some (3, .aload_n 0, []) by decide +kernel) rfl (fun _ _ _ => rfl) ?_
  refine R_getR (pc := 1) (a := 241) (b := 242) (show z_pt 175 1 = some (3, .getfield 7, [10, 0, 6118]) by decide +kernel) (by decide +kernel) ?_
  refine R_at (pc := 4) ?_
  refine R_const (pc := 4) (pc' := 6) (v := 127) (show z_ptc 175 4 = some (6, 127) by decide +kernel) ?_
  refine R_pure (pc := 6) (pc' := 7) (st' := [.int i1, .int 127, .ref 242]) (show z_pt 175 6 = some (3, .iload_n 1, []) by decide +kernel) rfl (fun _ _ _ => rfl) ?_
  refine R_pure (pc := 7) (pc' := 8) (st' := [.int i2, .int i1, .int 127, .ref 242]) (show z_pt 175 7 = some (3, .iload_n 2, []) by decide +kernel) rfl (fun _ _ _ => rfl) ?_
  obtain ⟨q1, e2, h⟩ := z_bs h
  refine R_call (pc := 8) (rr := [.int 127, .ref 242]) (show z_pt 175 8 = some (3, .invokestatic 63, [1, 172, 2, 6235, 6236, 0, 1012, 6237]) by decide +kernel) rfl (show z_r2 172 = some (10, 2, true) by decide +kernel) rfl rfl (Or.inl (by decide)) (pm_pair_run  e2) (by omega) ?_
  refine R_at2 (pc := 11) (st := [.int q1, .int 127, .ref 242]) ?_
  refine R_pure (pc := 11) (pc' := 12) (st' := [.int (127 + q1), .ref 242]) (show z_pt 175 11 = some (3, .iadd, []) by decide +kernel) rfl (fun _ _ _ => rfl) ?_
  obtain ⟨v3, e4, h⟩ := z_bs h
  refine R_ialdR (pc := 12) (a := 242) (n := 331) (show z_pt 175 12 = some (3, .iaload, []) by decide +kernel) (show z_ar 242 0 331 = true by decide +kernel) e4 ?_
  refine R_at (pc := 13) ?_
  cases h
  exact R_retI (show z_pt 175 13 = some (3, .ireturn, []) by decide +kernel) (by decide +kernel)
end ZP5
