section ZP6
def pm_meshes_L16_B (R : Int32 → Int32 → Option Int32)  (μ : z_Mem) (f2 : Int32) (K : Int32 → Int32 → Option Int32) (a1 : Int32) (a3 : Int32) : Option Int32 := if f2 ≤ a3 then K a1 a3 else (pm_isMesh μ a3 f2).bind fun q3 => if q3 = 0 then R (a1 + 0) (a3 + 1) else R (a1 + 1) (a3 + 1)
def pm_meshes_L16 : Nat → z_Mem → Int32 → (Int32 → Int32 → Option Int32) → Int32 → Int32 → Option Int32
  | 0 => fun _ _ _ _ _ => none
  | n + 1 => fun μ f2 K a1 a3 => pm_meshes_L16_B (pm_meshes_L16 n μ f2 K) μ f2 K a1 a3
theorem pm_meshes_L16_run  (μ : z_Mem) (f2 : Int32) (K : Int32 → Int32 → Option Int32)  (D : Nat) (hD : 2 ≤ D) (hK : ∀ (a1 a3 : Int32) (r : Int32), K a1 a3 = some r → Rn D 176 44 [(0, .ref 241), (1, .int a1), (2, .int f2), (3, .int a3)] [] μ (.inl (some (.int r))) μ) : ∀ (n : Nat) (a1 : Int32) (a3 : Int32) (r : Int32), pm_meshes_L16 n μ f2 K a1 a3 = some r → Rn D 176 16 [(0, .ref 241), (1, .int a1), (2, .int f2), (3, .int a3)] [] μ (.inl (some (.int r))) μ := by
  intro n
  induction n with
  | zero => intro a1 a3 r h; cases h
  | succ n ih =>
    intro a1 a3 r h
    have h : pm_meshes_L16_B (pm_meshes_L16 n μ f2 K) μ f2 K a1 a3 = some r := h
    unfold pm_meshes_L16_B at h
    refine R_pure (pc := 16) (pc' := 17) (st' := [.int a3]) (show z_pt 176 16 = some (4, .iload_n 3, []) by decide +kernel) rfl (fun _ _ _ => rfl) ?_
    refine R_pure (pc := 17) (pc' := 18) (st' := [.int f2, .int a3]) (show z_pt 176 17 = some (4, .iload_n 2, []) by decide +kernel) rfl (fun _ _ _ => rfl) ?_
    refine R_icmge (pc := 18) (t := 44) (show z_pt 176 18 = some (4, .if_icmp .ge 26, []) by decide +kernel) (by decide) (fun c2 => ?_) (fun c2 => ?_)
    · rw [if_pos c2] at h
      exact hK _ _  _ h
    · rw [if_neg c2] at h
      refine R_pure (pc := 21) (pc' := 22) (st' := [.int a1]) (show z_pt 176 21 = some (4, .iload_n 1, []) by decide +kernel) rfl (fun _ _ _ => rfl) ?_
      refine R_pure (pc := 22) (pc' := 23) (st' := [.ref 241, .int a1]) (show z_pt 176 22 = some (4, .aload_n 0, []) by decide +kernel) rfl (fun _ _ _ => rfl) ?_
      refine R_pure (pc := 23) (pc' := 24) (st' := [.int a3, .ref 241, .int a1]) (show z_pt 176 23 = some (4, .iload_n 3, []) by decide +kernel) rfl (fun _ _ _ => rfl) ?_
      refine R_pure (pc := 24) (pc' := 25) (st' := [.int f2, .int a3, .ref 241, .int a1]) (show z_pt 176 24 = some (4, .iload_n 2, []) by decide +kernel) rfl (fun _ _ _ => rfl) ?_
      obtain ⟨q3, e4, h⟩ := z_bs h
      refine R_call (pc := 25) (rr := [.int a1]) (show z_pt 176 25 = some (4, .invokevirtual 67, [0, 173, 2, 6231, 6233, 44, 1012, 6234]) by decide +kernel) rfl (show z_r2 173 = some (10, 3, true) by decide +kernel) rfl rfl (Or.inr ⟨_, _, rfl, (by decide +kernel)⟩) (pm_isMesh_run  e4) (by omega) ?_
      refine R_at2 (pc := 28) (st := [.int q3, .int a1]) ?_
      refine R_ifeq (pc := 28) (t := 35) (show z_pt 176 28 = some (4, .ifCond .eq 7, []) by decide +kernel) (by decide) (fun c5 => ?_) (fun c5 => ?_)
      · rw [if_pos c5] at h
        refine R_const (pc := 35) (pc' := 36) (v := 0) (show z_ptc 176 35 = some (36, 0) by decide +kernel) ?_
        refine R_pure (pc := 36) (pc' := 37) (st' := [.int (a1 + 0)]) (show z_pt 176 36 = some (4, .iadd, []) by decide +kernel) rfl (fun _ _ _ => rfl) ?_
        refine R_pure (pc := 37) (pc' := 38) (ls' := [(0, .ref 241), (1, .int (a1 + 0)), (2, .int f2), (3, .int a3)]) (st' := []) (show z_pt 176 37 = some (4, .istore_n 1, []) by decide +kernel) rfl (fun _ _ _ => rfl) ?_
        refine R_inc (pc := 38) (pc' := 41) (ls' := [(0, .ref 241), (1, .int (a1 + 0)), (2, .int f2), (3, .int (a3 + 1))]) (c := 1) (show z_pt 176 38 = some (4, .iinc 3 1, []) by decide +kernel) (by decide) rfl rfl ?_
        refine R_pure (pc := 41) (pc' := 16) (ls' := [(0, .ref 241), (1, .int (a1 + 0)), (2, .int f2), (3, .int (a3 + 1))]) (st' := []) (show z_pt 176 41 = some (4, .goto (-25), [4]) by decide +kernel) rfl (fun _ _ _ => rfl) ?_
        exact ih _ _ _  h
      · rw [if_neg c5] at h
        refine R_const (pc := 31) (pc' := 32) (v := 1) (show z_ptc 176 31 = some (32, 1) by decide +kernel) ?_
        refine R_pure (pc := 32) (pc' := 36) (show z_pt 176 32 = some (4, .goto 4, []) by decide +kernel) rfl (fun _ _ _ => rfl) ?_
        refine R_pure (pc := 36) (pc' := 37) (st' := [.int (a1 + 1)]) (show z_pt 176 36 = some (4, .iadd, []) by decide +kernel) rfl (fun _ _ _ => rfl) ?_
        refine R_pure (pc := 37) (pc' := 38) (ls' := [(0, .ref 241), (1, .int (a1 + 1)), (2, .int f2), (3, .int a3)]) (st' := []) (show z_pt 176 37 = some (4, .istore_n 1, []) by decide +kernel) rfl (fun _ _ _ => rfl) ?_
        refine R_inc (pc := 38) (pc' := 41) (ls' := [(0, .ref 241), (1, .int (a1 + 1)), (2, .int f2), (3, .int (a3 + 1))]) (c := 1) (show z_pt 176 38 = some (4, .iinc 3 1, []) by decide +kernel) (by decide) rfl rfl ?_
        refine R_pure (pc := 41) (pc' := 16) (ls' := [(0, .ref 241), (1, .int (a1 + 1)), (2, .int f2), (3, .int (a3 + 1))]) (st' := []) (show z_pt 176 41 = some (4, .goto (-25), [4]) by decide +kernel) rfl (fun _ _ _ => rfl) ?_
        exact ih _ _ _  h
def pm_meshes_L4_B (R : Int32 → Int32 → Option Int32)  (μ : z_Mem)  (K : Int32 → Int32 → Option Int32) (a1 : Int32) (a2 : Int32) : Option Int32 := if (μ 242 0) ≤ a2 then K a1 a2 else pm_meshes_L16 z_fu μ a2 (fun k6 k7 => R k6 (a2 + 1)) a1 0
def pm_meshes_L4 : Nat → z_Mem → (Int32 → Int32 → Option Int32) → Int32 → Int32 → Option Int32
  | 0 => fun _ _ _ _ => none
  | n + 1 => fun μ K a1 a2 => pm_meshes_L4_B (pm_meshes_L4 n μ K) μ K a1 a2
theorem pm_meshes_L4_run  (μ : z_Mem)  (K : Int32 → Int32 → Option Int32)  (D : Nat) (hD : 2 ≤ D) (hK : ∀ (a1 a2 : Int32) (r : Int32), K a1 a2 = some r → Rn D 176 50 [(0, .ref 241), (1, .int a1), (2, .int a2)] [] μ (.inl (some (.int r))) μ) : ∀ (n : Nat) (a1 : Int32) (a2 : Int32) (r : Int32), pm_meshes_L4 n μ K a1 a2 = some r → Rn D 176 4 [(0, .ref 241), (1, .int a1), (2, .int a2)] [] μ (.inl (some (.int r))) μ := by
  intro n
  induction n with
  | zero => intro a1 a2 r h; cases h
  | succ n ih =>
    intro a1 a2 r h
    have h : pm_meshes_L4_B (pm_meshes_L4 n μ K) μ K a1 a2 = some r := h
    unfold pm_meshes_L4_B at h
    refine R_pure (pc := 4) (pc' := 5) (st' := [.int a2]) (show z_pt 176 4 = some (4, .iload_n 2, []) by decide +kernel) rfl (fun _ _ _ => rfl) ?_
    refine R_pure (pc := 5) (pc' := 6) (st' := [.ref 241, .int a2]) (show z_pt 176 5 = some (4, .aload_n 0, []) by decide +kernel) rfl (fun _ _ _ => rfl) ?_
    refine R_getR (pc := 6) (a := 241) (b := 242) (show z_pt 176 6 = some (4, .getfield 7, [10, 0, 6118]) by decide +kernel) (by decide +kernel) ?_
    refine R_at (pc := 9) ?_
    refine R_const (pc := 9) (pc' := 10) (v := 0) (show z_ptc 176 9 = some (10, 0) by decide +kernel) ?_
    refine R_ialdK (pc := 10) (a := 242) (n := 331) (jn := 0) (show z_pt 176 10 = some (4, .iaload, []) by decide +kernel) (show z_ar 242 0 331 = true by decide +kernel) (by decide) (by decide) ?_
    refine R_at (pc := 11) ?_
    refine R_icmge (pc := 11) (t := 50) (show z_pt 176 11 = some (4, .if_icmp .ge 39, []) by decide +kernel) (by decide) (fun c1 => ?_) (fun c1 => ?_)
    · rw [if_pos c1] at h
      exact hK _ _  _ h
    · rw [if_neg c1] at h
      refine R_const (pc := 14) (pc' := 15) (v := 0) (show z_ptc 176 14 = some (15, 0) by decide +kernel) ?_
      refine R_pure (pc := 15) (pc' := 16) (ls' := [(0, .ref 241), (1, .int a1), (2, .int a2), (3, .int 0)]) (st' := []) (show z_pt 176 15 = some (4, .istore_n 3, []) by decide +kernel) rfl (fun _ _ _ => rfl) ?_
      refine pm_meshes_L16_run  _ _ _  _ (by omega) ?_ _ _ _ _ h
      intro k6 k7 r h
      refine R_inc (pc := 44) (pc' := 47) (ls' := [(0, .ref 241), (1, .int k6), (2, .int (a2 + 1)), (3, .int k7)]) (c := 1) (show z_pt 176 44 = some (4, .iinc 2 1, []) by decide +kernel) (by decide) rfl rfl ?_
      refine R_pure (pc := 47) (pc' := 4) (ls' := [(0, .ref 241), (1, .int k6), (2, .int (a2 + 1))]) (st' := []) (show z_pt 176 47 = some (4, .goto (-43), [3]) by decide +kernel) rfl (fun _ _ _ => rfl) ?_
      exact ih _ _ _  h
def pm_meshes  (μ : z_Mem)  : Option Int32 := pm_meshes_L4 z_fu μ (fun k8 k9 => some k8) 0 0
theorem pm_meshes_run  {μ : z_Mem}   {r : Int32} (h : pm_meshes μ = some r) : Rn 2 176 0 [(0, .ref 241)] [] μ (.inl (some (.int r))) μ := by
  unfold pm_meshes at h
  refine R_const (pc := 0) (pc' := 1) (v := 0) (show z_ptc 176 0 = some (1, 0) by decide +kernel) ?_
  refine R_pure (pc := 1) (pc' := 2) (ls' := [(0, .ref 241), (1, .int 0)]) (st' := []) (show z_pt 176 1 = some (4, .istore_n 1, []) by decide +kernel) rfl (fun _ _ _ => rfl) ?_
  refine R_const (pc := 2) (pc' := 3) (v := 0) (show z_ptc 176 2 = some (3, 0) by decide +kernel) ?_
  refine R_pure (pc := 3) (pc' := 4) (ls' := [(0, .ref 241), (1, .int 0), (2, .int 0)]) (st' := []) (show z_pt 176 3 = some (4, .istore_n 2, []) by decide +kernel) rfl (fun _ _ _ => rfl) ?_
  refine pm_meshes_L4_run  _  _  _ (by omega) ?_ _ _ _ _ h
  intro k8 k9 r h
  refine R_pure (pc := 50) (pc' := 51) (st' := [.int k8]) (show z_pt 176 50 = some (4, .iload_n 1, []) by decide +kernel) rfl (fun _ _ _ => rfl) ?_
  cases h
  exact R_retI (show z_pt 176 51 = some (4, .ireturn, []) by decide +kernel) (by decide +kernel)
def pm_explores_L2_B (R : z_Mem → Int32 → Option z_Mem)  (f1 : Int32) (K : z_Mem → Int32 → Option z_Mem) (μ : z_Mem) (a2 : Int32) : Option z_Mem := if 10 ≤ a2 then K μ a2 else if a2 = f1 then if z_inb a2 10 = true then R (z_u μ 249 a2.toNatClampNeg f1) (a2 + 1) else none else if z_inb a2 10 = true then R (z_u μ 249 a2.toNatClampNeg (-1)) (a2 + 1) else none
def pm_explores_L2 : Nat → Int32 → (z_Mem → Int32 → Option z_Mem) → z_Mem → Int32 → Option z_Mem
  | 0 => fun _ _ _ _ => none
  | n + 1 => fun f1 K μ a2 => pm_explores_L2_B (pm_explores_L2 n f1 K) f1 K μ a2
theorem pm_explores_L2_run  (f1 : Int32) (K : z_Mem → Int32 → Option z_Mem)  (D : Nat) (hD : 2 ≤ D) (hK : ∀ (μ : z_Mem) (a2 : Int32) (r : z_Mem), K μ a2 = some r → Rn D 177 30 [(0, .ref 241), (1, .int f1), (2, .int a2)] [] μ (.inl none) r) : ∀ (n : Nat) (μ : z_Mem) (a2 : Int32) (r : z_Mem), pm_explores_L2 n f1 K μ a2 = some r → Rn D 177 2 [(0, .ref 241), (1, .int f1), (2, .int a2)] [] μ (.inl none) r := by
  intro n
  induction n with
  | zero => intro μ a2 r h; cases h
  | succ n ih =>
    intro μ a2 r h
    have h : pm_explores_L2_B (pm_explores_L2 n f1 K) f1 K μ a2 = some r := h
    unfold pm_explores_L2_B at h
    refine R_pure (pc := 2) (pc' := 3) (st' := [.int a2]) (show z_pt 177 2 = some (6, .iload_n 2, []) by decide +kernel) rfl (fun _ _ _ => rfl) ?_
    refine R_const (pc := 3) (pc' := 5) (v := 10) (show z_ptc 177 3 = some (5, 10) by decide +kernel) ?_
    refine R_icmge (pc := 5) (t := 30) (show z_pt 177 5 = some (6, .if_icmp .ge 25, []) by decide +kernel) (by decide) (fun c1 => ?_) (fun c1 => ?_)
    · rw [if_pos c1] at h
      exact hK _ _  _ h
    · rw [if_neg c1] at h
      refine R_pure (pc := 8) (pc' := 9) (st' := [.ref 241]) (show z_pt 177 8 = some (6, .aload_n 0, []) by decide +kernel) rfl (fun _ _ _ => rfl) ?_
      refine R_getR (pc := 9) (a := 241) (b := 249) (show z_pt 177 9 = some (6, .getfield 39, [10, 14, 6132]) by decide +kernel) (by decide +kernel) ?_
      refine R_at (pc := 12) ?_
      refine R_pure (pc := 12) (pc' := 13) (st' := [.int a2, .ref 249]) (show z_pt 177 12 = some (6, .iload_n 2, []) by decide +kernel) rfl (fun _ _ _ => rfl) ?_
      refine R_pure (pc := 13) (pc' := 14) (st' := [.int a2, .int a2, .ref 249]) (show z_pt 177 13 = some (6, .iload_n 2, []) by decide +kernel) rfl (fun _ _ _ => rfl) ?_
      refine R_pure (pc := 14) (pc' := 15) (st' := [.int f1, .int a2, .int a2, .ref 249]) (show z_pt 177 14 = some (6, .iload_n 1, []) by decide +kernel) rfl (fun _ _ _ => rfl) ?_
      refine R_icmne (pc := 15) (t := 22) (show z_pt 177 15 = some (6, .if_icmp .ne 7, []) by decide +kernel) (by decide) (fun c2 => ?_) (fun c2 => ?_)
      · rw [if_neg c2] at h
        refine R_const (pc := 22) (pc' := 23) (v := (-1)) (show z_ptc 177 22 = some (23, (-1)) by decide +kernel) ?_
        obtain ⟨g3, h⟩ := z_ig h
        refine R_iast (pc := 23) (a := 249) (n := 10) (show z_pt 177 23 = some (6, .iastore, []) by decide +kernel) (show z_ar 249 0 10 = true by decide +kernel) g3 ?_
        refine R_at (pc := 24) ?_
        refine R_inc (pc := 24) (pc' := 27) (ls' := [(0, .ref 241), (1, .int f1), (2, .int (a2 + 1))]) (c := 1) (show z_pt 177 24 = some (6, .iinc 2 1, []) by decide +kernel) (by decide) rfl rfl ?_
        refine R_pure (pc := 27) (pc' := 2) (ls' := [(0, .ref 241), (1, .int f1), (2, .int (a2 + 1))]) (st' := []) (show z_pt 177 27 = some (6, .goto (-25), [3]) by decide +kernel) rfl (fun _ _ _ => rfl) ?_
        exact ih _ _ _  h
      · rw [if_pos c2] at h
        refine R_pure (pc := 18) (pc' := 19) (st' := [.int f1, .int a2, .ref 249]) (show z_pt 177 18 = some (6, .iload_n 1, []) by decide +kernel) rfl (fun _ _ _ => rfl) ?_
        refine R_pure (pc := 19) (pc' := 23) (show z_pt 177 19 = some (6, .goto 4, []) by decide +kernel) rfl (fun _ _ _ => rfl) ?_
        obtain ⟨g4, h⟩ := z_ig h
        refine R_iast (pc := 23) (a := 249) (n := 10) (show z_pt 177 23 = some (6, .iastore, []) by decide +kernel) (show z_ar 249 0 10 = true by decide +kernel) g4 ?_
        refine R_at (pc := 24) ?_
        refine R_inc (pc := 24) (pc' := 27) (ls' := [(0, .ref 241), (1, .int f1), (2, .int (a2 + 1))]) (c := 1) (show z_pt 177 24 = some (6, .iinc 2 1, []) by decide +kernel) (by decide) rfl rfl ?_
        refine R_pure (pc := 27) (pc' := 2) (ls' := [(0, .ref 241), (1, .int f1), (2, .int (a2 + 1))]) (st' := []) (show z_pt 177 27 = some (6, .goto (-25), [3]) by decide +kernel) rfl (fun _ _ _ => rfl) ?_
        exact ih _ _ _  h
def pm_explores_L53_B (R : z_Mem → Int32 → Option z_Mem)  (f1 : Int32) (f2 : Int32) (f3 : Int32) (K : z_Mem → Int32 → Option z_Mem) (μ : z_Mem) (a4 : Int32) : Option z_Mem := if (μ 242 0) ≤ a4 then K μ a4 else (z_rd μ 249 10 f3).bind fun v10 => if v10 = (-1) then (z_rd μ 249 10 a4).bind fun v14 => if z_inb a4 10 = true then R (z_u μ 249 a4.toNatClampNeg v14) (a4 + 1) else none else (z_rd μ 249 10 a4).bind fun v17 => if v17 = (-1) then (pm_isMesh μ f3 a4).bind fun q24 => if q24 = 0 then (z_rd μ 249 10 a4).bind fun v28 => if z_inb a4 10 = true then R (z_u μ 249 a4.toNatClampNeg v28) (a4 + 1) else none else if z_inb a4 10 = true then R (z_u μ 249 a4.toNatClampNeg f3) (a4 + 1) else none else (z_rd μ 249 10 a4).bind fun v21 => if z_inb a4 10 = true then R (z_u μ 249 a4.toNatClampNeg v21) (a4 + 1) else none
def pm_explores_L53 : Nat → Int32 → Int32 → Int32 → (z_Mem → Int32 → Option z_Mem) → z_Mem → Int32 → Option z_Mem
  | 0 => fun _ _ _ _ _ _ => none
  | n + 1 => fun f1 f2 f3 K μ a4 => pm_explores_L53_B (pm_explores_L53 n f1 f2 f3 K) f1 f2 f3 K μ a4
theorem pm_explores_L53_run  (f1 : Int32) (f2 : Int32) (f3 : Int32) (K : z_Mem → Int32 → Option z_Mem)  (D : Nat) (hD : 2 ≤ D) (hK : ∀ (μ : z_Mem) (a4 : Int32) (r : z_Mem), K μ a4 = some r → Rn D 177 131 [(0, .ref 241), (1, .int f1), (2, .int f2), (3, .int f3), (4, .int a4)] [] μ (.inl none) r) : ∀ (n : Nat) (μ : z_Mem) (a4 : Int32) (r : z_Mem), pm_explores_L53 n f1 f2 f3 K μ a4 = some r → Rn D 177 53 [(0, .ref 241), (1, .int f1), (2, .int f2), (3, .int f3), (4, .int a4)] [] μ (.inl none) r := by
  intro n
  induction n with
  | zero => intro μ a4 r h; cases h
  | succ n ih =>
    intro μ a4 r h
    have h : pm_explores_L53_B (pm_explores_L53 n f1 f2 f3 K) f1 f2 f3 K μ a4 = some r := h
    unfold pm_explores_L53_B at h
    refine R_pure (pc := 53) (pc' := 55) (st' := [.int a4]) (show z_pt 177 53 = some (6, .iload 4, []) by decide +kernel) rfl (fun _ _ _ => rfl) ?_
    refine R_pure (pc := 55) (pc' := 56) (st' := [.ref 241, .int a4]) (show z_pt 177 55 = some (6, .aload_n 0, []) by decide +kernel) rfl (fun _ _ _ => rfl) ?_
    refine R_getR (pc := 56) (a := 241) (b := 242) (show z_pt 177 56 = some (6, .getfield 7, [10, 0, 6118]) by decide +kernel) (by decide +kernel) ?_
    refine R_at (pc := 59) ?_
    refine R_const (pc := 59) (pc' := 60) (v := 0) (show z_ptc 177 59 = some (60, 0) by decide +kernel) ?_
    refine R_ialdK (pc := 60) (a := 242) (n := 331) (jn := 0) (show z_pt 177 60 = some (6, .iaload, []) by decide +kernel) (show z_ar 242 0 331 = true by decide +kernel) (by decide) (by decide) ?_
    refine R_at (pc := 61) ?_
    refine R_icmge (pc := 61) (t := 131) (show z_pt 177 61 = some (6, .if_icmp .ge 70, []) by decide +kernel) (by decide) (fun c9 => ?_) (fun c9 => ?_)
    · rw [if_pos c9] at h
      exact hK _ _  _ h
    · rw [if_neg c9] at h
      refine R_pure (pc := 64) (pc' := 65) (st' := [.ref 241]) (show z_pt 177 64 = some (6, .aload_n 0, []) by decide +kernel) rfl (fun _ _ _ => rfl) ?_
      refine R_getR (pc := 65) (a := 241) (b := 249) (show z_pt 177 65 = some (6, .getfield 39, [10, 14, 6132]) by decide +kernel) (by decide +kernel) ?_
      refine R_at (pc := 68) ?_
      refine R_pure (pc := 68) (pc' := 69) (st' := [.int f3, .ref 249]) (show z_pt 177 68 = some (6, .iload_n 3, []) by decide +kernel) rfl (fun _ _ _ => rfl) ?_
      obtain ⟨v10, e11, h⟩ := z_bs h
      refine R_ialdR (pc := 69) (a := 249) (n := 10) (show z_pt 177 69 = some (6, .iaload, []) by decide +kernel) (show z_ar 249 0 10 = true by decide +kernel) e11 ?_
      refine R_at (pc := 70) ?_
      refine R_const (pc := 70) (pc' := 71) (v := (-1)) (show z_ptc 177 70 = some (71, (-1)) by decide +kernel) ?_
      refine R_icmeq (pc := 71) (t := 99) (show z_pt 177 71 = some (6, .if_icmp .eq 28, []) by decide +kernel) (by decide) (fun c12 => ?_) (fun c12 => ?_)
      · rw [if_pos c12] at h
        refine R_const (pc := 99) (pc' := 100) (v := 0) (show z_ptc 177 99 = some (100, 0) by decide +kernel) ?_
        refine R_pure (pc := 100) (pc' := 102) (ls' := [(0, .ref 241), (1, .int f1), (2, .int f2), (3, .int f3), (4, .int a4), (5, .int 0)]) (st' := []) (show z_pt 177 100 = some (6, .istore 5, []) by decide +kernel) rfl (fun _ _ _ => rfl) ?_
        refine R_pure (pc := 102) (pc' := 103) (st' := [.ref 241]) (show z_pt 177 102 = some (6, .aload_n 0, []) by decide +kernel) rfl (fun _ _ _ => rfl) ?_
        refine R_getR (pc := 103) (a := 241) (b := 249) (show z_pt 177 103 = some (6, .getfield 39, [10, 14, 6132]) by decide +kernel) (by decide +kernel) ?_
        refine R_at (pc := 106) ?_
        refine R_pure (pc := 106) (pc' := 108) (st' := [.int a4, .ref 249]) (show z_pt 177 106 = some (6, .iload 4, []) by decide +kernel) rfl (fun _ _ _ => rfl) ?_
        refine R_pure (pc := 108) (pc' := 110) (st' := [.int 0, .int a4, .ref 249]) (show z_pt 177 108 = some (6, .iload 5, []) by decide +kernel) rfl (fun _ _ _ => rfl) ?_
        refine R_ifeq (pc := 110) (t := 117) (show z_pt 177 110 = some (6, .ifCond .eq 7, []) by decide +kernel) (by decide) (fun c13 => ?_) (fun c13 => ?_)
        · skip
          refine R_pure (pc := 117) (pc' := 118) (st' := [.ref 241, .int a4, .ref 249]) (show z_pt 177 117 = some (6, .aload_n 0, []) by decide +kernel) rfl (fun _ _ _ => rfl) ?_
          refine R_getR (pc := 118) (a := 241) (b := 249) (show z_pt 177 118 = some (6, .getfield 39, [10, 14, 6132]) by decide +kernel) (by decide +kernel) ?_
          refine R_at (pc := 121) ?_
          refine R_pure (pc := 121) (pc' := 123) (st' := [.int a4, .ref 249, .int a4, .ref 249]) (show z_pt 177 121 = some (6, .iload 4, []) by decide +kernel) rfl (fun _ _ _ => rfl) ?_
          obtain ⟨v14, e15, h⟩ := z_bs h
          refine R_ialdR (pc := 123) (a := 249) (n := 10) (show z_pt 177 123 = some (6, .iaload, []) by decide +kernel) (show z_ar 249 0 10 = true by decide +kernel) e15 ?_
          refine R_at (pc := 124) ?_
          obtain ⟨g16, h⟩ := z_ig h
          refine R_iast (pc := 124) (a := 249) (n := 10) (show z_pt 177 124 = some (6, .iastore, []) by decide +kernel) (show z_ar 249 0 10 = true by decide +kernel) g16 ?_
          refine R_at (pc := 125) ?_
          refine R_inc (pc := 125) (pc' := 128) (ls' := [(0, .ref 241), (1, .int f1), (2, .int f2), (3, .int f3), (4, .int (a4 + 1)), (5, .int 0)]) (c := 1) (show z_pt 177 125 = some (6, .iinc 4 1, []) by decide +kernel) (by decide) rfl rfl ?_
          refine R_pure (pc := 128) (pc' := 53) (ls' := [(0, .ref 241), (1, .int f1), (2, .int f2), (3, .int f3), (4, .int (a4 + 1))]) (st' := []) (show z_pt 177 128 = some (6, .goto (-75), [5]) by decide +kernel) rfl (fun _ _ _ => rfl) ?_
          exact ih _ _ _  h
        · exact absurd c13 (by decide)
      · rw [if_neg c12] at h
        refine R_pure (pc := 74) (pc' := 75) (st' := [.ref 241]) (show z_pt 177 74 = some (6, .aload_n 0, []) by decide +kernel) rfl (fun _ _ _ => rfl) ?_
        refine R_getR (pc := 75) (a := 241) (b := 249) (show z_pt 177 75 = some (6, .getfield 39, [10, 14, 6132]) by decide +kernel) (by decide +kernel) ?_
        refine R_at (pc := 78) ?_
        refine R_pure (pc := 78) (pc' := 80) (st' := [.int a4, .ref 249]) (show z_pt 177 78 = some (6, .iload 4, []) by decide +kernel) rfl (fun _ _ _ => rfl) ?_
        obtain ⟨v17, e18, h⟩ := z_bs h
        refine R_ialdR (pc := 80) (a := 249) (n := 10) (show z_pt 177 80 = some (6, .iaload, []) by decide +kernel) (show z_ar 249 0 10 = true by decide +kernel) e18 ?_
        refine R_at (pc := 81) ?_
        refine R_const (pc := 81) (pc' := 82) (v := (-1)) (show z_ptc 177 81 = some (82, (-1)) by decide +kernel) ?_
        refine R_icmne (pc := 82) (t := 99) (show z_pt 177 82 = some (6, .if_icmp .ne 17, []) by decide +kernel) (by decide) (fun c19 => ?_) (fun c19 => ?_)
        · rw [if_neg c19] at h
          refine R_const (pc := 99) (pc' := 100) (v := 0) (show z_ptc 177 99 = some (100, 0) by decide +kernel) ?_
          refine R_pure (pc := 100) (pc' := 102) (ls' := [(0, .ref 241), (1, .int f1), (2, .int f2), (3, .int f3), (4, .int a4), (5, .int 0)]) (st' := []) (show z_pt 177 100 = some (6, .istore 5, []) by decide +kernel) rfl (fun _ _ _ => rfl) ?_
          refine R_pure (pc := 102) (pc' := 103) (st' := [.ref 241]) (show z_pt 177 102 = some (6, .aload_n 0, []) by decide +kernel) rfl (fun _ _ _ => rfl) ?_
          refine R_getR (pc := 103) (a := 241) (b := 249) (show z_pt 177 103 = some (6, .getfield 39, [10, 14, 6132]) by decide +kernel) (by decide +kernel) ?_
          refine R_at (pc := 106) ?_
          refine R_pure (pc := 106) (pc' := 108) (st' := [.int a4, .ref 249]) (show z_pt 177 106 = some (6, .iload 4, []) by decide +kernel) rfl (fun _ _ _ => rfl) ?_
          refine R_pure (pc := 108) (pc' := 110) (st' := [.int 0, .int a4, .ref 249]) (show z_pt 177 108 = some (6, .iload 5, []) by decide +kernel) rfl (fun _ _ _ => rfl) ?_
          refine R_ifeq (pc := 110) (t := 117) (show z_pt 177 110 = some (6, .ifCond .eq 7, []) by decide +kernel) (by decide) (fun c20 => ?_) (fun c20 => ?_)
          · skip
            refine R_pure (pc := 117) (pc' := 118) (st' := [.ref 241, .int a4, .ref 249]) (show z_pt 177 117 = some (6, .aload_n 0, []) by decide +kernel) rfl (fun _ _ _ => rfl) ?_
            refine R_getR (pc := 118) (a := 241) (b := 249) (show z_pt 177 118 = some (6, .getfield 39, [10, 14, 6132]) by decide +kernel) (by decide +kernel) ?_
            refine R_at (pc := 121) ?_
            refine R_pure (pc := 121) (pc' := 123) (st' := [.int a4, .ref 249, .int a4, .ref 249]) (show z_pt 177 121 = some (6, .iload 4, []) by decide +kernel) rfl (fun _ _ _ => rfl) ?_
            obtain ⟨v21, e22, h⟩ := z_bs h
            refine R_ialdR (pc := 123) (a := 249) (n := 10) (show z_pt 177 123 = some (6, .iaload, []) by decide +kernel) (show z_ar 249 0 10 = true by decide +kernel) e22 ?_
            refine R_at (pc := 124) ?_
            obtain ⟨g23, h⟩ := z_ig h
            refine R_iast (pc := 124) (a := 249) (n := 10) (show z_pt 177 124 = some (6, .iastore, []) by decide +kernel) (show z_ar 249 0 10 = true by decide +kernel) g23 ?_
            refine R_at (pc := 125) ?_
            refine R_inc (pc := 125) (pc' := 128) (ls' := [(0, .ref 241), (1, .int f1), (2, .int f2), (3, .int f3), (4, .int (a4 + 1)), (5, .int 0)]) (c := 1) (show z_pt 177 125 = some (6, .iinc 4 1, []) by decide +kernel) (by decide) rfl rfl ?_
            refine R_pure (pc := 128) (pc' := 53) (ls' := [(0, .ref 241), (1, .int f1), (2, .int f2), (3, .int f3), (4, .int (a4 + 1))]) (st' := []) (show z_pt 177 128 = some (6, .goto (-75), [5]) by decide +kernel) rfl (fun _ _ _ => rfl) ?_
            exact ih _ _ _  h
          · exact absurd c20 (by decide)
        · rw [if_pos c19] at h
          refine R_pure (pc := 85) (pc' := 86) (st' := [.ref 241]) (show z_pt 177 85 = some (6, .aload_n 0, []) by decide +kernel) rfl (fun _ _ _ => rfl) ?_
          refine R_pure (pc := 86) (pc' := 87) (st' := [.int f3, .ref 241]) (show z_pt 177 86 = some (6, .iload_n 3, []) by decide +kernel) rfl (fun _ _ _ => rfl) ?_
          refine R_pure (pc := 87) (pc' := 89) (st' := [.int a4, .int f3, .ref 241]) (show z_pt 177 87 = some (6, .iload 4, []) by decide +kernel) rfl (fun _ _ _ => rfl) ?_
          obtain ⟨q24, e25, h⟩ := z_bs h
          refine R_call (pc := 89) (rr := []) (show z_pt 177 89 = some (6, .invokevirtual 67, [0, 173, 2, 6231, 6233, 44, 1012, 6234]) by decide +kernel) rfl (show z_r2 173 = some (10, 3, true) by decide +kernel) rfl rfl (Or.inr ⟨_, _, rfl, (by decide +kernel)⟩) (pm_isMesh_run  e25) (by omega) ?_
          refine R_at2 (pc := 92) (st := [.int q24]) ?_
          refine R_ifeq (pc := 92) (t := 99) (show z_pt 177 92 = some (6, .ifCond .eq 7, []) by decide +kernel) (by decide) (fun c26 => ?_) (fun c26 => ?_)
          · rw [if_pos c26] at h
            refine R_const (pc := 99) (pc' := 100) (v := 0) (show z_ptc 177 99 = some (100, 0) by decide +kernel) ?_
            refine R_pure (pc := 100) (pc' := 102) (ls' := [(0, .ref 241), (1, .int f1), (2, .int f2), (3, .int f3), (4, .int a4), (5, .int 0)]) (st' := []) (show z_pt 177 100 = some (6, .istore 5, []) by decide +kernel) rfl (fun _ _ _ => rfl) ?_
            refine R_pure (pc := 102) (pc' := 103) (st' := [.ref 241]) (show z_pt 177 102 = some (6, .aload_n 0, []) by decide +kernel) rfl (fun _ _ _ => rfl) ?_
            refine R_getR (pc := 103) (a := 241) (b := 249) (show z_pt 177 103 = some (6, .getfield 39, [10, 14, 6132]) by decide +kernel) (by decide +kernel) ?_
            refine R_at (pc := 106) ?_
            refine R_pure (pc := 106) (pc' := 108) (st' := [.int a4, .ref 249]) (show z_pt 177 106 = some (6, .iload 4, []) by decide +kernel) rfl (fun _ _ _ => rfl) ?_
            refine R_pure (pc := 108) (pc' := 110) (st' := [.int 0, .int a4, .ref 249]) (show z_pt 177 108 = some (6, .iload 5, []) by decide +kernel) rfl (fun _ _ _ => rfl) ?_
            refine R_ifeq (pc := 110) (t := 117) (show z_pt 177 110 = some (6, .ifCond .eq 7, []) by decide +kernel) (by decide) (fun c27 => ?_) (fun c27 => ?_)
            · skip
              refine R_pure (pc := 117) (pc' := 118) (st' := [.ref 241, .int a4, .ref 249]) (show z_pt 177 117 = some (6, .aload_n 0, []) by decide +kernel) rfl (fun _ _ _ => rfl) ?_
              refine R_getR (pc := 118) (a := 241) (b := 249) (show z_pt 177 118 = some (6, .getfield 39, [10, 14, 6132]) by decide +kernel) (by decide +kernel) ?_
              refine R_at (pc := 121) ?_
              refine R_pure (pc := 121) (pc' := 123) (st' := [.int a4, .ref 249, .int a4, .ref 249]) (show z_pt 177 121 = some (6, .iload 4, []) by decide +kernel) rfl (fun _ _ _ => rfl) ?_
              obtain ⟨v28, e29, h⟩ := z_bs h
              refine R_ialdR (pc := 123) (a := 249) (n := 10) (show z_pt 177 123 = some (6, .iaload, []) by decide +kernel) (show z_ar 249 0 10 = true by decide +kernel) e29 ?_
              refine R_at (pc := 124) ?_
              obtain ⟨g30, h⟩ := z_ig h
              refine R_iast (pc := 124) (a := 249) (n := 10) (show z_pt 177 124 = some (6, .iastore, []) by decide +kernel) (show z_ar 249 0 10 = true by decide +kernel) g30 ?_
              refine R_at (pc := 125) ?_
              refine R_inc (pc := 125) (pc' := 128) (ls' := [(0, .ref 241), (1, .int f1), (2, .int f2), (3, .int f3), (4, .int (a4 + 1)), (5, .int 0)]) (c := 1) (show z_pt 177 125 = some (6, .iinc 4 1, []) by decide +kernel) (by decide) rfl rfl ?_
              refine R_pure (pc := 128) (pc' := 53) (ls' := [(0, .ref 241), (1, .int f1), (2, .int f2), (3, .int f3), (4, .int (a4 + 1))]) (st' := []) (show z_pt 177 128 = some (6, .goto (-75), [5]) by decide +kernel) rfl (fun _ _ _ => rfl) ?_
              exact ih _ _ _  h
            · exact absurd c27 (by decide)
          · rw [if_neg c26] at h
            refine R_const (pc := 95) (pc' := 96) (v := 1) (show z_ptc 177 95 = some (96, 1) by decide +kernel) ?_
            refine R_pure (pc := 96) (pc' := 100) (show z_pt 177 96 = some (6, .goto 4, []) by decide +kernel) rfl (fun _ _ _ => rfl) ?_
            refine R_pure (pc := 100) (pc' := 102) (ls' := [(0, .ref 241), (1, .int f1), (2, .int f2), (3, .int f3), (4, .int a4), (5, .int 1)]) (st' := []) (show z_pt 177 100 = some (6, .istore 5, []) by decide +kernel) rfl (fun _ _ _ => rfl) ?_
            refine R_pure (pc := 102) (pc' := 103) (st' := [.ref 241]) (show z_pt 177 102 = some (6, .aload_n 0, []) by decide +kernel) rfl (fun _ _ _ => rfl) ?_
            refine R_getR (pc := 103) (a := 241) (b := 249) (show z_pt 177 103 = some (6, .getfield 39, [10, 14, 6132]) by decide +kernel) (by decide +kernel) ?_
            refine R_at (pc := 106) ?_
            refine R_pure (pc := 106) (pc' := 108) (st' := [.int a4, .ref 249]) (show z_pt 177 106 = some (6, .iload 4, []) by decide +kernel) rfl (fun _ _ _ => rfl) ?_
            refine R_pure (pc := 108) (pc' := 110) (st' := [.int 1, .int a4, .ref 249]) (show z_pt 177 108 = some (6, .iload 5, []) by decide +kernel) rfl (fun _ _ _ => rfl) ?_
            refine R_ifeq (pc := 110) (t := 117) (show z_pt 177 110 = some (6, .ifCond .eq 7, []) by decide +kernel) (by decide) (fun c31 => ?_) (fun c31 => ?_)
            · exact absurd c31 (by decide)
            · skip
              refine R_pure (pc := 113) (pc' := 114) (st' := [.int f3, .int a4, .ref 249]) (show z_pt 177 113 = some (6, .iload_n 3, []) by decide +kernel) rfl (fun _ _ _ => rfl) ?_
              refine R_pure (pc := 114) (pc' := 124) (show z_pt 177 114 = some (6, .goto 10, []) by decide +kernel) rfl (fun _ _ _ => rfl) ?_
              obtain ⟨g32, h⟩ := z_ig h
              refine R_iast (pc := 124) (a := 249) (n := 10) (show z_pt 177 124 = some (6, .iastore, []) by decide +kernel) (show z_ar 249 0 10 = true by decide +kernel) g32 ?_
              refine R_at (pc := 125) ?_
              refine R_inc (pc := 125) (pc' := 128) (ls' := [(0, .ref 241), (1, .int f1), (2, .int f2), (3, .int f3), (4, .int (a4 + 1)), (5, .int 1)]) (c := 1) (show z_pt 177 125 = some (6, .iinc 4 1, []) by decide +kernel) (by decide) rfl rfl ?_
              refine R_pure (pc := 128) (pc' := 53) (ls' := [(0, .ref 241), (1, .int f1), (2, .int f2), (3, .int f3), (4, .int (a4 + 1))]) (st' := []) (show z_pt 177 128 = some (6, .goto (-75), [5]) by decide +kernel) rfl (fun _ _ _ => rfl) ?_
              exact ih _ _ _  h
def pm_explores_L40_B (R : z_Mem → Int32 → Option z_Mem)  (f1 : Int32) (f2 : Int32) (K : z_Mem → Int32 → Option z_Mem) (μ : z_Mem) (a3 : Int32) : Option z_Mem := if (μ 242 0) ≤ a3 then K μ a3 else pm_explores_L53 z_fu f1 f2 a3 (fun M34 k33 => R M34 (a3 + 1)) μ 0
def pm_explores_L40 : Nat → Int32 → Int32 → (z_Mem → Int32 → Option z_Mem) → z_Mem → Int32 → Option z_Mem
  | 0 => fun _ _ _ _ _ => none
  | n + 1 => fun f1 f2 K μ a3 => pm_explores_L40_B (pm_explores_L40 n f1 f2 K) f1 f2 K μ a3
theorem pm_explores_L40_run  (f1 : Int32) (f2 : Int32) (K : z_Mem → Int32 → Option z_Mem)  (D : Nat) (hD : 2 ≤ D) (hK : ∀ (μ : z_Mem) (a3 : Int32) (r : z_Mem), K μ a3 = some r → Rn D 177 137 [(0, .ref 241), (1, .int f1), (2, .int f2), (3, .int a3)] [] μ (.inl none) r) : ∀ (n : Nat) (μ : z_Mem) (a3 : Int32) (r : z_Mem), pm_explores_L40 n f1 f2 K μ a3 = some r → Rn D 177 40 [(0, .ref 241), (1, .int f1), (2, .int f2), (3, .int a3)] [] μ (.inl none) r := by
  intro n
  induction n with
  | zero => intro μ a3 r h; cases h
  | succ n ih =>
    intro μ a3 r h
    have h : pm_explores_L40_B (pm_explores_L40 n f1 f2 K) f1 f2 K μ a3 = some r := h
    unfold pm_explores_L40_B at h
    refine R_pure (pc := 40) (pc' := 41) (st' := [.int a3]) (show z_pt 177 40 = some (6, .iload_n 3, []) by decide +kernel) rfl (fun _ _ _ => rfl) ?_
    refine R_pure (pc := 41) (pc' := 42) (st' := [.ref 241, .int a3]) (show z_pt 177 41 = some (6, .aload_n 0, []) by decide +kernel) rfl (fun _ _ _ => rfl) ?_
    refine R_getR (pc := 42) (a := 241) (b := 242) (show z_pt 177 42 = some (6, .getfield 7, [10, 0, 6118]) by decide +kernel) (by decide +kernel) ?_
    refine R_at (pc := 45) ?_
    refine R_const (pc := 45) (pc' := 46) (v := 0) (show z_ptc 177 45 = some (46, 0) by decide +kernel) ?_
    refine R_ialdK (pc := 46) (a := 242) (n := 331) (jn := 0) (show z_pt 177 46 = some (6, .iaload, []) by decide +kernel) (show z_ar 242 0 331 = true by decide +kernel) (by decide) (by decide) ?_
    refine R_at (pc := 47) ?_
    refine R_icmge (pc := 47) (t := 137) (show z_pt 177 47 = some (6, .if_icmp .ge 90, []) by decide +kernel) (by decide) (fun c8 => ?_) (fun c8 => ?_)
    · rw [if_pos c8] at h
      exact hK _ _  _ h
    · rw [if_neg c8] at h
      refine R_const (pc := 50) (pc' := 51) (v := 0) (show z_ptc 177 50 = some (51, 0) by decide +kernel) ?_
      refine R_pure (pc := 51) (pc' := 53) (ls' := [(0, .ref 241), (1, .int f1), (2, .int f2), (3, .int a3), (4, .int 0)]) (st' := []) (show z_pt 177 51 = some (6, .istore 4, []) by decide +kernel) rfl (fun _ _ _ => rfl) ?_
      refine pm_explores_L53_run  _ _ _ _  _ (by omega) ?_ _ _ _ _ h
      intro M34 k33 r h
      refine R_inc (pc := 131) (pc' := 134) (ls' := [(0, .ref 241), (1, .int f1), (2, .int f2), (3, .int (a3 + 1)), (4, .int k33)]) (c := 1) (show z_pt 177 131 = some (6, .iinc 3 1, []) by decide +kernel) (by decide) rfl rfl ?_
      refine R_pure (pc := 134) (pc' := 40) (ls' := [(0, .ref 241), (1, .int f1), (2, .int f2), (3, .int (a3 + 1))]) (st' := []) (show z_pt 177 134 = some (6, .goto (-94), [4]) by decide +kernel) rfl (fun _ _ _ => rfl) ?_
      exact ih _ _ _  h
def pm_explores_L32_B (R : z_Mem → Int32 → Option z_Mem)  (f1 : Int32) (K : z_Mem → Int32 → Option z_Mem) (μ : z_Mem) (a2 : Int32) : Option z_Mem := if 10 ≤ a2 then K μ a2 else pm_explores_L40 z_fu f1 a2 (fun M36 k35 => R M36 (a2 + 1)) μ 0
def pm_explores_L32 : Nat → Int32 → (z_Mem → Int32 → Option z_Mem) → z_Mem → Int32 → Option z_Mem
  | 0 => fun _ _ _ _ => none
  | n + 1 => fun f1 K μ a2 => pm_explores_L32_B (pm_explores_L32 n f1 K) f1 K μ a2
theorem pm_explores_L32_run  (f1 : Int32) (K : z_Mem → Int32 → Option z_Mem)  (D : Nat) (hD : 2 ≤ D) (hK : ∀ (μ : z_Mem) (a2 : Int32) (r : z_Mem), K μ a2 = some r → Rn D 177 143 [(0, .ref 241), (1, .int f1), (2, .int a2)] [] μ (.inl none) r) : ∀ (n : Nat) (μ : z_Mem) (a2 : Int32) (r : z_Mem), pm_explores_L32 n f1 K μ a2 = some r → Rn D 177 32 [(0, .ref 241), (1, .int f1), (2, .int a2)] [] μ (.inl none) r := by
  intro n
  induction n with
  | zero => intro μ a2 r h; cases h
  | succ n ih =>
    intro μ a2 r h
    have h : pm_explores_L32_B (pm_explores_L32 n f1 K) f1 K μ a2 = some r := h
    unfold pm_explores_L32_B at h
    refine R_pure (pc := 32) (pc' := 33) (st' := [.int a2]) (show z_pt 177 32 = some (6, .iload_n 2, []) by decide +kernel) rfl (fun _ _ _ => rfl) ?_
    refine R_const (pc := 33) (pc' := 35) (v := 10) (show z_ptc 177 33 = some (35, 10) by decide +kernel) ?_
    refine R_icmge (pc := 35) (t := 143) (show z_pt 177 35 = some (6, .if_icmp .ge 108, []) by decide +kernel) (by decide) (fun c7 => ?_) (fun c7 => ?_)
    · rw [if_pos c7] at h
      exact hK _ _  _ h
    · rw [if_neg c7] at h
      refine R_const (pc := 38) (pc' := 39) (v := 0) (show z_ptc 177 38 = some (39, 0) by decide +kernel) ?_
      refine R_pure (pc := 39) (pc' := 40) (ls' := [(0, .ref 241), (1, .int f1), (2, .int a2), (3, .int 0)]) (st' := []) (show z_pt 177 39 = some (6, .istore_n 3, []) by decide +kernel) rfl (fun _ _ _ => rfl) ?_
      refine pm_explores_L40_run  _ _ _  _ (by omega) ?_ _ _ _ _ h
      intro M36 k35 r h
      refine R_inc (pc := 137) (pc' := 140) (ls' := [(0, .ref 241), (1, .int f1), (2, .int (a2 + 1)), (3, .int k35)]) (c := 1) (show z_pt 177 137 = some (6, .iinc 2 1, []) by decide +kernel) (by decide) rfl rfl ?_
      refine R_pure (pc := 140) (pc' := 32) (ls' := [(0, .ref 241), (1, .int f1), (2, .int (a2 + 1))]) (st' := []) (show z_pt 177 140 = some (6, .goto (-108), [3]) by decide +kernel) rfl (fun _ _ _ => rfl) ?_
      exact ih _ _ _  h
def pm_explores  (μ : z_Mem) (i1 : Int32) : Option z_Mem := pm_explores_L2 z_fu i1 (fun M6 k5 => pm_explores_L32 z_fu i1 (fun M38 k37 => some M38) M6 0) μ 0
theorem pm_explores_run  {μ : z_Mem} {i1 : Int32}  {r : z_Mem} (h : pm_explores μ i1 = some r) : Rn 2 177 0 [(0, .ref 241), (1, .int i1)] [] μ (.inl none) r := by
  unfold pm_explores at h
  refine R_const (pc := 0) (pc' := 1) (v := 0) (show z_ptc 177 0 = some (1, 0) by decide +kernel) ?_
  refine R_pure (pc := 1) (pc' := 2) (ls' := [(0, .ref 241), (1, .int i1), (2, .int 0)]) (st' := []) (show z_pt 177 1 = some (6, .istore_n 2, []) by decide +kernel) rfl (fun _ _ _ => rfl) ?_
  refine pm_explores_L2_run  _ _  _ (by omega) ?_ _ _ _ _ h
  intro M6 k5 r h
  refine R_const (pc := 30) (pc' := 31) (v := 0) (show z_ptc 177 30 = some (31, 0) by decide +kernel) ?_
  refine R_pure (pc := 31) (pc' := 32) (ls' := [(0, .ref 241), (1, .int i1), (2, .int 0)]) (st' := []) (show z_pt 177 31 = some (6, .istore_n 2, []) by decide +kernel) rfl (fun _ _ _ => rfl) ?_
  refine pm_explores_L32_run  _ _  _ (by omega) ?_ _ _ _ _ h
  intro M38 k37 r h
  cases h
  exact R_retV (show z_pt 177 143 = some (6, .return_, []) by decide +kernel) (by decide +kernel)
def pm_isConnected  (μ : z_Mem) (i1 : Int32) (i2 : Int32) : Option (Int32 × z_Mem) := (pm_explores μ i1).bind fun q1 => (z_rd q1 249 10 i2).bind fun v3 => if v3 = (-1) then some (0, q1) else some (1, q1)
theorem pm_isConnected_run  {μ : z_Mem} {i1 : Int32} {i2 : Int32}  {r : (Int32 × z_Mem)} (h : pm_isConnected μ i1 i2 = some r) : Rn 3 178 0 [(0, .ref 241), (1, .int i1), (2, .int i2)] [] μ (.inl (some (.int r.1))) r.2 := by
  unfold pm_isConnected at h
  refine R_pure (pc := 0) (pc' := 1) (st' := [.ref 241]) (show z_pt 178 0 = some (3, .aload_n 0, []) by decide +kernel) rfl (fun _ _ _ => rfl) ?_
  refine R_pure (pc := 1) (pc' := 2) (st' := [.int i1, .ref 241]) (show z_pt 178 1 = some (3, .iload_n 1, []) by decide +kernel) rfl (fun _ _ _ => rfl) ?_
  obtain ⟨q1, e2, h⟩ := z_bs h
  refine R_call (pc := 2) (rr := []) (show z_pt 178 2 = some (3, .invokevirtual 71, [0, 177, 1, 6227, 6229, 43, 1012, 6230]) by decide +kernel) rfl (show z_r2 177 = some (10, 6, true) by decide +kernel) rfl rfl (Or.inr ⟨_, _, rfl, (by decide +kernel)⟩) (pm_explores_run  e2) (by omega) ?_
  refine R_at2 (pc := 5) (st := []) ?_
  refine R_pure (pc := 5) (pc' := 6) (st' := [.ref 241]) (show z_pt 178 5 = some (3, .aload_n 0, []) by decide +kernel) rfl (fun _ _ _ => rfl) ?_
  refine R_getR (pc := 6) (a := 241) (b := 249) (show z_pt 178 6 = some (3, .getfield 39, [10, 14, 6132]) by decide +kernel) (by decide +kernel) ?_
  refine R_at (pc := 9) ?_
  refine R_pure (pc := 9) (pc' := 10) (st' := [.int i2, .ref 249]) (show z_pt 178 9 = some (3, .iload_n 2, []) by decide +kernel) rfl (fun _ _ _ => rfl) ?_
  obtain ⟨v3, e4, h⟩ := z_bs h
  refine R_ialdR (pc := 10) (a := 249) (n := 10) (show z_pt 178 10 = some (3, .iaload, []) by decide +kernel) (show z_ar 249 0 10 = true by decide +kernel) e4 ?_
  refine R_at (pc := 11) ?_
  refine R_const (pc := 11) (pc' := 12) (v := (-1)) (show z_ptc 178 11 = some (12, (-1)) by decide +kernel) ?_
  refine R_icmeq (pc := 12) (t := 19) (show z_pt 178 12 = some (3, .if_icmp .eq 7, []) by decide +kernel) (by decide) (fun c5 => ?_) (fun c5 => ?_)
  · rw [if_pos c5] at h
    refine R_const (pc := 19) (pc' := 20) (v := 0) (show z_ptc 178 19 = some (20, 0) by decide +kernel) ?_
    cases h
    exact R_retZ (show z_pt 178 20 = some (3, .ireturn, []) by decide +kernel) (t := .boolean) (by decide +kernel) (by decide)
  · rw [if_neg c5] at h
    refine R_const (pc := 15) (pc' := 16) (v := 1) (show z_ptc 178 15 = some (16, 1) by decide +kernel) ?_
    refine R_pure (pc := 16) (pc' := 20) (show z_pt 178 16 = some (3, .goto 4, []) by decide +kernel) rfl (fun _ _ _ => rfl) ?_
    cases h
    exact R_retZ (show z_pt 178 20 = some (3, .ireturn, []) by decide +kernel) (t := .boolean) (by decide +kernel) (by decide)
def pm_addsGear  (μ : z_Mem) (i1 : Int32) : Option (Int32 × z_Mem) := (pm_in μ i1 8 60).bind fun q1 => if q1 = 0 then (pm_fails μ 1).bind fun q10 => some (q10.1, q10.2) else if (μ 242 0) = 10 then (pm_fails μ 2).bind fun q8 => some (q8.1, q8.2) else if z_inb (7 + (μ 242 0)) 331 = true then (pm_done (z_u (z_u μ 242 (7 + (μ 242 0)).toNatClampNeg i1) 242 0 (((z_u μ 242 (7 + (μ 242 0)).toNatClampNeg i1) 242 0) + 1)) (μ 242 0)).bind fun q6 => some (q6.1, q6.2) else none
theorem pm_addsGear_run  {μ : z_Mem} {i1 : Int32}  {r : (Int32 × z_Mem)} (h : pm_addsGear μ i1 = some r) : Rn 1 179 0 [(0, .ref 241), (1, .int i1)] [] μ (.inl (some (.int r.1))) r.2 := by
  unfold pm_addsGear at h
  refine R_pure (pc := 0) (pc' := 1) (st' := [.int i1]) (show z_pt 179 0 = some (3, .iload_n 1, []) by decide +kernel) rfl (fun _ _ _ => rfl) ?_
  refine R_const (pc := 1) (pc' := 3) (v := 8) (show z_ptc 179 1 = some (3, 8) by decide +kernel) ?_
  refine R_const (pc := 3) (pc' := 5) (v := 60) (show z_ptc 179 3 = some (5, 60) by decide +kernel) ?_
  obtain ⟨q1, e2, h⟩ := z_bs h
  refine R_call (pc := 5) (rr := []) (show z_pt 179 5 = some (3, .invokestatic 55, [1, 160, 3, 6192, 6193, 0, 1012, 6194]) by decide +kernel) rfl (show z_r2 160 = some (10, 3, true) by decide +kernel) rfl rfl (Or.inl (by decide)) (pm_in_run  e2) (by omega) ?_
  refine R_at2 (pc := 8) (st := [.int q1]) ?_
  refine R_ifne (pc := 8) (t := 17) (show z_pt 179 8 = some (3, .ifCond .ne 9, []) by decide +kernel) (by decide) (fun c3 => ?_) (fun c3 => ?_)
  · rw [if_neg c3] at h
    refine R_pure (pc := 17) (pc' := 18) (st' := [.ref 241]) (show z_pt 179 17 = some (3, .aload_n 0, []) by decide +kernel) rfl (fun _ _ _ => rfl) ?_
    refine R_getR (pc := 18) (a := 241) (b := 242) (show z_pt 179 18 = some (3, .getfield 7, [10, 0, 6118]) by decide +kernel) (by decide +kernel) ?_
    refine R_at (pc := 21) ?_
    refine R_const (pc := 21) (pc' := 22) (v := 0) (show z_ptc 179 21 = some (22, 0) by decide +kernel) ?_
    refine R_ialdK (pc := 22) (a := 242) (n := 331) (jn := 0) (show z_pt 179 22 = some (3, .iaload, []) by decide +kernel) (show z_ar 242 0 331 = true by decide +kernel) (by decide) (by decide) ?_
    refine R_at (pc := 23) ?_
    refine R_pure (pc := 23) (pc' := 24) (ls' := [(0, .ref 241), (1, .int i1), (2, .int (μ 242 0))]) (st' := []) (show z_pt 179 23 = some (3, .istore_n 2, []) by decide +kernel) rfl (fun _ _ _ => rfl) ?_
    refine R_pure (pc := 24) (pc' := 25) (st' := [.int (μ 242 0)]) (show z_pt 179 24 = some (3, .iload_n 2, []) by decide +kernel) rfl (fun _ _ _ => rfl) ?_
    refine R_const (pc := 25) (pc' := 27) (v := 10) (show z_ptc 179 25 = some (27, 10) by decide +kernel) ?_
    refine R_icmne (pc := 27) (t := 36) (show z_pt 179 27 = some (3, .if_icmp .ne 9, []) by decide +kernel) (by decide) (fun c4 => ?_) (fun c4 => ?_)
    · rw [if_neg c4] at h
      refine R_pure (pc := 36) (pc' := 37) (st' := [.ref 241]) (show z_pt 179 36 = some (3, .aload_n 0, []) by decide +kernel) rfl (fun _ _ _ => rfl) ?_
      refine R_getR (pc := 37) (a := 241) (b := 242) (show z_pt 179 37 = some (3, .getfield 7, [10, 0, 6118]) by decide +kernel) (by decide +kernel) ?_
      refine R_at (pc := 40) ?_
      refine R_const (pc := 40) (pc' := 42) (v := 7) (show z_ptc 179 40 = some (42, 7) by decide +kernel) ?_
      refine R_pure (pc := 42) (pc' := 43) (st' := [.int (μ 242 0), .int 7, .ref 242]) (show z_pt 179 42 = some (3, .iload_n 2, []) by decide +kernel) rfl (fun _ _ _ => rfl) ?_
      refine R_pure (pc := 43) (pc' := 44) (st' := [.int (7 + (μ 242 0)), .ref 242]) (show z_pt 179 43 = some (3, .iadd, []) by decide +kernel) rfl (fun _ _ _ => rfl) ?_
      refine R_pure (pc := 44) (pc' := 45) (st' := [.int i1, .int (7 + (μ 242 0)), .ref 242]) (show z_pt 179 44 = some (3, .iload_n 1, []) by decide +kernel) rfl (fun _ _ _ => rfl) ?_
      obtain ⟨g5, h⟩ := z_ig h
      refine R_iast (pc := 45) (a := 242) (n := 331) (show z_pt 179 45 = some (3, .iastore, []) by decide +kernel) (show z_ar 242 0 331 = true by decide +kernel) g5 ?_
      refine R_at (pc := 46) ?_
      refine R_pure (pc := 46) (pc' := 47) (st' := [.ref 241]) (show z_pt 179 46 = some (3, .aload_n 0, []) by decide +kernel) rfl (fun _ _ _ => rfl) ?_
      refine R_getR (pc := 47) (a := 241) (b := 242) (show z_pt 179 47 = some (3, .getfield 7, [10, 0, 6118]) by decide +kernel) (by decide +kernel) ?_
      refine R_at (pc := 50) ?_
      refine R_const (pc := 50) (pc' := 51) (v := 0) (show z_ptc 179 50 = some (51, 0) by decide +kernel) ?_
      refine R_pure (pc := 51) (pc' := 52) (st' := [.int 0, .ref 242, .int 0, .ref 242]) (show z_pt 179 51 = some (3, .dup2, []) by decide +kernel) rfl (fun _ _ _ => rfl) ?_
      refine R_ialdK (pc := 52) (a := 242) (n := 331) (jn := 0) (show z_pt 179 52 = some (3, .iaload, []) by decide +kernel) (show z_ar 242 0 331 = true by decide +kernel) (by decide) (by decide) ?_
      refine R_at (pc := 53) ?_
      refine R_const (pc := 53) (pc' := 54) (v := 1) (show z_ptc 179 53 = some (54, 1) by decide +kernel) ?_
      refine R_pure (pc := 54) (pc' := 55) (st' := [.int (((z_u μ 242 (7 + (μ 242 0)).toNatClampNeg i1) 242 0) + 1), .int 0, .ref 242]) (show z_pt 179 54 = some (3, .iadd, []) by decide +kernel) rfl (fun _ _ _ => rfl) ?_
      refine R_iastK (pc := 55) (a := 242) (n := 331) (jn := 0) (show z_pt 179 55 = some (3, .iastore, []) by decide +kernel) (show z_ar 242 0 331 = true by decide +kernel) (by decide) (by decide) ?_
      refine R_at (pc := 56) ?_
      refine R_pure (pc := 56) (pc' := 57) (st' := [.ref 241]) (show z_pt 179 56 = some (3, .aload_n 0, []) by decide +kernel) rfl (fun _ _ _ => rfl) ?_
      refine R_pure (pc := 57) (pc' := 58) (st' := [.int (μ 242 0), .ref 241]) (show z_pt 179 57 = some (3, .iload_n 2, []) by decide +kernel) rfl (fun _ _ _ => rfl) ?_
      obtain ⟨q6, e7, h⟩ := z_bs h
      refine R_call (pc := 58) (rr := []) (show z_pt 179 58 = some (3, .invokevirtual 79, [0, 164, 1, 6199, 6201, 37, 1012, 6202]) by decide +kernel) rfl (show z_r2 164 = some (10, 2, true) by decide +kernel) rfl rfl (Or.inr ⟨_, _, rfl, (by decide +kernel)⟩) (pm_done_run  e7) (by omega) ?_
      refine R_at2 (pc := 61) (st := [.int q6.1]) ?_
      cases h
      exact R_retI (show z_pt 179 61 = some (3, .ireturn, []) by decide +kernel) (by decide +kernel)
    · rw [if_pos c4] at h
      refine R_pure (pc := 30) (pc' := 31) (st' := [.ref 241]) (show z_pt 179 30 = some (3, .aload_n 0, []) by decide +kernel) rfl (fun _ _ _ => rfl) ?_
      refine R_const (pc := 31) (pc' := 32) (v := 2) (show z_ptc 179 31 = some (32, 2) by decide +kernel) ?_
      obtain ⟨q8, e9, h⟩ := z_bs h
      refine R_call (pc := 32) (rr := []) (show z_pt 179 32 = some (3, .invokevirtual 75, [0, 165, 1, 6195, 6197, 36, 1012, 6198]) by decide +kernel) rfl (show z_r2 165 = some (10, 2, true) by decide +kernel) rfl rfl (Or.inr ⟨_, _, rfl, (by decide +kernel)⟩) (pm_fails_run  e9) (by omega) ?_
      refine R_at2 (pc := 35) (st := [.int q8.1]) ?_
      cases h
      exact R_retI (show z_pt 179 35 = some (3, .ireturn, []) by decide +kernel) (by decide +kernel)
  · rw [if_pos c3] at h
    refine R_pure (pc := 11) (pc' := 12) (st' := [.ref 241]) (show z_pt 179 11 = some (3, .aload_n 0, []) by decide +kernel) rfl (fun _ _ _ => rfl) ?_
    refine R_const (pc := 12) (pc' := 13) (v := 1) (show z_ptc 179 12 = some (13, 1) by decide +kernel) ?_
    obtain ⟨q10, e11, h⟩ := z_bs h
    refine R_call (pc := 13) (rr := []) (show z_pt 179 13 = some (3, .invokevirtual 75, [0, 165, 1, 6195, 6197, 36, 1012, 6198]) by decide +kernel) rfl (show z_r2 165 = some (10, 2, true) by decide +kernel) rfl rfl (Or.inr ⟨_, _, rfl, (by decide +kernel)⟩) (pm_fails_run  e11) (by omega) ?_
    refine R_at2 (pc := 16) (st := [.int q10.1]) ?_
    cases h
    exact R_retI (show z_pt 179 16 = some (3, .ireturn, []) by decide +kernel) (by decide +kernel)
def pm_addGear  (μ : z_Mem) (i1 : Int32) : Option (Int32 × z_Mem) := (pm_begin μ).bind fun q1 => (pm_addsGear q1 i1).bind fun q3 => (pm_kept q3.2 q3.1).bind fun q5 => some (q5.1, q5.2)
theorem pm_addGear_run  {μ : z_Mem} {i1 : Int32}  {r : (Int32 × z_Mem)} (h : pm_addGear μ i1 = some r) : Rn 2 180 0 [(0, .ref 241), (1, .int i1)] [] μ (.inl (some (.int r.1))) r.2 := by
  unfold pm_addGear at h
  refine R_pure (pc := 0) (pc' := 1) (st' := [.ref 241]) (show z_pt 180 0 = some (2, .aload_n 0, []) by decide +kernel) rfl (fun _ _ _ => rfl) ?_
  obtain ⟨q1, e2, h⟩ := z_bs h
  refine R_call (pc := 1) (rr := []) (show z_pt 180 1 = some (2, .invokevirtual 82, [0, 167, 0, 6181, 6183, 34, 1012, 6184]) by decide +kernel) rfl (show z_r2 167 = some (10, 1, true) by decide +kernel) rfl rfl (Or.inr ⟨_, _, rfl, (by decide +kernel)⟩) (pm_begin_run  e2) (by omega) ?_
  refine R_at2 (pc := 4) (st := []) ?_
  refine R_pure (pc := 4) (pc' := 5) (st' := [.ref 241]) (show z_pt 180 4 = some (2, .aload_n 0, []) by decide +kernel) rfl (fun _ _ _ => rfl) ?_
  refine R_pure (pc := 5) (pc' := 6) (st' := [.ref 241, .ref 241]) (show z_pt 180 5 = some (2, .aload_n 0, []) by decide +kernel) rfl (fun _ _ _ => rfl) ?_
  refine R_pure (pc := 6) (pc' := 7) (st' := [.int i1, .ref 241, .ref 241]) (show z_pt 180 6 = some (2, .iload_n 1, []) by decide +kernel) rfl (fun _ _ _ => rfl) ?_
  obtain ⟨q3, e4, h⟩ := z_bs h
  refine R_call (pc := 7) (rr := [.ref 241]) (show z_pt 180 7 = some (2, .invokevirtual 85, [0, 179, 1, 6188, 6190, 35, 1012, 6191]) by decide +kernel) rfl (show z_r2 179 = some (10, 3, true) by decide +kernel) rfl rfl (Or.inr ⟨_, _, rfl, (by decide +kernel)⟩) (pm_addsGear_run  e4) (by omega) ?_
  refine R_at2 (pc := 10) (st := [.int q3.1, .ref 241]) ?_
  obtain ⟨q5, e6, h⟩ := z_bs h
  refine R_call (pc := 10) (rr := []) (show z_pt 180 10 = some (2, .invokevirtual 88, [0, 168, 1, 6203, 6205, 38, 1012, 6206]) by decide +kernel) rfl (show z_r2 168 = some (10, 3, true) by decide +kernel) rfl rfl (Or.inr ⟨_, _, rfl, (by decide +kernel)⟩) (pm_kept_run  e6) (by omega) ?_
  refine R_at2 (pc := 13) (st := [.int q5.1]) ?_
  cases h
  exact R_retI (show z_pt 180 13 = some (2, .ireturn, []) by decide +kernel) (by decide +kernel)
def pm_joins  (μ : z_Mem) (i1 : Int32) (i2 : Int32) (i3 : Int32) : Option (Int32 × z_Mem) := (pm_areGears μ i1 i2).bind fun q1 => if q1 = 0 then (pm_fails μ 1).bind fun q24 => some (q24.1, q24.2) else (pm_in μ i3 0 5).bind fun q4 => if q4 = 0 then (pm_fails μ 2).bind fun q22 => some (q22.1, q22.2) else (pm_isConnected μ i1 i2).bind fun q7 => if q7.1 = 0 then (pm_pair q7.2 i1 i2).bind fun q10 => if z_inb (27 + q10) 331 = true then (pm_pair (z_u q7.2 242 (27 + q10).toNatClampNeg (i3 + 1)) i1 i2).bind fun q13 => if z_inb (127 + q13) 331 = true then (pm_meshes (z_u (z_u q7.2 242 (27 + q10).toNatClampNeg (i3 + 1)) 242 (127 + q13).toNatClampNeg 0)).bind fun q16 => (pm_done (z_u (z_u q7.2 242 (27 + q10).toNatClampNeg (i3 + 1)) 242 (127 + q13).toNatClampNeg 0) q16).bind fun q18 => some (q18.1, q18.2) else none else none else (pm_fails q7.2 3).bind fun q20 => some (q20.1, q20.2)
theorem pm_joins_run  {μ : z_Mem} {i1 : Int32} {i2 : Int32} {i3 : Int32}  {r : (Int32 × z_Mem)} (h : pm_joins μ i1 i2 i3 = some r) : Rn 4 181 0 [(0, .ref 241), (1, .int i1), (2, .int i2), (3, .int i3)] [] μ (.inl (some (.int r.1))) r.2 := by
  unfold pm_joins at h
  refine R_pure (pc := 0) (pc' := 1) (st' := [.ref 241]) (show z_pt 181 0 = some (4, .aload_n 0, []) by decide +kernel) rfl (fun _ _ _ => rfl) ?_
  refine R_pure (pc := 1) (pc' := 2) (st' := [.int i1, .ref 241]) (show z_pt 181 1 = some (4, .iload_n 1, []) by decide +kernel) rfl (fun _ _ _ => rfl) ?_
  refine R_pure (pc := 2) (pc' := 3) (st' := [.int i2, .int i1, .ref 241]) (show z_pt 181 2 = some (4, .iload_n 2, []) by decide +kernel) rfl (fun _ _ _ => rfl) ?_
  obtain ⟨q1, e2, h⟩ := z_bs h
  refine R_call (pc := 3) (rr := []) (show z_pt 181 3 = some (4, .invokevirtual 91, [0, 170, 2, 6215, 6217, 40, 1012, 6218]) by decide +kernel) rfl (show z_r2 170 = some (10, 3, true) by decide +kernel) rfl rfl (Or.inr ⟨_, _, rfl, (by decide +kernel)⟩) (pm_areGears_run  e2) (by omega) ?_
  refine R_at2 (pc := 6) (st := [.int q1]) ?_
  refine R_ifne (pc := 6) (t := 15) (show z_pt 181 6 = some (4, .ifCond .ne 9, []) by decide +kernel) (by decide) (fun c3 => ?_) (fun c3 => ?_)
  · rw [if_neg c3] at h
    refine R_pure (pc := 15) (pc' := 16) (st' := [.int i3]) (show z_pt 181 15 = some (4, .iload_n 3, []) by decide +kernel) rfl (fun _ _ _ => rfl) ?_
    refine R_const (pc := 16) (pc' := 17) (v := 0) (show z_ptc 181 16 = some (17, 0) by decide +kernel) ?_
    refine R_const (pc := 17) (pc' := 18) (v := 5) (show z_ptc 181 17 = some (18, 5) by decide +kernel) ?_
    obtain ⟨q4, e5, h⟩ := z_bs h
    refine R_call (pc := 18) (rr := []) (show z_pt 181 18 = some (4, .invokestatic 55, [1, 160, 3, 6192, 6193, 0, 1012, 6194]) by decide +kernel) rfl (show z_r2 160 = some (10, 3, true) by decide +kernel) rfl rfl (Or.inl (by decide)) (pm_in_run  e5) (by omega) ?_
    refine R_at2 (pc := 21) (st := [.int q4]) ?_
    refine R_ifne (pc := 21) (t := 30) (show z_pt 181 21 = some (4, .ifCond .ne 9, []) by decide +kernel) (by decide) (fun c6 => ?_) (fun c6 => ?_)
    · rw [if_neg c6] at h
      refine R_pure (pc := 30) (pc' := 31) (st' := [.ref 241]) (show z_pt 181 30 = some (4, .aload_n 0, []) by decide +kernel) rfl (fun _ _ _ => rfl) ?_
      refine R_pure (pc := 31) (pc' := 32) (st' := [.int i1, .ref 241]) (show z_pt 181 31 = some (4, .iload_n 1, []) by decide +kernel) rfl (fun _ _ _ => rfl) ?_
      refine R_pure (pc := 32) (pc' := 33) (st' := [.int i2, .int i1, .ref 241]) (show z_pt 181 32 = some (4, .iload_n 2, []) by decide +kernel) rfl (fun _ _ _ => rfl) ?_
      obtain ⟨q7, e8, h⟩ := z_bs h
      refine R_call (pc := 33) (rr := []) (show z_pt 181 33 = some (4, .invokevirtual 94, [0, 178, 2, 6223, 6225, 42, 1012, 6226]) by decide +kernel) rfl (show z_r2 178 = some (10, 3, true) by decide +kernel) rfl rfl (Or.inr ⟨_, _, rfl, (by decide +kernel)⟩) (pm_isConnected_run  e8) (by omega) ?_
      refine R_at2 (pc := 36) (st := [.int q7.1]) ?_
      refine R_ifeq (pc := 36) (t := 45) (show z_pt 181 36 = some (4, .ifCond .eq 9, []) by decide +kernel) (by decide) (fun c9 => ?_) (fun c9 => ?_)
      · rw [if_pos c9] at h
        refine R_pure (pc := 45) (pc' := 46) (st' := [.ref 241]) (show z_pt 181 45 = some (4, .aload_n 0, []) by decide +kernel) rfl (fun _ _ _ => rfl) ?_
        refine R_getR (pc := 46) (a := 241) (b := 242) (show z_pt 181 46 = some (4, .getfield 7, [10, 0, 6118]) by decide +kernel) (by decide +kernel) ?_
        refine R_at (pc := 49) ?_
        refine R_const (pc := 49) (pc' := 51) (v := 27) (show z_ptc 181 49 = some (51, 27) by decide +kernel) ?_
        refine R_pure (pc := 51) (pc' := 52) (st' := [.int i1, .int 27, .ref 242]) (show z_pt 181 51 = some (4, .iload_n 1, []) by decide +kernel) rfl (fun _ _ _ => rfl) ?_
        refine R_pure (pc := 52) (pc' := 53) (st' := [.int i2, .int i1, .int 27, .ref 242]) (show z_pt 181 52 = some (4, .iload_n 2, []) by decide +kernel) rfl (fun _ _ _ => rfl) ?_
        obtain ⟨q10, e11, h⟩ := z_bs h
        refine R_call (pc := 53) (rr := [.int 27, .ref 242]) (show z_pt 181 53 = some (4, .invokestatic 63, [1, 172, 2, 6235, 6236, 0, 1012, 6237]) by decide +kernel) rfl (show z_r2 172 = some (10, 2, true) by decide +kernel) rfl rfl (Or.inl (by decide)) (pm_pair_run  e11) (by omega) ?_
        refine R_at2 (pc := 56) (st := [.int q10, .int 27, .ref 242]) ?_
        refine R_pure (pc := 56) (pc' := 57) (st' := [.int (27 + q10), .ref 242]) (show z_pt 181 56 = some (4, .iadd, []) by decide +kernel) rfl (fun _ _ _ => rfl) ?_
        refine R_pure (pc := 57) (pc' := 58) (st' := [.int i3, .int (27 + q10), .ref 242]) (show z_pt 181 57 = some (4, .iload_n 3, []) by decide +kernel) rfl (fun _ _ _ => rfl) ?_
        refine R_const (pc := 58) (pc' := 59) (v := 1) (show z_ptc 181 58 = some (59, 1) by decide +kernel) ?_
        refine R_pure (pc := 59) (pc' := 60) (st' := [.int (i3 + 1), .int (27 + q10), .ref 242]) (show z_pt 181 59 = some (4, .iadd, []) by decide +kernel) rfl (fun _ _ _ => rfl) ?_
        obtain ⟨g12, h⟩ := z_ig h
        refine R_iast (pc := 60) (a := 242) (n := 331) (show z_pt 181 60 = some (4, .iastore, []) by decide +kernel) (show z_ar 242 0 331 = true by decide +kernel) g12 ?_
        refine R_at (pc := 61) ?_
        refine R_pure (pc := 61) (pc' := 62) (st' := [.ref 241]) (show z_pt 181 61 = some (4, .aload_n 0, []) by decide +kernel) rfl (fun _ _ _ => rfl) ?_
        refine R_getR (pc := 62) (a := 241) (b := 242) (show z_pt 181 62 = some (4, .getfield 7, [10, 0, 6118]) by decide +kernel) (by decide +kernel) ?_
        refine R_at (pc := 65) ?_
        refine R_const (pc := 65) (pc' := 67) (v := 127) (show z_ptc 181 65 = some (67, 127) by decide +kernel) ?_
        refine R_pure (pc := 67) (pc' := 68) (st' := [.int i1, .int 127, .ref 242]) (show z_pt 181 67 = some (4, .iload_n 1, []) by decide +kernel) rfl (fun _ _ _ => rfl) ?_
        refine R_pure (pc := 68) (pc' := 69) (st' := [.int i2, .int i1, .int 127, .ref 242]) (show z_pt 181 68 = some (4, .iload_n 2, []) by decide +kernel) rfl (fun _ _ _ => rfl) ?_
        obtain ⟨q13, e14, h⟩ := z_bs h
        refine R_call (pc := 69) (rr := [.int 127, .ref 242]) (show z_pt 181 69 = some (4, .invokestatic 63, [1, 172, 2, 6235, 6236, 0, 1012, 6237]) by decide +kernel) rfl (show z_r2 172 = some (10, 2, true) by decide +kernel) rfl rfl (Or.inl (by decide)) (pm_pair_run  e14) (by omega) ?_
        refine R_at2 (pc := 72) (st := [.int q13, .int 127, .ref 242]) ?_
        refine R_pure (pc := 72) (pc' := 73) (st' := [.int (127 + q13), .ref 242]) (show z_pt 181 72 = some (4, .iadd, []) by decide +kernel) rfl (fun _ _ _ => rfl) ?_
        refine R_const (pc := 73) (pc' := 74) (v := 0) (show z_ptc 181 73 = some (74, 0) by decide +kernel) ?_
        obtain ⟨g15, h⟩ := z_ig h
        refine R_iast (pc := 74) (a := 242) (n := 331) (show z_pt 181 74 = some (4, .iastore, []) by decide +kernel) (show z_ar 242 0 331 = true by decide +kernel) g15 ?_
        refine R_at (pc := 75) ?_
        refine R_pure (pc := 75) (pc' := 76) (st' := [.ref 241]) (show z_pt 181 75 = some (4, .aload_n 0, []) by decide +kernel) rfl (fun _ _ _ => rfl) ?_
        refine R_pure (pc := 76) (pc' := 77) (st' := [.ref 241, .ref 241]) (show z_pt 181 76 = some (4, .aload_n 0, []) by decide +kernel) rfl (fun _ _ _ => rfl) ?_
        obtain ⟨q16, e17, h⟩ := z_bs h
        refine R_call (pc := 77) (rr := [.ref 241]) (show z_pt 181 77 = some (4, .invokevirtual 97, [0, 176, 0, 6238, 7000, 45, 1012, 7001]) by decide +kernel) rfl (show z_r2 176 = some (10, 4, true) by decide +kernel) rfl rfl (Or.inr ⟨_, _, rfl, (by decide +kernel)⟩) (pm_meshes_run  e17) (by omega) ?_
        refine R_at2 (pc := 80) (st := [.int q16, .ref 241]) ?_
        obtain ⟨q18, e19, h⟩ := z_bs h
        refine R_call (pc := 80) (rr := []) (show z_pt 181 80 = some (4, .invokevirtual 79, [0, 164, 1, 6199, 6201, 37, 1012, 6202]) by decide +kernel) rfl (show z_r2 164 = some (10, 2, true) by decide +kernel) rfl rfl (Or.inr ⟨_, _, rfl, (by decide +kernel)⟩) (pm_done_run  e19) (by omega) ?_
        refine R_at2 (pc := 83) (st := [.int q18.1]) ?_
        cases h
        exact R_retI (show z_pt 181 83 = some (4, .ireturn, []) by decide +kernel) (by decide +kernel)
      · rw [if_neg c9] at h
        refine R_pure (pc := 39) (pc' := 40) (st' := [.ref 241]) (show z_pt 181 39 = some (4, .aload_n 0, []) by decide +kernel) rfl (fun _ _ _ => rfl) ?_
        refine R_const (pc := 40) (pc' := 41) (v := 3) (show z_ptc 181 40 = some (41, 3) by decide +kernel) ?_
        obtain ⟨q20, e21, h⟩ := z_bs h
        refine R_call (pc := 41) (rr := []) (show z_pt 181 41 = some (4, .invokevirtual 75, [0, 165, 1, 6195, 6197, 36, 1012, 6198]) by decide +kernel) rfl (show z_r2 165 = some (10, 2, true) by decide +kernel) rfl rfl (Or.inr ⟨_, _, rfl, (by decide +kernel)⟩) (pm_fails_run  e21) (by omega) ?_
        refine R_at2 (pc := 44) (st := [.int q20.1]) ?_
        cases h
        exact R_retI (show z_pt 181 44 = some (4, .ireturn, []) by decide +kernel) (by decide +kernel)
    · rw [if_pos c6] at h
      refine R_pure (pc := 24) (pc' := 25) (st' := [.ref 241]) (show z_pt 181 24 = some (4, .aload_n 0, []) by decide +kernel) rfl (fun _ _ _ => rfl) ?_
      refine R_const (pc := 25) (pc' := 26) (v := 2) (show z_ptc 181 25 = some (26, 2) by decide +kernel) ?_
      obtain ⟨q22, e23, h⟩ := z_bs h
      refine R_call (pc := 26) (rr := []) (show z_pt 181 26 = some (4, .invokevirtual 75, [0, 165, 1, 6195, 6197, 36, 1012, 6198]) by decide +kernel) rfl (show z_r2 165 = some (10, 2, true) by decide +kernel) rfl rfl (Or.inr ⟨_, _, rfl, (by decide +kernel)⟩) (pm_fails_run  e23) (by omega) ?_
      refine R_at2 (pc := 29) (st := [.int q22.1]) ?_
      cases h
      exact R_retI (show z_pt 181 29 = some (4, .ireturn, []) by decide +kernel) (by decide +kernel)
  · rw [if_pos c3] at h
    refine R_pure (pc := 9) (pc' := 10) (st' := [.ref 241]) (show z_pt 181 9 = some (4, .aload_n 0, []) by decide +kernel) rfl (fun _ _ _ => rfl) ?_
    refine R_const (pc := 10) (pc' := 11) (v := 1) (show z_ptc 181 10 = some (11, 1) by decide +kernel) ?_
    obtain ⟨q24, e25, h⟩ := z_bs h
    refine R_call (pc := 11) (rr := []) (show z_pt 181 11 = some (4, .invokevirtual 75, [0, 165, 1, 6195, 6197, 36, 1012, 6198]) by decide +kernel) rfl (show z_r2 165 = some (10, 2, true) by decide +kernel) rfl rfl (Or.inr ⟨_, _, rfl, (by decide +kernel)⟩) (pm_fails_run  e25) (by omega) ?_
    refine R_at2 (pc := 14) (st := [.int q24.1]) ?_
    cases h
    exact R_retI (show z_pt 181 14 = some (4, .ireturn, []) by decide +kernel) (by decide +kernel)
def pm_mesh  (μ : z_Mem) (i1 : Int32) (i2 : Int32) (i3 : Int32) : Option (Int32 × z_Mem) := (pm_begin μ).bind fun q1 => (pm_joins q1 i1 i2 i3).bind fun q3 => (pm_kept q3.2 q3.1).bind fun q5 => some (q5.1, q5.2)
theorem pm_mesh_run  {μ : z_Mem} {i1 : Int32} {i2 : Int32} {i3 : Int32}  {r : (Int32 × z_Mem)} (h : pm_mesh μ i1 i2 i3 = some r) : Rn 5 182 0 [(0, .ref 241), (1, .int i1), (2, .int i2), (3, .int i3)] [] μ (.inl (some (.int r.1))) r.2 := by
  unfold pm_mesh at h
  refine R_pure (pc := 0) (pc' := 1) (st' := [.ref 241]) (show z_pt 182 0 = some (4, .aload_n 0, []) by decide +kernel) rfl (fun _ _ _ => rfl) ?_
  obtain ⟨q1, e2, h⟩ := z_bs h
  refine R_call (pc := 1) (rr := []) (show z_pt 182 1 = some (4, .invokevirtual 82, [0, 167, 0, 6181, 6183, 34, 1012, 6184]) by decide +kernel) rfl (show z_r2 167 = some (10, 1, true) by decide +kernel) rfl rfl (Or.inr ⟨_, _, rfl, (by decide +kernel)⟩) (pm_begin_run  e2) (by omega) ?_
  refine R_at2 (pc := 4) (st := []) ?_
  refine R_pure (pc := 4) (pc' := 5) (st' := [.ref 241]) (show z_pt 182 4 = some (4, .aload_n 0, []) by decide +kernel) rfl (fun _ _ _ => rfl) ?_
  refine R_pure (pc := 5) (pc' := 6) (st' := [.ref 241, .ref 241]) (show z_pt 182 5 = some (4, .aload_n 0, []) by decide +kernel) rfl (fun _ _ _ => rfl) ?_
  refine R_pure (pc := 6) (pc' := 7) (st' := [.int i1, .ref 241, .ref 241]) (show z_pt 182 6 = some (4, .iload_n 1, []) by decide +kernel) rfl (fun _ _ _ => rfl) ?_
  refine R_pure (pc := 7) (pc' := 8) (st' := [.int i2, .int i1, .ref 241, .ref 241]) (show z_pt 182 7 = some (4, .iload_n 2, []) by decide +kernel) rfl (fun _ _ _ => rfl) ?_
  refine R_pure (pc := 8) (pc' := 9) (st' := [.int i3, .int i2, .int i1, .ref 241, .ref 241]) (show z_pt 182 8 = some (4, .iload_n 3, []) by decide +kernel) rfl (fun _ _ _ => rfl) ?_
  obtain ⟨q3, e4, h⟩ := z_bs h
  refine R_call (pc := 9) (rr := [.ref 241]) (show z_pt 182 9 = some (4, .invokevirtual 101, [0, 181, 3, 6211, 6213, 39, 1012, 6214]) by decide +kernel) rfl (show z_r2 181 = some (10, 4, true) by decide +kernel) rfl rfl (Or.inr ⟨_, _, rfl, (by decide +kernel)⟩) (pm_joins_run  e4) (by omega) ?_
  refine R_at2 (pc := 12) (st := [.int q3.1, .ref 241]) ?_
  obtain ⟨q5, e6, h⟩ := z_bs h
  refine R_call (pc := 12) (rr := []) (show z_pt 182 12 = some (4, .invokevirtual 88, [0, 168, 1, 6203, 6205, 38, 1012, 6206]) by decide +kernel) rfl (show z_r2 168 = some (10, 3, true) by decide +kernel) rfl rfl (Or.inr ⟨_, _, rfl, (by decide +kernel)⟩) (pm_kept_run  e6) (by omega) ?_
  refine R_at2 (pc := 15) (st := [.int q5.1]) ?_
  cases h
  exact R_retI (show z_pt 182 15 = some (4, .ireturn, []) by decide +kernel) (by decide +kernel)
def pm_parts  (μ : z_Mem) (i1 : Int32) (i2 : Int32) : Option (Int32 × z_Mem) := (pm_areGears μ i1 i2).bind fun q1 => if q1 = 0 then (pm_fails μ 1).bind fun q16 => some (q16.1, q16.2) else (pm_isMesh μ i1 i2).bind fun q4 => if q4 = 0 then (pm_fails μ 2).bind fun q14 => some (q14.1, q14.2) else (pm_pair μ i1 i2).bind fun q7 => if z_inb (27 + q7) 331 = true then (pm_gapOf (z_u μ 242 (27 + q7).toNatClampNeg 0) i1 i2).bind fun q10 => (pm_done (z_u μ 242 (27 + q7).toNatClampNeg 0) q10).bind fun q12 => some (q12.1, q12.2) else none
theorem pm_parts_run  {μ : z_Mem} {i1 : Int32} {i2 : Int32}  {r : (Int32 × z_Mem)} (h : pm_parts μ i1 i2 = some r) : Rn 3 183 0 [(0, .ref 241), (1, .int i1), (2, .int i2)] [] μ (.inl (some (.int r.1))) r.2 := by
  unfold pm_parts at h
  refine R_pure (pc := 0) (pc' := 1) (st' := [.ref 241]) (show z_pt 183 0 = some (3, .aload_n 0, []) by decide +kernel) rfl (fun _ _ _ => rfl) ?_
  refine R_pure (pc := 1) (pc' := 2) (st' := [.int i1, .ref 241]) (show z_pt 183 1 = some (3, .iload_n 1, []) by decide +kernel) rfl (fun _ _ _ => rfl) ?_
  refine R_pure (pc := 2) (pc' := 3) (st' := [.int i2, .int i1, .ref 241]) (show z_pt 183 2 = some (3, .iload_n 2, []) by decide +kernel) rfl (fun _ _ _ => rfl) ?_
  obtain ⟨q1, e2, h⟩ := z_bs h
  refine R_call (pc := 3) (rr := []) (show z_pt 183 3 = some (3, .invokevirtual 91, [0, 170, 2, 6215, 6217, 40, 1012, 6218]) by decide +kernel) rfl (show z_r2 170 = some (10, 3, true) by decide +kernel) rfl rfl (Or.inr ⟨_, _, rfl, (by decide +kernel)⟩) (pm_areGears_run  e2) (by omega) ?_
  refine R_at2 (pc := 6) (st := [.int q1]) ?_
  refine R_ifne (pc := 6) (t := 15) (show z_pt 183 6 = some (3, .ifCond .ne 9, []) by decide +kernel) (by decide) (fun c3 => ?_) (fun c3 => ?_)
  · rw [if_neg c3] at h
    refine R_pure (pc := 15) (pc' := 16) (st' := [.ref 241]) (show z_pt 183 15 = some (3, .aload_n 0, []) by decide +kernel) rfl (fun _ _ _ => rfl) ?_
    refine R_pure (pc := 16) (pc' := 17) (st' := [.int i1, .ref 241]) (show z_pt 183 16 = some (3, .iload_n 1, []) by decide +kernel) rfl (fun _ _ _ => rfl) ?_
    refine R_pure (pc := 17) (pc' := 18) (st' := [.int i2, .int i1, .ref 241]) (show z_pt 183 17 = some (3, .iload_n 2, []) by decide +kernel) rfl (fun _ _ _ => rfl) ?_
    obtain ⟨q4, e5, h⟩ := z_bs h
    refine R_call (pc := 18) (rr := []) (show z_pt 183 18 = some (3, .invokevirtual 67, [0, 173, 2, 6231, 6233, 44, 1012, 6234]) by decide +kernel) rfl (show z_r2 173 = some (10, 3, true) by decide +kernel) rfl rfl (Or.inr ⟨_, _, rfl, (by decide +kernel)⟩) (pm_isMesh_run  e5) (by omega) ?_
    refine R_at2 (pc := 21) (st := [.int q4]) ?_
    refine R_ifne (pc := 21) (t := 30) (show z_pt 183 21 = some (3, .ifCond .ne 9, []) by decide +kernel) (by decide) (fun c6 => ?_) (fun c6 => ?_)
    · rw [if_neg c6] at h
      refine R_pure (pc := 30) (pc' := 31) (st' := [.ref 241]) (show z_pt 183 30 = some (3, .aload_n 0, []) by decide +kernel) rfl (fun _ _ _ => rfl) ?_
      refine R_getR (pc := 31) (a := 241) (b := 242) (show z_pt 183 31 = some (3, .getfield 7, [10, 0, 6118]) by decide +kernel) (by decide +kernel) ?_
      refine R_at (pc := 34) ?_
      refine R_const (pc := 34) (pc' := 36) (v := 27) (show z_ptc 183 34 = some (36, 27) by decide +kernel) ?_
      refine R_pure (pc := 36) (pc' := 37) (st' := [.int i1, .int 27, .ref 242]) (show z_pt 183 36 = some (3, .iload_n 1, []) by decide +kernel) rfl (fun _ _ _ => rfl) ?_
      refine R_pure (pc := 37) (pc' := 38) (st' := [.int i2, .int i1, .int 27, .ref 242]) (show z_pt 183 37 = some (3, .iload_n 2, []) by decide +kernel) rfl (fun _ _ _ => rfl) ?_
      obtain ⟨q7, e8, h⟩ := z_bs h
      refine R_call (pc := 38) (rr := [.int 27, .ref 242]) (show z_pt 183 38 = some (3, .invokestatic 63, [1, 172, 2, 6235, 6236, 0, 1012, 6237]) by decide +kernel) rfl (show z_r2 172 = some (10, 2, true) by decide +kernel) rfl rfl (Or.inl (by decide)) (pm_pair_run  e8) (by omega) ?_
      refine R_at2 (pc := 41) (st := [.int q7, .int 27, .ref 242]) ?_
      refine R_pure (pc := 41) (pc' := 42) (st' := [.int (27 + q7), .ref 242]) (show z_pt 183 41 = some (3, .iadd, []) by decide +kernel) rfl (fun _ _ _ => rfl) ?_
      refine R_const (pc := 42) (pc' := 43) (v := 0) (show z_ptc 183 42 = some (43, 0) by decide +kernel) ?_
      obtain ⟨g9, h⟩ := z_ig h
      refine R_iast (pc := 43) (a := 242) (n := 331) (show z_pt 183 43 = some (3, .iastore, []) by decide +kernel) (show z_ar 242 0 331 = true by decide +kernel) g9 ?_
      refine R_at (pc := 44) ?_
      refine R_pure (pc := 44) (pc' := 45) (st' := [.ref 241]) (show z_pt 183 44 = some (3, .aload_n 0, []) by decide +kernel) rfl (fun _ _ _ => rfl) ?_
      refine R_pure (pc := 45) (pc' := 46) (st' := [.ref 241, .ref 241]) (show z_pt 183 45 = some (3, .aload_n 0, []) by decide +kernel) rfl (fun _ _ _ => rfl) ?_
      refine R_pure (pc := 46) (pc' := 47) (st' := [.int i1, .ref 241, .ref 241]) (show z_pt 183 46 = some (3, .iload_n 1, []) by decide +kernel) rfl (fun _ _ _ => rfl) ?_
      refine R_pure (pc := 47) (pc' := 48) (st' := [.int i2, .int i1, .ref 241, .ref 241]) (show z_pt 183 47 = some (3, .iload_n 2, []) by decide +kernel) rfl (fun _ _ _ => rfl) ?_
      obtain ⟨q10, e11, h⟩ := z_bs h
      refine R_call (pc := 48) (rr := [.ref 241]) (show z_pt 183 48 = some (3, .invokevirtual 105, [0, 175, 2, 7010, 7012, 47, 1012, 7013]) by decide +kernel) rfl (show z_r2 175 = some (10, 3, true) by decide +kernel) rfl rfl (Or.inr ⟨_, _, rfl, (by decide +kernel)⟩) (pm_gapOf_run  e11) (by omega) ?_
      refine R_at2 (pc := 51) (st := [.int q10, .ref 241]) ?_
      obtain ⟨q12, e13, h⟩ := z_bs h
      refine R_call (pc := 51) (rr := []) (show z_pt 183 51 = some (3, .invokevirtual 79, [0, 164, 1, 6199, 6201, 37, 1012, 6202]) by decide +kernel) rfl (show z_r2 164 = some (10, 2, true) by decide +kernel) rfl rfl (Or.inr ⟨_, _, rfl, (by decide +kernel)⟩) (pm_done_run  e13) (by omega) ?_
      refine R_at2 (pc := 54) (st := [.int q12.1]) ?_
      cases h
      exact R_retI (show z_pt 183 54 = some (3, .ireturn, []) by decide +kernel) (by decide +kernel)
    · rw [if_pos c6] at h
      refine R_pure (pc := 24) (pc' := 25) (st' := [.ref 241]) (show z_pt 183 24 = some (3, .aload_n 0, []) by decide +kernel) rfl (fun _ _ _ => rfl) ?_
      refine R_const (pc := 25) (pc' := 26) (v := 2) (show z_ptc 183 25 = some (26, 2) by decide +kernel) ?_
      obtain ⟨q14, e15, h⟩ := z_bs h
      refine R_call (pc := 26) (rr := []) (show z_pt 183 26 = some (3, .invokevirtual 75, [0, 165, 1, 6195, 6197, 36, 1012, 6198]) by decide +kernel) rfl (show z_r2 165 = some (10, 2, true) by decide +kernel) rfl rfl (Or.inr ⟨_, _, rfl, (by decide +kernel)⟩) (pm_fails_run  e15) (by omega) ?_
      refine R_at2 (pc := 29) (st := [.int q14.1]) ?_
      cases h
      exact R_retI (show z_pt 183 29 = some (3, .ireturn, []) by decide +kernel) (by decide +kernel)
  · rw [if_pos c3] at h
    refine R_pure (pc := 9) (pc' := 10) (st' := [.ref 241]) (show z_pt 183 9 = some (3, .aload_n 0, []) by decide +kernel) rfl (fun _ _ _ => rfl) ?_
    refine R_const (pc := 10) (pc' := 11) (v := 1) (show z_ptc 183 10 = some (11, 1) by decide +kernel) ?_
    obtain ⟨q16, e17, h⟩ := z_bs h
    refine R_call (pc := 11) (rr := []) (show z_pt 183 11 = some (3, .invokevirtual 75, [0, 165, 1, 6195, 6197, 36, 1012, 6198]) by decide +kernel) rfl (show z_r2 165 = some (10, 2, true) by decide +kernel) rfl rfl (Or.inr ⟨_, _, rfl, (by decide +kernel)⟩) (pm_fails_run  e17) (by omega) ?_
    refine R_at2 (pc := 14) (st := [.int q16.1]) ?_
    cases h
    exact R_retI (show z_pt 183 14 = some (3, .ireturn, []) by decide +kernel) (by decide +kernel)
def pm_part  (μ : z_Mem) (i1 : Int32) (i2 : Int32) : Option (Int32 × z_Mem) := (pm_begin μ).bind fun q1 => (pm_parts q1 i1 i2).bind fun q3 => (pm_kept q3.2 q3.1).bind fun q5 => some (q5.1, q5.2)
theorem pm_part_run  {μ : z_Mem} {i1 : Int32} {i2 : Int32}  {r : (Int32 × z_Mem)} (h : pm_part μ i1 i2 = some r) : Rn 4 184 0 [(0, .ref 241), (1, .int i1), (2, .int i2)] [] μ (.inl (some (.int r.1))) r.2 := by
  unfold pm_part at h
  refine R_pure (pc := 0) (pc' := 1) (st' := [.ref 241]) (show z_pt 184 0 = some (3, .aload_n 0, []) by decide +kernel) rfl (fun _ _ _ => rfl) ?_
  obtain ⟨q1, e2, h⟩ := z_bs h
  refine R_call (pc := 1) (rr := []) (show z_pt 184 1 = some (3, .invokevirtual 82, [0, 167, 0, 6181, 6183, 34, 1012, 6184]) by decide +kernel) rfl (show z_r2 167 = some (10, 1, true) by decide +kernel) rfl rfl (Or.inr ⟨_, _, rfl, (by decide +kernel)⟩) (pm_begin_run  e2) (by omega) ?_
  refine R_at2 (pc := 4) (st := []) ?_
  refine R_pure (pc := 4) (pc' := 5) (st' := [.ref 241]) (show z_pt 184 4 = some (3, .aload_n 0, []) by decide +kernel) rfl (fun _ _ _ => rfl) ?_
  refine R_pure (pc := 5) (pc' := 6) (st' := [.ref 241, .ref 241]) (show z_pt 184 5 = some (3, .aload_n 0, []) by decide +kernel) rfl (fun _ _ _ => rfl) ?_
  refine R_pure (pc := 6) (pc' := 7) (st' := [.int i1, .ref 241, .ref 241]) (show z_pt 184 6 = some (3, .iload_n 1, []) by decide +kernel) rfl (fun _ _ _ => rfl) ?_
  refine R_pure (pc := 7) (pc' := 8) (st' := [.int i2, .int i1, .ref 241, .ref 241]) (show z_pt 184 7 = some (3, .iload_n 2, []) by decide +kernel) rfl (fun _ _ _ => rfl) ?_
  obtain ⟨q3, e4, h⟩ := z_bs h
  refine R_call (pc := 8) (rr := [.ref 241]) (show z_pt 184 8 = some (3, .invokevirtual 108, [0, 183, 2, 7006, 7008, 46, 1012, 7009]) by decide +kernel) rfl (show z_r2 183 = some (10, 3, true) by decide +kernel) rfl rfl (Or.inr ⟨_, _, rfl, (by decide +kernel)⟩) (pm_parts_run  e4) (by omega) ?_
  refine R_at2 (pc := 11) (st := [.int q3.1, .ref 241]) ?_
  obtain ⟨q5, e6, h⟩ := z_bs h
  refine R_call (pc := 11) (rr := []) (show z_pt 184 11 = some (3, .invokevirtual 88, [0, 168, 1, 6203, 6205, 38, 1012, 6206]) by decide +kernel) rfl (show z_r2 168 = some (10, 3, true) by decide +kernel) rfl rfl (Or.inr ⟨_, _, rfl, (by decide +kernel)⟩) (pm_kept_run  e6) (by omega) ?_
  refine R_at2 (pc := 14) (st := [.int q5.1]) ?_
  cases h
  exact R_retI (show z_pt 184 14 = some (3, .ireturn, []) by decide +kernel) (by decide +kernel)
def pm_passesOn  (μ : z_Mem) (i1 : Int32) (i2 : Int32) (i3 : Int32) : Option (Int32 × z_Mem) := (pm_gapOf μ i1 i2).bind fun q1 => if i3 ≤ 0 then (pm_slackOf μ i1 i2).bind fun q4 => (pm_less μ (-i3) (q4 - q1)).bind fun q6 => (pm_pair μ i1 i2).bind fun q8 => (z_rd μ 242 331 (127 + q8)).bind fun v10 => if i3 ≤ 0 then if z_inb (127 + q8) 331 = true then if i3 ≤ 0 then some (((-i3) - q6), (z_u μ 242 (127 + q8).toNatClampNeg (v10 + q6))) else some ((q6 - i3), (z_u μ 242 (127 + q8).toNatClampNeg (v10 + q6))) else none else if z_inb (127 + q8) 331 = true then if i3 ≤ 0 then some (((-i3) - q6), (z_u μ 242 (127 + q8).toNatClampNeg (v10 + (-q6)))) else some ((q6 - i3), (z_u μ 242 (127 + q8).toNatClampNeg (v10 + (-q6)))) else none else (pm_less μ i3 q1).bind fun q17 => (pm_pair μ i1 i2).bind fun q19 => (z_rd μ 242 331 (127 + q19)).bind fun v21 => if i3 ≤ 0 then if z_inb (127 + q19) 331 = true then if i3 ≤ 0 then some (((-i3) - q17), (z_u μ 242 (127 + q19).toNatClampNeg (v21 + q17))) else some ((q17 - i3), (z_u μ 242 (127 + q19).toNatClampNeg (v21 + q17))) else none else if z_inb (127 + q19) 331 = true then if i3 ≤ 0 then some (((-i3) - q17), (z_u μ 242 (127 + q19).toNatClampNeg (v21 + (-q17)))) else some ((q17 - i3), (z_u μ 242 (127 + q19).toNatClampNeg (v21 + (-q17)))) else none
theorem pm_passesOn_run  {μ : z_Mem} {i1 : Int32} {i2 : Int32} {i3 : Int32}  {r : (Int32 × z_Mem)} (h : pm_passesOn μ i1 i2 i3 = some r) : Rn 2 185 0 [(0, .ref 241), (1, .int i1), (2, .int i2), (3, .int i3)] [] μ (.inl (some (.int r.1))) r.2 := by
  unfold pm_passesOn at h
  refine R_pure (pc := 0) (pc' := 1) (st' := [.ref 241]) (show z_pt 185 0 = some (6, .aload_n 0, []) by decide +kernel) rfl (fun _ _ _ => rfl) ?_
  refine R_pure (pc := 1) (pc' := 2) (st' := [.int i1, .ref 241]) (show z_pt 185 1 = some (6, .iload_n 1, []) by decide +kernel) rfl (fun _ _ _ => rfl) ?_
  refine R_pure (pc := 2) (pc' := 3) (st' := [.int i2, .int i1, .ref 241]) (show z_pt 185 2 = some (6, .iload_n 2, []) by decide +kernel) rfl (fun _ _ _ => rfl) ?_
  obtain ⟨q1, e2, h⟩ := z_bs h
  refine R_call (pc := 3) (rr := []) (show z_pt 185 3 = some (6, .invokevirtual 105, [0, 175, 2, 7010, 7012, 47, 1012, 7013]) by decide +kernel) rfl (show z_r2 175 = some (10, 3, true) by decide +kernel) rfl rfl (Or.inr ⟨_, _, rfl, (by decide +kernel)⟩) (pm_gapOf_run  e2) (by omega) ?_
  refine R_at2 (pc := 6) (st := [.int q1]) ?_
  refine R_pure (pc := 6) (pc' := 8) (ls' := [(0, .ref 241), (1, .int i1), (2, .int i2), (3, .int i3), (4, .int q1)]) (st' := []) (show z_pt 185 6 = some (6, .istore 4, []) by decide +kernel) rfl (fun _ _ _ => rfl) ?_
  refine R_pure (pc := 8) (pc' := 9) (st' := [.int i3]) (show z_pt 185 8 = some (6, .iload_n 3, []) by decide +kernel) rfl (fun _ _ _ => rfl) ?_
  refine R_ifle (pc := 9) (t := 21) (show z_pt 185 9 = some (6, .ifCond .le 12, []) by decide +kernel) (by decide) (fun c3 => ?_) (fun c3 => ?_)
  · rw [if_pos c3] at h
    refine R_pure (pc := 21) (pc' := 22) (st' := [.int i3]) (show z_pt 185 21 = some (6, .iload_n 3, []) by decide +kernel) rfl (fun _ _ _ => rfl) ?_
    refine R_pure (pc := 22) (pc' := 23) (st' := [.int (-i3)]) (show z_pt 185 22 = some (6, .ineg, []) by decide +kernel) rfl (fun _ _ _ => rfl) ?_
    refine R_pure (pc := 23) (pc' := 24) (st' := [.ref 241, .int (-i3)]) (show z_pt 185 23 = some (6, .aload_n 0, []) by decide +kernel) rfl (fun _ _ _ => rfl) ?_
    refine R_pure (pc := 24) (pc' := 25) (st' := [.int i1, .ref 241, .int (-i3)]) (show z_pt 185 24 = some (6, .iload_n 1, []) by decide +kernel) rfl (fun _ _ _ => rfl) ?_
    refine R_pure (pc := 25) (pc' := 26) (st' := [.int i2, .int i1, .ref 241, .int (-i3)]) (show z_pt 185 25 = some (6, .iload_n 2, []) by decide +kernel) rfl (fun _ _ _ => rfl) ?_
    obtain ⟨q4, e5, h⟩ := z_bs h
    refine R_call (pc := 26) (rr := [.int (-i3)]) (show z_pt 185 26 = some (6, .invokevirtual 114, [0, 174, 2, 7036, 7038, 51, 1012, 7039]) by decide +kernel) rfl (show z_r2 174 = some (10, 3, true) by decide +kernel) rfl rfl (Or.inr ⟨_, _, rfl, (by decide +kernel)⟩) (pm_slackOf_run  e5) (by omega) ?_
    refine R_at2 (pc := 29) (st := [.int q4, .int (-i3)]) ?_
    refine R_pure (pc := 29) (pc' := 31) (st' := [.int q1, .int q4, .int (-i3)]) (show z_pt 185 29 = some (6, .iload 4, []) by decide +kernel) rfl (fun _ _ _ => rfl) ?_
    refine R_pure (pc := 31) (pc' := 32) (st' := [.int (q4 - q1), .int (-i3)]) (show z_pt 185 31 = some (6, .isub, []) by decide +kernel) rfl (fun _ _ _ => rfl) ?_
    obtain ⟨q6, e7, h⟩ := z_bs h
    refine R_call (pc := 32) (rr := []) (show z_pt 185 32 = some (6, .invokestatic 111, [1, 162, 2, 7033, 7034, 0, 1012, 7035]) by decide +kernel) rfl (show z_r2 162 = some (10, 2, true) by decide +kernel) rfl rfl (Or.inl (by decide)) (pm_less_run  e7) (by omega) ?_
    refine R_at2 (pc := 35) (st := [.int q6]) ?_
    refine R_pure (pc := 35) (pc' := 37) (ls' := [(0, .ref 241), (1, .int i1), (2, .int i2), (3, .int i3), (4, .int q1), (5, .int q6)]) (st' := []) (show z_pt 185 35 = some (6, .istore 5, []) by decide +kernel) rfl (fun _ _ _ => rfl) ?_
    refine R_pure (pc := 37) (pc' := 38) (st' := [.ref 241]) (show z_pt 185 37 = some (6, .aload_n 0, []) by decide +kernel) rfl (fun _ _ _ => rfl) ?_
    refine R_getR (pc := 38) (a := 241) (b := 242) (show z_pt 185 38 = some (6, .getfield 7, [10, 0, 6118]) by decide +kernel) (by decide +kernel) ?_
    refine R_at (pc := 41) ?_
    refine R_const (pc := 41) (pc' := 43) (v := 127) (show z_ptc 185 41 = some (43, 127) by decide +kernel) ?_
    refine R_pure (pc := 43) (pc' := 44) (st' := [.int i1, .int 127, .ref 242]) (show z_pt 185 43 = some (6, .iload_n 1, []) by decide +kernel) rfl (fun _ _ _ => rfl) ?_
    refine R_pure (pc := 44) (pc' := 45) (st' := [.int i2, .int i1, .int 127, .ref 242]) (show z_pt 185 44 = some (6, .iload_n 2, []) by decide +kernel) rfl (fun _ _ _ => rfl) ?_
    obtain ⟨q8, e9, h⟩ := z_bs h
    refine R_call (pc := 45) (rr := [.int 127, .ref 242]) (show z_pt 185 45 = some (6, .invokestatic 63, [1, 172, 2, 6235, 6236, 0, 1012, 6237]) by decide +kernel) rfl (show z_r2 172 = some (10, 2, true) by decide +kernel) rfl rfl (Or.inl (by decide)) (pm_pair_run  e9) (by omega) ?_
    refine R_at2 (pc := 48) (st := [.int q8, .int 127, .ref 242]) ?_
    refine R_pure (pc := 48) (pc' := 49) (st' := [.int (127 + q8), .ref 242]) (show z_pt 185 48 = some (6, .iadd, []) by decide +kernel) rfl (fun _ _ _ => rfl) ?_
    refine R_pure (pc := 49) (pc' := 50) (st' := [.int (127 + q8), .ref 242, .int (127 + q8), .ref 242]) (show z_pt 185 49 = some (6, .dup2, []) by decide +kernel) rfl (fun _ _ _ => rfl) ?_
    obtain ⟨v10, e11, h⟩ := z_bs h
    refine R_ialdR (pc := 50) (a := 242) (n := 331) (show z_pt 185 50 = some (6, .iaload, []) by decide +kernel) (show z_ar 242 0 331 = true by decide +kernel) e11 ?_
    refine R_at (pc := 51) ?_
    refine R_pure (pc := 51) (pc' := 52) (st' := [.int i3, .int v10, .int (127 + q8), .ref 242]) (show z_pt 185 51 = some (6, .iload_n 3, []) by decide +kernel) rfl (fun _ _ _ => rfl) ?_
    refine R_ifle (pc := 52) (t := 61) (show z_pt 185 52 = some (6, .ifCond .le 9, []) by decide +kernel) (by decide) (fun c12 => ?_) (fun c12 => ?_)
    · rw [if_pos c12] at h
      refine R_pure (pc := 61) (pc' := 63) (st' := [.int q6, .int v10, .int (127 + q8), .ref 242]) (show z_pt 185 61 = some (6, .iload 5, []) by decide +kernel) rfl (fun _ _ _ => rfl) ?_
      refine R_pure (pc := 63) (pc' := 64) (st' := [.int (v10 + q6), .int (127 + q8), .ref 242]) (show z_pt 185 63 = some (6, .iadd, []) by decide +kernel) rfl (fun _ _ _ => rfl) ?_
      obtain ⟨g13, h⟩ := z_ig h
      refine R_iast (pc := 64) (a := 242) (n := 331) (show z_pt 185 64 = some (6, .iastore, []) by decide +kernel) (show z_ar 242 0 331 = true by decide +kernel) g13 ?_
      refine R_at (pc := 65) ?_
      refine R_pure (pc := 65) (pc' := 66) (st' := [.int i3]) (show z_pt 185 65 = some (6, .iload_n 3, []) by decide +kernel) rfl (fun _ _ _ => rfl) ?_
      refine R_ifle (pc := 66) (t := 76) (show z_pt 185 66 = some (6, .ifCond .le 10, []) by decide +kernel) (by decide) (fun c14 => ?_) (fun c14 => ?_)
      · rw [if_pos c14] at h
        refine R_pure (pc := 76) (pc' := 77) (st' := [.int i3]) (show z_pt 185 76 = some (6, .iload_n 3, []) by decide +kernel) rfl (fun _ _ _ => rfl) ?_
        refine R_pure (pc := 77) (pc' := 78) (st' := [.int (-i3)]) (show z_pt 185 77 = some (6, .ineg, []) by decide +kernel) rfl (fun _ _ _ => rfl) ?_
        refine R_pure (pc := 78) (pc' := 80) (st' := [.int q6, .int (-i3)]) (show z_pt 185 78 = some (6, .iload 5, []) by decide +kernel) rfl (fun _ _ _ => rfl) ?_
        refine R_pure (pc := 80) (pc' := 81) (st' := [.int ((-i3) - q6)]) (show z_pt 185 80 = some (6, .isub, []) by decide +kernel) rfl (fun _ _ _ => rfl) ?_
        cases h
        exact R_retI (show z_pt 185 81 = some (6, .ireturn, []) by decide +kernel) (by decide +kernel)
      · rw [if_neg c14] at h
        refine R_pure (pc := 69) (pc' := 71) (st' := [.int q6]) (show z_pt 185 69 = some (6, .iload 5, []) by decide +kernel) rfl (fun _ _ _ => rfl) ?_
        refine R_pure (pc := 71) (pc' := 72) (st' := [.int i3, .int q6]) (show z_pt 185 71 = some (6, .iload_n 3, []) by decide +kernel) rfl (fun _ _ _ => rfl) ?_
        refine R_pure (pc := 72) (pc' := 73) (st' := [.int (q6 - i3)]) (show z_pt 185 72 = some (6, .isub, []) by decide +kernel) rfl (fun _ _ _ => rfl) ?_
        refine R_pure (pc := 73) (pc' := 81) (show z_pt 185 73 = some (6, .goto 8, []) by decide +kernel) rfl (fun _ _ _ => rfl) ?_
        cases h
        exact R_retI (show z_pt 185 81 = some (6, .ireturn, []) by decide +kernel) (by decide +kernel)
    · rw [if_neg c12] at h
      refine R_pure (pc := 55) (pc' := 57) (st' := [.int q6, .int v10, .int (127 + q8), .ref 242]) (show z_pt 185 55 = some (6, .iload 5, []) by decide +kernel) rfl (fun _ _ _ => rfl) ?_
      refine R_pure (pc := 57) (pc' := 58) (st' := [.int (-q6), .int v10, .int (127 + q8), .ref 242]) (show z_pt 185 57 = some (6, .ineg, []) by decide +kernel) rfl (fun _ _ _ => rfl) ?_
      refine R_pure (pc := 58) (pc' := 63) (show z_pt 185 58 = some (6, .goto 5, []) by decide +kernel) rfl (fun _ _ _ => rfl) ?_
      refine R_pure (pc := 63) (pc' := 64) (st' := [.int (v10 + (-q6)), .int (127 + q8), .ref 242]) (show z_pt 185 63 = some (6, .iadd, []) by decide +kernel) rfl (fun _ _ _ => rfl) ?_
      obtain ⟨g15, h⟩ := z_ig h
      refine R_iast (pc := 64) (a := 242) (n := 331) (show z_pt 185 64 = some (6, .iastore, []) by decide +kernel) (show z_ar 242 0 331 = true by decide +kernel) g15 ?_
      refine R_at (pc := 65) ?_
      refine R_pure (pc := 65) (pc' := 66) (st' := [.int i3]) (show z_pt 185 65 = some (6, .iload_n 3, []) by decide +kernel) rfl (fun _ _ _ => rfl) ?_
      refine R_ifle (pc := 66) (t := 76) (show z_pt 185 66 = some (6, .ifCond .le 10, []) by decide +kernel) (by decide) (fun c16 => ?_) (fun c16 => ?_)
      · rw [if_pos c16] at h
        refine R_pure (pc := 76) (pc' := 77) (st' := [.int i3]) (show z_pt 185 76 = some (6, .iload_n 3, []) by decide +kernel) rfl (fun _ _ _ => rfl) ?_
        refine R_pure (pc := 77) (pc' := 78) (st' := [.int (-i3)]) (show z_pt 185 77 = some (6, .ineg, []) by decide +kernel) rfl (fun _ _ _ => rfl) ?_
        refine R_pure (pc := 78) (pc' := 80) (st' := [.int q6, .int (-i3)]) (show z_pt 185 78 = some (6, .iload 5, []) by decide +kernel) rfl (fun _ _ _ => rfl) ?_
        refine R_pure (pc := 80) (pc' := 81) (st' := [.int ((-i3) - q6)]) (show z_pt 185 80 = some (6, .isub, []) by decide +kernel) rfl (fun _ _ _ => rfl) ?_
        cases h
        exact R_retI (show z_pt 185 81 = some (6, .ireturn, []) by decide +kernel) (by decide +kernel)
      · rw [if_neg c16] at h
        refine R_pure (pc := 69) (pc' := 71) (st' := [.int q6]) (show z_pt 185 69 = some (6, .iload 5, []) by decide +kernel) rfl (fun _ _ _ => rfl) ?_
        refine R_pure (pc := 71) (pc' := 72) (st' := [.int i3, .int q6]) (show z_pt 185 71 = some (6, .iload_n 3, []) by decide +kernel) rfl (fun _ _ _ => rfl) ?_
        refine R_pure (pc := 72) (pc' := 73) (st' := [.int (q6 - i3)]) (show z_pt 185 72 = some (6, .isub, []) by decide +kernel) rfl (fun _ _ _ => rfl) ?_
        refine R_pure (pc := 73) (pc' := 81) (show z_pt 185 73 = some (6, .goto 8, []) by decide +kernel) rfl (fun _ _ _ => rfl) ?_
        cases h
        exact R_retI (show z_pt 185 81 = some (6, .ireturn, []) by decide +kernel) (by decide +kernel)
  · rw [if_neg c3] at h
    refine R_pure (pc := 12) (pc' := 13) (st' := [.int i3]) (show z_pt 185 12 = some (6, .iload_n 3, []) by decide +kernel) rfl (fun _ _ _ => rfl) ?_
    refine R_pure (pc := 13) (pc' := 15) (st' := [.int q1, .int i3]) (show z_pt 185 13 = some (6, .iload 4, []) by decide +kernel) rfl (fun _ _ _ => rfl) ?_
    obtain ⟨q17, e18, h⟩ := z_bs h
    refine R_call (pc := 15) (rr := []) (show z_pt 185 15 = some (6, .invokestatic 111, [1, 162, 2, 7033, 7034, 0, 1012, 7035]) by decide +kernel) rfl (show z_r2 162 = some (10, 2, true) by decide +kernel) rfl rfl (Or.inl (by decide)) (pm_less_run  e18) (by omega) ?_
    refine R_at2 (pc := 18) (st := [.int q17]) ?_
    refine R_pure (pc := 18) (pc' := 35) (show z_pt 185 18 = some (6, .goto 17, []) by decide +kernel) rfl (fun _ _ _ => rfl) ?_
    refine R_pure (pc := 35) (pc' := 37) (ls' := [(0, .ref 241), (1, .int i1), (2, .int i2), (3, .int i3), (4, .int q1), (5, .int q17)]) (st' := []) (show z_pt 185 35 = some (6, .istore 5, []) by decide +kernel) rfl (fun _ _ _ => rfl) ?_
    refine R_pure (pc := 37) (pc' := 38) (st' := [.ref 241]) (show z_pt 185 37 = some (6, .aload_n 0, []) by decide +kernel) rfl (fun _ _ _ => rfl) ?_
    refine R_getR (pc := 38) (a := 241) (b := 242) (show z_pt 185 38 = some (6, .getfield 7, [10, 0, 6118]) by decide +kernel) (by decide +kernel) ?_
    refine R_at (pc := 41) ?_
    refine R_const (pc := 41) (pc' := 43) (v := 127) (show z_ptc 185 41 = some (43, 127) by decide +kernel) ?_
    refine R_pure (pc := 43) (pc' := 44) (st' := [.int i1, .int 127, .ref 242]) (show z_pt 185 43 = some (6, .iload_n 1, []) by decide +kernel) rfl (fun _ _ _ => rfl) ?_
    refine R_pure (pc := 44) (pc' := 45) (st' := [.int i2, .int i1, .int 127, .ref 242]) (show z_pt 185 44 = some (6, .iload_n 2, []) by decide +kernel) rfl (fun _ _ _ => rfl) ?_
    obtain ⟨q19, e20, h⟩ := z_bs h
    refine R_call (pc := 45) (rr := [.int 127, .ref 242]) (show z_pt 185 45 = some (6, .invokestatic 63, [1, 172, 2, 6235, 6236, 0, 1012, 6237]) by decide +kernel) rfl (show z_r2 172 = some (10, 2, true) by decide +kernel) rfl rfl (Or.inl (by decide)) (pm_pair_run  e20) (by omega) ?_
    refine R_at2 (pc := 48) (st := [.int q19, .int 127, .ref 242]) ?_
    refine R_pure (pc := 48) (pc' := 49) (st' := [.int (127 + q19), .ref 242]) (show z_pt 185 48 = some (6, .iadd, []) by decide +kernel) rfl (fun _ _ _ => rfl) ?_
    refine R_pure (pc := 49) (pc' := 50) (st' := [.int (127 + q19), .ref 242, .int (127 + q19), .ref 242]) (show z_pt 185 49 = some (6, .dup2, []) by decide +kernel) rfl (fun _ _ _ => rfl) ?_
    obtain ⟨v21, e22, h⟩ := z_bs h
    refine R_ialdR (pc := 50) (a := 242) (n := 331) (show z_pt 185 50 = some (6, .iaload, []) by decide +kernel) (show z_ar 242 0 331 = true by decide +kernel) e22 ?_
    refine R_at (pc := 51) ?_
    refine R_pure (pc := 51) (pc' := 52) (st' := [.int i3, .int v21, .int (127 + q19), .ref 242]) (show z_pt 185 51 = some (6, .iload_n 3, []) by decide +kernel) rfl (fun _ _ _ => rfl) ?_
    refine R_ifle (pc := 52) (t := 61) (show z_pt 185 52 = some (6, .ifCond .le 9, []) by decide +kernel) (by decide) (fun c23 => ?_) (fun c23 => ?_)
    · rw [if_pos c23] at h
      refine R_pure (pc := 61) (pc' := 63) (st' := [.int q17, .int v21, .int (127 + q19), .ref 242]) (show z_pt 185 61 = some (6, .iload 5, []) by decide +kernel) rfl (fun _ _ _ => rfl) ?_
      refine R_pure (pc := 63) (pc' := 64) (st' := [.int (v21 + q17), .int (127 + q19), .ref 242]) (show z_pt 185 63 = some (6, .iadd, []) by decide +kernel) rfl (fun _ _ _ => rfl) ?_
      obtain ⟨g24, h⟩ := z_ig h
      refine R_iast (pc := 64) (a := 242) (n := 331) (show z_pt 185 64 = some (6, .iastore, []) by decide +kernel) (show z_ar 242 0 331 = true by decide +kernel) g24 ?_
      refine R_at (pc := 65) ?_
      refine R_pure (pc := 65) (pc' := 66) (st' := [.int i3]) (show z_pt 185 65 = some (6, .iload_n 3, []) by decide +kernel) rfl (fun _ _ _ => rfl) ?_
      refine R_ifle (pc := 66) (t := 76) (show z_pt 185 66 = some (6, .ifCond .le 10, []) by decide +kernel) (by decide) (fun c25 => ?_) (fun c25 => ?_)
      · rw [if_pos c25] at h
        refine R_pure (pc := 76) (pc' := 77) (st' := [.int i3]) (show z_pt 185 76 = some (6, .iload_n 3, []) by decide +kernel) rfl (fun _ _ _ => rfl) ?_
        refine R_pure (pc := 77) (pc' := 78) (st' := [.int (-i3)]) (show z_pt 185 77 = some (6, .ineg, []) by decide +kernel) rfl (fun _ _ _ => rfl) ?_
        refine R_pure (pc := 78) (pc' := 80) (st' := [.int q17, .int (-i3)]) (show z_pt 185 78 = some (6, .iload 5, []) by decide +kernel) rfl (fun _ _ _ => rfl) ?_
        refine R_pure (pc := 80) (pc' := 81) (st' := [.int ((-i3) - q17)]) (show z_pt 185 80 = some (6, .isub, []) by decide +kernel) rfl (fun _ _ _ => rfl) ?_
        cases h
        exact R_retI (show z_pt 185 81 = some (6, .ireturn, []) by decide +kernel) (by decide +kernel)
      · rw [if_neg c25] at h
        refine R_pure (pc := 69) (pc' := 71) (st' := [.int q17]) (show z_pt 185 69 = some (6, .iload 5, []) by decide +kernel) rfl (fun _ _ _ => rfl) ?_
        refine R_pure (pc := 71) (pc' := 72) (st' := [.int i3, .int q17]) (show z_pt 185 71 = some (6, .iload_n 3, []) by decide +kernel) rfl (fun _ _ _ => rfl) ?_
        refine R_pure (pc := 72) (pc' := 73) (st' := [.int (q17 - i3)]) (show z_pt 185 72 = some (6, .isub, []) by decide +kernel) rfl (fun _ _ _ => rfl) ?_
        refine R_pure (pc := 73) (pc' := 81) (show z_pt 185 73 = some (6, .goto 8, []) by decide +kernel) rfl (fun _ _ _ => rfl) ?_
        cases h
        exact R_retI (show z_pt 185 81 = some (6, .ireturn, []) by decide +kernel) (by decide +kernel)
    · rw [if_neg c23] at h
      refine R_pure (pc := 55) (pc' := 57) (st' := [.int q17, .int v21, .int (127 + q19), .ref 242]) (show z_pt 185 55 = some (6, .iload 5, []) by decide +kernel) rfl (fun _ _ _ => rfl) ?_
      refine R_pure (pc := 57) (pc' := 58) (st' := [.int (-q17), .int v21, .int (127 + q19), .ref 242]) (show z_pt 185 57 = some (6, .ineg, []) by decide +kernel) rfl (fun _ _ _ => rfl) ?_
      refine R_pure (pc := 58) (pc' := 63) (show z_pt 185 58 = some (6, .goto 5, []) by decide +kernel) rfl (fun _ _ _ => rfl) ?_
      refine R_pure (pc := 63) (pc' := 64) (st' := [.int (v21 + (-q17)), .int (127 + q19), .ref 242]) (show z_pt 185 63 = some (6, .iadd, []) by decide +kernel) rfl (fun _ _ _ => rfl) ?_
      obtain ⟨g26, h⟩ := z_ig h
      refine R_iast (pc := 64) (a := 242) (n := 331) (show z_pt 185 64 = some (6, .iastore, []) by decide +kernel) (show z_ar 242 0 331 = true by decide +kernel) g26 ?_
      refine R_at (pc := 65) ?_
      refine R_pure (pc := 65) (pc' := 66) (st' := [.int i3]) (show z_pt 185 65 = some (6, .iload_n 3, []) by decide +kernel) rfl (fun _ _ _ => rfl) ?_
      refine R_ifle (pc := 66) (t := 76) (show z_pt 185 66 = some (6, .ifCond .le 10, []) by decide +kernel) (by decide) (fun c27 => ?_) (fun c27 => ?_)
      · rw [if_pos c27] at h
        refine R_pure (pc := 76) (pc' := 77) (st' := [.int i3]) (show z_pt 185 76 = some (6, .iload_n 3, []) by decide +kernel) rfl (fun _ _ _ => rfl) ?_
        refine R_pure (pc := 77) (pc' := 78) (st' := [.int (-i3)]) (show z_pt 185 77 = some (6, .ineg, []) by decide +kernel) rfl (fun _ _ _ => rfl) ?_
        refine R_pure (pc := 78) (pc' := 80) (st' := [.int q17, .int (-i3)]) (show z_pt 185 78 = some (6, .iload 5, []) by decide +kernel) rfl (fun _ _ _ => rfl) ?_
        refine R_pure (pc := 80) (pc' := 81) (st' := [.int ((-i3) - q17)]) (show z_pt 185 80 = some (6, .isub, []) by decide +kernel) rfl (fun _ _ _ => rfl) ?_
        cases h
        exact R_retI (show z_pt 185 81 = some (6, .ireturn, []) by decide +kernel) (by decide +kernel)
      · rw [if_neg c27] at h
        refine R_pure (pc := 69) (pc' := 71) (st' := [.int q17]) (show z_pt 185 69 = some (6, .iload 5, []) by decide +kernel) rfl (fun _ _ _ => rfl) ?_
        refine R_pure (pc := 71) (pc' := 72) (st' := [.int i3, .int q17]) (show z_pt 185 71 = some (6, .iload_n 3, []) by decide +kernel) rfl (fun _ _ _ => rfl) ?_
        refine R_pure (pc := 72) (pc' := 73) (st' := [.int (q17 - i3)]) (show z_pt 185 72 = some (6, .isub, []) by decide +kernel) rfl (fun _ _ _ => rfl) ?_
        refine R_pure (pc := 73) (pc' := 81) (show z_pt 185 73 = some (6, .goto 8, []) by decide +kernel) rfl (fun _ _ _ => rfl) ?_
        cases h
        exact R_retI (show z_pt 185 81 = some (6, .ireturn, []) by decide +kernel) (by decide +kernel)
def pm_turnsAll_L107_B (R : z_Mem → Int32 → Int32 → Option (Int32 × z_Mem))  (f1 : Int32) (f2 : Int32) (f3 : Int32) (f5 : Int32) (f6 : Int32) (f7 : Int32) (K : z_Mem → Int32 → Int32 → Option (Int32 × z_Mem)) (μ : z_Mem) (a4 : Int32) (a8 : Int32) : Option (Int32 × z_Mem) := if (μ 242 0) ≤ a8 then K μ a4 a8 else if a8 = f7 then R μ a4 (a8 + 1) else (pm_isMesh μ f5 a8).bind fun q16 => if q16 = 0 then R μ a4 (a8 + 1) else (pm_passesOn μ f5 a8 f6).bind fun q20 => if q20.1 = 0 then R q20.2 a4 (a8 + 1) else if z_inb (3 * a4) 30 = true then if z_inb ((3 * a4) + 1) 30 = true then if z_inb ((3 * a4) + 2) 30 = true then R (z_u (z_u (z_u q20.2 248 (3 * a4).toNatClampNeg a8) 248 ((3 * a4) + 1).toNatClampNeg q20.1) 248 ((3 * a4) + 2).toNatClampNeg f5) (a4 + 1) (a8 + 1) else none else none else none
def pm_turnsAll_L107 : Nat → Int32 → Int32 → Int32 → Int32 → Int32 → Int32 → (z_Mem → Int32 → Int32 → Option (Int32 × z_Mem)) → z_Mem → Int32 → Int32 → Option (Int32 × z_Mem)
  | 0 => fun _ _ _ _ _ _ _ _ _ _ => none
  | n + 1 => fun f1 f2 f3 f5 f6 f7 K μ a4 a8 => pm_turnsAll_L107_B (pm_turnsAll_L107 n f1 f2 f3 f5 f6 f7 K) f1 f2 f3 f5 f6 f7 K μ a4 a8
theorem pm_turnsAll_L107_run  (f1 : Int32) (f2 : Int32) (f3 : Int32) (f5 : Int32) (f6 : Int32) (f7 : Int32) (K : z_Mem → Int32 → Int32 → Option (Int32 × z_Mem))  (D : Nat) (hD : 3 ≤ D) (hK : ∀ (μ : z_Mem) (a4 a8 : Int32) (r : (Int32 × z_Mem)), K μ a4 a8 = some r → Rn D 186 203 [(0, .ref 241), (1, .int f1), (2, .int f2), (3, .int f3), (4, .int a4), (5, .int f5), (6, .int f6), (7, .int f7), (8, .int a8)] [] μ (.inl (some (.int r.1))) r.2) : ∀ (n : Nat) (μ : z_Mem) (a4 : Int32) (a8 : Int32) (r : (Int32 × z_Mem)), pm_turnsAll_L107 n f1 f2 f3 f5 f6 f7 K μ a4 a8 = some r → Rn D 186 107 [(0, .ref 241), (1, .int f1), (2, .int f2), (3, .int f3), (4, .int a4), (5, .int f5), (6, .int f6), (7, .int f7), (8, .int a8)] [] μ (.inl (some (.int r.1))) r.2 := by
  intro n
  induction n with
  | zero => intro μ a4 a8 r h; cases h
  | succ n ih =>
    intro μ a4 a8 r h
    have h : pm_turnsAll_L107_B (pm_turnsAll_L107 n f1 f2 f3 f5 f6 f7 K) f1 f2 f3 f5 f6 f7 K μ a4 a8 = some r := h
    unfold pm_turnsAll_L107_B at h
    refine R_pure (pc := 107) (pc' := 109) (st' := [.int a8]) (show z_pt 186 107 = some (10, .iload 8, []) by decide +kernel) rfl (fun _ _ _ => rfl) ?_
    refine R_pure (pc := 109) (pc' := 110) (st' := [.ref 241, .int a8]) (show z_pt 186 109 = some (10, .aload_n 0, []) by decide +kernel) rfl (fun _ _ _ => rfl) ?_
    refine R_getR (pc := 110) (a := 241) (b := 242) (show z_pt 186 110 = some (10, .getfield 7, [10, 0, 6118]) by decide +kernel) (by decide +kernel) ?_
    refine R_at (pc := 113) ?_
    refine R_const (pc := 113) (pc' := 114) (v := 0) (show z_ptc 186 113 = some (114, 0) by decide +kernel) ?_
    refine R_ialdK (pc := 114) (a := 242) (n := 331) (jn := 0) (show z_pt 186 114 = some (10, .iaload, []) by decide +kernel) (show z_ar 242 0 331 = true by decide +kernel) (by decide) (by decide) ?_
    refine R_at (pc := 115) ?_
    refine R_icmge (pc := 115) (t := 203) (show z_pt 186 115 = some (10, .if_icmp .ge 88, []) by decide +kernel) (by decide) (fun c13 => ?_) (fun c13 => ?_)
    · rw [if_pos c13] at h
      exact hK _ _ _  _ h
    · rw [if_neg c13] at h
      refine R_pure (pc := 118) (pc' := 120) (st' := [.int a8]) (show z_pt 186 118 = some (10, .iload 8, []) by decide +kernel) rfl (fun _ _ _ => rfl) ?_
      refine R_pure (pc := 120) (pc' := 122) (st' := [.int f7, .int a8]) (show z_pt 186 120 = some (10, .iload 7, []) by decide +kernel) rfl (fun _ _ _ => rfl) ?_
      refine R_icmeq (pc := 122) (t := 149) (show z_pt 186 122 = some (10, .if_icmp .eq 27, []) by decide +kernel) (by decide) (fun c14 => ?_) (fun c14 => ?_)
      · rw [if_pos c14] at h
        refine R_const (pc := 149) (pc' := 150) (v := 0) (show z_ptc 186 149 = some (150, 0) by decide +kernel) ?_
        refine R_pure (pc := 150) (pc' := 152) (ls' := [(0, .ref 241), (1, .int f1), (2, .int f2), (3, .int f3), (4, .int a4), (5, .int f5), (6, .int f6), (7, .int f7), (8, .int a8), (9, .int 0)]) (st' := []) (show z_pt 186 150 = some (10, .istore 9, []) by decide +kernel) rfl (fun _ _ _ => rfl) ?_
        refine R_pure (pc := 152) (pc' := 154) (st' := [.int 0]) (show z_pt 186 152 = some (10, .iload 9, []) by decide +kernel) rfl (fun _ _ _ => rfl) ?_
        refine R_ifeq (pc := 154) (t := 197) (show z_pt 186 154 = some (10, .ifCond .eq 43, []) by decide +kernel) (by decide) (fun c15 => ?_) (fun c15 => ?_)
        · skip
          refine R_inc (pc := 197) (pc' := 200) (ls' := [(0, .ref 241), (1, .int f1), (2, .int f2), (3, .int f3), (4, .int a4), (5, .int f5), (6, .int f6), (7, .int f7), (8, .int (a8 + 1)), (9, .int 0)]) (c := 1) (show z_pt 186 197 = some (10, .iinc 8 1, []) by decide +kernel) (by decide) rfl rfl ?_
          refine R_pure (pc := 200) (pc' := 107) (ls' := [(0, .ref 241), (1, .int f1), (2, .int f2), (3, .int f3), (4, .int a4), (5, .int f5), (6, .int f6), (7, .int f7), (8, .int (a8 + 1))]) (st' := []) (show z_pt 186 200 = some (10, .goto (-93), [9]) by decide +kernel) rfl (fun _ _ _ => rfl) ?_
          exact ih _ _ _ _  h
        · exact absurd c15 (by decide)
      · rw [if_neg c14] at h
        refine R_pure (pc := 125) (pc' := 126) (st' := [.ref 241]) (show z_pt 186 125 = some (10, .aload_n 0, []) by decide +kernel) rfl (fun _ _ _ => rfl) ?_
        refine R_pure (pc := 126) (pc' := 128) (st' := [.int f5, .ref 241]) (show z_pt 186 126 = some (10, .iload 5, []) by decide +kernel) rfl (fun _ _ _ => rfl) ?_
        refine R_pure (pc := 128) (pc' := 130) (st' := [.int a8, .int f5, .ref 241]) (show z_pt 186 128 = some (10, .iload 8, []) by decide +kernel) rfl (fun _ _ _ => rfl) ?_
        obtain ⟨q16, e17, h⟩ := z_bs h
        refine R_call (pc := 130) (rr := []) (show z_pt 186 130 = some (10, .invokevirtual 67, [0, 173, 2, 6231, 6233, 44, 1012, 6234]) by decide +kernel) rfl (show z_r2 173 = some (10, 3, true) by decide +kernel) rfl rfl (Or.inr ⟨_, _, rfl, (by decide +kernel)⟩) (pm_isMesh_run  e17) (by omega) ?_
        refine R_at2 (pc := 133) (st := [.int q16]) ?_
        refine R_ifeq (pc := 133) (t := 149) (show z_pt 186 133 = some (10, .ifCond .eq 16, []) by decide +kernel) (by decide) (fun c18 => ?_) (fun c18 => ?_)
        · rw [if_pos c18] at h
          refine R_const (pc := 149) (pc' := 150) (v := 0) (show z_ptc 186 149 = some (150, 0) by decide +kernel) ?_
          refine R_pure (pc := 150) (pc' := 152) (ls' := [(0, .ref 241), (1, .int f1), (2, .int f2), (3, .int f3), (4, .int a4), (5, .int f5), (6, .int f6), (7, .int f7), (8, .int a8), (9, .int 0)]) (st' := []) (show z_pt 186 150 = some (10, .istore 9, []) by decide +kernel) rfl (fun _ _ _ => rfl) ?_
          refine R_pure (pc := 152) (pc' := 154) (st' := [.int 0]) (show z_pt 186 152 = some (10, .iload 9, []) by decide +kernel) rfl (fun _ _ _ => rfl) ?_
          refine R_ifeq (pc := 154) (t := 197) (show z_pt 186 154 = some (10, .ifCond .eq 43, []) by decide +kernel) (by decide) (fun c19 => ?_) (fun c19 => ?_)
          · skip
            refine R_inc (pc := 197) (pc' := 200) (ls' := [(0, .ref 241), (1, .int f1), (2, .int f2), (3, .int f3), (4, .int a4), (5, .int f5), (6, .int f6), (7, .int f7), (8, .int (a8 + 1)), (9, .int 0)]) (c := 1) (show z_pt 186 197 = some (10, .iinc 8 1, []) by decide +kernel) (by decide) rfl rfl ?_
            refine R_pure (pc := 200) (pc' := 107) (ls' := [(0, .ref 241), (1, .int f1), (2, .int f2), (3, .int f3), (4, .int a4), (5, .int f5), (6, .int f6), (7, .int f7), (8, .int (a8 + 1))]) (st' := []) (show z_pt 186 200 = some (10, .goto (-93), [9]) by decide +kernel) rfl (fun _ _ _ => rfl) ?_
            exact ih _ _ _ _  h
          · exact absurd c19 (by decide)
        · rw [if_neg c18] at h
          refine R_pure (pc := 136) (pc' := 137) (st' := [.ref 241]) (show z_pt 186 136 = some (10, .aload_n 0, []) by decide +kernel) rfl (fun _ _ _ => rfl) ?_
          refine R_pure (pc := 137) (pc' := 139) (st' := [.int f5, .ref 241]) (show z_pt 186 137 = some (10, .iload 5, []) by decide +kernel) rfl (fun _ _ _ => rfl) ?_
          refine R_pure (pc := 139) (pc' := 141) (st' := [.int a8, .int f5, .ref 241]) (show z_pt 186 139 = some (10, .iload 8, []) by decide +kernel) rfl (fun _ _ _ => rfl) ?_
          refine R_pure (pc := 141) (pc' := 143) (st' := [.int f6, .int a8, .int f5, .ref 241]) (show z_pt 186 141 = some (10, .iload 6, []) by decide +kernel) rfl (fun _ _ _ => rfl) ?_
          obtain ⟨q20, e21, h⟩ := z_bs h
          refine R_call (pc := 143) (rr := []) (show z_pt 186 143 = some (10, .invokevirtual 120, [0, 185, 3, 7029, 7031, 50, 1012, 7032]) by decide +kernel) rfl (show z_r2 185 = some (10, 6, true) by decide +kernel) rfl rfl (Or.inr ⟨_, _, rfl, (by decide +kernel)⟩) (pm_passesOn_run  e21) (by omega) ?_
          refine R_at2 (pc := 146) (st := [.int q20.1]) ?_
          refine R_pure (pc := 146) (pc' := 150) (show z_pt 186 146 = some (10, .goto 4, []) by decide +kernel) rfl (fun _ _ _ => rfl) ?_
          refine R_pure (pc := 150) (pc' := 152) (ls' := [(0, .ref 241), (1, .int f1), (2, .int f2), (3, .int f3), (4, .int a4), (5, .int f5), (6, .int f6), (7, .int f7), (8, .int a8), (9, .int q20.1)]) (st' := []) (show z_pt 186 150 = some (10, .istore 9, []) by decide +kernel) rfl (fun _ _ _ => rfl) ?_
          refine R_pure (pc := 152) (pc' := 154) (st' := [.int q20.1]) (show z_pt 186 152 = some (10, .iload 9, []) by decide +kernel) rfl (fun _ _ _ => rfl) ?_
          refine R_ifeq (pc := 154) (t := 197) (show z_pt 186 154 = some (10, .ifCond .eq 43, []) by decide +kernel) (by decide) (fun c22 => ?_) (fun c22 => ?_)
          · rw [if_pos c22] at h
            refine R_inc (pc := 197) (pc' := 200) (ls' := [(0, .ref 241), (1, .int f1), (2, .int f2), (3, .int f3), (4, .int a4), (5, .int f5), (6, .int f6), (7, .int f7), (8, .int (a8 + 1)), (9, .int q20.1)]) (c := 1) (show z_pt 186 197 = some (10, .iinc 8 1, []) by decide +kernel) (by decide) rfl rfl ?_
            refine R_pure (pc := 200) (pc' := 107) (ls' := [(0, .ref 241), (1, .int f1), (2, .int f2), (3, .int f3), (4, .int a4), (5, .int f5), (6, .int f6), (7, .int f7), (8, .int (a8 + 1))]) (st' := []) (show z_pt 186 200 = some (10, .goto (-93), [9]) by decide +kernel) rfl (fun _ _ _ => rfl) ?_
            exact ih _ _ _ _  h
          · rw [if_neg c22] at h
            refine R_pure (pc := 157) (pc' := 158) (st' := [.ref 241]) (show z_pt 186 157 = some (10, .aload_n 0, []) by decide +kernel) rfl (fun _ _ _ => rfl) ?_
            refine R_getR (pc := 158) (a := 241) (b := 248) (show z_pt 186 158 = some (10, .getfield 36, [10, 13, 6131]) by decide +kernel) (by decide +kernel) ?_
            refine R_at (pc := 161) ?_
            refine R_const (pc := 161) (pc' := 162) (v := 3) (show z_ptc 186 161 = some (162, 3) by decide +kernel) ?_
            refine R_pure (pc := 162) (pc' := 164) (st' := [.int a4, .int 3, .ref 248]) (show z_pt 186 162 = some (10, .iload 4, []) by decide +kernel) rfl (fun _ _ _ => rfl) ?_
            refine R_pure (pc := 164) (pc' := 165) (st' := [.int (3 * a4), .ref 248]) (show z_pt 186 164 = some (10, .imul, []) by decide +kernel) rfl (fun _ _ _ => rfl) ?_
            refine R_pure (pc := 165) (pc' := 167) (st' := [.int a8, .int (3 * a4), .ref 248]) (show z_pt 186 165 = some (10, .iload 8, []) by decide +kernel) rfl (fun _ _ _ => rfl) ?_
            obtain ⟨g23, h⟩ := z_ig h
            refine R_iast (pc := 167) (a := 248) (n := 30) (show z_pt 186 167 = some (10, .iastore, []) by decide +kernel) (show z_ar 248 0 30 = true by decide +kernel) g23 ?_
            refine R_at (pc := 168) ?_
            refine R_pure (pc := 168) (pc' := 169) (st' := [.ref 241]) (show z_pt 186 168 = some (10, .aload_n 0, []) by decide +kernel) rfl (fun _ _ _ => rfl) ?_
            refine R_getR (pc := 169) (a := 241) (b := 248) (show z_pt 186 169 = some (10, .getfield 36, [10, 13, 6131]) by decide +kernel) (by decide +kernel) ?_
            refine R_at (pc := 172) ?_
            refine R_const (pc := 172) (pc' := 173) (v := 3) (show z_ptc 186 172 = some (173, 3) by decide +kernel) ?_
            refine R_pure (pc := 173) (pc' := 175) (st' := [.int a4, .int 3, .ref 248]) (show z_pt 186 173 = some (10, .iload 4, []) by decide +kernel) rfl (fun _ _ _ => rfl) ?_
            refine R_pure (pc := 175) (pc' := 176) (st' := [.int (3 * a4), .ref 248]) (show z_pt 186 175 = some (10, .imul, []) by decide +kernel) rfl (fun _ _ _ => rfl) ?_
            refine R_const (pc := 176) (pc' := 177) (v := 1) (show z_ptc 186 176 = some (177, 1) by decide +kernel) ?_
            refine R_pure (pc := 177) (pc' := 178) (st' := [.int ((3 * a4) + 1), .ref 248]) (show z_pt 186 177 = some (10, .iadd, []) by decide +kernel) rfl (fun _ _ _ => rfl) ?_
            refine R_pure (pc := 178) (pc' := 180) (st' := [.int q20.1, .int ((3 * a4) + 1), .ref 248]) (show z_pt 186 178 = some (10, .iload 9, []) by decide +kernel) rfl (fun _ _ _ => rfl) ?_
            obtain ⟨g24, h⟩ := z_ig h
            refine R_iast (pc := 180) (a := 248) (n := 30) (show z_pt 186 180 = some (10, .iastore, []) by decide +kernel) (show z_ar 248 0 30 = true by decide +kernel) g24 ?_
            refine R_at (pc := 181) ?_
            refine R_pure (pc := 181) (pc' := 182) (st' := [.ref 241]) (show z_pt 186 181 = some (10, .aload_n 0, []) by decide +kernel) rfl (fun _ _ _ => rfl) ?_
            refine R_getR (pc := 182) (a := 241) (b := 248) (show z_pt 186 182 = some (10, .getfield 36, [10, 13, 6131]) by decide +kernel) (by decide +kernel) ?_
            refine R_at (pc := 185) ?_
            refine R_const (pc := 185) (pc' := 186) (v := 3) (show z_ptc 186 185 = some (186, 3) by decide +kernel) ?_
            refine R_pure (pc := 186) (pc' := 188) (st' := [.int a4, .int 3, .ref 248]) (show z_pt 186 186 = some (10, .iload 4, []) by decide +kernel) rfl (fun _ _ _ => rfl) ?_
            refine R_pure (pc := 188) (pc' := 189) (st' := [.int (3 * a4), .ref 248]) (show z_pt 186 188 = some (10, .imul, []) by decide +kernel) rfl (fun _ _ _ => rfl) ?_
            refine R_const (pc := 189) (pc' := 190) (v := 2) (show z_ptc 186 189 = some (190, 2) by decide +kernel) ?_
            refine R_pure (pc := 190) (pc' := 191) (st' := [.int ((3 * a4) + 2), .ref 248]) (show z_pt 186 190 = some (10, .iadd, []) by decide +kernel) rfl (fun _ _ _ => rfl) ?_
            refine R_pure (pc := 191) (pc' := 193) (st' := [.int f5, .int ((3 * a4) + 2), .ref 248]) (show z_pt 186 191 = some (10, .iload 5, []) by decide +kernel) rfl (fun _ _ _ => rfl) ?_
            obtain ⟨g25, h⟩ := z_ig h
            refine R_iast (pc := 193) (a := 248) (n := 30) (show z_pt 186 193 = some (10, .iastore, []) by decide +kernel) (show z_ar 248 0 30 = true by decide +kernel) g25 ?_
            refine R_at (pc := 194) ?_
            refine R_inc (pc := 194) (pc' := 197) (ls' := [(0, .ref 241), (1, .int f1), (2, .int f2), (3, .int f3), (4, .int (a4 + 1)), (5, .int f5), (6, .int f6), (7, .int f7), (8, .int a8), (9, .int q20.1)]) (c := 1) (show z_pt 186 194 = some (10, .iinc 4 1, []) by decide +kernel) (by decide) rfl rfl ?_
            refine R_inc (pc := 197) (pc' := 200) (ls' := [(0, .ref 241), (1, .int f1), (2, .int f2), (3, .int f3), (4, .int (a4 + 1)), (5, .int f5), (6, .int f6), (7, .int f7), (8, .int (a8 + 1)), (9, .int q20.1)]) (c := 1) (show z_pt 186 197 = some (10, .iinc 8 1, []) by decide +kernel) (by decide) rfl rfl ?_
            refine R_pure (pc := 200) (pc' := 107) (ls' := [(0, .ref 241), (1, .int f1), (2, .int f2), (3, .int f3), (4, .int (a4 + 1)), (5, .int f5), (6, .int f6), (7, .int f7), (8, .int (a8 + 1))]) (st' := []) (show z_pt 186 200 = some (10, .goto (-93), [9]) by decide +kernel) rfl (fun _ _ _ => rfl) ?_
            exact ih _ _ _ _  h
def pm_turnsAll_L26_B (R : z_Mem → Int32 → Int32 → Option (Int32 × z_Mem))  (f1 : Int32) (f2 : Int32) (K : z_Mem → Int32 → Int32 → Option (Int32 × z_Mem)) (μ : z_Mem) (a3 : Int32) (a4 : Int32) : Option (Int32 × z_Mem) := if a4 ≤ 0 then K μ a3 a4 else (z_rd μ 248 30 (3 * (a4 + (-1)))).bind fun v2 => (z_rd μ 248 30 ((3 * (a4 + (-1))) + 1)).bind fun v4 => (z_rd μ 248 30 ((3 * (a4 + (-1))) + 2)).bind fun v6 => (z_rd μ 242 331 (17 + v2)).bind fun v8 => if z_inb (17 + v2) 331 = true then (pm_size (z_u μ 242 (17 + v2).toNatClampNeg (v8 + v4)) v4).bind fun q11 => pm_turnsAll_L107 z_fu f1 f2 (a3 + 1) v2 v4 v6 (fun M28 k26 k27 => R M28 (a3 + 1) k26) (z_u (z_u μ 242 (17 + v2).toNatClampNeg (v8 + v4)) 242 6 (((z_u μ 242 (17 + v2).toNatClampNeg (v8 + v4)) 242 6) + q11)) (a4 + (-1)) 0 else none
def pm_turnsAll_L26 : Nat → Int32 → Int32 → (z_Mem → Int32 → Int32 → Option (Int32 × z_Mem)) → z_Mem → Int32 → Int32 → Option (Int32 × z_Mem)
  | 0 => fun _ _ _ _ _ _ => none
  | n + 1 => fun f1 f2 K μ a3 a4 => pm_turnsAll_L26_B (pm_turnsAll_L26 n f1 f2 K) f1 f2 K μ a3 a4
theorem pm_turnsAll_L26_run  (f1 : Int32) (f2 : Int32) (K : z_Mem → Int32 → Int32 → Option (Int32 × z_Mem))  (D : Nat) (hD : 3 ≤ D) (hK : ∀ (μ : z_Mem) (a3 a4 : Int32) (r : (Int32 × z_Mem)), K μ a3 a4 = some r → Rn D 186 206 [(0, .ref 241), (1, .int f1), (2, .int f2), (3, .int a3), (4, .int a4)] [] μ (.inl (some (.int r.1))) r.2) : ∀ (n : Nat) (μ : z_Mem) (a3 : Int32) (a4 : Int32) (r : (Int32 × z_Mem)), pm_turnsAll_L26 n f1 f2 K μ a3 a4 = some r → Rn D 186 26 [(0, .ref 241), (1, .int f1), (2, .int f2), (3, .int a3), (4, .int a4)] [] μ (.inl (some (.int r.1))) r.2 := by
  intro n
  induction n with
  | zero => intro μ a3 a4 r h; cases h
  | succ n ih =>
    intro μ a3 a4 r h
    have h : pm_turnsAll_L26_B (pm_turnsAll_L26 n f1 f2 K) f1 f2 K μ a3 a4 = some r := h
    unfold pm_turnsAll_L26_B at h
    refine R_pure (pc := 26) (pc' := 28) (st' := [.int a4]) (show z_pt 186 26 = some (10, .iload 4, []) by decide +kernel) rfl (fun _ _ _ => rfl) ?_
    refine R_ifle (pc := 28) (t := 206) (show z_pt 186 28 = some (10, .ifCond .le 178, []) by decide +kernel) (by decide) (fun c1 => ?_) (fun c1 => ?_)
    · rw [if_pos c1] at h
      exact hK _ _ _  _ h
    · rw [if_neg c1] at h
      refine R_inc (pc := 31) (pc' := 34) (ls' := [(0, .ref 241), (1, .int f1), (2, .int f2), (3, .int a3), (4, .int (a4 + (-1)))]) (c := (-1)) (show z_pt 186 31 = some (10, .iinc 4 (-1), []) by decide +kernel) (by decide) rfl rfl ?_
      refine R_pure (pc := 34) (pc' := 35) (st' := [.ref 241]) (show z_pt 186 34 = some (10, .aload_n 0, []) by decide +kernel) rfl (fun _ _ _ => rfl) ?_
      refine R_getR (pc := 35) (a := 241) (b := 248) (show z_pt 186 35 = some (10, .getfield 36, [10, 13, 6131]) by decide +kernel) (by decide +kernel) ?_
      refine R_at (pc := 38) ?_
      refine R_const (pc := 38) (pc' := 39) (v := 3) (show z_ptc 186 38 = some (39, 3) by decide +kernel) ?_
      refine R_pure (pc := 39) (pc' := 41) (st' := [.int (a4 + (-1)), .int 3, .ref 248]) (show z_pt 186 39 = some (10, .iload 4, []) by decide +kernel) rfl (fun _ _ _ => rfl) ?_
      refine R_pure (pc := 41) (pc' := 42) (st' := [.int (3 * (a4 + (-1))), .ref 248]) (show z_pt 186 41 = some (10, .imul, []) by decide +kernel) rfl (fun _ _ _ => rfl) ?_
      obtain ⟨v2, e3, h⟩ := z_bs h
      refine R_ialdR (pc := 42) (a := 248) (n := 30) (show z_pt 186 42 = some (10, .iaload, []) by decide +kernel) (show z_ar 248 0 30 = true by decide +kernel) e3 ?_
      refine R_at (pc := 43) ?_
      refine R_pure (pc := 43) (pc' := 45) (ls' := [(0, .ref 241), (1, .int f1), (2, .int f2), (3, .int a3), (4, .int (a4 + (-1))), (5, .int v2)]) (st' := []) (show z_pt 186 43 = some (10, .istore 5, []) by decide +kernel) rfl (fun _ _ _ => rfl) ?_
      refine R_pure (pc := 45) (pc' := 46) (st' := [.ref 241]) (show z_pt 186 45 = some (10, .aload_n 0, []) by decide +kernel) rfl (fun _ _ _ => rfl) ?_
      refine R_getR (pc := 46) (a := 241) (b := 248) (show z_pt 186 46 = some (10, .getfield 36, [10, 13, 6131]) by decide +kernel) (by decide +kernel) ?_
      refine R_at (pc := 49) ?_
      refine R_const (pc := 49) (pc' := 50) (v := 3) (show z_ptc 186 49 = some (50, 3) by decide +kernel) ?_
      refine R_pure (pc := 50) (pc' := 52) (st' := [.int (a4 + (-1)), .int 3, .ref 248]) (show z_pt 186 50 = some (10, .iload 4, []) by decide +kernel) rfl (fun _ _ _ => rfl) ?_
      refine R_pure (pc := 52) (pc' := 53) (st' := [.int (3 * (a4 + (-1))), .ref 248]) (show z_pt 186 52 = some (10, .imul, []) by decide +kernel) rfl (fun _ _ _ => rfl) ?_
      refine R_const (pc := 53) (pc' := 54) (v := 1) (show z_ptc 186 53 = some (54, 1) by decide +kernel) ?_
      refine R_pure (pc := 54) (pc' := 55) (st' := [.int ((3 * (a4 + (-1))) + 1), .ref 248]) (show z_pt 186 54 = some (10, .iadd, []) by decide +kernel) rfl (fun _ _ _ => rfl) ?_
      obtain ⟨v4, e5, h⟩ := z_bs h
      refine R_ialdR (pc := 55) (a := 248) (n := 30) (show z_pt 186 55 = some (10, .iaload, []) by decide +kernel) (show z_ar 248 0 30 = true by decide +kernel) e5 ?_
      refine R_at (pc := 56) ?_
      refine R_pure (pc := 56) (pc' := 58) (ls' := [(0, .ref 241), (1, .int f1), (2, .int f2), (3, .int a3), (4, .int (a4 + (-1))), (5, .int v2), (6, .int v4)]) (st' := []) (show z_pt 186 56 = some (10, .istore 6, []) by decide +kernel) rfl (fun _ _ _ => rfl) ?_
      refine R_pure (pc := 58) (pc' := 59) (st' := [.ref 241]) (show z_pt 186 58 = some (10, .aload_n 0, []) by decide +kernel) rfl (fun _ _ _ => rfl) ?_
      refine R_getR (pc := 59) (a := 241) (b := 248) (show z_pt 186 59 = some (10, .getfield 36, [10, 13, 6131]) by decide +kernel) (by decide +kernel) ?_
      refine R_at (pc := 62) ?_
      refine R_const (pc := 62) (pc' := 63) (v := 3) (show z_ptc 186 62 = some (63, 3) by decide +kernel) ?_
      refine R_pure (pc := 63) (pc' := 65) (st' := [.int (a4 + (-1)), .int 3, .ref 248]) (show z_pt 186 63 = some (10, .iload 4, []) by decide +kernel) rfl (fun _ _ _ => rfl) ?_
      refine R_pure (pc := 65) (pc' := 66) (st' := [.int (3 * (a4 + (-1))), .ref 248]) (show z_pt 186 65 = some (10, .imul, []) by decide +kernel) rfl (fun _ _ _ => rfl) ?_
      refine R_const (pc := 66) (pc' := 67) (v := 2) (show z_ptc 186 66 = some (67, 2) by decide +kernel) ?_
      refine R_pure (pc := 67) (pc' := 68) (st' := [.int ((3 * (a4 + (-1))) + 2), .ref 248]) (show z_pt 186 67 = some (10, .iadd, []) by decide +kernel) rfl (fun _ _ _ => rfl) ?_
      obtain ⟨v6, e7, h⟩ := z_bs h
      refine R_ialdR (pc := 68) (a := 248) (n := 30) (show z_pt 186 68 = some (10, .iaload, []) by decide +kernel) (show z_ar 248 0 30 = true by decide +kernel) e7 ?_
      refine R_at (pc := 69) ?_
      refine R_pure (pc := 69) (pc' := 71) (ls' := [(0, .ref 241), (1, .int f1), (2, .int f2), (3, .int a3), (4, .int (a4 + (-1))), (5, .int v2), (6, .int v4), (7, .int v6)]) (st' := []) (show z_pt 186 69 = some (10, .istore 7, []) by decide +kernel) rfl (fun _ _ _ => rfl) ?_
      refine R_pure (pc := 71) (pc' := 72) (st' := [.ref 241]) (show z_pt 186 71 = some (10, .aload_n 0, []) by decide +kernel) rfl (fun _ _ _ => rfl) ?_
      refine R_getR (pc := 72) (a := 241) (b := 242) (show z_pt 186 72 = some (10, .getfield 7, [10, 0, 6118]) by decide +kernel) (by decide +kernel) ?_
      refine R_at (pc := 75) ?_
      refine R_const (pc := 75) (pc' := 77) (v := 17) (show z_ptc 186 75 = some (77, 17) by decide +kernel) ?_
      refine R_pure (pc := 77) (pc' := 79) (st' := [.int v2, .int 17, .ref 242]) (show z_pt 186 77 = some (10, .iload 5, []) by decide +kernel) rfl (fun _ _ _ => rfl) ?_
      refine R_pure (pc := 79) (pc' := 80) (st' := [.int (17 + v2), .ref 242]) (show z_pt 186 79 = some (10, .iadd, []) by decide +kernel) rfl (fun _ _ _ => rfl) ?_
      refine R_pure (pc := 80) (pc' := 81) (st' := [.int (17 + v2), .ref 242, .int (17 + v2), .ref 242]) (show z_pt 186 80 = some (10, .dup2, []) by decide +kernel) rfl (fun _ _ _ => rfl) ?_
      obtain ⟨v8, e9, h⟩ := z_bs h
      refine R_ialdR (pc := 81) (a := 242) (n := 331) (show z_pt 186 81 = some (10, .iaload, []) by decide +kernel) (show z_ar 242 0 331 = true by decide +kernel) e9 ?_
      refine R_at (pc := 82) ?_
      refine R_pure (pc := 82) (pc' := 84) (st' := [.int v4, .int v8, .int (17 + v2), .ref 242]) (show z_pt 186 82 = some (10, .iload 6, []) by decide +kernel) rfl (fun _ _ _ => rfl) ?_
      refine R_pure (pc := 84) (pc' := 85) (st' := [.int (v8 + v4), .int (17 + v2), .ref 242]) (show z_pt 186 84 = some (10, .iadd, []) by decide +kernel) rfl (fun _ _ _ => rfl) ?_
      obtain ⟨g10, h⟩ := z_ig h
      refine R_iast (pc := 85) (a := 242) (n := 331) (show z_pt 186 85 = some (10, .iastore, []) by decide +kernel) (show z_ar 242 0 331 = true by decide +kernel) g10 ?_
      refine R_at (pc := 86) ?_
      refine R_pure (pc := 86) (pc' := 87) (st' := [.ref 241]) (show z_pt 186 86 = some (10, .aload_n 0, []) by decide +kernel) rfl (fun _ _ _ => rfl) ?_
      refine R_getR (pc := 87) (a := 241) (b := 242) (show z_pt 186 87 = some (10, .getfield 7, [10, 0, 6118]) by decide +kernel) (by decide +kernel) ?_
      refine R_at (pc := 90) ?_
      refine R_const (pc := 90) (pc' := 92) (v := 6) (show z_ptc 186 90 = some (92, 6) by decide +kernel) ?_
      refine R_pure (pc := 92) (pc' := 93) (st' := [.int 6, .ref 242, .int 6, .ref 242]) (show z_pt 186 92 = some (10, .dup2, []) by decide +kernel) rfl (fun _ _ _ => rfl) ?_
      refine R_ialdK (pc := 93) (a := 242) (n := 331) (jn := 6) (show z_pt 186 93 = some (10, .iaload, []) by decide +kernel) (show z_ar 242 0 331 = true by decide +kernel) (by decide) (by decide) ?_
      refine R_at (pc := 94) ?_
      refine R_pure (pc := 94) (pc' := 96) (st' := [.int v4, .int ((z_u μ 242 (17 + v2).toNatClampNeg (v8 + v4)) 242 6), .int 6, .ref 242]) (show z_pt 186 94 = some (10, .iload 6, []) by decide +kernel) rfl (fun _ _ _ => rfl) ?_
      obtain ⟨q11, e12, h⟩ := z_bs h
      refine R_call (pc := 96) (rr := [.int ((z_u μ 242 (17 + v2).toNatClampNeg (v8 + v4)) 242 6), .int 6, .ref 242]) (show z_pt 186 96 = some (10, .invokestatic 117, [1, 161, 1, 7026, 7027, 0, 1012, 7028]) by decide +kernel) rfl (show z_r2 161 = some (10, 1, true) by decide +kernel) rfl rfl (Or.inl (by decide)) (pm_size_run  e12) (by omega) ?_
      refine R_at2 (pc := 99) (st := [.int q11, .int ((z_u μ 242 (17 + v2).toNatClampNeg (v8 + v4)) 242 6), .int 6, .ref 242]) ?_
      refine R_pure (pc := 99) (pc' := 100) (st' := [.int (((z_u μ 242 (17 + v2).toNatClampNeg (v8 + v4)) 242 6) + q11), .int 6, .ref 242]) (show z_pt 186 99 = some (10, .iadd, []) by decide +kernel) rfl (fun _ _ _ => rfl) ?_
      refine R_iastK (pc := 100) (a := 242) (n := 331) (jn := 6) (show z_pt 186 100 = some (10, .iastore, []) by decide +kernel) (show z_ar 242 0 331 = true by decide +kernel) (by decide) (by decide) ?_
      refine R_at (pc := 101) ?_
      refine R_inc (pc := 101) (pc' := 104) (ls' := [(0, .ref 241), (1, .int f1), (2, .int f2), (3, .int (a3 + 1)), (4, .int (a4 + (-1))), (5, .int v2), (6, .int v4), (7, .int v6)]) (c := 1) (show z_pt 186 101 = some (10, .iinc 3 1, []) by decide +kernel) (by decide) rfl rfl ?_
      refine R_const (pc := 104) (pc' := 105) (v := 0) (show z_ptc 186 104 = some (105, 0) by decide +kernel) ?_
      refine R_pure (pc := 105) (pc' := 107) (ls' := [(0, .ref 241), (1, .int f1), (2, .int f2), (3, .int (a3 + 1)), (4, .int (a4 + (-1))), (5, .int v2), (6, .int v4), (7, .int v6), (8, .int 0)]) (st' := []) (show z_pt 186 105 = some (10, .istore 8, []) by decide +kernel) rfl (fun _ _ _ => rfl) ?_
      refine pm_turnsAll_L107_run  _ _ _ _ _ _ _  _ (by omega) ?_ _ _ _ _ _ h
      intro M28 k26 k27 r h
      refine R_pure (pc := 203) (pc' := 26) (ls' := [(0, .ref 241), (1, .int f1), (2, .int f2), (3, .int (a3 + 1)), (4, .int k26)]) (st' := []) (show z_pt 186 203 = some (10, .goto (-177), [5]) by decide +kernel) rfl (fun _ _ _ => rfl) ?_
      exact ih _ _ _ _  h
def pm_turnsAll  (μ : z_Mem) (i1 : Int32) (i2 : Int32) : Option (Int32 × z_Mem) := pm_turnsAll_L26 z_fu i1 i2 (fun M31 k29 k30 => some (k29, M31)) (z_u (z_u (z_u μ 248 0 i1) 248 1 i2) 248 2 (-1)) 0 1
theorem pm_turnsAll_run  {μ : z_Mem} {i1 : Int32} {i2 : Int32}  {r : (Int32 × z_Mem)} (h : pm_turnsAll μ i1 i2 = some r) : Rn 3 186 0 [(0, .ref 241), (1, .int i1), (2, .int i2)] [] μ (.inl (some (.int r.1))) r.2 := by
  unfold pm_turnsAll at h
  refine R_const (pc := 0) (pc' := 1) (v := 0) (show z_ptc 186 0 = some (1, 0) by decide +kernel) ?_
  refine R_pure (pc := 1) (pc' := 2) (ls' := [(0, .ref 241), (1, .int i1), (2, .int i2), (3, .int 0)]) (st' := []) (show z_pt 186 1 = some (10, .istore_n 3, []) by decide +kernel) rfl (fun _ _ _ => rfl) ?_
  refine R_const (pc := 2) (pc' := 3) (v := 1) (show z_ptc 186 2 = some (3, 1) by decide +kernel) ?_
  refine R_pure (pc := 3) (pc' := 5) (ls' := [(0, .ref 241), (1, .int i1), (2, .int i2), (3, .int 0), (4, .int 1)]) (st' := []) (show z_pt 186 3 = some (10, .istore 4, []) by decide +kernel) rfl (fun _ _ _ => rfl) ?_
  refine R_pure (pc := 5) (pc' := 6) (st' := [.ref 241]) (show z_pt 186 5 = some (10, .aload_n 0, []) by decide +kernel) rfl (fun _ _ _ => rfl) ?_
  refine R_getR (pc := 6) (a := 241) (b := 248) (show z_pt 186 6 = some (10, .getfield 36, [10, 13, 6131]) by decide +kernel) (by decide +kernel) ?_
  refine R_at (pc := 9) ?_
  refine R_const (pc := 9) (pc' := 10) (v := 0) (show z_ptc 186 9 = some (10, 0) by decide +kernel) ?_
  refine R_pure (pc := 10) (pc' := 11) (st' := [.int i1, .int 0, .ref 248]) (show z_pt 186 10 = some (10, .iload_n 1, []) by decide +kernel) rfl (fun _ _ _ => rfl) ?_
  refine R_iastK (pc := 11) (a := 248) (n := 30) (jn := 0) (show z_pt 186 11 = some (10, .iastore, []) by decide +kernel) (show z_ar 248 0 30 = true by decide +kernel) (by decide) (by decide) ?_
  refine R_at (pc := 12) ?_
  refine R_pure (pc := 12) (pc' := 13) (st' := [.ref 241]) (show z_pt 186 12 = some (10, .aload_n 0, []) by decide +kernel) rfl (fun _ _ _ => rfl) ?_
  refine R_getR (pc := 13) (a := 241) (b := 248) (show z_pt 186 13 = some (10, .getfield 36, [10, 13, 6131]) by decide +kernel) (by decide +kernel) ?_
  refine R_at (pc := 16) ?_
  refine R_const (pc := 16) (pc' := 17) (v := 1) (show z_ptc 186 16 = some (17, 1) by decide +kernel) ?_
  refine R_pure (pc := 17) (pc' := 18) (st' := [.int i2, .int 1, .ref 248]) (show z_pt 186 17 = some (10, .iload_n 2, []) by decide +kernel) rfl (fun _ _ _ => rfl) ?_
  refine R_iastK (pc := 18) (a := 248) (n := 30) (jn := 1) (show z_pt 186 18 = some (10, .iastore, []) by decide +kernel) (show z_ar 248 0 30 = true by decide +kernel) (by decide) (by decide) ?_
  refine R_at (pc := 19) ?_
  refine R_pure (pc := 19) (pc' := 20) (st' := [.ref 241]) (show z_pt 186 19 = some (10, .aload_n 0, []) by decide +kernel) rfl (fun _ _ _ => rfl) ?_
  refine R_getR (pc := 20) (a := 241) (b := 248) (show z_pt 186 20 = some (10, .getfield 36, [10, 13, 6131]) by decide +kernel) (by decide +kernel) ?_
  refine R_at (pc := 23) ?_
  refine R_const (pc := 23) (pc' := 24) (v := 2) (show z_ptc 186 23 = some (24, 2) by decide +kernel) ?_
  refine R_const (pc := 24) (pc' := 25) (v := (-1)) (show z_ptc 186 24 = some (25, (-1)) by decide +kernel) ?_
  refine R_iastK (pc := 25) (a := 248) (n := 30) (jn := 2) (show z_pt 186 25 = some (10, .iastore, []) by decide +kernel) (show z_ar 248 0 30 = true by decide +kernel) (by decide) (by decide) ?_
  refine R_at (pc := 26) ?_
  refine pm_turnsAll_L26_run  _ _ _  _ (by omega) ?_ _ _ _ _ _ h
  intro M31 k29 k30 r h
  refine R_pure (pc := 206) (pc' := 207) (st' := [.int k29]) (show z_pt 186 206 = some (10, .iload_n 3, []) by decide +kernel) rfl (fun _ _ _ => rfl) ?_
  cases h
  exact R_retI (show z_pt 186 207 = some (10, .ireturn, []) by decide +kernel) (by decide +kernel)
def pm_turns  (μ : z_Mem) (i1 : Int32) (i2 : Int32) : Option (Int32 × z_Mem) := (pm_isGear μ i1).bind fun q1 => if q1 = 0 then (pm_fails μ 1).bind fun q16 => some (q16.1, q16.2) else if i2 = 0 then (pm_fails μ 2).bind fun q5 => some (q5.1, q5.2) else (pm_in μ i2 (-99) 99).bind fun q7 => if q7 = 0 then (pm_fails μ 2).bind fun q14 => some (q14.1, q14.2) else (pm_turnsAll μ i1 i2).bind fun q10 => (pm_done q10.2 q10.1).bind fun q12 => some (q12.1, q12.2)
theorem pm_turns_run  {μ : z_Mem} {i1 : Int32} {i2 : Int32}  {r : (Int32 × z_Mem)} (h : pm_turns μ i1 i2 = some r) : Rn 4 187 0 [(0, .ref 241), (1, .int i1), (2, .int i2)] [] μ (.inl (some (.int r.1))) r.2 := by
  unfold pm_turns at h
  refine R_pure (pc := 0) (pc' := 1) (st' := [.ref 241]) (show z_pt 187 0 = some (3, .aload_n 0, []) by decide +kernel) rfl (fun _ _ _ => rfl) ?_
  refine R_pure (pc := 1) (pc' := 2) (st' := [.int i1, .ref 241]) (show z_pt 187 1 = some (3, .iload_n 1, []) by decide +kernel) rfl (fun _ _ _ => rfl) ?_
  obtain ⟨q1, e2, h⟩ := z_bs h
  refine R_call (pc := 2) (rr := []) (show z_pt 187 2 = some (3, .invokevirtual 59, [0, 169, 1, 6219, 6221, 41, 1012, 6222]) by decide +kernel) rfl (show z_r2 169 = some (10, 2, true) by decide +kernel) rfl rfl (Or.inr ⟨_, _, rfl, (by decide +kernel)⟩) (pm_isGear_run  e2) (by omega) ?_
  refine R_at2 (pc := 5) (st := [.int q1]) ?_
  refine R_ifne (pc := 5) (t := 14) (show z_pt 187 5 = some (3, .ifCond .ne 9, []) by decide +kernel) (by decide) (fun c3 => ?_) (fun c3 => ?_)
  · rw [if_neg c3] at h
    refine R_pure (pc := 14) (pc' := 15) (st' := [.int i2]) (show z_pt 187 14 = some (3, .iload_n 2, []) by decide +kernel) rfl (fun _ _ _ => rfl) ?_
    refine R_ifeq (pc := 15) (t := 29) (show z_pt 187 15 = some (3, .ifCond .eq 14, []) by decide +kernel) (by decide) (fun c4 => ?_) (fun c4 => ?_)
    · rw [if_pos c4] at h
      refine R_pure (pc := 29) (pc' := 30) (st' := [.ref 241]) (show z_pt 187 29 = some (3, .aload_n 0, []) by decide +kernel) rfl (fun _ _ _ => rfl) ?_
      refine R_const (pc := 30) (pc' := 31) (v := 2) (show z_ptc 187 30 = some (31, 2) by decide +kernel) ?_
      obtain ⟨q5, e6, h⟩ := z_bs h
      refine R_call (pc := 31) (rr := []) (show z_pt 187 31 = some (3, .invokevirtual 75, [0, 165, 1, 6195, 6197, 36, 1012, 6198]) by decide +kernel) rfl (show z_r2 165 = some (10, 2, true) by decide +kernel) rfl rfl (Or.inr ⟨_, _, rfl, (by decide +kernel)⟩) (pm_fails_run  e6) (by omega) ?_
      refine R_at2 (pc := 34) (st := [.int q5.1]) ?_
      cases h
      exact R_retI (show z_pt 187 34 = some (3, .ireturn, []) by decide +kernel) (by decide +kernel)
    · rw [if_neg c4] at h
      refine R_pure (pc := 18) (pc' := 19) (st' := [.int i2]) (show z_pt 187 18 = some (3, .iload_n 2, []) by decide +kernel) rfl (fun _ _ _ => rfl) ?_
      refine R_const (pc := 19) (pc' := 21) (v := (-99)) (show z_ptc 187 19 = some (21, (-99)) by decide +kernel) ?_
      refine R_const (pc := 21) (pc' := 23) (v := 99) (show z_ptc 187 21 = some (23, 99) by decide +kernel) ?_
      obtain ⟨q7, e8, h⟩ := z_bs h
      refine R_call (pc := 23) (rr := []) (show z_pt 187 23 = some (3, .invokestatic 55, [1, 160, 3, 6192, 6193, 0, 1012, 6194]) by decide +kernel) rfl (show z_r2 160 = some (10, 3, true) by decide +kernel) rfl rfl (Or.inl (by decide)) (pm_in_run  e8) (by omega) ?_
      refine R_at2 (pc := 26) (st := [.int q7]) ?_
      refine R_ifne (pc := 26) (t := 35) (show z_pt 187 26 = some (3, .ifCond .ne 9, []) by decide +kernel) (by decide) (fun c9 => ?_) (fun c9 => ?_)
      · rw [if_neg c9] at h
        refine R_pure (pc := 35) (pc' := 36) (st' := [.ref 241]) (show z_pt 187 35 = some (3, .aload_n 0, []) by decide +kernel) rfl (fun _ _ _ => rfl) ?_
        refine R_pure (pc := 36) (pc' := 37) (st' := [.ref 241, .ref 241]) (show z_pt 187 36 = some (3, .aload_n 0, []) by decide +kernel) rfl (fun _ _ _ => rfl) ?_
        refine R_pure (pc := 37) (pc' := 38) (st' := [.int i1, .ref 241, .ref 241]) (show z_pt 187 37 = some (3, .iload_n 1, []) by decide +kernel) rfl (fun _ _ _ => rfl) ?_
        refine R_pure (pc := 38) (pc' := 39) (st' := [.int i2, .int i1, .ref 241, .ref 241]) (show z_pt 187 38 = some (3, .iload_n 2, []) by decide +kernel) rfl (fun _ _ _ => rfl) ?_
        obtain ⟨q10, e11, h⟩ := z_bs h
        refine R_call (pc := 39) (rr := [.ref 241]) (show z_pt 187 39 = some (3, .invokevirtual 123, [0, 186, 2, 7022, 7024, 49, 1012, 7025]) by decide +kernel) rfl (show z_r2 186 = some (10, 10, true) by decide +kernel) rfl rfl (Or.inr ⟨_, _, rfl, (by decide +kernel)⟩) (pm_turnsAll_run  e11) (by omega) ?_
        refine R_at2 (pc := 42) (st := [.int q10.1, .ref 241]) ?_
        obtain ⟨q12, e13, h⟩ := z_bs h
        refine R_call (pc := 42) (rr := []) (show z_pt 187 42 = some (3, .invokevirtual 79, [0, 164, 1, 6199, 6201, 37, 1012, 6202]) by decide +kernel) rfl (show z_r2 164 = some (10, 2, true) by decide +kernel) rfl rfl (Or.inr ⟨_, _, rfl, (by decide +kernel)⟩) (pm_done_run  e13) (by omega) ?_
        refine R_at2 (pc := 45) (st := [.int q12.1]) ?_
        cases h
        exact R_retI (show z_pt 187 45 = some (3, .ireturn, []) by decide +kernel) (by decide +kernel)
      · rw [if_pos c9] at h
        refine R_pure (pc := 29) (pc' := 30) (st' := [.ref 241]) (show z_pt 187 29 = some (3, .aload_n 0, []) by decide +kernel) rfl (fun _ _ _ => rfl) ?_
        refine R_const (pc := 30) (pc' := 31) (v := 2) (show z_ptc 187 30 = some (31, 2) by decide +kernel) ?_
        obtain ⟨q14, e15, h⟩ := z_bs h
        refine R_call (pc := 31) (rr := []) (show z_pt 187 31 = some (3, .invokevirtual 75, [0, 165, 1, 6195, 6197, 36, 1012, 6198]) by decide +kernel) rfl (show z_r2 165 = some (10, 2, true) by decide +kernel) rfl rfl (Or.inr ⟨_, _, rfl, (by decide +kernel)⟩) (pm_fails_run  e15) (by omega) ?_
        refine R_at2 (pc := 34) (st := [.int q14.1]) ?_
        cases h
        exact R_retI (show z_pt 187 34 = some (3, .ireturn, []) by decide +kernel) (by decide +kernel)
  · rw [if_pos c3] at h
    refine R_pure (pc := 8) (pc' := 9) (st' := [.ref 241]) (show z_pt 187 8 = some (3, .aload_n 0, []) by decide +kernel) rfl (fun _ _ _ => rfl) ?_
    refine R_const (pc := 9) (pc' := 10) (v := 1) (show z_ptc 187 9 = some (10, 1) by decide +kernel) ?_
    obtain ⟨q16, e17, h⟩ := z_bs h
    refine R_call (pc := 10) (rr := []) (show z_pt 187 10 = some (3, .invokevirtual 75, [0, 165, 1, 6195, 6197, 36, 1012, 6198]) by decide +kernel) rfl (show z_r2 165 = some (10, 2, true) by decide +kernel) rfl rfl (Or.inr ⟨_, _, rfl, (by decide +kernel)⟩) (pm_fails_run  e17) (by omega) ?_
    refine R_at2 (pc := 13) (st := [.int q16.1]) ?_
    cases h
    exact R_retI (show z_pt 187 13 = some (3, .ireturn, []) by decide +kernel) (by decide +kernel)
def pm_turn  (μ : z_Mem) (i1 : Int32) (i2 : Int32) : Option (Int32 × z_Mem) := (pm_begin μ).bind fun q1 => (pm_turns q1 i1 i2).bind fun q3 => (pm_kept q3.2 q3.1).bind fun q5 => some (q5.1, q5.2)
theorem pm_turn_run  {μ : z_Mem} {i1 : Int32} {i2 : Int32}  {r : (Int32 × z_Mem)} (h : pm_turn μ i1 i2 = some r) : Rn 5 188 0 [(0, .ref 241), (1, .int i1), (2, .int i2)] [] μ (.inl (some (.int r.1))) r.2 := by
  unfold pm_turn at h
  refine R_pure (pc := 0) (pc' := 1) (st' := [.ref 241]) (show z_pt 188 0 = some (3, .aload_n 0, []) by decide +kernel) rfl (fun _ _ _ => rfl) ?_
  obtain ⟨q1, e2, h⟩ := z_bs h
  refine R_call (pc := 1) (rr := []) (show z_pt 188 1 = some (3, .invokevirtual 82, [0, 167, 0, 6181, 6183, 34, 1012, 6184]) by decide +kernel) rfl (show z_r2 167 = some (10, 1, true) by decide +kernel) rfl rfl (Or.inr ⟨_, _, rfl, (by decide +kernel)⟩) (pm_begin_run  e2) (by omega) ?_
  refine R_at2 (pc := 4) (st := []) ?_
  refine R_pure (pc := 4) (pc' := 5) (st' := [.ref 241]) (show z_pt 188 4 = some (3, .aload_n 0, []) by decide +kernel) rfl (fun _ _ _ => rfl) ?_
  refine R_pure (pc := 5) (pc' := 6) (st' := [.ref 241, .ref 241]) (show z_pt 188 5 = some (3, .aload_n 0, []) by decide +kernel) rfl (fun _ _ _ => rfl) ?_
  refine R_pure (pc := 6) (pc' := 7) (st' := [.int i1, .ref 241, .ref 241]) (show z_pt 188 6 = some (3, .iload_n 1, []) by decide +kernel) rfl (fun _ _ _ => rfl) ?_
  refine R_pure (pc := 7) (pc' := 8) (st' := [.int i2, .int i1, .ref 241, .ref 241]) (show z_pt 188 7 = some (3, .iload_n 2, []) by decide +kernel) rfl (fun _ _ _ => rfl) ?_
  obtain ⟨q3, e4, h⟩ := z_bs h
  refine R_call (pc := 8) (rr := [.ref 241]) (show z_pt 188 8 = some (3, .invokevirtual 126, [0, 187, 2, 7018, 7020, 48, 1012, 7021]) by decide +kernel) rfl (show z_r2 187 = some (10, 3, true) by decide +kernel) rfl rfl (Or.inr ⟨_, _, rfl, (by decide +kernel)⟩) (pm_turns_run  e4) (by omega) ?_
  refine R_at2 (pc := 11) (st := [.int q3.1, .ref 241]) ?_
  obtain ⟨q5, e6, h⟩ := z_bs h
  refine R_call (pc := 11) (rr := []) (show z_pt 188 11 = some (3, .invokevirtual 88, [0, 168, 1, 6203, 6205, 38, 1012, 6206]) by decide +kernel) rfl (show z_r2 168 = some (10, 3, true) by decide +kernel) rfl rfl (Or.inr ⟨_, _, rfl, (by decide +kernel)⟩) (pm_kept_run  e6) (by omega) ?_
  refine R_at2 (pc := 14) (st := [.int q5.1]) ?_
  cases h
  exact R_retI (show z_pt 188 14 = some (3, .ireturn, []) by decide +kernel) (by decide +kernel)
def pm_gearCount  (μ : z_Mem)  : Option (Int32 × z_Mem) := (pm_done μ (μ 242 0)).bind fun q1 => some (q1.1, q1.2)
theorem pm_gearCount_run  {μ : z_Mem}   {r : (Int32 × z_Mem)} (h : pm_gearCount μ = some r) : Rn 1 189 0 [(0, .ref 241)] [] μ (.inl (some (.int r.1))) r.2 := by
  unfold pm_gearCount at h
  refine R_pure (pc := 0) (pc' := 1) (st' := [.ref 241]) (show z_pt 189 0 = some (1, .aload_n 0, []) by decide +kernel) rfl (fun _ _ _ => rfl) ?_
  refine R_pure (pc := 1) (pc' := 2) (st' := [.ref 241, .ref 241]) (show z_pt 189 1 = some (1, .aload_n 0, []) by decide +kernel) rfl (fun _ _ _ => rfl) ?_
  refine R_getR (pc := 2) (a := 241) (b := 242) (show z_pt 189 2 = some (1, .getfield 7, [10, 0, 6118]) by decide +kernel) (by decide +kernel) ?_
  refine R_at (pc := 5) ?_
  refine R_const (pc := 5) (pc' := 6) (v := 0) (show z_ptc 189 5 = some (6, 0) by decide +kernel) ?_
  refine R_ialdK (pc := 6) (a := 242) (n := 331) (jn := 0) (show z_pt 189 6 = some (1, .iaload, []) by decide +kernel) (show z_ar 242 0 331 = true by decide +kernel) (by decide) (by decide) ?_
  refine R_at (pc := 7) ?_
  obtain ⟨q1, e2, h⟩ := z_bs h
  refine R_call (pc := 7) (rr := []) (show z_pt 189 7 = some (1, .invokevirtual 79, [0, 164, 1, 6199, 6201, 37, 1012, 6202]) by decide +kernel) rfl (show z_r2 164 = some (10, 2, true) by decide +kernel) rfl rfl (Or.inr ⟨_, _, rfl, (by decide +kernel)⟩) (pm_done_run  e2) (by omega) ?_
  refine R_at2 (pc := 10) (st := [.int q1.1]) ?_
  cases h
  exact R_retI (show z_pt 189 10 = some (1, .ireturn, []) by decide +kernel) (by decide +kernel)
def pm_gearNumber  (μ : z_Mem) (i1 : Int32) (i2 : Int32) : Option (Int32 × z_Mem) := (pm_isGear μ i2).bind fun q1 => if q1 = 0 then (pm_fails μ 1).bind fun q4 => some (q4.1, q4.2) else (z_rd μ 242 331 (i1 + i2)).bind fun v6 => (pm_done μ v6).bind fun q8 => some (q8.1, q8.2)
theorem pm_gearNumber_run  {μ : z_Mem} {i1 : Int32} {i2 : Int32}  {r : (Int32 × z_Mem)} (h : pm_gearNumber μ i1 i2 = some r) : Rn 2 190 0 [(0, .ref 241), (1, .int i1), (2, .int i2)] [] μ (.inl (some (.int r.1))) r.2 := by
  unfold pm_gearNumber at h
  refine R_pure (pc := 0) (pc' := 1) (st' := [.ref 241]) (show z_pt 190 0 = some (3, .aload_n 0, []) by decide +kernel) rfl (fun _ _ _ => rfl) ?_
  refine R_pure (pc := 1) (pc' := 2) (st' := [.int i2, .ref 241]) (show z_pt 190 1 = some (3, .iload_n 2, []) by decide +kernel) rfl (fun _ _ _ => rfl) ?_
  obtain ⟨q1, e2, h⟩ := z_bs h
  refine R_call (pc := 2) (rr := []) (show z_pt 190 2 = some (3, .invokevirtual 59, [0, 169, 1, 6219, 6221, 41, 1012, 6222]) by decide +kernel) rfl (show z_r2 169 = some (10, 2, true) by decide +kernel) rfl rfl (Or.inr ⟨_, _, rfl, (by decide +kernel)⟩) (pm_isGear_run  e2) (by omega) ?_
  refine R_at2 (pc := 5) (st := [.int q1]) ?_
  refine R_ifeq (pc := 5) (t := 23) (show z_pt 190 5 = some (3, .ifCond .eq 18, []) by decide +kernel) (by decide) (fun c3 => ?_) (fun c3 => ?_)
  · rw [if_pos c3] at h
    refine R_pure (pc := 23) (pc' := 24) (st' := [.ref 241]) (show z_pt 190 23 = some (3, .aload_n 0, []) by decide +kernel) rfl (fun _ _ _ => rfl) ?_
    refine R_const (pc := 24) (pc' := 25) (v := 1) (show z_ptc 190 24 = some (25, 1) by decide +kernel) ?_
    obtain ⟨q4, e5, h⟩ := z_bs h
    refine R_call (pc := 25) (rr := []) (show z_pt 190 25 = some (3, .invokevirtual 75, [0, 165, 1, 6195, 6197, 36, 1012, 6198]) by decide +kernel) rfl (show z_r2 165 = some (10, 2, true) by decide +kernel) rfl rfl (Or.inr ⟨_, _, rfl, (by decide +kernel)⟩) (pm_fails_run  e5) (by omega) ?_
    refine R_at2 (pc := 28) (st := [.int q4.1]) ?_
    cases h
    exact R_retI (show z_pt 190 28 = some (3, .ireturn, []) by decide +kernel) (by decide +kernel)
  · rw [if_neg c3] at h
    refine R_pure (pc := 8) (pc' := 9) (st' := [.ref 241]) (show z_pt 190 8 = some (3, .aload_n 0, []) by decide +kernel) rfl (fun _ _ _ => rfl) ?_
    refine R_pure (pc := 9) (pc' := 10) (st' := [.ref 241, .ref 241]) (show z_pt 190 9 = some (3, .aload_n 0, []) by decide +kernel) rfl (fun _ _ _ => rfl) ?_
    refine R_getR (pc := 10) (a := 241) (b := 242) (show z_pt 190 10 = some (3, .getfield 7, [10, 0, 6118]) by decide +kernel) (by decide +kernel) ?_
    refine R_at (pc := 13) ?_
    refine R_pure (pc := 13) (pc' := 14) (st' := [.int i1, .ref 242, .ref 241]) (show z_pt 190 13 = some (3, .iload_n 1, []) by decide +kernel) rfl (fun _ _ _ => rfl) ?_
    refine R_pure (pc := 14) (pc' := 15) (st' := [.int i2, .int i1, .ref 242, .ref 241]) (show z_pt 190 14 = some (3, .iload_n 2, []) by decide +kernel) rfl (fun _ _ _ => rfl) ?_
    refine R_pure (pc := 15) (pc' := 16) (st' := [.int (i1 + i2), .ref 242, .ref 241]) (show z_pt 190 15 = some (3, .iadd, []) by decide +kernel) rfl (fun _ _ _ => rfl) ?_
    obtain ⟨v6, e7, h⟩ := z_bs h
    refine R_ialdR (pc := 16) (a := 242) (n := 331) (show z_pt 190 16 = some (3, .iaload, []) by decide +kernel) (show z_ar 242 0 331 = true by decide +kernel) e7 ?_
    refine R_at (pc := 17) ?_
    obtain ⟨q8, e9, h⟩ := z_bs h
    refine R_call (pc := 17) (rr := []) (show z_pt 190 17 = some (3, .invokevirtual 79, [0, 164, 1, 6199, 6201, 37, 1012, 6202]) by decide +kernel) rfl (show z_r2 164 = some (10, 2, true) by decide +kernel) rfl rfl (Or.inr ⟨_, _, rfl, (by decide +kernel)⟩) (pm_done_run  e9) (by omega) ?_
    refine R_at2 (pc := 20) (st := [.int q8.1]) ?_
    refine R_pure (pc := 20) (pc' := 28) (show z_pt 190 20 = some (3, .goto 8, []) by decide +kernel) rfl (fun _ _ _ => rfl) ?_
    cases h
    exact R_retI (show z_pt 190 28 = some (3, .ireturn, []) by decide +kernel) (by decide +kernel)
def pm_teeth  (μ : z_Mem) (i1 : Int32) : Option (Int32 × z_Mem) := (pm_gearNumber μ 7 i1).bind fun q1 => some (q1.1, q1.2)
theorem pm_teeth_run  {μ : z_Mem} {i1 : Int32}  {r : (Int32 × z_Mem)} (h : pm_teeth μ i1 = some r) : Rn 3 191 0 [(0, .ref 241), (1, .int i1)] [] μ (.inl (some (.int r.1))) r.2 := by
  unfold pm_teeth at h
  refine R_pure (pc := 0) (pc' := 1) (st' := [.ref 241]) (show z_pt 191 0 = some (2, .aload_n 0, []) by decide +kernel) rfl (fun _ _ _ => rfl) ?_
  refine R_const (pc := 1) (pc' := 3) (v := 7) (show z_ptc 191 1 = some (3, 7) by decide +kernel) ?_
  refine R_pure (pc := 3) (pc' := 4) (st' := [.int i1, .int 7, .ref 241]) (show z_pt 191 3 = some (2, .iload_n 1, []) by decide +kernel) rfl (fun _ _ _ => rfl) ?_
  obtain ⟨q1, e2, h⟩ := z_bs h
  refine R_call (pc := 4) (rr := []) (show z_pt 191 4 = some (2, .invokevirtual 129, [0, 190, 2, 7048, 7050, 52, 1012, 7051]) by decide +kernel) rfl (show z_r2 190 = some (10, 3, true) by decide +kernel) rfl rfl (Or.inr ⟨_, _, rfl, (by decide +kernel)⟩) (pm_gearNumber_run  e2) (by omega) ?_
  refine R_at2 (pc := 7) (st := [.int q1.1]) ?_
  cases h
  exact R_retI (show z_pt 191 7 = some (2, .ireturn, []) by decide +kernel) (by decide +kernel)
def pm_position  (μ : z_Mem) (i1 : Int32) : Option (Int32 × z_Mem) := (pm_gearNumber μ 17 i1).bind fun q1 => some (q1.1, q1.2)
theorem pm_position_run  {μ : z_Mem} {i1 : Int32}  {r : (Int32 × z_Mem)} (h : pm_position μ i1 = some r) : Rn 3 192 0 [(0, .ref 241), (1, .int i1)] [] μ (.inl (some (.int r.1))) r.2 := by
  unfold pm_position at h
  refine R_pure (pc := 0) (pc' := 1) (st' := [.ref 241]) (show z_pt 192 0 = some (2, .aload_n 0, []) by decide +kernel) rfl (fun _ _ _ => rfl) ?_
  refine R_const (pc := 1) (pc' := 3) (v := 17) (show z_ptc 192 1 = some (3, 17) by decide +kernel) ?_
  refine R_pure (pc := 3) (pc' := 4) (st' := [.int i1, .int 17, .ref 241]) (show z_pt 192 3 = some (2, .iload_n 1, []) by decide +kernel) rfl (fun _ _ _ => rfl) ?_
  obtain ⟨q1, e2, h⟩ := z_bs h
  refine R_call (pc := 4) (rr := []) (show z_pt 192 4 = some (2, .invokevirtual 129, [0, 190, 2, 7048, 7050, 52, 1012, 7051]) by decide +kernel) rfl (show z_r2 190 = some (10, 3, true) by decide +kernel) rfl rfl (Or.inr ⟨_, _, rfl, (by decide +kernel)⟩) (pm_gearNumber_run  e2) (by omega) ?_
  refine R_at2 (pc := 7) (st := [.int q1.1]) ?_
  cases h
  exact R_retI (show z_pt 192 7 = some (2, .ireturn, []) by decide +kernel) (by decide +kernel)
def pm_meshCount  (μ : z_Mem)  : Option (Int32 × z_Mem) := (pm_meshes μ).bind fun q1 => (pm_done μ q1).bind fun q3 => some (q3.1, q3.2)
theorem pm_meshCount_run  {μ : z_Mem}   {r : (Int32 × z_Mem)} (h : pm_meshCount μ = some r) : Rn 3 193 0 [(0, .ref 241)] [] μ (.inl (some (.int r.1))) r.2 := by
  unfold pm_meshCount at h
  refine R_pure (pc := 0) (pc' := 1) (st' := [.ref 241]) (show z_pt 193 0 = some (1, .aload_n 0, []) by decide +kernel) rfl (fun _ _ _ => rfl) ?_
  refine R_pure (pc := 1) (pc' := 2) (st' := [.ref 241, .ref 241]) (show z_pt 193 1 = some (1, .aload_n 0, []) by decide +kernel) rfl (fun _ _ _ => rfl) ?_
  obtain ⟨q1, e2, h⟩ := z_bs h
  refine R_call (pc := 2) (rr := [.ref 241]) (show z_pt 193 2 = some (1, .invokevirtual 97, [0, 176, 0, 6238, 7000, 45, 1012, 7001]) by decide +kernel) rfl (show z_r2 176 = some (10, 4, true) by decide +kernel) rfl rfl (Or.inr ⟨_, _, rfl, (by decide +kernel)⟩) (pm_meshes_run  e2) (by omega) ?_
  refine R_at2 (pc := 5) (st := [.int q1, .ref 241]) ?_
  obtain ⟨q3, e4, h⟩ := z_bs h
  refine R_call (pc := 5) (rr := []) (show z_pt 193 5 = some (1, .invokevirtual 79, [0, 164, 1, 6199, 6201, 37, 1012, 6202]) by decide +kernel) rfl (show z_r2 164 = some (10, 2, true) by decide +kernel) rfl rfl (Or.inr ⟨_, _, rfl, (by decide +kernel)⟩) (pm_done_run  e4) (by omega) ?_
  refine R_at2 (pc := 8) (st := [.int q3.1]) ?_
  cases h
  exact R_retI (show z_pt 193 8 = some (1, .ireturn, []) by decide +kernel) (by decide +kernel)
end ZP6
