section ZP9
def pm_entryOf_L2_B (R : Int32 → Option Int32)  (μ : z_Mem) (f1 : Int32) (f2 : Int32) (K : Int32 → Option Int32) (a3 : Int32) : Option Int32 := if (μ 242 4) ≤ a3 then K a3 else (z_rd μ 242 331 (259 + a3)).bind fun v2 => if v2 = ((10 * f1) + f2) then some a3 else R (a3 + 1)
def pm_entryOf_L2 : Nat → z_Mem → Int32 → Int32 → (Int32 → Option Int32) → Int32 → Option Int32
  | 0 => fun _ _ _ _ _ => none
  | n + 1 => fun μ f1 f2 K a3 => pm_entryOf_L2_B (pm_entryOf_L2 n μ f1 f2 K) μ f1 f2 K a3
theorem pm_entryOf_L2_run  (μ : z_Mem) (f1 : Int32) (f2 : Int32) (K : Int32 → Option Int32)  (D : Nat) (hD : 0 ≤ D) (hK : ∀ (a3 : Int32) (r : Int32), K a3 = some r → Rn D 241 39 [(0, .ref 241), (1, .int f1), (2, .int f2), (3, .int a3)] [] μ (.inl (some (.int r))) μ) : ∀ (n : Nat) (a3 : Int32) (r : Int32), pm_entryOf_L2 n μ f1 f2 K a3 = some r → Rn D 241 2 [(0, .ref 241), (1, .int f1), (2, .int f2), (3, .int a3)] [] μ (.inl (some (.int r))) μ := by
  intro n
  induction n with
  | zero => intro a3 r h; cases h
  | succ n ih =>
    intro a3 r h
    have h : pm_entryOf_L2_B (pm_entryOf_L2 n μ f1 f2 K) μ f1 f2 K a3 = some r := h
    unfold pm_entryOf_L2_B at h
    refine R_pure (pc := 2) (pc' := 3) (st' := [.int a3]) (show z_pt 241 2 = some (4, .iload_n 3, []) by decide +kernel) rfl (fun _ _ _ => rfl) ?_
    refine R_pure (pc := 3) (pc' := 4) (st' := [.ref 241, .int a3]) (show z_pt 241 3 = some (4, .aload_n 0, []) by decide +kernel) rfl (fun _ _ _ => rfl) ?_
    refine R_getR (pc := 4) (a := 241) (b := 242) (show z_pt 241 4 = some (4, .getfield 7, [10, 0, 6118]) by decide +kernel) (by decide +kernel) ?_
    refine R_at (pc := 7) ?_
    refine R_const (pc := 7) (pc' := 8) (v := 4) (show z_ptc 241 7 = some (8, 4) by decide +kernel) ?_
    refine R_ialdK (pc := 8) (a := 242) (n := 331) (jn := 4) (show z_pt 241 8 = some (4, .iaload, []) by decide +kernel) (show z_ar 242 0 331 = true by decide +kernel) (by decide) (by decide) ?_
    refine R_at (pc := 9) ?_
    refine R_icmge (pc := 9) (t := 39) (show z_pt 241 9 = some (4, .if_icmp .ge 30, []) by decide +kernel) (by decide) (fun c1 => ?_) (fun c1 => ?_)
    · rw [if_pos c1] at h
      exact hK _  _ h
    · rw [if_neg c1] at h
      refine R_pure (pc := 12) (pc' := 13) (st' := [.ref 241]) (show z_pt 241 12 = some (4, .aload_n 0, []) by decide +kernel) rfl (fun _ _ _ => rfl) ?_
      refine R_getR (pc := 13) (a := 241) (b := 242) (show z_pt 241 13 = some (4, .getfield 7, [10, 0, 6118]) by decide +kernel) (by decide +kernel) ?_
      refine R_at (pc := 16) ?_
      refine R_const (pc := 16) (pc' := 19) (v := 259) (show z_ptc 241 16 = some (19, 259) by decide +kernel) ?_
      refine R_pure (pc := 19) (pc' := 20) (st' := [.int a3, .int 259, .ref 242]) (show z_pt 241 19 = some (4, .iload_n 3, []) by decide +kernel) rfl (fun _ _ _ => rfl) ?_
      refine R_pure (pc := 20) (pc' := 21) (st' := [.int (259 + a3), .ref 242]) (show z_pt 241 20 = some (4, .iadd, []) by decide +kernel) rfl (fun _ _ _ => rfl) ?_
      obtain ⟨v2, e3, h⟩ := z_bs h
      refine R_ialdR (pc := 21) (a := 242) (n := 331) (show z_pt 241 21 = some (4, .iaload, []) by decide +kernel) (show z_ar 242 0 331 = true by decide +kernel) e3 ?_
      refine R_at (pc := 22) ?_
      refine R_const (pc := 22) (pc' := 24) (v := 10) (show z_ptc 241 22 = some (24, 10) by decide +kernel) ?_
      refine R_pure (pc := 24) (pc' := 25) (st' := [.int f1, .int 10, .int v2]) (show z_pt 241 24 = some (4, .iload_n 1, []) by decide +kernel) rfl (fun _ _ _ => rfl) ?_
      refine R_pure (pc := 25) (pc' := 26) (st' := [.int (10 * f1), .int v2]) (show z_pt 241 25 = some (4, .imul, []) by decide +kernel) rfl (fun _ _ _ => rfl) ?_
      refine R_pure (pc := 26) (pc' := 27) (st' := [.int f2, .int (10 * f1), .int v2]) (show z_pt 241 26 = some (4, .iload_n 2, []) by decide +kernel) rfl (fun _ _ _ => rfl) ?_
      refine R_pure (pc := 27) (pc' := 28) (st' := [.int ((10 * f1) + f2), .int v2]) (show z_pt 241 27 = some (4, .iadd, []) by decide +kernel) rfl (fun _ _ _ => rfl) ?_
      refine R_icmne (pc := 28) (t := 33) (show z_pt 241 28 = some (4, .if_icmp .ne 5, []) by decide +kernel) (by decide) (fun c4 => ?_) (fun c4 => ?_)
      · rw [if_neg c4] at h
        refine R_inc (pc := 33) (pc' := 36) (ls' := [(0, .ref 241), (1, .int f1), (2, .int f2), (3, .int (a3 + 1))]) (c := 1) (show z_pt 241 33 = some (4, .iinc 3 1, []) by decide +kernel) (by decide) rfl rfl ?_
        refine R_pure (pc := 36) (pc' := 2) (ls' := [(0, .ref 241), (1, .int f1), (2, .int f2), (3, .int (a3 + 1))]) (st' := []) (show z_pt 241 36 = some (4, .goto (-34), [4]) by decide +kernel) rfl (fun _ _ _ => rfl) ?_
        exact ih _ _  h
      · rw [if_pos c4] at h
        refine R_pure (pc := 31) (pc' := 32) (st' := [.int a3]) (show z_pt 241 31 = some (4, .iload_n 3, []) by decide +kernel) rfl (fun _ _ _ => rfl) ?_
        cases h
        exact R_retI (show z_pt 241 32 = some (4, .ireturn, []) by decide +kernel) (by decide +kernel)
def pm_entryOf  (μ : z_Mem) (i1 : Int32) (i2 : Int32) : Option Int32 := pm_entryOf_L2 z_fu μ i1 i2 (fun k5 => some (-1)) 0
theorem pm_entryOf_run  {μ : z_Mem} {i1 : Int32} {i2 : Int32}  {r : Int32} (h : pm_entryOf μ i1 i2 = some r) : Rn 0 241 0 [(0, .ref 241), (1, .int i1), (2, .int i2)] [] μ (.inl (some (.int r))) μ := by
  unfold pm_entryOf at h
  refine R_const (pc := 0) (pc' := 1) (v := 0) (show z_ptc 241 0 = some (1, 0) by decide +kernel) ?_
  refine R_pure (pc := 1) (pc' := 2) (ls' := [(0, .ref 241), (1, .int i1), (2, .int i2), (3, .int 0)]) (st' := []) (show z_pt 241 1 = some (4, .istore_n 3, []) by decide +kernel) rfl (fun _ _ _ => rfl) ?_
  refine pm_entryOf_L2_run  _ _ _ _  _ (by omega) ?_ _ _ _ h
  intro k5 r h
  refine R_const (pc := 39) (pc' := 40) (v := (-1)) (show z_ptc 241 39 = some (40, (-1)) by decide +kernel) ?_
  cases h
  exact R_retI (show z_pt 241 40 = some (4, .ireturn, []) by decide +kernel) (by decide +kernel)
def pm_notes_L88_B (R : z_Mem → Int32 → Option (Int32 × z_Mem))  (f1 : Int32) (f2 : Int32) (f3 : Int32) (f4 : Int32) (K : z_Mem → Int32 → Option (Int32 × z_Mem)) (μ : z_Mem) (a5 : Int32) : Option (Int32 × z_Mem) := if 10 ≤ a5 then K μ a5 else (z_rd μ 242 331 (17 + a5)).bind fun v11 => if z_inb ((271 + (10 * f4)) + a5) 331 = true then R (z_u μ 242 ((271 + (10 * f4)) + a5).toNatClampNeg v11) (a5 + 1) else none
def pm_notes_L88 : Nat → Int32 → Int32 → Int32 → Int32 → (z_Mem → Int32 → Option (Int32 × z_Mem)) → z_Mem → Int32 → Option (Int32 × z_Mem)
  | 0 => fun _ _ _ _ _ _ _ => none
  | n + 1 => fun f1 f2 f3 f4 K μ a5 => pm_notes_L88_B (pm_notes_L88 n f1 f2 f3 f4 K) f1 f2 f3 f4 K μ a5
theorem pm_notes_L88_run  (f1 : Int32) (f2 : Int32) (f3 : Int32) (f4 : Int32) (K : z_Mem → Int32 → Option (Int32 × z_Mem))  (D : Nat) (hD : 2 ≤ D) (hK : ∀ (μ : z_Mem) (a5 : Int32) (r : (Int32 × z_Mem)), K μ a5 = some r → Rn D 242 128 [(0, .ref 241), (1, .int f1), (2, .int f2), (3, .int f3), (4, .int f4), (5, .int a5)] [] μ (.inl (some (.int r.1))) r.2) : ∀ (n : Nat) (μ : z_Mem) (a5 : Int32) (r : (Int32 × z_Mem)), pm_notes_L88 n f1 f2 f3 f4 K μ a5 = some r → Rn D 242 88 [(0, .ref 241), (1, .int f1), (2, .int f2), (3, .int f3), (4, .int f4), (5, .int a5)] [] μ (.inl (some (.int r.1))) r.2 := by
  intro n
  induction n with
  | zero => intro μ a5 r h; cases h
  | succ n ih =>
    intro μ a5 r h
    have h : pm_notes_L88_B (pm_notes_L88 n f1 f2 f3 f4 K) f1 f2 f3 f4 K μ a5 = some r := h
    unfold pm_notes_L88_B at h
    refine R_pure (pc := 88) (pc' := 90) (st' := [.int a5]) (show z_pt 242 88 = some (6, .iload 5, []) by decide +kernel) rfl (fun _ _ _ => rfl) ?_
    refine R_const (pc := 90) (pc' := 92) (v := 10) (show z_ptc 242 90 = some (92, 10) by decide +kernel) ?_
    refine R_icmge (pc := 92) (t := 128) (show z_pt 242 92 = some (6, .if_icmp .ge 36, []) by decide +kernel) (by decide) (fun c10 => ?_) (fun c10 => ?_)
    · rw [if_pos c10] at h
      exact hK _ _  _ h
    · rw [if_neg c10] at h
      refine R_pure (pc := 95) (pc' := 96) (st' := [.ref 241]) (show z_pt 242 95 = some (6, .aload_n 0, []) by decide +kernel) rfl (fun _ _ _ => rfl) ?_
      refine R_getR (pc := 96) (a := 241) (b := 242) (show z_pt 242 96 = some (6, .getfield 7, [10, 0, 6118]) by decide +kernel) (by decide +kernel) ?_
      refine R_at (pc := 99) ?_
      refine R_const (pc := 99) (pc' := 102) (v := 271) (show z_ptc 242 99 = some (102, 271) by decide +kernel) ?_
      refine R_const (pc := 102) (pc' := 104) (v := 10) (show z_ptc 242 102 = some (104, 10) by decide +kernel) ?_
      refine R_pure (pc := 104) (pc' := 106) (st' := [.int f4, .int 10, .int 271, .ref 242]) (show z_pt 242 104 = some (6, .iload 4, []) by decide +kernel) rfl (fun _ _ _ => rfl) ?_
      refine R_pure (pc := 106) (pc' := 107) (st' := [.int (10 * f4), .int 271, .ref 242]) (show z_pt 242 106 = some (6, .imul, []) by decide +kernel) rfl (fun _ _ _ => rfl) ?_
      refine R_pure (pc := 107) (pc' := 108) (st' := [.int (271 + (10 * f4)), .ref 242]) (show z_pt 242 107 = some (6, .iadd, []) by decide +kernel) rfl (fun _ _ _ => rfl) ?_
      refine R_pure (pc := 108) (pc' := 110) (st' := [.int a5, .int (271 + (10 * f4)), .ref 242]) (show z_pt 242 108 = some (6, .iload 5, []) by decide +kernel) rfl (fun _ _ _ => rfl) ?_
      refine R_pure (pc := 110) (pc' := 111) (st' := [.int ((271 + (10 * f4)) + a5), .ref 242]) (show z_pt 242 110 = some (6, .iadd, []) by decide +kernel) rfl (fun _ _ _ => rfl) ?_
      refine R_pure (pc := 111) (pc' := 112) (st' := [.ref 241, .int ((271 + (10 * f4)) + a5), .ref 242]) (show z_pt 242 111 = some (6, .aload_n 0, []) by decide +kernel) rfl (fun _ _ _ => rfl) ?_
      refine R_getR (pc := 112) (a := 241) (b := 242) (show z_pt 242 112 = some (6, .getfield 7, [10, 0, 6118]) by decide +kernel) (by decide +kernel) ?_
      refine R_at (pc := 115) ?_
      refine R_const (pc := 115) (pc' := 117) (v := 17) (show z_ptc 242 115 = some (117, 17) by decide +kernel) ?_
      refine R_pure (pc := 117) (pc' := 119) (st' := [.int a5, .int 17, .ref 242, .int ((271 + (10 * f4)) + a5), .ref 242]) (show z_pt 242 117 = some (6, .iload 5, []) by decide +kernel) rfl (fun _ _ _ => rfl) ?_
      refine R_pure (pc := 119) (pc' := 120) (st' := [.int (17 + a5), .ref 242, .int ((271 + (10 * f4)) + a5), .ref 242]) (show z_pt 242 119 = some (6, .iadd, []) by decide +kernel) rfl (fun _ _ _ => rfl) ?_
      obtain ⟨v11, e12, h⟩ := z_bs h
      refine R_ialdR (pc := 120) (a := 242) (n := 331) (show z_pt 242 120 = some (6, .iaload, []) by decide +kernel) (show z_ar 242 0 331 = true by decide +kernel) e12 ?_
      refine R_at (pc := 121) ?_
      obtain ⟨g13, h⟩ := z_ig h
      refine R_iast (pc := 121) (a := 242) (n := 331) (show z_pt 242 121 = some (6, .iastore, []) by decide +kernel) (show z_ar 242 0 331 = true by decide +kernel) g13 ?_
      refine R_at (pc := 122) ?_
      refine R_inc (pc := 122) (pc' := 125) (ls' := [(0, .ref 241), (1, .int f1), (2, .int f2), (3, .int f3), (4, .int f4), (5, .int (a5 + 1))]) (c := 1) (show z_pt 242 122 = some (6, .iinc 5 1, []) by decide +kernel) (by decide) rfl rfl ?_
      refine R_pure (pc := 125) (pc' := 88) (ls' := [(0, .ref 241), (1, .int f1), (2, .int f2), (3, .int f3), (4, .int f4), (5, .int (a5 + 1))]) (st' := []) (show z_pt 242 125 = some (6, .goto (-37), [6]) by decide +kernel) rfl (fun _ _ _ => rfl) ?_
      exact ih _ _ _  h
def pm_notes  (μ : z_Mem) (i1 : Int32) (i2 : Int32) : Option (Int32 × z_Mem) := (pm_isKey μ i1 i2).bind fun q1 => if q1 = 0 then (pm_fails μ 1).bind fun q35 => some (q35.1, q35.2) else (pm_entryOf μ i1 i2).bind fun q4 => if q4 = (-1) then if (μ 242 4) = 6 then (pm_fails μ 2).bind fun q33 => some (q33.1, q33.2) else if z_inb (259 + (μ 242 4)) 331 = true then if z_inb (265 + (μ 242 4)) 331 = true then pm_notes_L88 z_fu i1 i2 q4 (μ 242 4) (fun M27 k26 => if q4 = (-1) then (pm_done (z_u M27 242 4 ((M27 242 4) + 1)) ((z_u M27 242 4 ((M27 242 4) + 1)) 242 4)).bind fun q31 => some (q31.1, q31.2) else (pm_done (z_u M27 242 4 ((M27 242 4) + 0)) ((z_u M27 242 4 ((M27 242 4) + 0)) 242 4)).bind fun q29 => some (q29.1, q29.2)) (z_u (z_u μ 242 (259 + (μ 242 4)).toNatClampNeg ((10 * i1) + i2)) 242 (265 + (μ 242 4)).toNatClampNeg ((z_u μ 242 (259 + (μ 242 4)).toNatClampNeg ((10 * i1) + i2)) 242 0)) 0 else none else none else if q4 = 6 then (pm_fails μ 2).bind fun q21 => some (q21.1, q21.2) else if z_inb (259 + q4) 331 = true then if z_inb (265 + q4) 331 = true then pm_notes_L88 z_fu i1 i2 q4 q4 (fun M15 k14 => if q4 = (-1) then (pm_done (z_u M15 242 4 ((M15 242 4) + 1)) ((z_u M15 242 4 ((M15 242 4) + 1)) 242 4)).bind fun q19 => some (q19.1, q19.2) else (pm_done (z_u M15 242 4 ((M15 242 4) + 0)) ((z_u M15 242 4 ((M15 242 4) + 0)) 242 4)).bind fun q17 => some (q17.1, q17.2)) (z_u (z_u μ 242 (259 + q4).toNatClampNeg ((10 * i1) + i2)) 242 (265 + q4).toNatClampNeg ((z_u μ 242 (259 + q4).toNatClampNeg ((10 * i1) + i2)) 242 0)) 0 else none else none
theorem pm_notes_run  {μ : z_Mem} {i1 : Int32} {i2 : Int32}  {r : (Int32 × z_Mem)} (h : pm_notes μ i1 i2 = some r) : Rn 2 242 0 [(0, .ref 241), (1, .int i1), (2, .int i2)] [] μ (.inl (some (.int r.1))) r.2 := by
  unfold pm_notes at h
  refine R_pure (pc := 0) (pc' := 1) (st' := [.int i1]) (show z_pt 242 0 = some (6, .iload_n 1, []) by decide +kernel) rfl (fun _ _ _ => rfl) ?_
  refine R_pure (pc := 1) (pc' := 2) (st' := [.int i2, .int i1]) (show z_pt 242 1 = some (6, .iload_n 2, []) by decide +kernel) rfl (fun _ _ _ => rfl) ?_
  obtain ⟨q1, e2, h⟩ := z_bs h
  refine R_call (pc := 2) (rr := []) (show z_pt 242 2 = some (6, .invokestatic 198, [1, 240, 2, 8021, 8022, 0, 1012, 8023]) by decide +kernel) rfl (show z_r2 240 = some (10, 2, true) by decide +kernel) rfl rfl (Or.inl (by decide)) (pm_isKey_run  e2) (by omega) ?_
  refine R_at2 (pc := 5) (st := [.int q1]) ?_
  refine R_ifne (pc := 5) (t := 14) (show z_pt 242 5 = some (6, .ifCond .ne 9, []) by decide +kernel) (by decide) (fun c3 => ?_) (fun c3 => ?_)
  · rw [if_neg c3] at h
    refine R_pure (pc := 14) (pc' := 15) (st' := [.ref 241]) (show z_pt 242 14 = some (6, .aload_n 0, []) by decide +kernel) rfl (fun _ _ _ => rfl) ?_
    refine R_pure (pc := 15) (pc' := 16) (st' := [.int i1, .ref 241]) (show z_pt 242 15 = some (6, .iload_n 1, []) by decide +kernel) rfl (fun _ _ _ => rfl) ?_
    refine R_pure (pc := 16) (pc' := 17) (st' := [.int i2, .int i1, .ref 241]) (show z_pt 242 16 = some (6, .iload_n 2, []) by decide +kernel) rfl (fun _ _ _ => rfl) ?_
    obtain ⟨q4, e5, h⟩ := z_bs h
    refine R_call (pc := 17) (rr := []) (show z_pt 242 17 = some (6, .invokevirtual 201, [0, 241, 2, 8024, 8026, 69, 1012, 8027]) by decide +kernel) rfl (show z_r2 241 = some (10, 4, true) by decide +kernel) rfl rfl (Or.inr ⟨_, _, rfl, (by decide +kernel)⟩) (pm_entryOf_run  e5) (by omega) ?_
    refine R_at2 (pc := 20) (st := [.int q4]) ?_
    refine R_pure (pc := 20) (pc' := 21) (ls' := [(0, .ref 241), (1, .int i1), (2, .int i2), (3, .int q4)]) (st' := []) (show z_pt 242 20 = some (6, .istore_n 3, []) by decide +kernel) rfl (fun _ _ _ => rfl) ?_
    refine R_pure (pc := 21) (pc' := 22) (st' := [.int q4]) (show z_pt 242 21 = some (6, .iload_n 3, []) by decide +kernel) rfl (fun _ _ _ => rfl) ?_
    refine R_const (pc := 22) (pc' := 23) (v := (-1)) (show z_ptc 242 22 = some (23, (-1)) by decide +kernel) ?_
    refine R_icmne (pc := 23) (t := 35) (show z_pt 242 23 = some (6, .if_icmp .ne 12, []) by decide +kernel) (by decide) (fun c6 => ?_) (fun c6 => ?_)
    · rw [if_neg c6] at h
      refine R_pure (pc := 35) (pc' := 36) (st' := [.int q4]) (show z_pt 242 35 = some (6, .iload_n 3, []) by decide +kernel) rfl (fun _ _ _ => rfl) ?_
      refine R_pure (pc := 36) (pc' := 38) (ls' := [(0, .ref 241), (1, .int i1), (2, .int i2), (3, .int q4), (4, .int q4)]) (st' := []) (show z_pt 242 36 = some (6, .istore 4, []) by decide +kernel) rfl (fun _ _ _ => rfl) ?_
      refine R_pure (pc := 38) (pc' := 40) (st' := [.int q4]) (show z_pt 242 38 = some (6, .iload 4, []) by decide +kernel) rfl (fun _ _ _ => rfl) ?_
      refine R_const (pc := 40) (pc' := 42) (v := 6) (show z_ptc 242 40 = some (42, 6) by decide +kernel) ?_
      refine R_icmne (pc := 42) (t := 51) (show z_pt 242 42 = some (6, .if_icmp .ne 9, []) by decide +kernel) (by decide) (fun c7 => ?_) (fun c7 => ?_)
      · rw [if_neg c7] at h
        refine R_pure (pc := 51) (pc' := 52) (st' := [.ref 241]) (show z_pt 242 51 = some (6, .aload_n 0, []) by decide +kernel) rfl (fun _ _ _ => rfl) ?_
        refine R_getR (pc := 52) (a := 241) (b := 242) (show z_pt 242 52 = some (6, .getfield 7, [10, 0, 6118]) by decide +kernel) (by decide +kernel) ?_
        refine R_at (pc := 55) ?_
        refine R_const (pc := 55) (pc' := 58) (v := 259) (show z_ptc 242 55 = some (58, 259) by decide +kernel) ?_
        refine R_pure (pc := 58) (pc' := 60) (st' := [.int q4, .int 259, .ref 242]) (show z_pt 242 58 = some (6, .iload 4, []) by decide +kernel) rfl (fun _ _ _ => rfl) ?_
        refine R_pure (pc := 60) (pc' := 61) (st' := [.int (259 + q4), .ref 242]) (show z_pt 242 60 = some (6, .iadd, []) by decide +kernel) rfl (fun _ _ _ => rfl) ?_
        refine R_const (pc := 61) (pc' := 63) (v := 10) (show z_ptc 242 61 = some (63, 10) by decide +kernel) ?_
        refine R_pure (pc := 63) (pc' := 64) (st' := [.int i1, .int 10, .int (259 + q4), .ref 242]) (show z_pt 242 63 = some (6, .iload_n 1, []) by decide +kernel) rfl (fun _ _ _ => rfl) ?_
        refine R_pure (pc := 64) (pc' := 65) (st' := [.int (10 * i1), .int (259 + q4), .ref 242]) (show z_pt 242 64 = some (6, .imul, []) by decide +kernel) rfl (fun _ _ _ => rfl) ?_
        refine R_pure (pc := 65) (pc' := 66) (st' := [.int i2, .int (10 * i1), .int (259 + q4), .ref 242]) (show z_pt 242 65 = some (6, .iload_n 2, []) by decide +kernel) rfl (fun _ _ _ => rfl) ?_
        refine R_pure (pc := 66) (pc' := 67) (st' := [.int ((10 * i1) + i2), .int (259 + q4), .ref 242]) (show z_pt 242 66 = some (6, .iadd, []) by decide +kernel) rfl (fun _ _ _ => rfl) ?_
        obtain ⟨g8, h⟩ := z_ig h
        refine R_iast (pc := 67) (a := 242) (n := 331) (show z_pt 242 67 = some (6, .iastore, []) by decide +kernel) (show z_ar 242 0 331 = true by decide +kernel) g8 ?_
        refine R_at (pc := 68) ?_
        refine R_pure (pc := 68) (pc' := 69) (st' := [.ref 241]) (show z_pt 242 68 = some (6, .aload_n 0, []) by decide +kernel) rfl (fun _ _ _ => rfl) ?_
        refine R_getR (pc := 69) (a := 241) (b := 242) (show z_pt 242 69 = some (6, .getfield 7, [10, 0, 6118]) by decide +kernel) (by decide +kernel) ?_
        refine R_at (pc := 72) ?_
        refine R_const (pc := 72) (pc' := 75) (v := 265) (show z_ptc 242 72 = some (75, 265) by decide +kernel) ?_
        refine R_pure (pc := 75) (pc' := 77) (st' := [.int q4, .int 265, .ref 242]) (show z_pt 242 75 = some (6, .iload 4, []) by decide +kernel) rfl (fun _ _ _ => rfl) ?_
        refine R_pure (pc := 77) (pc' := 78) (st' := [.int (265 + q4), .ref 242]) (show z_pt 242 77 = some (6, .iadd, []) by decide +kernel) rfl (fun _ _ _ => rfl) ?_
        refine R_pure (pc := 78) (pc' := 79) (st' := [.ref 241, .int (265 + q4), .ref 242]) (show z_pt 242 78 = some (6, .aload_n 0, []) by decide +kernel) rfl (fun _ _ _ => rfl) ?_
        refine R_getR (pc := 79) (a := 241) (b := 242) (show z_pt 242 79 = some (6, .getfield 7, [10, 0, 6118]) by decide +kernel) (by decide +kernel) ?_
        refine R_at (pc := 82) ?_
        refine R_const (pc := 82) (pc' := 83) (v := 0) (show z_ptc 242 82 = some (83, 0) by decide +kernel) ?_
        refine R_ialdK (pc := 83) (a := 242) (n := 331) (jn := 0) (show z_pt 242 83 = some (6, .iaload, []) by decide +kernel) (show z_ar 242 0 331 = true by decide +kernel) (by decide) (by decide) ?_
        refine R_at (pc := 84) ?_
        obtain ⟨g9, h⟩ := z_ig h
        refine R_iast (pc := 84) (a := 242) (n := 331) (show z_pt 242 84 = some (6, .iastore, []) by decide +kernel) (show z_ar 242 0 331 = true by decide +kernel) g9 ?_
        refine R_at (pc := 85) ?_
        refine R_const (pc := 85) (pc' := 86) (v := 0) (show z_ptc 242 85 = some (86, 0) by decide +kernel) ?_
        refine R_pure (pc := 86) (pc' := 88) (ls' := [(0, .ref 241), (1, .int i1), (2, .int i2), (3, .int q4), (4, .int q4), (5, .int 0)]) (st' := []) (show z_pt 242 86 = some (6, .istore 5, []) by decide +kernel) rfl (fun _ _ _ => rfl) ?_
        refine pm_notes_L88_run  _ _ _ _ _  _ (by omega) ?_ _ _ _ _ h
        intro M15 k14 r h
        refine R_pure (pc := 128) (pc' := 129) (st' := [.ref 241]) (show z_pt 242 128 = some (6, .aload_n 0, []) by decide +kernel) rfl (fun _ _ _ => rfl) ?_
        refine R_getR (pc := 129) (a := 241) (b := 242) (show z_pt 242 129 = some (6, .getfield 7, [10, 0, 6118]) by decide +kernel) (by decide +kernel) ?_
        refine R_at (pc := 132) ?_
        refine R_const (pc := 132) (pc' := 133) (v := 4) (show z_ptc 242 132 = some (133, 4) by decide +kernel) ?_
        refine R_pure (pc := 133) (pc' := 134) (st' := [.int 4, .ref 242, .int 4, .ref 242]) (show z_pt 242 133 = some (6, .dup2, []) by decide +kernel) rfl (fun _ _ _ => rfl) ?_
        refine R_ialdK (pc := 134) (a := 242) (n := 331) (jn := 4) (show z_pt 242 134 = some (6, .iaload, []) by decide +kernel) (show z_ar 242 0 331 = true by decide +kernel) (by decide) (by decide) ?_
        refine R_at (pc := 135) ?_
        refine R_pure (pc := 135) (pc' := 136) (st' := [.int q4, .int (M15 242 4), .int 4, .ref 242]) (show z_pt 242 135 = some (6, .iload_n 3, []) by decide +kernel) rfl (fun _ _ _ => rfl) ?_
        refine R_const (pc := 136) (pc' := 137) (v := (-1)) (show z_ptc 242 136 = some (137, (-1)) by decide +kernel) ?_
        refine R_icmne (pc := 137) (t := 144) (show z_pt 242 137 = some (6, .if_icmp .ne 7, []) by decide +kernel) (by decide) (fun c16 => ?_) (fun c16 => ?_)
        · rw [if_neg c16] at h
          refine R_const (pc := 144) (pc' := 145) (v := 0) (show z_ptc 242 144 = some (145, 0) by decide +kernel) ?_
          refine R_pure (pc := 145) (pc' := 146) (st' := [.int ((M15 242 4) + 0), .int 4, .ref 242]) (show z_pt 242 145 = some (6, .iadd, []) by decide +kernel) rfl (fun _ _ _ => rfl) ?_
          refine R_iastK (pc := 146) (a := 242) (n := 331) (jn := 4) (show z_pt 242 146 = some (6, .iastore, []) by decide +kernel) (show z_ar 242 0 331 = true by decide +kernel) (by decide) (by decide) ?_
          refine R_at (pc := 147) ?_
          refine R_pure (pc := 147) (pc' := 148) (st' := [.ref 241]) (show z_pt 242 147 = some (6, .aload_n 0, []) by decide +kernel) rfl (fun _ _ _ => rfl) ?_
          refine R_pure (pc := 148) (pc' := 149) (st' := [.ref 241, .ref 241]) (show z_pt 242 148 = some (6, .aload_n 0, []) by decide +kernel) rfl (fun _ _ _ => rfl) ?_
          refine R_getR (pc := 149) (a := 241) (b := 242) (show z_pt 242 149 = some (6, .getfield 7, [10, 0, 6118]) by decide +kernel) (by decide +kernel) ?_
          refine R_at (pc := 152) ?_
          refine R_const (pc := 152) (pc' := 153) (v := 4) (show z_ptc 242 152 = some (153, 4) by decide +kernel) ?_
          refine R_ialdK (pc := 153) (a := 242) (n := 331) (jn := 4) (show z_pt 242 153 = some (6, .iaload, []) by decide +kernel) (show z_ar 242 0 331 = true by decide +kernel) (by decide) (by decide) ?_
          refine R_at (pc := 154) ?_
          obtain ⟨q17, e18, h⟩ := z_bs h
          refine R_call (pc := 154) (rr := []) (show z_pt 242 154 = some (6, .invokevirtual 79, [0, 164, 1, 6199, 6201, 37, 1012, 6202]) by decide +kernel) rfl (show z_r2 164 = some (10, 2, true) by decide +kernel) rfl rfl (Or.inr ⟨_, _, rfl, (by decide +kernel)⟩) (pm_done_run  e18) (by omega) ?_
          refine R_at2 (pc := 157) (st := [.int q17.1]) ?_
          cases h
          exact R_retI (show z_pt 242 157 = some (6, .ireturn, []) by decide +kernel) (by decide +kernel)
        · rw [if_pos c16] at h
          refine R_const (pc := 140) (pc' := 141) (v := 1) (show z_ptc 242 140 = some (141, 1) by decide +kernel) ?_
          refine R_pure (pc := 141) (pc' := 145) (show z_pt 242 141 = some (6, .goto 4, []) by decide +kernel) rfl (fun _ _ _ => rfl) ?_
          refine R_pure (pc := 145) (pc' := 146) (st' := [.int ((M15 242 4) + 1), .int 4, .ref 242]) (show z_pt 242 145 = some (6, .iadd, []) by decide +kernel) rfl (fun _ _ _ => rfl) ?_
          refine R_iastK (pc := 146) (a := 242) (n := 331) (jn := 4) (show z_pt 242 146 = some (6, .iastore, []) by decide +kernel) (show z_ar 242 0 331 = true by decide +kernel) (by decide) (by decide) ?_
          refine R_at (pc := 147) ?_
          refine R_pure (pc := 147) (pc' := 148) (st' := [.ref 241]) (show z_pt 242 147 = some (6, .aload_n 0, []) by decide +kernel) rfl (fun _ _ _ => rfl) ?_
          refine R_pure (pc := 148) (pc' := 149) (st' := [.ref 241, .ref 241]) (show z_pt 242 148 = some (6, .aload_n 0, []) by decide +kernel) rfl (fun _ _ _ => rfl) ?_
          refine R_getR (pc := 149) (a := 241) (b := 242) (show z_pt 242 149 = some (6, .getfield 7, [10, 0, 6118]) by decide +kernel) (by decide +kernel) ?_
          refine R_at (pc := 152) ?_
          refine R_const (pc := 152) (pc' := 153) (v := 4) (show z_ptc 242 152 = some (153, 4) by decide +kernel) ?_
          refine R_ialdK (pc := 153) (a := 242) (n := 331) (jn := 4) (show z_pt 242 153 = some (6, .iaload, []) by decide +kernel) (show z_ar 242 0 331 = true by decide +kernel) (by decide) (by decide) ?_
          refine R_at (pc := 154) ?_
          obtain ⟨q19, e20, h⟩ := z_bs h
          refine R_call (pc := 154) (rr := []) (show z_pt 242 154 = some (6, .invokevirtual 79, [0, 164, 1, 6199, 6201, 37, 1012, 6202]) by decide +kernel) rfl (show z_r2 164 = some (10, 2, true) by decide +kernel) rfl rfl (Or.inr ⟨_, _, rfl, (by decide +kernel)⟩) (pm_done_run  e20) (by omega) ?_
          refine R_at2 (pc := 157) (st := [.int q19.1]) ?_
          cases h
          exact R_retI (show z_pt 242 157 = some (6, .ireturn, []) by decide +kernel) (by decide +kernel)
      · rw [if_pos c7] at h
        refine R_pure (pc := 45) (pc' := 46) (st' := [.ref 241]) (show z_pt 242 45 = some (6, .aload_n 0, []) by decide +kernel) rfl (fun _ _ _ => rfl) ?_
        refine R_const (pc := 46) (pc' := 47) (v := 2) (show z_ptc 242 46 = some (47, 2) by decide +kernel) ?_
        obtain ⟨q21, e22, h⟩ := z_bs h
        refine R_call (pc := 47) (rr := []) (show z_pt 242 47 = some (6, .invokevirtual 75, [0, 165, 1, 6195, 6197, 36, 1012, 6198]) by decide +kernel) rfl (show z_r2 165 = some (10, 2, true) by decide +kernel) rfl rfl (Or.inr ⟨_, _, rfl, (by decide +kernel)⟩) (pm_fails_run  e22) (by omega) ?_
        refine R_at2 (pc := 50) (st := [.int q21.1]) ?_
        cases h
        exact R_retI (show z_pt 242 50 = some (6, .ireturn, []) by decide +kernel) (by decide +kernel)
    · rw [if_pos c6] at h
      refine R_pure (pc := 26) (pc' := 27) (st' := [.ref 241]) (show z_pt 242 26 = some (6, .aload_n 0, []) by decide +kernel) rfl (fun _ _ _ => rfl) ?_
      refine R_getR (pc := 27) (a := 241) (b := 242) (show z_pt 242 27 = some (6, .getfield 7, [10, 0, 6118]) by decide +kernel) (by decide +kernel) ?_
      refine R_at (pc := 30) ?_
      refine R_const (pc := 30) (pc' := 31) (v := 4) (show z_ptc 242 30 = some (31, 4) by decide +kernel) ?_
      refine R_ialdK (pc := 31) (a := 242) (n := 331) (jn := 4) (show z_pt 242 31 = some (6, .iaload, []) by decide +kernel) (show z_ar 242 0 331 = true by decide +kernel) (by decide) (by decide) ?_
      refine R_at (pc := 32) ?_
      refine R_pure (pc := 32) (pc' := 36) (show z_pt 242 32 = some (6, .goto 4, []) by decide +kernel) rfl (fun _ _ _ => rfl) ?_
      refine R_pure (pc := 36) (pc' := 38) (ls' := [(0, .ref 241), (1, .int i1), (2, .int i2), (3, .int q4), (4, .int (μ 242 4))]) (st' := []) (show z_pt 242 36 = some (6, .istore 4, []) by decide +kernel) rfl (fun _ _ _ => rfl) ?_
      refine R_pure (pc := 38) (pc' := 40) (st' := [.int (μ 242 4)]) (show z_pt 242 38 = some (6, .iload 4, []) by decide +kernel) rfl (fun _ _ _ => rfl) ?_
      refine R_const (pc := 40) (pc' := 42) (v := 6) (show z_ptc 242 40 = some (42, 6) by decide +kernel) ?_
      refine R_icmne (pc := 42) (t := 51) (show z_pt 242 42 = some (6, .if_icmp .ne 9, []) by decide +kernel) (by decide) (fun c23 => ?_) (fun c23 => ?_)
      · rw [if_neg c23] at h
        refine R_pure (pc := 51) (pc' := 52) (st' := [.ref 241]) (show z_pt 242 51 = some (6, .aload_n 0, []) by decide +kernel) rfl (fun _ _ _ => rfl) ?_
        refine R_getR (pc := 52) (a := 241) (b := 242) (show z_pt 242 52 = some (6, .getfield 7, [10, 0, 6118]) by decide +kernel) (by decide +kernel) ?_
        refine R_at (pc := 55) ?_
        refine R_const (pc := 55) (pc' := 58) (v := 259) (show z_ptc 242 55 = some (58, 259) by decide +kernel) ?_
        refine R_pure (pc := 58) (pc' := 60) (st' := [.int (μ 242 4), .int 259, .ref 242]) (show z_pt 242 58 = some (6, .iload 4, []) by decide +kernel) rfl (fun _ _ _ => rfl) ?_
        refine R_pure (pc := 60) (pc' := 61) (st' := [.int (259 + (μ 242 4)), .ref 242]) (show z_pt 242 60 = some (6, .iadd, []) by decide +kernel) rfl (fun _ _ _ => rfl) ?_
        refine R_const (pc := 61) (pc' := 63) (v := 10) (show z_ptc 242 61 = some (63, 10) by decide +kernel) ?_
        refine R_pure (pc := 63) (pc' := 64) (st' := [.int i1, .int 10, .int (259 + (μ 242 4)), .ref 242]) (show z_pt 242 63 = some (6, .iload_n 1, []) by decide +kernel) rfl (fun _ _ _ => rfl) ?_
        refine R_pure (pc := 64) (pc' := 65) (st' := [.int (10 * i1), .int (259 + (μ 242 4)), .ref 242]) (show z_pt 242 64 = some (6, .imul, []) by decide +kernel) rfl (fun _ _ _ => rfl) ?_
        refine R_pure (pc := 65) (pc' := 66) (st' := [.int i2, .int (10 * i1), .int (259 + (μ 242 4)), .ref 242]) (show z_pt 242 65 = some (6, .iload_n 2, []) by decide +kernel) rfl (fun _ _ _ => rfl) ?_
        refine R_pure (pc := 66) (pc' := 67) (st' := [.int ((10 * i1) + i2), .int (259 + (μ 242 4)), .ref 242]) (show z_pt 242 66 = some (6, .iadd, []) by decide +kernel) rfl (fun _ _ _ => rfl) ?_
        obtain ⟨g24, h⟩ := z_ig h
        refine R_iast (pc := 67) (a := 242) (n := 331) (show z_pt 242 67 = some (6, .iastore, []) by decide +kernel) (show z_ar 242 0 331 = true by decide +kernel) g24 ?_
        refine R_at (pc := 68) ?_
        refine R_pure (pc := 68) (pc' := 69) (st' := [.ref 241]) (show z_pt 242 68 = some (6, .aload_n 0, []) by decide +kernel) rfl (fun _ _ _ => rfl) ?_
        refine R_getR (pc := 69) (a := 241) (b := 242) (show z_pt 242 69 = some (6, .getfield 7, [10, 0, 6118]) by decide +kernel) (by decide +kernel) ?_
        refine R_at (pc := 72) ?_
        refine R_const (pc := 72) (pc' := 75) (v := 265) (show z_ptc 242 72 = some (75, 265) by decide +kernel) ?_
        refine R_pure (pc := 75) (pc' := 77) (st' := [.int (μ 242 4), .int 265, .ref 242]) (show z_pt 242 75 = some (6, .iload 4, []) by decide +kernel) rfl (fun _ _ _ => rfl) ?_
        refine R_pure (pc := 77) (pc' := 78) (st' := [.int (265 + (μ 242 4)), .ref 242]) (show z_pt 242 77 = some (6, .iadd, []) by decide +kernel) rfl (fun _ _ _ => rfl) ?_
        refine R_pure (pc := 78) (pc' := 79) (st' := [.ref 241, .int (265 + (μ 242 4)), .ref 242]) (show z_pt 242 78 = some (6, .aload_n 0, []) by decide +kernel) rfl (fun _ _ _ => rfl) ?_
        refine R_getR (pc := 79) (a := 241) (b := 242) (show z_pt 242 79 = some (6, .getfield 7, [10, 0, 6118]) by decide +kernel) (by decide +kernel) ?_
        refine R_at (pc := 82) ?_
        refine R_const (pc := 82) (pc' := 83) (v := 0) (show z_ptc 242 82 = some (83, 0) by decide +kernel) ?_
        refine R_ialdK (pc := 83) (a := 242) (n := 331) (jn := 0) (show z_pt 242 83 = some (6, .iaload, []) by decide +kernel) (show z_ar 242 0 331 = true by decide +kernel) (by decide) (by decide) ?_
        refine R_at (pc := 84) ?_
        obtain ⟨g25, h⟩ := z_ig h
        refine R_iast (pc := 84) (a := 242) (n := 331) (show z_pt 242 84 = some (6, .iastore, []) by decide +kernel) (show z_ar 242 0 331 = true by decide +kernel) g25 ?_
        refine R_at (pc := 85) ?_
        refine R_const (pc := 85) (pc' := 86) (v := 0) (show z_ptc 242 85 = some (86, 0) by decide +kernel) ?_
        refine R_pure (pc := 86) (pc' := 88) (ls' := [(0, .ref 241), (1, .int i1), (2, .int i2), (3, .int q4), (4, .int (μ 242 4)), (5, .int 0)]) (st' := []) (show z_pt 242 86 = some (6, .istore 5, []) by decide +kernel) rfl (fun _ _ _ => rfl) ?_
        refine pm_notes_L88_run  _ _ _ _ _  _ (by omega) ?_ _ _ _ _ h
        intro M27 k26 r h
        refine R_pure (pc := 128) (pc' := 129) (st' := [.ref 241]) (show z_pt 242 128 = some (6, .aload_n 0, []) by decide +kernel) rfl (fun _ _ _ => rfl) ?_
        refine R_getR (pc := 129) (a := 241) (b := 242) (show z_pt 242 129 = some (6, .getfield 7, [10, 0, 6118]) by decide +kernel) (by decide +kernel) ?_
        refine R_at (pc := 132) ?_
        refine R_const (pc := 132) (pc' := 133) (v := 4) (show z_ptc 242 132 = some (133, 4) by decide +kernel) ?_
        refine R_pure (pc := 133) (pc' := 134) (st' := [.int 4, .ref 242, .int 4, .ref 242]) (show z_pt 242 133 = some (6, .dup2, []) by decide +kernel) rfl (fun _ _ _ => rfl) ?_
        refine R_ialdK (pc := 134) (a := 242) (n := 331) (jn := 4) (show z_pt 242 134 = some (6, .iaload, []) by decide +kernel) (show z_ar 242 0 331 = true by decide +kernel) (by decide) (by decide) ?_
        refine R_at (pc := 135) ?_
        refine R_pure (pc := 135) (pc' := 136) (st' := [.int q4, .int (M27 242 4), .int 4, .ref 242]) (show z_pt 242 135 = some (6, .iload_n 3, []) by decide +kernel) rfl (fun _ _ _ => rfl) ?_
        refine R_const (pc := 136) (pc' := 137) (v := (-1)) (show z_ptc 242 136 = some (137, (-1)) by decide +kernel) ?_
        refine R_icmne (pc := 137) (t := 144) (show z_pt 242 137 = some (6, .if_icmp .ne 7, []) by decide +kernel) (by decide) (fun c28 => ?_) (fun c28 => ?_)
        · rw [if_neg c28] at h
          refine R_const (pc := 144) (pc' := 145) (v := 0) (show z_ptc 242 144 = some (145, 0) by decide +kernel) ?_
          refine R_pure (pc := 145) (pc' := 146) (st' := [.int ((M27 242 4) + 0), .int 4, .ref 242]) (show z_pt 242 145 = some (6, .iadd, []) by decide +kernel) rfl (fun _ _ _ => rfl) ?_
          refine R_iastK (pc := 146) (a := 242) (n := 331) (jn := 4) (show z_pt 242 146 = some (6, .iastore, []) by decide +kernel) (show z_ar 242 0 331 = true by decide +kernel) (by decide) (by decide) ?_
          refine R_at (pc := 147) ?_
          refine R_pure (pc := 147) (pc' := 148) (st' := [.ref 241]) (show z_pt 242 147 = some (6, .aload_n 0, []) by decide +kernel) rfl (fun _ _ _ => rfl) ?_
          refine R_pure (pc := 148) (pc' := 149) (st' := [.ref 241, .ref 241]) (show z_pt 242 148 = some (6, .aload_n 0, []) by decide +kernel) rfl (fun _ _ _ => rfl) ?_
          refine R_getR (pc := 149) (a := 241) (b := 242) (show z_pt 242 149 = some (6, .getfield 7, [10, 0, 6118]) by decide +kernel) (by decide +kernel) ?_
          refine R_at (pc := 152) ?_
          refine R_const (pc := 152) (pc' := 153) (v := 4) (show z_ptc 242 152 = some (153, 4) by decide +kernel) ?_
          refine R_ialdK (pc := 153) (a := 242) (n := 331) (jn := 4) (show z_pt 242 153 = some (6, .iaload, []) by decide +kernel) (show z_ar 242 0 331 = true by decide +kernel) (by decide) (by decide) ?_
          refine R_at (pc := 154) ?_
          obtain ⟨q29, e30, h⟩ := z_bs h
          refine R_call (pc := 154) (rr := []) (show z_pt 242 154 = some (6, .invokevirtual 79, [0, 164, 1, 6199, 6201, 37, 1012, 6202]) by decide +kernel) rfl (show z_r2 164 = some (10, 2, true) by decide +kernel) rfl rfl (Or.inr ⟨_, _, rfl, (by decide +kernel)⟩) (pm_done_run  e30) (by omega) ?_
          refine R_at2 (pc := 157) (st := [.int q29.1]) ?_
          cases h
          exact R_retI (show z_pt 242 157 = some (6, .ireturn, []) by decide +kernel) (by decide +kernel)
        · rw [if_pos c28] at h
          refine R_const (pc := 140) (pc' := 141) (v := 1) (show z_ptc 242 140 = some (141, 1) by decide +kernel) ?_
          refine R_pure (pc := 141) (pc' := 145) (show z_pt 242 141 = some (6, .goto 4, []) by decide +kernel) rfl (fun _ _ _ => rfl) ?_
          refine R_pure (pc := 145) (pc' := 146) (st' := [.int ((M27 242 4) + 1), .int 4, .ref 242]) (show z_pt 242 145 = some (6, .iadd, []) by decide +kernel) rfl (fun _ _ _ => rfl) ?_
          refine R_iastK (pc := 146) (a := 242) (n := 331) (jn := 4) (show z_pt 242 146 = some (6, .iastore, []) by decide +kernel) (show z_ar 242 0 331 = true by decide +kernel) (by decide) (by decide) ?_
          refine R_at (pc := 147) ?_
          refine R_pure (pc := 147) (pc' := 148) (st' := [.ref 241]) (show z_pt 242 147 = some (6, .aload_n 0, []) by decide +kernel) rfl (fun _ _ _ => rfl) ?_
          refine R_pure (pc := 148) (pc' := 149) (st' := [.ref 241, .ref 241]) (show z_pt 242 148 = some (6, .aload_n 0, []) by decide +kernel) rfl (fun _ _ _ => rfl) ?_
          refine R_getR (pc := 149) (a := 241) (b := 242) (show z_pt 242 149 = some (6, .getfield 7, [10, 0, 6118]) by decide +kernel) (by decide +kernel) ?_
          refine R_at (pc := 152) ?_
          refine R_const (pc := 152) (pc' := 153) (v := 4) (show z_ptc 242 152 = some (153, 4) by decide +kernel) ?_
          refine R_ialdK (pc := 153) (a := 242) (n := 331) (jn := 4) (show z_pt 242 153 = some (6, .iaload, []) by decide +kernel) (show z_ar 242 0 331 = true by decide +kernel) (by decide) (by decide) ?_
          refine R_at (pc := 154) ?_
          obtain ⟨q31, e32, h⟩ := z_bs h
          refine R_call (pc := 154) (rr := []) (show z_pt 242 154 = some (6, .invokevirtual 79, [0, 164, 1, 6199, 6201, 37, 1012, 6202]) by decide +kernel) rfl (show z_r2 164 = some (10, 2, true) by decide +kernel) rfl rfl (Or.inr ⟨_, _, rfl, (by decide +kernel)⟩) (pm_done_run  e32) (by omega) ?_
          refine R_at2 (pc := 157) (st := [.int q31.1]) ?_
          cases h
          exact R_retI (show z_pt 242 157 = some (6, .ireturn, []) by decide +kernel) (by decide +kernel)
      · rw [if_pos c23] at h
        refine R_pure (pc := 45) (pc' := 46) (st' := [.ref 241]) (show z_pt 242 45 = some (6, .aload_n 0, []) by decide +kernel) rfl (fun _ _ _ => rfl) ?_
        refine R_const (pc := 46) (pc' := 47) (v := 2) (show z_ptc 242 46 = some (47, 2) by decide +kernel) ?_
        obtain ⟨q33, e34, h⟩ := z_bs h
        refine R_call (pc := 47) (rr := []) (show z_pt 242 47 = some (6, .invokevirtual 75, [0, 165, 1, 6195, 6197, 36, 1012, 6198]) by decide +kernel) rfl (show z_r2 165 = some (10, 2, true) by decide +kernel) rfl rfl (Or.inr ⟨_, _, rfl, (by decide +kernel)⟩) (pm_fails_run  e34) (by omega) ?_
        refine R_at2 (pc := 50) (st := [.int q33.1]) ?_
        cases h
        exact R_retI (show z_pt 242 50 = some (6, .ireturn, []) by decide +kernel) (by decide +kernel)
  · rw [if_pos c3] at h
    refine R_pure (pc := 8) (pc' := 9) (st' := [.ref 241]) (show z_pt 242 8 = some (6, .aload_n 0, []) by decide +kernel) rfl (fun _ _ _ => rfl) ?_
    refine R_const (pc := 9) (pc' := 10) (v := 1) (show z_ptc 242 9 = some (10, 1) by decide +kernel) ?_
    obtain ⟨q35, e36, h⟩ := z_bs h
    refine R_call (pc := 10) (rr := []) (show z_pt 242 10 = some (6, .invokevirtual 75, [0, 165, 1, 6195, 6197, 36, 1012, 6198]) by decide +kernel) rfl (show z_r2 165 = some (10, 2, true) by decide +kernel) rfl rfl (Or.inr ⟨_, _, rfl, (by decide +kernel)⟩) (pm_fails_run  e36) (by omega) ?_
    refine R_at2 (pc := 13) (st := [.int q35.1]) ?_
    cases h
    exact R_retI (show z_pt 242 13 = some (6, .ireturn, []) by decide +kernel) (by decide +kernel)
def pm_catalogue  (μ : z_Mem) (i1 : Int32) (i2 : Int32) : Option (Int32 × z_Mem) := (pm_begin μ).bind fun q1 => (pm_notes q1 i1 i2).bind fun q3 => (pm_kept q3.2 q3.1).bind fun q5 => some (q5.1, q5.2)
theorem pm_catalogue_run  {μ : z_Mem} {i1 : Int32} {i2 : Int32}  {r : (Int32 × z_Mem)} (h : pm_catalogue μ i1 i2 = some r) : Rn 3 243 0 [(0, .ref 241), (1, .int i1), (2, .int i2)] [] μ (.inl (some (.int r.1))) r.2 := by
  unfold pm_catalogue at h
  refine R_pure (pc := 0) (pc' := 1) (st' := [.ref 241]) (show z_pt 243 0 = some (3, .aload_n 0, []) by decide +kernel) rfl (fun _ _ _ => rfl) ?_
  obtain ⟨q1, e2, h⟩ := z_bs h
  refine R_call (pc := 1) (rr := []) (show z_pt 243 1 = some (3, .invokevirtual 82, [0, 167, 0, 6181, 6183, 34, 1012, 6184]) by decide +kernel) rfl (show z_r2 167 = some (10, 1, true) by decide +kernel) rfl rfl (Or.inr ⟨_, _, rfl, (by decide +kernel)⟩) (pm_begin_run  e2) (by omega) ?_
  refine R_at2 (pc := 4) (st := []) ?_
  refine R_pure (pc := 4) (pc' := 5) (st' := [.ref 241]) (show z_pt 243 4 = some (3, .aload_n 0, []) by decide +kernel) rfl (fun _ _ _ => rfl) ?_
  refine R_pure (pc := 5) (pc' := 6) (st' := [.ref 241, .ref 241]) (show z_pt 243 5 = some (3, .aload_n 0, []) by decide +kernel) rfl (fun _ _ _ => rfl) ?_
  refine R_pure (pc := 6) (pc' := 7) (st' := [.int i1, .ref 241, .ref 241]) (show z_pt 243 6 = some (3, .iload_n 1, []) by decide +kernel) rfl (fun _ _ _ => rfl) ?_
  refine R_pure (pc := 7) (pc' := 8) (st' := [.int i2, .int i1, .ref 241, .ref 241]) (show z_pt 243 7 = some (3, .iload_n 2, []) by decide +kernel) rfl (fun _ _ _ => rfl) ?_
  obtain ⟨q3, e4, h⟩ := z_bs h
  refine R_call (pc := 8) (rr := [.ref 241]) (show z_pt 243 8 = some (3, .invokevirtual 204, [0, 242, 2, 8017, 8019, 68, 1012, 8020]) by decide +kernel) rfl (show z_r2 242 = some (10, 6, true) by decide +kernel) rfl rfl (Or.inr ⟨_, _, rfl, (by decide +kernel)⟩) (pm_notes_run  e4) (by omega) ?_
  refine R_at2 (pc := 11) (st := [.int q3.1, .ref 241]) ?_
  obtain ⟨q5, e6, h⟩ := z_bs h
  refine R_call (pc := 11) (rr := []) (show z_pt 243 11 = some (3, .invokevirtual 88, [0, 168, 1, 6203, 6205, 38, 1012, 6206]) by decide +kernel) rfl (show z_r2 168 = some (10, 3, true) by decide +kernel) rfl rfl (Or.inr ⟨_, _, rfl, (by decide +kernel)⟩) (pm_kept_run  e6) (by omega) ?_
  refine R_at2 (pc := 14) (st := [.int q5.1]) ?_
  cases h
  exact R_retI (show z_pt 243 14 = some (3, .ireturn, []) by decide +kernel) (by decide +kernel)
def pm_forgets_L35_B (R : z_Mem → Int32 → Option (Int32 × z_Mem))  (f1 : Int32) (f2 : Int32) (f3 : Int32) (K : z_Mem → Int32 → Option (Int32 × z_Mem)) (μ : z_Mem) (a4 : Int32) : Option (Int32 × z_Mem) := if 5 ≤ a4 then K μ a4 else (z_rd μ 242 331 ((259 + a4) + 1)).bind fun v8 => if z_inb (259 + a4) 331 = true then (z_rd (z_u μ 242 (259 + a4).toNatClampNeg v8) 242 331 ((265 + a4) + 1)).bind fun v11 => if z_inb (265 + a4) 331 = true then R (z_u (z_u μ 242 (259 + a4).toNatClampNeg v8) 242 (265 + a4).toNatClampNeg v11) (a4 + 1) else none else none
def pm_forgets_L35 : Nat → Int32 → Int32 → Int32 → (z_Mem → Int32 → Option (Int32 × z_Mem)) → z_Mem → Int32 → Option (Int32 × z_Mem)
  | 0 => fun _ _ _ _ _ _ => none
  | n + 1 => fun f1 f2 f3 K μ a4 => pm_forgets_L35_B (pm_forgets_L35 n f1 f2 f3 K) f1 f2 f3 K μ a4
theorem pm_forgets_L35_run  (f1 : Int32) (f2 : Int32) (f3 : Int32) (K : z_Mem → Int32 → Option (Int32 × z_Mem))  (D : Nat) (hD : 2 ≤ D) (hK : ∀ (μ : z_Mem) (a4 : Int32) (r : (Int32 × z_Mem)), K μ a4 = some r → Rn D 244 95 [(0, .ref 241), (1, .int f1), (2, .int f2), (3, .int f3), (4, .int a4)] [] μ (.inl (some (.int r.1))) r.2) : ∀ (n : Nat) (μ : z_Mem) (a4 : Int32) (r : (Int32 × z_Mem)), pm_forgets_L35 n f1 f2 f3 K μ a4 = some r → Rn D 244 35 [(0, .ref 241), (1, .int f1), (2, .int f2), (3, .int f3), (4, .int a4)] [] μ (.inl (some (.int r.1))) r.2 := by
  intro n
  induction n with
  | zero => intro μ a4 r h; cases h
  | succ n ih =>
    intro μ a4 r h
    have h : pm_forgets_L35_B (pm_forgets_L35 n f1 f2 f3 K) f1 f2 f3 K μ a4 = some r := h
    unfold pm_forgets_L35_B at h
    refine R_pure (pc := 35) (pc' := 37) (st' := [.int a4]) (show z_pt 244 35 = some (5, .iload 4, []) by decide +kernel) rfl (fun _ _ _ => rfl) ?_
    refine R_const (pc := 37) (pc' := 38) (v := 5) (show z_ptc 244 37 = some (38, 5) by decide +kernel) ?_
    refine R_icmge (pc := 38) (t := 95) (show z_pt 244 38 = some (5, .if_icmp .ge 57, []) by decide +kernel) (by decide) (fun c7 => ?_) (fun c7 => ?_)
    · rw [if_pos c7] at h
      exact hK _ _  _ h
    · rw [if_neg c7] at h
      refine R_pure (pc := 41) (pc' := 42) (st' := [.ref 241]) (show z_pt 244 41 = some (5, .aload_n 0, []) by decide +kernel) rfl (fun _ _ _ => rfl) ?_
      refine R_getR (pc := 42) (a := 241) (b := 242) (show z_pt 244 42 = some (5, .getfield 7, [10, 0, 6118]) by decide +kernel) (by decide +kernel) ?_
      refine R_at (pc := 45) ?_
      refine R_const (pc := 45) (pc' := 48) (v := 259) (show z_ptc 244 45 = some (48, 259) by decide +kernel) ?_
      refine R_pure (pc := 48) (pc' := 50) (st' := [.int a4, .int 259, .ref 242]) (show z_pt 244 48 = some (5, .iload 4, []) by decide +kernel) rfl (fun _ _ _ => rfl) ?_
      refine R_pure (pc := 50) (pc' := 51) (st' := [.int (259 + a4), .ref 242]) (show z_pt 244 50 = some (5, .iadd, []) by decide +kernel) rfl (fun _ _ _ => rfl) ?_
      refine R_pure (pc := 51) (pc' := 52) (st' := [.ref 241, .int (259 + a4), .ref 242]) (show z_pt 244 51 = some (5, .aload_n 0, []) by decide +kernel) rfl (fun _ _ _ => rfl) ?_
      refine R_getR (pc := 52) (a := 241) (b := 242) (show z_pt 244 52 = some (5, .getfield 7, [10, 0, 6118]) by decide +kernel) (by decide +kernel) ?_
      refine R_at (pc := 55) ?_
      refine R_const (pc := 55) (pc' := 58) (v := 259) (show z_ptc 244 55 = some (58, 259) by decide +kernel) ?_
      refine R_pure (pc := 58) (pc' := 60) (st' := [.int a4, .int 259, .ref 242, .int (259 + a4), .ref 242]) (show z_pt 244 58 = some (5, .iload 4, []) by decide +kernel) rfl (fun _ _ _ => rfl) ?_
      refine R_pure (pc := 60) (pc' := 61) (st' := [.int (259 + a4), .ref 242, .int (259 + a4), .ref 242]) (show z_pt 244 60 = some (5, .iadd, []) by decide +kernel) rfl (fun _ _ _ => rfl) ?_
      refine R_const (pc := 61) (pc' := 62) (v := 1) (show z_ptc 244 61 = some (62, 1) by decide +kernel) ?_
      refine R_pure (pc := 62) (pc' := 63) (st' := [.int ((259 + a4) + 1), .ref 242, .int (259 + a4), .ref 242]) (show z_pt 244 62 = some (5, .iadd, []) by decide +kernel) rfl (fun _ _ _ => rfl) ?_
      obtain ⟨v8, e9, h⟩ := z_bs h
      refine R_ialdR (pc := 63) (a := 242) (n := 331) (show z_pt 244 63 = some (5, .iaload, []) by decide +kernel) (show z_ar 242 0 331 = true by decide +kernel) e9 ?_
      refine R_at (pc := 64) ?_
      obtain ⟨g10, h⟩ := z_ig h
      refine R_iast (pc := 64) (a := 242) (n := 331) (show z_pt 244 64 = some (5, .iastore, []) by decide +kernel) (show z_ar 242 0 331 = true by decide +kernel) g10 ?_
      refine R_at (pc := 65) ?_
      refine R_pure (pc := 65) (pc' := 66) (st' := [.ref 241]) (show z_pt 244 65 = some (5, .aload_n 0, []) by decide +kernel) rfl (fun _ _ _ => rfl) ?_
      refine R_getR (pc := 66) (a := 241) (b := 242) (show z_pt 244 66 = some (5, .getfield 7, [10, 0, 6118]) by decide +kernel) (by decide +kernel) ?_
      refine R_at (pc := 69) ?_
      refine R_const (pc := 69) (pc' := 72) (v := 265) (show z_ptc 244 69 = some (72, 265) by decide +kernel) ?_
      refine R_pure (pc := 72) (pc' := 74) (st' := [.int a4, .int 265, .ref 242]) (show z_pt 244 72 = some (5, .iload 4, []) by decide +kernel) rfl (fun _ _ _ => rfl) ?_
      refine R_pure (pc := 74) (pc' := 75) (st' := [.int (265 + a4), .ref 242]) (show z_pt 244 74 = some (5, .iadd, []) by decide +kernel) rfl (fun _ _ _ => rfl) ?_
      refine R_pure (pc := 75) (pc' := 76) (st' := [.ref 241, .int (265 + a4), .ref 242]) (show z_pt 244 75 = some (5, .aload_n 0, []) by decide +kernel) rfl (fun _ _ _ => rfl) ?_
      refine R_getR (pc := 76) (a := 241) (b := 242) (show z_pt 244 76 = some (5, .getfield 7, [10, 0, 6118]) by decide +kernel) (by decide +kernel) ?_
      refine R_at (pc := 79) ?_
      refine R_const (pc := 79) (pc' := 82) (v := 265) (show z_ptc 244 79 = some (82, 265) by decide +kernel) ?_
      refine R_pure (pc := 82) (pc' := 84) (st' := [.int a4, .int 265, .ref 242, .int (265 + a4), .ref 242]) (show z_pt 244 82 = some (5, .iload 4, []) by decide +kernel) rfl (fun _ _ _ => rfl) ?_
      refine R_pure (pc := 84) (pc' := 85) (st' := [.int (265 + a4), .ref 242, .int (265 + a4), .ref 242]) (show z_pt 244 84 = some (5, .iadd, []) by decide +kernel) rfl (fun _ _ _ => rfl) ?_
      refine R_const (pc := 85) (pc' := 86) (v := 1) (show z_ptc 244 85 = some (86, 1) by decide +kernel) ?_
      refine R_pure (pc := 86) (pc' := 87) (st' := [.int ((265 + a4) + 1), .ref 242, .int (265 + a4), .ref 242]) (show z_pt 244 86 = some (5, .iadd, []) by decide +kernel) rfl (fun _ _ _ => rfl) ?_
      obtain ⟨v11, e12, h⟩ := z_bs h
      refine R_ialdR (pc := 87) (a := 242) (n := 331) (show z_pt 244 87 = some (5, .iaload, []) by decide +kernel) (show z_ar 242 0 331 = true by decide +kernel) e12 ?_
      refine R_at (pc := 88) ?_
      obtain ⟨g13, h⟩ := z_ig h
      refine R_iast (pc := 88) (a := 242) (n := 331) (show z_pt 244 88 = some (5, .iastore, []) by decide +kernel) (show z_ar 242 0 331 = true by decide +kernel) g13 ?_
      refine R_at (pc := 89) ?_
      refine R_inc (pc := 89) (pc' := 92) (ls' := [(0, .ref 241), (1, .int f1), (2, .int f2), (3, .int f3), (4, .int (a4 + 1))]) (c := 1) (show z_pt 244 89 = some (5, .iinc 4 1, []) by decide +kernel) (by decide) rfl rfl ?_
      refine R_pure (pc := 92) (pc' := 35) (ls' := [(0, .ref 241), (1, .int f1), (2, .int f2), (3, .int f3), (4, .int (a4 + 1))]) (st' := []) (show z_pt 244 92 = some (5, .goto (-57), [5]) by decide +kernel) rfl (fun _ _ _ => rfl) ?_
      exact ih _ _ _  h
def pm_forgets_L101_B (R : z_Mem → Int32 → Option (Int32 × z_Mem))  (f1 : Int32) (f2 : Int32) (f3 : Int32) (K : z_Mem → Int32 → Option (Int32 × z_Mem)) (μ : z_Mem) (a4 : Int32) : Option (Int32 × z_Mem) := if 50 ≤ a4 then K μ a4 else (z_rd μ 242 331 ((271 + a4) + 10)).bind fun v17 => if z_inb (271 + a4) 331 = true then R (z_u μ 242 (271 + a4).toNatClampNeg v17) (a4 + 1) else none
def pm_forgets_L101 : Nat → Int32 → Int32 → Int32 → (z_Mem → Int32 → Option (Int32 × z_Mem)) → z_Mem → Int32 → Option (Int32 × z_Mem)
  | 0 => fun _ _ _ _ _ _ => none
  | n + 1 => fun f1 f2 f3 K μ a4 => pm_forgets_L101_B (pm_forgets_L101 n f1 f2 f3 K) f1 f2 f3 K μ a4
theorem pm_forgets_L101_run  (f1 : Int32) (f2 : Int32) (f3 : Int32) (K : z_Mem → Int32 → Option (Int32 × z_Mem))  (D : Nat) (hD : 2 ≤ D) (hK : ∀ (μ : z_Mem) (a4 : Int32) (r : (Int32 × z_Mem)), K μ a4 = some r → Rn D 244 139 [(0, .ref 241), (1, .int f1), (2, .int f2), (3, .int f3), (4, .int a4)] [] μ (.inl (some (.int r.1))) r.2) : ∀ (n : Nat) (μ : z_Mem) (a4 : Int32) (r : (Int32 × z_Mem)), pm_forgets_L101 n f1 f2 f3 K μ a4 = some r → Rn D 244 101 [(0, .ref 241), (1, .int f1), (2, .int f2), (3, .int f3), (4, .int a4)] [] μ (.inl (some (.int r.1))) r.2 := by
  intro n
  induction n with
  | zero => intro μ a4 r h; cases h
  | succ n ih =>
    intro μ a4 r h
    have h : pm_forgets_L101_B (pm_forgets_L101 n f1 f2 f3 K) f1 f2 f3 K μ a4 = some r := h
    unfold pm_forgets_L101_B at h
    refine R_pure (pc := 101) (pc' := 103) (st' := [.int a4]) (show z_pt 244 101 = some (5, .iload 4, []) by decide +kernel) rfl (fun _ _ _ => rfl) ?_
    refine R_const (pc := 103) (pc' := 105) (v := 50) (show z_ptc 244 103 = some (105, 50) by decide +kernel) ?_
    refine R_icmge (pc := 105) (t := 139) (show z_pt 244 105 = some (5, .if_icmp .ge 34, []) by decide +kernel) (by decide) (fun c16 => ?_) (fun c16 => ?_)
    · rw [if_pos c16] at h
      exact hK _ _  _ h
    · rw [if_neg c16] at h
      refine R_pure (pc := 108) (pc' := 109) (st' := [.ref 241]) (show z_pt 244 108 = some (5, .aload_n 0, []) by decide +kernel) rfl (fun _ _ _ => rfl) ?_
      refine R_getR (pc := 109) (a := 241) (b := 242) (show z_pt 244 109 = some (5, .getfield 7, [10, 0, 6118]) by decide +kernel) (by decide +kernel) ?_
      refine R_at (pc := 112) ?_
      refine R_const (pc := 112) (pc' := 115) (v := 271) (show z_ptc 244 112 = some (115, 271) by decide +kernel) ?_
      refine R_pure (pc := 115) (pc' := 117) (st' := [.int a4, .int 271, .ref 242]) (show z_pt 244 115 = some (5, .iload 4, []) by decide +kernel) rfl (fun _ _ _ => rfl) ?_
      refine R_pure (pc := 117) (pc' := 118) (st' := [.int (271 + a4), .ref 242]) (show z_pt 244 117 = some (5, .iadd, []) by decide +kernel) rfl (fun _ _ _ => rfl) ?_
      refine R_pure (pc := 118) (pc' := 119) (st' := [.ref 241, .int (271 + a4), .ref 242]) (show z_pt 244 118 = some (5, .aload_n 0, []) by decide +kernel) rfl (fun _ _ _ => rfl) ?_
      refine R_getR (pc := 119) (a := 241) (b := 242) (show z_pt 244 119 = some (5, .getfield 7, [10, 0, 6118]) by decide +kernel) (by decide +kernel) ?_
      refine R_at (pc := 122) ?_
      refine R_const (pc := 122) (pc' := 125) (v := 271) (show z_ptc 244 122 = some (125, 271) by decide +kernel) ?_
      refine R_pure (pc := 125) (pc' := 127) (st' := [.int a4, .int 271, .ref 242, .int (271 + a4), .ref 242]) (show z_pt 244 125 = some (5, .iload 4, []) by decide +kernel) rfl (fun _ _ _ => rfl) ?_
      refine R_pure (pc := 127) (pc' := 128) (st' := [.int (271 + a4), .ref 242, .int (271 + a4), .ref 242]) (show z_pt 244 127 = some (5, .iadd, []) by decide +kernel) rfl (fun _ _ _ => rfl) ?_
      refine R_const (pc := 128) (pc' := 130) (v := 10) (show z_ptc 244 128 = some (130, 10) by decide +kernel) ?_
      refine R_pure (pc := 130) (pc' := 131) (st' := [.int ((271 + a4) + 10), .ref 242, .int (271 + a4), .ref 242]) (show z_pt 244 130 = some (5, .iadd, []) by decide +kernel) rfl (fun _ _ _ => rfl) ?_
      obtain ⟨v17, e18, h⟩ := z_bs h
      refine R_ialdR (pc := 131) (a := 242) (n := 331) (show z_pt 244 131 = some (5, .iaload, []) by decide +kernel) (show z_ar 242 0 331 = true by decide +kernel) e18 ?_
      refine R_at (pc := 132) ?_
      obtain ⟨g19, h⟩ := z_ig h
      refine R_iast (pc := 132) (a := 242) (n := 331) (show z_pt 244 132 = some (5, .iastore, []) by decide +kernel) (show z_ar 242 0 331 = true by decide +kernel) g19 ?_
      refine R_at (pc := 133) ?_
      refine R_inc (pc := 133) (pc' := 136) (ls' := [(0, .ref 241), (1, .int f1), (2, .int f2), (3, .int f3), (4, .int (a4 + 1))]) (c := 1) (show z_pt 244 133 = some (5, .iinc 4 1, []) by decide +kernel) (by decide) rfl rfl ?_
      refine R_pure (pc := 136) (pc' := 101) (ls' := [(0, .ref 241), (1, .int f1), (2, .int f2), (3, .int f3), (4, .int (a4 + 1))]) (st' := []) (show z_pt 244 136 = some (5, .goto (-35), [5]) by decide +kernel) rfl (fun _ _ _ => rfl) ?_
      exact ih _ _ _  h
def pm_forgets  (μ : z_Mem) (i1 : Int32) (i2 : Int32) : Option (Int32 × z_Mem) := (pm_isKey μ i1 i2).bind fun q1 => if q1 = 0 then (pm_fails μ 1).bind fun q26 => some (q26.1, q26.2) else (pm_entryOf μ i1 i2).bind fun q4 => if q4 = (-1) then (pm_fails μ 2).bind fun q24 => some (q24.1, q24.2) else pm_forgets_L35 z_fu i1 i2 q4 (fun M15 k14 => pm_forgets_L101 z_fu i1 i2 q4 (fun M21 k20 => (pm_done (z_u M21 242 4 ((M21 242 4) - 1)) ((z_u M21 242 4 ((M21 242 4) - 1)) 242 4)).bind fun q22 => some (q22.1, q22.2)) M15 (10 * q4)) μ q4
theorem pm_forgets_run  {μ : z_Mem} {i1 : Int32} {i2 : Int32}  {r : (Int32 × z_Mem)} (h : pm_forgets μ i1 i2 = some r) : Rn 2 244 0 [(0, .ref 241), (1, .int i1), (2, .int i2)] [] μ (.inl (some (.int r.1))) r.2 := by
  unfold pm_forgets at h
  refine R_pure (pc := 0) (pc' := 1) (st' := [.int i1]) (show z_pt 244 0 = some (5, .iload_n 1, []) by decide +kernel) rfl (fun _ _ _ => rfl) ?_
  refine R_pure (pc := 1) (pc' := 2) (st' := [.int i2, .int i1]) (show z_pt 244 1 = some (5, .iload_n 2, []) by decide +kernel) rfl (fun _ _ _ => rfl) ?_
  obtain ⟨q1, e2, h⟩ := z_bs h
  refine R_call (pc := 2) (rr := []) (show z_pt 244 2 = some (5, .invokestatic 198, [1, 240, 2, 8021, 8022, 0, 1012, 8023]) by decide +kernel) rfl (show z_r2 240 = some (10, 2, true) by decide +kernel) rfl rfl (Or.inl (by decide)) (pm_isKey_run  e2) (by omega) ?_
  refine R_at2 (pc := 5) (st := [.int q1]) ?_
  refine R_ifne (pc := 5) (t := 14) (show z_pt 244 5 = some (5, .ifCond .ne 9, []) by decide +kernel) (by decide) (fun c3 => ?_) (fun c3 => ?_)
  · rw [if_neg c3] at h
    refine R_pure (pc := 14) (pc' := 15) (st' := [.ref 241]) (show z_pt 244 14 = some (5, .aload_n 0, []) by decide +kernel) rfl (fun _ _ _ => rfl) ?_
    refine R_pure (pc := 15) (pc' := 16) (st' := [.int i1, .ref 241]) (show z_pt 244 15 = some (5, .iload_n 1, []) by decide +kernel) rfl (fun _ _ _ => rfl) ?_
    refine R_pure (pc := 16) (pc' := 17) (st' := [.int i2, .int i1, .ref 241]) (show z_pt 244 16 = some (5, .iload_n 2, []) by decide +kernel) rfl (fun _ _ _ => rfl) ?_
    obtain ⟨q4, e5, h⟩ := z_bs h
    refine R_call (pc := 17) (rr := []) (show z_pt 244 17 = some (5, .invokevirtual 201, [0, 241, 2, 8024, 8026, 69, 1012, 8027]) by decide +kernel) rfl (show z_r2 241 = some (10, 4, true) by decide +kernel) rfl rfl (Or.inr ⟨_, _, rfl, (by decide +kernel)⟩) (pm_entryOf_run  e5) (by omega) ?_
    refine R_at2 (pc := 20) (st := [.int q4]) ?_
    refine R_pure (pc := 20) (pc' := 21) (ls' := [(0, .ref 241), (1, .int i1), (2, .int i2), (3, .int q4)]) (st' := []) (show z_pt 244 20 = some (5, .istore_n 3, []) by decide +kernel) rfl (fun _ _ _ => rfl) ?_
    refine R_pure (pc := 21) (pc' := 22) (st' := [.int q4]) (show z_pt 244 21 = some (5, .iload_n 3, []) by decide +kernel) rfl (fun _ _ _ => rfl) ?_
    refine R_const (pc := 22) (pc' := 23) (v := (-1)) (show z_ptc 244 22 = some (23, (-1)) by decide +kernel) ?_
    refine R_icmne (pc := 23) (t := 32) (show z_pt 244 23 = some (5, .if_icmp .ne 9, []) by decide +kernel) (by decide) (fun c6 => ?_) (fun c6 => ?_)
    · rw [if_neg c6] at h
      refine R_pure (pc := 32) (pc' := 33) (st' := [.int q4]) (show z_pt 244 32 = some (5, .iload_n 3, []) by decide +kernel) rfl (fun _ _ _ => rfl) ?_
      refine R_pure (pc := 33) (pc' := 35) (ls' := [(0, .ref 241), (1, .int i1), (2, .int i2), (3, .int q4), (4, .int q4)]) (st' := []) (show z_pt 244 33 = some (5, .istore 4, []) by decide +kernel) rfl (fun _ _ _ => rfl) ?_
      refine pm_forgets_L35_run  _ _ _ _  _ (by omega) ?_ _ _ _ _ h
      intro M15 k14 r h
      refine R_const (pc := 95) (pc' := 97) (v := 10) (show z_ptc 244 95 = some (97, 10) by decide +kernel) ?_
      refine R_pure (pc := 97) (pc' := 98) (st' := [.int q4, .int 10]) (show z_pt 244 97 = some (5, .iload_n 3, []) by decide +kernel) rfl (fun _ _ _ => rfl) ?_
      refine R_pure (pc := 98) (pc' := 99) (st' := [.int (10 * q4)]) (show z_pt 244 98 = some (5, .imul, []) by decide +kernel) rfl (fun _ _ _ => rfl) ?_
      refine R_pure (pc := 99) (pc' := 101) (ls' := [(0, .ref 241), (1, .int i1), (2, .int i2), (3, .int q4), (4, .int (10 * q4))]) (st' := []) (show z_pt 244 99 = some (5, .istore 4, []) by decide +kernel) rfl (fun _ _ _ => rfl) ?_
      refine pm_forgets_L101_run  _ _ _ _  _ (by omega) ?_ _ _ _ _ h
      intro M21 k20 r h
      refine R_pure (pc := 139) (pc' := 140) (st' := [.ref 241]) (show z_pt 244 139 = some (5, .aload_n 0, []) by decide +kernel) rfl (fun _ _ _ => rfl) ?_
      refine R_getR (pc := 140) (a := 241) (b := 242) (show z_pt 244 140 = some (5, .getfield 7, [10, 0, 6118]) by decide +kernel) (by decide +kernel) ?_
      refine R_at (pc := 143) ?_
      refine R_const (pc := 143) (pc' := 144) (v := 4) (show z_ptc 244 143 = some (144, 4) by decide +kernel) ?_
      refine R_pure (pc := 144) (pc' := 145) (st' := [.int 4, .ref 242, .int 4, .ref 242]) (show z_pt 244 144 = some (5, .dup2, []) by decide +kernel) rfl (fun _ _ _ => rfl) ?_
      refine R_ialdK (pc := 145) (a := 242) (n := 331) (jn := 4) (show z_pt 244 145 = some (5, .iaload, []) by decide +kernel) (show z_ar 242 0 331 = true by decide +kernel) (by decide) (by decide) ?_
      refine R_at (pc := 146) ?_
      refine R_const (pc := 146) (pc' := 147) (v := 1) (show z_ptc 244 146 = some (147, 1) by decide +kernel) ?_
      refine R_pure (pc := 147) (pc' := 148) (st' := [.int ((M21 242 4) - 1), .int 4, .ref 242]) (show z_pt 244 147 = some (5, .isub, []) by decide +kernel) rfl (fun _ _ _ => rfl) ?_
      refine R_iastK (pc := 148) (a := 242) (n := 331) (jn := 4) (show z_pt 244 148 = some (5, .iastore, []) by decide +kernel) (show z_ar 242 0 331 = true by decide +kernel) (by decide) (by decide) ?_
      refine R_at (pc := 149) ?_
      refine R_pure (pc := 149) (pc' := 150) (st' := [.ref 241]) (show z_pt 244 149 = some (5, .aload_n 0, []) by decide +kernel) rfl (fun _ _ _ => rfl) ?_
      refine R_pure (pc := 150) (pc' := 151) (st' := [.ref 241, .ref 241]) (show z_pt 244 150 = some (5, .aload_n 0, []) by decide +kernel) rfl (fun _ _ _ => rfl) ?_
      refine R_getR (pc := 151) (a := 241) (b := 242) (show z_pt 244 151 = some (5, .getfield 7, [10, 0, 6118]) by decide +kernel) (by decide +kernel) ?_
      refine R_at (pc := 154) ?_
      refine R_const (pc := 154) (pc' := 155) (v := 4) (show z_ptc 244 154 = some (155, 4) by decide +kernel) ?_
      refine R_ialdK (pc := 155) (a := 242) (n := 331) (jn := 4) (show z_pt 244 155 = some (5, .iaload, []) by decide +kernel) (show z_ar 242 0 331 = true by decide +kernel) (by decide) (by decide) ?_
      refine R_at (pc := 156) ?_
      obtain ⟨q22, e23, h⟩ := z_bs h
      refine R_call (pc := 156) (rr := []) (show z_pt 244 156 = some (5, .invokevirtual 79, [0, 164, 1, 6199, 6201, 37, 1012, 6202]) by decide +kernel) rfl (show z_r2 164 = some (10, 2, true) by decide +kernel) rfl rfl (Or.inr ⟨_, _, rfl, (by decide +kernel)⟩) (pm_done_run  e23) (by omega) ?_
      refine R_at2 (pc := 159) (st := [.int q22.1]) ?_
      cases h
      exact R_retI (show z_pt 244 159 = some (5, .ireturn, []) by decide +kernel) (by decide +kernel)
    · rw [if_pos c6] at h
      refine R_pure (pc := 26) (pc' := 27) (st' := [.ref 241]) (show z_pt 244 26 = some (5, .aload_n 0, []) by decide +kernel) rfl (fun _ _ _ => rfl) ?_
      refine R_const (pc := 27) (pc' := 28) (v := 2) (show z_ptc 244 27 = some (28, 2) by decide +kernel) ?_
      obtain ⟨q24, e25, h⟩ := z_bs h
      refine R_call (pc := 28) (rr := []) (show z_pt 244 28 = some (5, .invokevirtual 75, [0, 165, 1, 6195, 6197, 36, 1012, 6198]) by decide +kernel) rfl (show z_r2 165 = some (10, 2, true) by decide +kernel) rfl rfl (Or.inr ⟨_, _, rfl, (by decide +kernel)⟩) (pm_fails_run  e25) (by omega) ?_
      refine R_at2 (pc := 31) (st := [.int q24.1]) ?_
      cases h
      exact R_retI (show z_pt 244 31 = some (5, .ireturn, []) by decide +kernel) (by decide +kernel)
  · rw [if_pos c3] at h
    refine R_pure (pc := 8) (pc' := 9) (st' := [.ref 241]) (show z_pt 244 8 = some (5, .aload_n 0, []) by decide +kernel) rfl (fun _ _ _ => rfl) ?_
    refine R_const (pc := 9) (pc' := 10) (v := 1) (show z_ptc 244 9 = some (10, 1) by decide +kernel) ?_
    obtain ⟨q26, e27, h⟩ := z_bs h
    refine R_call (pc := 10) (rr := []) (show z_pt 244 10 = some (5, .invokevirtual 75, [0, 165, 1, 6195, 6197, 36, 1012, 6198]) by decide +kernel) rfl (show z_r2 165 = some (10, 2, true) by decide +kernel) rfl rfl (Or.inr ⟨_, _, rfl, (by decide +kernel)⟩) (pm_fails_run  e27) (by omega) ?_
    refine R_at2 (pc := 13) (st := [.int q26.1]) ?_
    cases h
    exact R_retI (show z_pt 244 13 = some (5, .ireturn, []) by decide +kernel) (by decide +kernel)
def pm_forget  (μ : z_Mem) (i1 : Int32) (i2 : Int32) : Option (Int32 × z_Mem) := (pm_begin μ).bind fun q1 => (pm_forgets q1 i1 i2).bind fun q3 => (pm_kept q3.2 q3.1).bind fun q5 => some (q5.1, q5.2)
theorem pm_forget_run  {μ : z_Mem} {i1 : Int32} {i2 : Int32}  {r : (Int32 × z_Mem)} (h : pm_forget μ i1 i2 = some r) : Rn 3 245 0 [(0, .ref 241), (1, .int i1), (2, .int i2)] [] μ (.inl (some (.int r.1))) r.2 := by
  unfold pm_forget at h
  refine R_pure (pc := 0) (pc' := 1) (st' := [.ref 241]) (show z_pt 245 0 = some (3, .aload_n 0, []) by decide +kernel) rfl (fun _ _ _ => rfl) ?_
  obtain ⟨q1, e2, h⟩ := z_bs h
  refine R_call (pc := 1) (rr := []) (show z_pt 245 1 = some (3, .invokevirtual 82, [0, 167, 0, 6181, 6183, 34, 1012, 6184]) by decide +kernel) rfl (show z_r2 167 = some (10, 1, true) by decide +kernel) rfl rfl (Or.inr ⟨_, _, rfl, (by decide +kernel)⟩) (pm_begin_run  e2) (by omega) ?_
  refine R_at2 (pc := 4) (st := []) ?_
  refine R_pure (pc := 4) (pc' := 5) (st' := [.ref 241]) (show z_pt 245 4 = some (3, .aload_n 0, []) by decide +kernel) rfl (fun _ _ _ => rfl) ?_
  refine R_pure (pc := 5) (pc' := 6) (st' := [.ref 241, .ref 241]) (show z_pt 245 5 = some (3, .aload_n 0, []) by decide +kernel) rfl (fun _ _ _ => rfl) ?_
  refine R_pure (pc := 6) (pc' := 7) (st' := [.int i1, .ref 241, .ref 241]) (show z_pt 245 6 = some (3, .iload_n 1, []) by decide +kernel) rfl (fun _ _ _ => rfl) ?_
  refine R_pure (pc := 7) (pc' := 8) (st' := [.int i2, .int i1, .ref 241, .ref 241]) (show z_pt 245 7 = some (3, .iload_n 2, []) by decide +kernel) rfl (fun _ _ _ => rfl) ?_
  obtain ⟨q3, e4, h⟩ := z_bs h
  refine R_call (pc := 8) (rr := [.ref 241]) (show z_pt 245 8 = some (3, .invokevirtual 207, [0, 244, 2, 8032, 8034, 70, 1012, 8035]) by decide +kernel) rfl (show z_r2 244 = some (10, 5, true) by decide +kernel) rfl rfl (Or.inr ⟨_, _, rfl, (by decide +kernel)⟩) (pm_forgets_run  e4) (by omega) ?_
  refine R_at2 (pc := 11) (st := [.int q3.1, .ref 241]) ?_
  obtain ⟨q5, e6, h⟩ := z_bs h
  refine R_call (pc := 11) (rr := []) (show z_pt 245 11 = some (3, .invokevirtual 88, [0, 168, 1, 6203, 6205, 38, 1012, 6206]) by decide +kernel) rfl (show z_r2 168 = some (10, 3, true) by decide +kernel) rfl rfl (Or.inr ⟨_, _, rfl, (by decide +kernel)⟩) (pm_kept_run  e6) (by omega) ?_
  refine R_at2 (pc := 14) (st := [.int q5.1]) ?_
  cases h
  exact R_retI (show z_pt 245 14 = some (3, .ireturn, []) by decide +kernel) (by decide +kernel)
def pm_isCatalogued  (μ : z_Mem) (i1 : Int32) (i2 : Int32) : Option (Int32 × z_Mem) := (pm_isKey μ i1 i2).bind fun q1 => if q1 = 0 then if ((z_u μ 241 12 1) 241 12) = 0 then (pm_entryOf (z_u μ 241 12 1) i1 i2).bind fun q5 => if q5 = (-1) then some (0, (z_u μ 241 12 1)) else some (1, (z_u μ 241 12 1)) else some (0, (z_u μ 241 12 1)) else if ((z_u μ 241 12 0) 241 12) = 0 then (pm_entryOf (z_u μ 241 12 0) i1 i2).bind fun q9 => if q9 = (-1) then some (0, (z_u μ 241 12 0)) else some (1, (z_u μ 241 12 0)) else some (0, (z_u μ 241 12 0))
theorem pm_isCatalogued_run  {μ : z_Mem} {i1 : Int32} {i2 : Int32}  {r : (Int32 × z_Mem)} (h : pm_isCatalogued μ i1 i2 = some r) : Rn 2 246 0 [(0, .ref 241), (1, .int i1), (2, .int i2)] [] μ (.inl (some (.int r.1))) r.2 := by
  unfold pm_isCatalogued at h
  refine R_pure (pc := 0) (pc' := 1) (st' := [.ref 241]) (show z_pt 246 0 = some (3, .aload_n 0, []) by decide +kernel) rfl (fun _ _ _ => rfl) ?_
  refine R_pure (pc := 1) (pc' := 2) (st' := [.int i1, .ref 241]) (show z_pt 246 1 = some (3, .iload_n 1, []) by decide +kernel) rfl (fun _ _ _ => rfl) ?_
  refine R_pure (pc := 2) (pc' := 3) (st' := [.int i2, .int i1, .ref 241]) (show z_pt 246 2 = some (3, .iload_n 2, []) by decide +kernel) rfl (fun _ _ _ => rfl) ?_
  obtain ⟨q1, e2, h⟩ := z_bs h
  refine R_call (pc := 3) (rr := [.ref 241]) (show z_pt 246 3 = some (3, .invokestatic 198, [1, 240, 2, 8021, 8022, 0, 1012, 8023]) by decide +kernel) rfl (show z_r2 240 = some (10, 2, true) by decide +kernel) rfl rfl (Or.inl (by decide)) (pm_isKey_run  e2) (by omega) ?_
  refine R_at2 (pc := 6) (st := [.int q1, .ref 241]) ?_
  refine R_ifeq (pc := 6) (t := 13) (show z_pt 246 6 = some (3, .ifCond .eq 7, []) by decide +kernel) (by decide) (fun c3 => ?_) (fun c3 => ?_)
  · rw [if_pos c3] at h
    refine R_const (pc := 13) (pc' := 14) (v := 1) (show z_ptc 246 13 = some (14, 1) by decide +kernel) ?_
    refine R_putI (pc := 14) (a := 241) (show z_pt 246 14 = some (3, .putfield 45, [10, 12, 6130]) by decide +kernel) (by decide +kernel) ⟨rfl, rfl⟩ ?_
    refine R_at (pc := 17) ?_
    refine R_pure (pc := 17) (pc' := 18) (st' := [.ref 241]) (show z_pt 246 17 = some (3, .aload_n 0, []) by decide +kernel) rfl (fun _ _ _ => rfl) ?_
    refine R_getI (pc := 18) (a := 241) (show z_pt 246 18 = some (3, .getfield 45, [10, 12, 6130]) by decide +kernel) (by decide +kernel) ?_
    refine R_at (pc := 21) ?_
    refine R_ifne (pc := 21) (t := 38) (show z_pt 246 21 = some (3, .ifCond .ne 17, []) by decide +kernel) (by decide) (fun c4 => ?_) (fun c4 => ?_)
    · rw [if_neg c4] at h
      refine R_const (pc := 38) (pc' := 39) (v := 0) (show z_ptc 246 38 = some (39, 0) by decide +kernel) ?_
      cases h
      exact R_retZ (show z_pt 246 39 = some (3, .ireturn, []) by decide +kernel) (t := .boolean) (by decide +kernel) (by decide)
    · rw [if_pos c4] at h
      refine R_pure (pc := 24) (pc' := 25) (st' := [.ref 241]) (show z_pt 246 24 = some (3, .aload_n 0, []) by decide +kernel) rfl (fun _ _ _ => rfl) ?_
      refine R_pure (pc := 25) (pc' := 26) (st' := [.int i1, .ref 241]) (show z_pt 246 25 = some (3, .iload_n 1, []) by decide +kernel) rfl (fun _ _ _ => rfl) ?_
      refine R_pure (pc := 26) (pc' := 27) (st' := [.int i2, .int i1, .ref 241]) (show z_pt 246 26 = some (3, .iload_n 2, []) by decide +kernel) rfl (fun _ _ _ => rfl) ?_
      obtain ⟨q5, e6, h⟩ := z_bs h
      refine R_call (pc := 27) (rr := []) (show z_pt 246 27 = some (3, .invokevirtual 201, [0, 241, 2, 8024, 8026, 69, 1012, 8027]) by decide +kernel) rfl (show z_r2 241 = some (10, 4, true) by decide +kernel) rfl rfl (Or.inr ⟨_, _, rfl, (by decide +kernel)⟩) (pm_entryOf_run  e6) (by omega) ?_
      refine R_at2 (pc := 30) (st := [.int q5]) ?_
      refine R_const (pc := 30) (pc' := 31) (v := (-1)) (show z_ptc 246 30 = some (31, (-1)) by decide +kernel) ?_
      refine R_icmeq (pc := 31) (t := 38) (show z_pt 246 31 = some (3, .if_icmp .eq 7, []) by decide +kernel) (by decide) (fun c7 => ?_) (fun c7 => ?_)
      · rw [if_pos c7] at h
        refine R_const (pc := 38) (pc' := 39) (v := 0) (show z_ptc 246 38 = some (39, 0) by decide +kernel) ?_
        cases h
        exact R_retZ (show z_pt 246 39 = some (3, .ireturn, []) by decide +kernel) (t := .boolean) (by decide +kernel) (by decide)
      · rw [if_neg c7] at h
        refine R_const (pc := 34) (pc' := 35) (v := 1) (show z_ptc 246 34 = some (35, 1) by decide +kernel) ?_
        refine R_pure (pc := 35) (pc' := 39) (show z_pt 246 35 = some (3, .goto 4, []) by decide +kernel) rfl (fun _ _ _ => rfl) ?_
        cases h
        exact R_retZ (show z_pt 246 39 = some (3, .ireturn, []) by decide +kernel) (t := .boolean) (by decide +kernel) (by decide)
  · rw [if_neg c3] at h
    refine R_const (pc := 9) (pc' := 10) (v := 0) (show z_ptc 246 9 = some (10, 0) by decide +kernel) ?_
    refine R_pure (pc := 10) (pc' := 14) (show z_pt 246 10 = some (3, .goto 4, []) by decide +kernel) rfl (fun _ _ _ => rfl) ?_
    refine R_putI (pc := 14) (a := 241) (show z_pt 246 14 = some (3, .putfield 45, [10, 12, 6130]) by decide +kernel) (by decide +kernel) ⟨rfl, rfl⟩ ?_
    refine R_at (pc := 17) ?_
    refine R_pure (pc := 17) (pc' := 18) (st' := [.ref 241]) (show z_pt 246 17 = some (3, .aload_n 0, []) by decide +kernel) rfl (fun _ _ _ => rfl) ?_
    refine R_getI (pc := 18) (a := 241) (show z_pt 246 18 = some (3, .getfield 45, [10, 12, 6130]) by decide +kernel) (by decide +kernel) ?_
    refine R_at (pc := 21) ?_
    refine R_ifne (pc := 21) (t := 38) (show z_pt 246 21 = some (3, .ifCond .ne 17, []) by decide +kernel) (by decide) (fun c8 => ?_) (fun c8 => ?_)
    · rw [if_neg c8] at h
      refine R_const (pc := 38) (pc' := 39) (v := 0) (show z_ptc 246 38 = some (39, 0) by decide +kernel) ?_
      cases h
      exact R_retZ (show z_pt 246 39 = some (3, .ireturn, []) by decide +kernel) (t := .boolean) (by decide +kernel) (by decide)
    · rw [if_pos c8] at h
      refine R_pure (pc := 24) (pc' := 25) (st' := [.ref 241]) (show z_pt 246 24 = some (3, .aload_n 0, []) by decide +kernel) rfl (fun _ _ _ => rfl) ?_
      refine R_pure (pc := 25) (pc' := 26) (st' := [.int i1, .ref 241]) (show z_pt 246 25 = some (3, .iload_n 1, []) by decide +kernel) rfl (fun _ _ _ => rfl) ?_
      refine R_pure (pc := 26) (pc' := 27) (st' := [.int i2, .int i1, .ref 241]) (show z_pt 246 26 = some (3, .iload_n 2, []) by decide +kernel) rfl (fun _ _ _ => rfl) ?_
      obtain ⟨q9, e10, h⟩ := z_bs h
      refine R_call (pc := 27) (rr := []) (show z_pt 246 27 = some (3, .invokevirtual 201, [0, 241, 2, 8024, 8026, 69, 1012, 8027]) by decide +kernel) rfl (show z_r2 241 = some (10, 4, true) by decide +kernel) rfl rfl (Or.inr ⟨_, _, rfl, (by decide +kernel)⟩) (pm_entryOf_run  e10) (by omega) ?_
      refine R_at2 (pc := 30) (st := [.int q9]) ?_
      refine R_const (pc := 30) (pc' := 31) (v := (-1)) (show z_ptc 246 30 = some (31, (-1)) by decide +kernel) ?_
      refine R_icmeq (pc := 31) (t := 38) (show z_pt 246 31 = some (3, .if_icmp .eq 7, []) by decide +kernel) (by decide) (fun c11 => ?_) (fun c11 => ?_)
      · rw [if_pos c11] at h
        refine R_const (pc := 38) (pc' := 39) (v := 0) (show z_ptc 246 38 = some (39, 0) by decide +kernel) ?_
        cases h
        exact R_retZ (show z_pt 246 39 = some (3, .ireturn, []) by decide +kernel) (t := .boolean) (by decide +kernel) (by decide)
      · rw [if_neg c11] at h
        refine R_const (pc := 34) (pc' := 35) (v := 1) (show z_ptc 246 34 = some (35, 1) by decide +kernel) ?_
        refine R_pure (pc := 35) (pc' := 39) (show z_pt 246 35 = some (3, .goto 4, []) by decide +kernel) rfl (fun _ _ _ => rfl) ?_
        cases h
        exact R_retZ (show z_pt 246 39 = some (3, .ireturn, []) by decide +kernel) (t := .boolean) (by decide +kernel) (by decide)
def pm_entryPosition  (μ : z_Mem) (i1 : Int32) (i2 : Int32) (i3 : Int32) : Option (Int32 × z_Mem) := (pm_isKey μ i1 i2).bind fun q1 => if q1 = 0 then (pm_fails μ 1).bind fun q23 => some (q23.1, q23.2) else (pm_entryOf μ i1 i2).bind fun q4 => if q4 = (-1) then (pm_fails μ 2).bind fun q8 => some (q8.1, q8.2) else (z_rd μ 242 331 (265 + q4)).bind fun v10 => (pm_in μ i3 0 (v10 - 1)).bind fun q12 => if q12 = 0 then (pm_fails μ 2).bind fun q16 => some (q16.1, q16.2) else (z_rd μ 242 331 ((271 + (10 * q4)) + i3)).bind fun v19 => (pm_done μ v19).bind fun q21 => some (q21.1, q21.2)
theorem pm_entryPosition_run  {μ : z_Mem} {i1 : Int32} {i2 : Int32} {i3 : Int32}  {r : (Int32 × z_Mem)} (h : pm_entryPosition μ i1 i2 i3 = some r) : Rn 2 247 0 [(0, .ref 241), (1, .int i1), (2, .int i2), (3, .int i3)] [] μ (.inl (some (.int r.1))) r.2 := by
  unfold pm_entryPosition at h
  refine R_pure (pc := 0) (pc' := 1) (st' := [.int i1]) (show z_pt 247 0 = some (6, .iload_n 1, []) by decide +kernel) rfl (fun _ _ _ => rfl) ?_
  refine R_pure (pc := 1) (pc' := 2) (st' := [.int i2, .int i1]) (show z_pt 247 1 = some (6, .iload_n 2, []) by decide +kernel) rfl (fun _ _ _ => rfl) ?_
  obtain ⟨q1, e2, h⟩ := z_bs h
  refine R_call (pc := 2) (rr := []) (show z_pt 247 2 = some (6, .invokestatic 198, [1, 240, 2, 8021, 8022, 0, 1012, 8023]) by decide +kernel) rfl (show z_r2 240 = some (10, 2, true) by decide +kernel) rfl rfl (Or.inl (by decide)) (pm_isKey_run  e2) (by omega) ?_
  refine R_at2 (pc := 5) (st := [.int q1]) ?_
  refine R_ifne (pc := 5) (t := 14) (show z_pt 247 5 = some (6, .ifCond .ne 9, []) by decide +kernel) (by decide) (fun c3 => ?_) (fun c3 => ?_)
  · rw [if_neg c3] at h
    refine R_pure (pc := 14) (pc' := 15) (st' := [.ref 241]) (show z_pt 247 14 = some (6, .aload_n 0, []) by decide +kernel) rfl (fun _ _ _ => rfl) ?_
    refine R_pure (pc := 15) (pc' := 16) (st' := [.int i1, .ref 241]) (show z_pt 247 15 = some (6, .iload_n 1, []) by decide +kernel) rfl (fun _ _ _ => rfl) ?_
    refine R_pure (pc := 16) (pc' := 17) (st' := [.int i2, .int i1, .ref 241]) (show z_pt 247 16 = some (6, .iload_n 2, []) by decide +kernel) rfl (fun _ _ _ => rfl) ?_
    obtain ⟨q4, e5, h⟩ := z_bs h
    refine R_call (pc := 17) (rr := []) (show z_pt 247 17 = some (6, .invokevirtual 201, [0, 241, 2, 8024, 8026, 69, 1012, 8027]) by decide +kernel) rfl (show z_r2 241 = some (10, 4, true) by decide +kernel) rfl rfl (Or.inr ⟨_, _, rfl, (by decide +kernel)⟩) (pm_entryOf_run  e5) (by omega) ?_
    refine R_at2 (pc := 20) (st := [.int q4]) ?_
    refine R_pure (pc := 20) (pc' := 22) (ls' := [(0, .ref 241), (1, .int i1), (2, .int i2), (3, .int i3), (4, .int q4)]) (st' := []) (show z_pt 247 20 = some (6, .istore 4, []) by decide +kernel) rfl (fun _ _ _ => rfl) ?_
    refine R_pure (pc := 22) (pc' := 24) (st' := [.int q4]) (show z_pt 247 22 = some (6, .iload 4, []) by decide +kernel) rfl (fun _ _ _ => rfl) ?_
    refine R_const (pc := 24) (pc' := 25) (v := (-1)) (show z_ptc 247 24 = some (25, (-1)) by decide +kernel) ?_
    refine R_icmeq (pc := 25) (t := 53) (show z_pt 247 25 = some (6, .if_icmp .eq 28, []) by decide +kernel) (by decide) (fun c6 => ?_) (fun c6 => ?_)
    · rw [if_pos c6] at h
      refine R_const (pc := 53) (pc' := 54) (v := 0) (show z_ptc 247 53 = some (54, 0) by decide +kernel) ?_
      refine R_pure (pc := 54) (pc' := 56) (ls' := [(0, .ref 241), (1, .int i1), (2, .int i2), (3, .int i3), (4, .int q4), (5, .int 0)]) (st' := []) (show z_pt 247 54 = some (6, .istore 5, []) by decide +kernel) rfl (fun _ _ _ => rfl) ?_
      refine R_pure (pc := 56) (pc' := 58) (st' := [.int 0]) (show z_pt 247 56 = some (6, .iload 5, []) by decide +kernel) rfl (fun _ _ _ => rfl) ?_
      refine R_ifeq (pc := 58) (t := 84) (show z_pt 247 58 = some (6, .ifCond .eq 26, []) by decide +kernel) (by decide) (fun c7 => ?_) (fun c7 => ?_)
      · skip
        refine R_pure (pc := 84) (pc' := 85) (st' := [.ref 241]) (show z_pt 247 84 = some (6, .aload_n 0, []) by decide +kernel) rfl (fun _ _ _ => rfl) ?_
        refine R_const (pc := 85) (pc' := 86) (v := 2) (show z_ptc 247 85 = some (86, 2) by decide +kernel) ?_
        obtain ⟨q8, e9, h⟩ := z_bs h
        refine R_call (pc := 86) (rr := []) (show z_pt 247 86 = some (6, .invokevirtual 75, [0, 165, 1, 6195, 6197, 36, 1012, 6198]) by decide +kernel) rfl (show z_r2 165 = some (10, 2, true) by decide +kernel) rfl rfl (Or.inr ⟨_, _, rfl, (by decide +kernel)⟩) (pm_fails_run  e9) (by omega) ?_
        refine R_at2 (pc := 89) (st := [.int q8.1]) ?_
        cases h
        exact R_retI (show z_pt 247 89 = some (6, .ireturn, []) by decide +kernel) (by decide +kernel)
      · exact absurd c7 (by decide)
    · rw [if_neg c6] at h
      refine R_pure (pc := 28) (pc' := 29) (st' := [.int i3]) (show z_pt 247 28 = some (6, .iload_n 3, []) by decide +kernel) rfl (fun _ _ _ => rfl) ?_
      refine R_const (pc := 29) (pc' := 30) (v := 0) (show z_ptc 247 29 = some (30, 0) by decide +kernel) ?_
      refine R_pure (pc := 30) (pc' := 31) (st' := [.ref 241, .int 0, .int i3]) (show z_pt 247 30 = some (6, .aload_n 0, []) by decide +kernel) rfl (fun _ _ _ => rfl) ?_
      refine R_getR (pc := 31) (a := 241) (b := 242) (show z_pt 247 31 = some (6, .getfield 7, [10, 0, 6118]) by decide +kernel) (by decide +kernel) ?_
      refine R_at (pc := 34) ?_
      refine R_const (pc := 34) (pc' := 37) (v := 265) (show z_ptc 247 34 = some (37, 265) by decide +kernel) ?_
      refine R_pure (pc := 37) (pc' := 39) (st' := [.int q4, .int 265, .ref 242, .int 0, .int i3]) (show z_pt 247 37 = some (6, .iload 4, []) by decide +kernel) rfl (fun _ _ _ => rfl) ?_
      refine R_pure (pc := 39) (pc' := 40) (st' := [.int (265 + q4), .ref 242, .int 0, .int i3]) (show z_pt 247 39 = some (6, .iadd, []) by decide +kernel) rfl (fun _ _ _ => rfl) ?_
      obtain ⟨v10, e11, h⟩ := z_bs h
      refine R_ialdR (pc := 40) (a := 242) (n := 331) (show z_pt 247 40 = some (6, .iaload, []) by decide +kernel) (show z_ar 242 0 331 = true by decide +kernel) e11 ?_
      refine R_at (pc := 41) ?_
      refine R_const (pc := 41) (pc' := 42) (v := 1) (show z_ptc 247 41 = some (42, 1) by decide +kernel) ?_
      refine R_pure (pc := 42) (pc' := 43) (st' := [.int (v10 - 1), .int 0, .int i3]) (show z_pt 247 42 = some (6, .isub, []) by decide +kernel) rfl (fun _ _ _ => rfl) ?_
      obtain ⟨q12, e13, h⟩ := z_bs h
      refine R_call (pc := 43) (rr := []) (show z_pt 247 43 = some (6, .invokestatic 55, [1, 160, 3, 6192, 6193, 0, 1012, 6194]) by decide +kernel) rfl (show z_r2 160 = some (10, 3, true) by decide +kernel) rfl rfl (Or.inl (by decide)) (pm_in_run  e13) (by omega) ?_
      refine R_at2 (pc := 46) (st := [.int q12]) ?_
      refine R_ifeq (pc := 46) (t := 53) (show z_pt 247 46 = some (6, .ifCond .eq 7, []) by decide +kernel) (by decide) (fun c14 => ?_) (fun c14 => ?_)
      · rw [if_pos c14] at h
        refine R_const (pc := 53) (pc' := 54) (v := 0) (show z_ptc 247 53 = some (54, 0) by decide +kernel) ?_
        refine R_pure (pc := 54) (pc' := 56) (ls' := [(0, .ref 241), (1, .int i1), (2, .int i2), (3, .int i3), (4, .int q4), (5, .int 0)]) (st' := []) (show z_pt 247 54 = some (6, .istore 5, []) by decide +kernel) rfl (fun _ _ _ => rfl) ?_
        refine R_pure (pc := 56) (pc' := 58) (st' := [.int 0]) (show z_pt 247 56 = some (6, .iload 5, []) by decide +kernel) rfl (fun _ _ _ => rfl) ?_
        refine R_ifeq (pc := 58) (t := 84) (show z_pt 247 58 = some (6, .ifCond .eq 26, []) by decide +kernel) (by decide) (fun c15 => ?_) (fun c15 => ?_)
        · skip
          refine R_pure (pc := 84) (pc' := 85) (st' := [.ref 241]) (show z_pt 247 84 = some (6, .aload_n 0, []) by decide +kernel) rfl (fun _ _ _ => rfl) ?_
          refine R_const (pc := 85) (pc' := 86) (v := 2) (show z_ptc 247 85 = some (86, 2) by decide +kernel) ?_
          obtain ⟨q16, e17, h⟩ := z_bs h
          refine R_call (pc := 86) (rr := []) (show z_pt 247 86 = some (6, .invokevirtual 75, [0, 165, 1, 6195, 6197, 36, 1012, 6198]) by decide +kernel) rfl (show z_r2 165 = some (10, 2, true) by decide +kernel) rfl rfl (Or.inr ⟨_, _, rfl, (by decide +kernel)⟩) (pm_fails_run  e17) (by omega) ?_
          refine R_at2 (pc := 89) (st := [.int q16.1]) ?_
          cases h
          exact R_retI (show z_pt 247 89 = some (6, .ireturn, []) by decide +kernel) (by decide +kernel)
        · exact absurd c15 (by decide)
      · rw [if_neg c14] at h
        refine R_const (pc := 49) (pc' := 50) (v := 1) (show z_ptc 247 49 = some (50, 1) by decide +kernel) ?_
        refine R_pure (pc := 50) (pc' := 54) (show z_pt 247 50 = some (6, .goto 4, []) by decide +kernel) rfl (fun _ _ _ => rfl) ?_
        refine R_pure (pc := 54) (pc' := 56) (ls' := [(0, .ref 241), (1, .int i1), (2, .int i2), (3, .int i3), (4, .int q4), (5, .int 1)]) (st' := []) (show z_pt 247 54 = some (6, .istore 5, []) by decide +kernel) rfl (fun _ _ _ => rfl) ?_
        refine R_pure (pc := 56) (pc' := 58) (st' := [.int 1]) (show z_pt 247 56 = some (6, .iload 5, []) by decide +kernel) rfl (fun _ _ _ => rfl) ?_
        refine R_ifeq (pc := 58) (t := 84) (show z_pt 247 58 = some (6, .ifCond .eq 26, []) by decide +kernel) (by decide) (fun c18 => ?_) (fun c18 => ?_)
        · exact absurd c18 (by decide)
        · skip
          refine R_pure (pc := 61) (pc' := 62) (st' := [.ref 241]) (show z_pt 247 61 = some (6, .aload_n 0, []) by decide +kernel) rfl (fun _ _ _ => rfl) ?_
          refine R_pure (pc := 62) (pc' := 63) (st' := [.ref 241, .ref 241]) (show z_pt 247 62 = some (6, .aload_n 0, []) by decide +kernel) rfl (fun _ _ _ => rfl) ?_
          refine R_getR (pc := 63) (a := 241) (b := 242) (show z_pt 247 63 = some (6, .getfield 7, [10, 0, 6118]) by decide +kernel) (by decide +kernel) ?_
          refine R_at (pc := 66) ?_
          refine R_const (pc := 66) (pc' := 69) (v := 271) (show z_ptc 247 66 = some (69, 271) by decide +kernel) ?_
          refine R_const (pc := 69) (pc' := 71) (v := 10) (show z_ptc 247 69 = some (71, 10) by decide +kernel) ?_
          refine R_pure (pc := 71) (pc' := 73) (st' := [.int q4, .int 10, .int 271, .ref 242, .ref 241]) (show z_pt 247 71 = some (6, .iload 4, []) by decide +kernel) rfl (fun _ _ _ => rfl) ?_
          refine R_pure (pc := 73) (pc' := 74) (st' := [.int (10 * q4), .int 271, .ref 242, .ref 241]) (show z_pt 247 73 = some (6, .imul, []) by decide +kernel) rfl (fun _ _ _ => rfl) ?_
          refine R_pure (pc := 74) (pc' := 75) (st' := [.int (271 + (10 * q4)), .ref 242, .ref 241]) (show z_pt 247 74 = some (6, .iadd, []) by decide +kernel) rfl (fun _ _ _ => rfl) ?_
          refine R_pure (pc := 75) (pc' := 76) (st' := [.int i3, .int (271 + (10 * q4)), .ref 242, .ref 241]) (show z_pt 247 75 = some (6, .iload_n 3, []) by decide +kernel) rfl (fun _ _ _ => rfl) ?_
          refine R_pure (pc := 76) (pc' := 77) (st' := [.int ((271 + (10 * q4)) + i3), .ref 242, .ref 241]) (show z_pt 247 76 = some (6, .iadd, []) by decide +kernel) rfl (fun _ _ _ => rfl) ?_
          obtain ⟨v19, e20, h⟩ := z_bs h
          refine R_ialdR (pc := 77) (a := 242) (n := 331) (show z_pt 247 77 = some (6, .iaload, []) by decide +kernel) (show z_ar 242 0 331 = true by decide +kernel) e20 ?_
          refine R_at (pc := 78) ?_
          obtain ⟨q21, e22, h⟩ := z_bs h
          refine R_call (pc := 78) (rr := []) (show z_pt 247 78 = some (6, .invokevirtual 79, [0, 164, 1, 6199, 6201, 37, 1012, 6202]) by decide +kernel) rfl (show z_r2 164 = some (10, 2, true) by decide +kernel) rfl rfl (Or.inr ⟨_, _, rfl, (by decide +kernel)⟩) (pm_done_run  e22) (by omega) ?_
          refine R_at2 (pc := 81) (st := [.int q21.1]) ?_
          refine R_pure (pc := 81) (pc' := 89) (show z_pt 247 81 = some (6, .goto 8, []) by decide +kernel) rfl (fun _ _ _ => rfl) ?_
          cases h
          exact R_retI (show z_pt 247 89 = some (6, .ireturn, []) by decide +kernel) (by decide +kernel)
  · rw [if_pos c3] at h
    refine R_pure (pc := 8) (pc' := 9) (st' := [.ref 241]) (show z_pt 247 8 = some (6, .aload_n 0, []) by decide +kernel) rfl (fun _ _ _ => rfl) ?_
    refine R_const (pc := 9) (pc' := 10) (v := 1) (show z_ptc 247 9 = some (10, 1) by decide +kernel) ?_
    obtain ⟨q23, e24, h⟩ := z_bs h
    refine R_call (pc := 10) (rr := []) (show z_pt 247 10 = some (6, .invokevirtual 75, [0, 165, 1, 6195, 6197, 36, 1012, 6198]) by decide +kernel) rfl (show z_r2 165 = some (10, 2, true) by decide +kernel) rfl rfl (Or.inr ⟨_, _, rfl, (by decide +kernel)⟩) (pm_fails_run  e24) (by omega) ?_
    refine R_at2 (pc := 13) (st := [.int q23.1]) ?_
    cases h
    exact R_retI (show z_pt 247 13 = some (6, .ireturn, []) by decide +kernel) (by decide +kernel)
def pm_changedSince_L38_B (R : Int32 → Int32 → Option (Int32 × z_Mem))  (μ : z_Mem) (f1 : Int32) (f2 : Int32) (f3 : Int32) (K : Int32 → Int32 → Option (Int32 × z_Mem)) (a4 : Int32) (a5 : Int32) : Option (Int32 × z_Mem) := (z_rd μ 242 331 (265 + f3)).bind fun v7 => if v7 ≤ a5 then K a4 a5 else (z_rd μ 242 331 ((271 + (10 * f3)) + a5)).bind fun v10 => (z_rd μ 242 331 (17 + a5)).bind fun v12 => if v10 = v12 then R (a4 + 0) (a5 + 1) else R (a4 + 1) (a5 + 1)
def pm_changedSince_L38 : Nat → z_Mem → Int32 → Int32 → Int32 → (Int32 → Int32 → Option (Int32 × z_Mem)) → Int32 → Int32 → Option (Int32 × z_Mem)
  | 0 => fun _ _ _ _ _ _ _ => none
  | n + 1 => fun μ f1 f2 f3 K a4 a5 => pm_changedSince_L38_B (pm_changedSince_L38 n μ f1 f2 f3 K) μ f1 f2 f3 K a4 a5
theorem pm_changedSince_L38_run  (μ : z_Mem) (f1 : Int32) (f2 : Int32) (f3 : Int32) (K : Int32 → Int32 → Option (Int32 × z_Mem))  (D : Nat) (hD : 2 ≤ D) (hK : ∀ (a4 a5 : Int32) (r : (Int32 × z_Mem)), K a4 a5 = some r → Rn D 248 98 [(0, .ref 241), (1, .int f1), (2, .int f2), (3, .int f3), (4, .int a4), (5, .int a5)] [] μ (.inl (some (.int r.1))) r.2) : ∀ (n : Nat) (a4 : Int32) (a5 : Int32) (r : (Int32 × z_Mem)), pm_changedSince_L38 n μ f1 f2 f3 K a4 a5 = some r → Rn D 248 38 [(0, .ref 241), (1, .int f1), (2, .int f2), (3, .int f3), (4, .int a4), (5, .int a5)] [] μ (.inl (some (.int r.1))) r.2 := by
  intro n
  induction n with
  | zero => intro a4 a5 r h; cases h
  | succ n ih =>
    intro a4 a5 r h
    have h : pm_changedSince_L38_B (pm_changedSince_L38 n μ f1 f2 f3 K) μ f1 f2 f3 K a4 a5 = some r := h
    unfold pm_changedSince_L38_B at h
    refine R_pure (pc := 38) (pc' := 40) (st' := [.int a5]) (show z_pt 248 38 = some (6, .iload 5, []) by decide +kernel) rfl (fun _ _ _ => rfl) ?_
    refine R_pure (pc := 40) (pc' := 41) (st' := [.ref 241, .int a5]) (show z_pt 248 40 = some (6, .aload_n 0, []) by decide +kernel) rfl (fun _ _ _ => rfl) ?_
    refine R_getR (pc := 41) (a := 241) (b := 242) (show z_pt 248 41 = some (6, .getfield 7, [10, 0, 6118]) by decide +kernel) (by decide +kernel) ?_
    refine R_at (pc := 44) ?_
    refine R_const (pc := 44) (pc' := 47) (v := 265) (show z_ptc 248 44 = some (47, 265) by decide +kernel) ?_
    refine R_pure (pc := 47) (pc' := 48) (st' := [.int f3, .int 265, .ref 242, .int a5]) (show z_pt 248 47 = some (6, .iload_n 3, []) by decide +kernel) rfl (fun _ _ _ => rfl) ?_
    refine R_pure (pc := 48) (pc' := 49) (st' := [.int (265 + f3), .ref 242, .int a5]) (show z_pt 248 48 = some (6, .iadd, []) by decide +kernel) rfl (fun _ _ _ => rfl) ?_
    obtain ⟨v7, e8, h⟩ := z_bs h
    refine R_ialdR (pc := 49) (a := 242) (n := 331) (show z_pt 248 49 = some (6, .iaload, []) by decide +kernel) (show z_ar 242 0 331 = true by decide +kernel) e8 ?_
    refine R_at (pc := 50) ?_
    refine R_icmge (pc := 50) (t := 98) (show z_pt 248 50 = some (6, .if_icmp .ge 48, []) by decide +kernel) (by decide) (fun c9 => ?_) (fun c9 => ?_)
    · rw [if_pos c9] at h
      exact hK _ _  _ h
    · rw [if_neg c9] at h
      refine R_pure (pc := 53) (pc' := 55) (st' := [.int a4]) (show z_pt 248 53 = some (6, .iload 4, []) by decide +kernel) rfl (fun _ _ _ => rfl) ?_
      refine R_pure (pc := 55) (pc' := 56) (st' := [.ref 241, .int a4]) (show z_pt 248 55 = some (6, .aload_n 0, []) by decide +kernel) rfl (fun _ _ _ => rfl) ?_
      refine R_getR (pc := 56) (a := 241) (b := 242) (show z_pt 248 56 = some (6, .getfield 7, [10, 0, 6118]) by decide +kernel) (by decide +kernel) ?_
      refine R_at (pc := 59) ?_
      refine R_const (pc := 59) (pc' := 62) (v := 271) (show z_ptc 248 59 = some (62, 271) by decide +kernel) ?_
      refine R_const (pc := 62) (pc' := 64) (v := 10) (show z_ptc 248 62 = some (64, 10) by decide +kernel) ?_
      refine R_pure (pc := 64) (pc' := 65) (st' := [.int f3, .int 10, .int 271, .ref 242, .int a4]) (show z_pt 248 64 = some (6, .iload_n 3, []) by decide +kernel) rfl (fun _ _ _ => rfl) ?_
      refine R_pure (pc := 65) (pc' := 66) (st' := [.int (10 * f3), .int 271, .ref 242, .int a4]) (show z_pt 248 65 = some (6, .imul, []) by decide +kernel) rfl (fun _ _ _ => rfl) ?_
      refine R_pure (pc := 66) (pc' := 67) (st' := [.int (271 + (10 * f3)), .ref 242, .int a4]) (show z_pt 248 66 = some (6, .iadd, []) by decide +kernel) rfl (fun _ _ _ => rfl) ?_
      refine R_pure (pc := 67) (pc' := 69) (st' := [.int a5, .int (271 + (10 * f3)), .ref 242, .int a4]) (show z_pt 248 67 = some (6, .iload 5, []) by decide +kernel) rfl (fun _ _ _ => rfl) ?_
      refine R_pure (pc := 69) (pc' := 70) (st' := [.int ((271 + (10 * f3)) + a5), .ref 242, .int a4]) (show z_pt 248 69 = some (6, .iadd, []) by decide +kernel) rfl (fun _ _ _ => rfl) ?_
      obtain ⟨v10, e11, h⟩ := z_bs h
      refine R_ialdR (pc := 70) (a := 242) (n := 331) (show z_pt 248 70 = some (6, .iaload, []) by decide +kernel) (show z_ar 242 0 331 = true by decide +kernel) e11 ?_
      refine R_at (pc := 71) ?_
      refine R_pure (pc := 71) (pc' := 72) (st' := [.ref 241, .int v10, .int a4]) (show z_pt 248 71 = some (6, .aload_n 0, []) by decide +kernel) rfl (fun _ _ _ => rfl) ?_
      refine R_getR (pc := 72) (a := 241) (b := 242) (show z_pt 248 72 = some (6, .getfield 7, [10, 0, 6118]) by decide +kernel) (by decide +kernel) ?_
      refine R_at (pc := 75) ?_
      refine R_const (pc := 75) (pc' := 77) (v := 17) (show z_ptc 248 75 = some (77, 17) by decide +kernel) ?_
      refine R_pure (pc := 77) (pc' := 79) (st' := [.int a5, .int 17, .ref 242, .int v10, .int a4]) (show z_pt 248 77 = some (6, .iload 5, []) by decide +kernel) rfl (fun _ _ _ => rfl) ?_
      refine R_pure (pc := 79) (pc' := 80) (st' := [.int (17 + a5), .ref 242, .int v10, .int a4]) (show z_pt 248 79 = some (6, .iadd, []) by decide +kernel) rfl (fun _ _ _ => rfl) ?_
      obtain ⟨v12, e13, h⟩ := z_bs h
      refine R_ialdR (pc := 80) (a := 242) (n := 331) (show z_pt 248 80 = some (6, .iaload, []) by decide +kernel) (show z_ar 242 0 331 = true by decide +kernel) e13 ?_
      refine R_at (pc := 81) ?_
      refine R_icmeq (pc := 81) (t := 88) (show z_pt 248 81 = some (6, .if_icmp .eq 7, []) by decide +kernel) (by decide) (fun c14 => ?_) (fun c14 => ?_)
      · rw [if_pos c14] at h
        refine R_const (pc := 88) (pc' := 89) (v := 0) (show z_ptc 248 88 = some (89, 0) by decide +kernel) ?_
        refine R_pure (pc := 89) (pc' := 90) (st' := [.int (a4 + 0)]) (show z_pt 248 89 = some (6, .iadd, []) by decide +kernel) rfl (fun _ _ _ => rfl) ?_
        refine R_pure (pc := 90) (pc' := 92) (ls' := [(0, .ref 241), (1, .int f1), (2, .int f2), (3, .int f3), (4, .int (a4 + 0)), (5, .int a5)]) (st' := []) (show z_pt 248 90 = some (6, .istore 4, []) by decide +kernel) rfl (fun _ _ _ => rfl) ?_
        refine R_inc (pc := 92) (pc' := 95) (ls' := [(0, .ref 241), (1, .int f1), (2, .int f2), (3, .int f3), (4, .int (a4 + 0)), (5, .int (a5 + 1))]) (c := 1) (show z_pt 248 92 = some (6, .iinc 5 1, []) by decide +kernel) (by decide) rfl rfl ?_
        refine R_pure (pc := 95) (pc' := 38) (ls' := [(0, .ref 241), (1, .int f1), (2, .int f2), (3, .int f3), (4, .int (a4 + 0)), (5, .int (a5 + 1))]) (st' := []) (show z_pt 248 95 = some (6, .goto (-57), [6]) by decide +kernel) rfl (fun _ _ _ => rfl) ?_
        exact ih _ _ _  h
      · rw [if_neg c14] at h
        refine R_const (pc := 84) (pc' := 85) (v := 1) (show z_ptc 248 84 = some (85, 1) by decide +kernel) ?_
        refine R_pure (pc := 85) (pc' := 89) (show z_pt 248 85 = some (6, .goto 4, []) by decide +kernel) rfl (fun _ _ _ => rfl) ?_
        refine R_pure (pc := 89) (pc' := 90) (st' := [.int (a4 + 1)]) (show z_pt 248 89 = some (6, .iadd, []) by decide +kernel) rfl (fun _ _ _ => rfl) ?_
        refine R_pure (pc := 90) (pc' := 92) (ls' := [(0, .ref 241), (1, .int f1), (2, .int f2), (3, .int f3), (4, .int (a4 + 1)), (5, .int a5)]) (st' := []) (show z_pt 248 90 = some (6, .istore 4, []) by decide +kernel) rfl (fun _ _ _ => rfl) ?_
        refine R_inc (pc := 92) (pc' := 95) (ls' := [(0, .ref 241), (1, .int f1), (2, .int f2), (3, .int f3), (4, .int (a4 + 1)), (5, .int (a5 + 1))]) (c := 1) (show z_pt 248 92 = some (6, .iinc 5 1, []) by decide +kernel) (by decide) rfl rfl ?_
        refine R_pure (pc := 95) (pc' := 38) (ls' := [(0, .ref 241), (1, .int f1), (2, .int f2), (3, .int f3), (4, .int (a4 + 1)), (5, .int (a5 + 1))]) (st' := []) (show z_pt 248 95 = some (6, .goto (-57), [6]) by decide +kernel) rfl (fun _ _ _ => rfl) ?_
        exact ih _ _ _  h
def pm_changedSince  (μ : z_Mem) (i1 : Int32) (i2 : Int32) : Option (Int32 × z_Mem) := (pm_isKey μ i1 i2).bind fun q1 => if q1 = 0 then (pm_fails μ 1).bind fun q21 => some (q21.1, q21.2) else (pm_entryOf μ i1 i2).bind fun q4 => if q4 = (-1) then (pm_fails μ 2).bind fun q19 => some (q19.1, q19.2) else pm_changedSince_L38 z_fu μ i1 i2 q4 (fun k15 k16 => (pm_done μ k15).bind fun q17 => some (q17.1, q17.2)) 0 0
theorem pm_changedSince_run  {μ : z_Mem} {i1 : Int32} {i2 : Int32}  {r : (Int32 × z_Mem)} (h : pm_changedSince μ i1 i2 = some r) : Rn 2 248 0 [(0, .ref 241), (1, .int i1), (2, .int i2)] [] μ (.inl (some (.int r.1))) r.2 := by
  unfold pm_changedSince at h
  refine R_pure (pc := 0) (pc' := 1) (st' := [.int i1]) (show z_pt 248 0 = some (6, .iload_n 1, []) by decide +kernel) rfl (fun _ _ _ => rfl) ?_
  refine R_pure (pc := 1) (pc' := 2) (st' := [.int i2, .int i1]) (show z_pt 248 1 = some (6, .iload_n 2, []) by decide +kernel) rfl (fun _ _ _ => rfl) ?_
  obtain ⟨q1, e2, h⟩ := z_bs h
  refine R_call (pc := 2) (rr := []) (show z_pt 248 2 = some (6, .invokestatic 198, [1, 240, 2, 8021, 8022, 0, 1012, 8023]) by decide +kernel) rfl (show z_r2 240 = some (10, 2, true) by decide +kernel) rfl rfl (Or.inl (by decide)) (pm_isKey_run  e2) (by omega) ?_
  refine R_at2 (pc := 5) (st := [.int q1]) ?_
  refine R_ifne (pc := 5) (t := 14) (show z_pt 248 5 = some (6, .ifCond .ne 9, []) by decide +kernel) (by decide) (fun c3 => ?_) (fun c3 => ?_)
  · rw [if_neg c3] at h
    refine R_pure (pc := 14) (pc' := 15) (st' := [.ref 241]) (show z_pt 248 14 = some (6, .aload_n 0, []) by decide +kernel) rfl (fun _ _ _ => rfl) ?_
    refine R_pure (pc := 15) (pc' := 16) (st' := [.int i1, .ref 241]) (show z_pt 248 15 = some (6, .iload_n 1, []) by decide +kernel) rfl (fun _ _ _ => rfl) ?_
    refine R_pure (pc := 16) (pc' := 17) (st' := [.int i2, .int i1, .ref 241]) (show z_pt 248 16 = some (6, .iload_n 2, []) by decide +kernel) rfl (fun _ _ _ => rfl) ?_
    obtain ⟨q4, e5, h⟩ := z_bs h
    refine R_call (pc := 17) (rr := []) (show z_pt 248 17 = some (6, .invokevirtual 201, [0, 241, 2, 8024, 8026, 69, 1012, 8027]) by decide +kernel) rfl (show z_r2 241 = some (10, 4, true) by decide +kernel) rfl rfl (Or.inr ⟨_, _, rfl, (by decide +kernel)⟩) (pm_entryOf_run  e5) (by omega) ?_
    refine R_at2 (pc := 20) (st := [.int q4]) ?_
    refine R_pure (pc := 20) (pc' := 21) (ls' := [(0, .ref 241), (1, .int i1), (2, .int i2), (3, .int q4)]) (st' := []) (show z_pt 248 20 = some (6, .istore_n 3, []) by decide +kernel) rfl (fun _ _ _ => rfl) ?_
    refine R_pure (pc := 21) (pc' := 22) (st' := [.int q4]) (show z_pt 248 21 = some (6, .iload_n 3, []) by decide +kernel) rfl (fun _ _ _ => rfl) ?_
    refine R_const (pc := 22) (pc' := 23) (v := (-1)) (show z_ptc 248 22 = some (23, (-1)) by decide +kernel) ?_
    refine R_icmne (pc := 23) (t := 32) (show z_pt 248 23 = some (6, .if_icmp .ne 9, []) by decide +kernel) (by decide) (fun c6 => ?_) (fun c6 => ?_)
    · rw [if_neg c6] at h
      refine R_const (pc := 32) (pc' := 33) (v := 0) (show z_ptc 248 32 = some (33, 0) by decide +kernel) ?_
      refine R_pure (pc := 33) (pc' := 35) (ls' := [(0, .ref 241), (1, .int i1), (2, .int i2), (3, .int q4), (4, .int 0)]) (st' := []) (show z_pt 248 33 = some (6, .istore 4, []) by decide +kernel) rfl (fun _ _ _ => rfl) ?_
      refine R_const (pc := 35) (pc' := 36) (v := 0) (show z_ptc 248 35 = some (36, 0) by decide +kernel) ?_
      refine R_pure (pc := 36) (pc' := 38) (ls' := [(0, .ref 241), (1, .int i1), (2, .int i2), (3, .int q4), (4, .int 0), (5, .int 0)]) (st' := []) (show z_pt 248 36 = some (6, .istore 5, []) by decide +kernel) rfl (fun _ _ _ => rfl) ?_
      refine pm_changedSince_L38_run  _ _ _ _ _  _ (by omega) ?_ _ _ _ _ h
      intro k15 k16 r h
      refine R_pure (pc := 98) (pc' := 99) (st' := [.ref 241]) (show z_pt 248 98 = some (6, .aload_n 0, []) by decide +kernel) rfl (fun _ _ _ => rfl) ?_
      refine R_pure (pc := 99) (pc' := 101) (st' := [.int k15, .ref 241]) (show z_pt 248 99 = some (6, .iload 4, []) by decide +kernel) rfl (fun _ _ _ => rfl) ?_
      obtain ⟨q17, e18, h⟩ := z_bs h
      refine R_call (pc := 101) (rr := []) (show z_pt 248 101 = some (6, .invokevirtual 79, [0, 164, 1, 6199, 6201, 37, 1012, 6202]) by decide +kernel) rfl (show z_r2 164 = some (10, 2, true) by decide +kernel) rfl rfl (Or.inr ⟨_, _, rfl, (by decide +kernel)⟩) (pm_done_run  e18) (by omega) ?_
      refine R_at2 (pc := 104) (st := [.int q17.1]) ?_
      cases h
      exact R_retI (show z_pt 248 104 = some (6, .ireturn, []) by decide +kernel) (by decide +kernel)
    · rw [if_pos c6] at h
      refine R_pure (pc := 26) (pc' := 27) (st' := [.ref 241]) (show z_pt 248 26 = some (6, .aload_n 0, []) by decide +kernel) rfl (fun _ _ _ => rfl) ?_
      refine R_const (pc := 27) (pc' := 28) (v := 2) (show z_ptc 248 27 = some (28, 2) by decide +kernel) ?_
      obtain ⟨q19, e20, h⟩ := z_bs h
      refine R_call (pc := 28) (rr := []) (show z_pt 248 28 = some (6, .invokevirtual 75, [0, 165, 1, 6195, 6197, 36, 1012, 6198]) by decide +kernel) rfl (show z_r2 165 = some (10, 2, true) by decide +kernel) rfl rfl (Or.inr ⟨_, _, rfl, (by decide +kernel)⟩) (pm_fails_run  e20) (by omega) ?_
      refine R_at2 (pc := 31) (st := [.int q19.1]) ?_
      cases h
      exact R_retI (show z_pt 248 31 = some (6, .ireturn, []) by decide +kernel) (by decide +kernel)
  · rw [if_pos c3] at h
    refine R_pure (pc := 8) (pc' := 9) (st' := [.ref 241]) (show z_pt 248 8 = some (6, .aload_n 0, []) by decide +kernel) rfl (fun _ _ _ => rfl) ?_
    refine R_const (pc := 9) (pc' := 10) (v := 1) (show z_ptc 248 9 = some (10, 1) by decide +kernel) ?_
    obtain ⟨q21, e22, h⟩ := z_bs h
    refine R_call (pc := 10) (rr := []) (show z_pt 248 10 = some (6, .invokevirtual 75, [0, 165, 1, 6195, 6197, 36, 1012, 6198]) by decide +kernel) rfl (show z_r2 165 = some (10, 2, true) by decide +kernel) rfl rfl (Or.inr ⟨_, _, rfl, (by decide +kernel)⟩) (pm_fails_run  e22) (by omega) ?_
    refine R_at2 (pc := 13) (st := [.int q21.1]) ?_
    cases h
    exact R_retI (show z_pt 248 13 = some (6, .ireturn, []) by decide +kernel) (by decide +kernel)
def pm_meanTeeth_L4_B (R : Int32 → Int32 → Option (UInt64 × z_Mem))  (μ : z_Mem)  (K : Int32 → Int32 → Option (UInt64 × z_Mem)) (a1 : Int32) (a2 : Int32) : Option (UInt64 × z_Mem) := if (μ 242 0) ≤ a2 then K a1 a2 else (z_rd μ 242 331 (7 + a2)).bind fun v2 => R (a1 + v2) (a2 + 1)
def pm_meanTeeth_L4 : Nat → z_Mem → (Int32 → Int32 → Option (UInt64 × z_Mem)) → Int32 → Int32 → Option (UInt64 × z_Mem)
  | 0 => fun _ _ _ _ => none
  | n + 1 => fun μ K a1 a2 => pm_meanTeeth_L4_B (pm_meanTeeth_L4 n μ K) μ K a1 a2
theorem pm_meanTeeth_L4_run  (μ : z_Mem)  (K : Int32 → Int32 → Option (UInt64 × z_Mem))  (D : Nat) (hD : 0 ≤ D) (hK : ∀ (a1 a2 : Int32) (r : (UInt64 × z_Mem)), K a1 a2 = some r → Rn D 249 32 [(0, .ref 241), (1, .int a1), (2, .int a2)] [] μ (.inl (some (.double r.1))) r.2) : ∀ (n : Nat) (a1 : Int32) (a2 : Int32) (r : (UInt64 × z_Mem)), pm_meanTeeth_L4 n μ K a1 a2 = some r → Rn D 249 4 [(0, .ref 241), (1, .int a1), (2, .int a2)] [] μ (.inl (some (.double r.1))) r.2 := by
  intro n
  induction n with
  | zero => intro a1 a2 r h; cases h
  | succ n ih =>
    intro a1 a2 r h
    have h : pm_meanTeeth_L4_B (pm_meanTeeth_L4 n μ K) μ K a1 a2 = some r := h
    unfold pm_meanTeeth_L4_B at h
    refine R_pure (pc := 4) (pc' := 5) (st' := [.int a2]) (show z_pt 249 4 = some (3, .iload_n 2, []) by decide +kernel) rfl (fun _ _ _ => rfl) ?_
    refine R_pure (pc := 5) (pc' := 6) (st' := [.ref 241, .int a2]) (show z_pt 249 5 = some (3, .aload_n 0, []) by decide +kernel) rfl (fun _ _ _ => rfl) ?_
    refine R_getR (pc := 6) (a := 241) (b := 242) (show z_pt 249 6 = some (3, .getfield 7, [10, 0, 6118]) by decide +kernel) (by decide +kernel) ?_
    refine R_at (pc := 9) ?_
    refine R_const (pc := 9) (pc' := 10) (v := 0) (show z_ptc 249 9 = some (10, 0) by decide +kernel) ?_
    refine R_ialdK (pc := 10) (a := 242) (n := 331) (jn := 0) (show z_pt 249 10 = some (3, .iaload, []) by decide +kernel) (show z_ar 242 0 331 = true by decide +kernel) (by decide) (by decide) ?_
    refine R_at (pc := 11) ?_
    refine R_icmge (pc := 11) (t := 32) (show z_pt 249 11 = some (3, .if_icmp .ge 21, []) by decide +kernel) (by decide) (fun c1 => ?_) (fun c1 => ?_)
    · rw [if_pos c1] at h
      exact hK _ _  _ h
    · rw [if_neg c1] at h
      refine R_pure (pc := 14) (pc' := 15) (st' := [.int a1]) (show z_pt 249 14 = some (3, .iload_n 1, []) by decide +kernel) rfl (fun _ _ _ => rfl) ?_
      refine R_pure (pc := 15) (pc' := 16) (st' := [.ref 241, .int a1]) (show z_pt 249 15 = some (3, .aload_n 0, []) by decide +kernel) rfl (fun _ _ _ => rfl) ?_
      refine R_getR (pc := 16) (a := 241) (b := 242) (show z_pt 249 16 = some (3, .getfield 7, [10, 0, 6118]) by decide +kernel) (by decide +kernel) ?_
      refine R_at (pc := 19) ?_
      refine R_const (pc := 19) (pc' := 21) (v := 7) (show z_ptc 249 19 = some (21, 7) by decide +kernel) ?_
      refine R_pure (pc := 21) (pc' := 22) (st' := [.int a2, .int 7, .ref 242, .int a1]) (show z_pt 249 21 = some (3, .iload_n 2, []) by decide +kernel) rfl (fun _ _ _ => rfl) ?_
      refine R_pure (pc := 22) (pc' := 23) (st' := [.int (7 + a2), .ref 242, .int a1]) (show z_pt 249 22 = some (3, .iadd, []) by decide +kernel) rfl (fun _ _ _ => rfl) ?_
      obtain ⟨v2, e3, h⟩ := z_bs h
      refine R_ialdR (pc := 23) (a := 242) (n := 331) (show z_pt 249 23 = some (3, .iaload, []) by decide +kernel) (show z_ar 242 0 331 = true by decide +kernel) e3 ?_
      refine R_at (pc := 24) ?_
      refine R_pure (pc := 24) (pc' := 25) (st' := [.int (a1 + v2)]) (show z_pt 249 24 = some (3, .iadd, []) by decide +kernel) rfl (fun _ _ _ => rfl) ?_
      refine R_pure (pc := 25) (pc' := 26) (ls' := [(0, .ref 241), (1, .int (a1 + v2)), (2, .int a2)]) (st' := []) (show z_pt 249 25 = some (3, .istore_n 1, []) by decide +kernel) rfl (fun _ _ _ => rfl) ?_
      refine R_inc (pc := 26) (pc' := 29) (ls' := [(0, .ref 241), (1, .int (a1 + v2)), (2, .int (a2 + 1))]) (c := 1) (show z_pt 249 26 = some (3, .iinc 2 1, []) by decide +kernel) (by decide) rfl rfl ?_
      refine R_pure (pc := 29) (pc' := 4) (ls' := [(0, .ref 241), (1, .int (a1 + v2)), (2, .int (a2 + 1))]) (st' := []) (show z_pt 249 29 = some (3, .goto (-25), [3]) by decide +kernel) rfl (fun _ _ _ => rfl) ?_
      exact ih _ _ _  h
def pm_meanTeeth  (μ : z_Mem)  : Option (UInt64 × z_Mem) := pm_meanTeeth_L4 z_fu μ (fun k4 k5 => if (μ 242 0) = 0 then if ((z_u μ 241 12 1) 241 12) = 0 then if z_n64 (FP.ddiv (FP.i2d k4) (FP.i2d ((z_u μ 241 12 1) 242 0))) = true then some ((FP.ddiv (FP.i2d k4) (FP.i2d ((z_u μ 241 12 1) 242 0))), (z_u μ 241 12 1)) else none else some (FP.dconst0, (z_u μ 241 12 1)) else if ((z_u μ 241 12 0) 241 12) = 0 then if z_n64 (FP.ddiv (FP.i2d k4) (FP.i2d ((z_u μ 241 12 0) 242 0))) = true then some ((FP.ddiv (FP.i2d k4) (FP.i2d ((z_u μ 241 12 0) 242 0))), (z_u μ 241 12 0)) else none else some (FP.dconst0, (z_u μ 241 12 0))) 0 0
theorem pm_meanTeeth_run  {μ : z_Mem}   {r : (UInt64 × z_Mem)} (h : pm_meanTeeth μ = some r) : Rn 0 249 0 [(0, .ref 241)] [] μ (.inl (some (.double r.1))) r.2 := by
  unfold pm_meanTeeth at h
  refine R_const (pc := 0) (pc' := 1) (v := 0) (show z_ptc 249 0 = some (1, 0) by decide +kernel) ?_
  refine R_pure (pc := 1) (pc' := 2) (ls' := [(0, .ref 241), (1, .int 0)]) (st' := []) (show z_pt 249 1 = some (3, .istore_n 1, []) by decide +kernel) rfl (fun _ _ _ => rfl) ?_
  refine R_const (pc := 2) (pc' := 3) (v := 0) (show z_ptc 249 2 = some (3, 0) by decide +kernel) ?_
  refine R_pure (pc := 3) (pc' := 4) (ls' := [(0, .ref 241), (1, .int 0), (2, .int 0)]) (st' := []) (show z_pt 249 3 = some (3, .istore_n 2, []) by decide +kernel) rfl (fun _ _ _ => rfl) ?_
  refine pm_meanTeeth_L4_run  _  _  _ (by omega) ?_ _ _ _ _ h
  intro k4 k5 r h
  refine R_pure (pc := 32) (pc' := 33) (st' := [.ref 241]) (show z_pt 249 32 = some (3, .aload_n 0, []) by decide +kernel) rfl (fun _ _ _ => rfl) ?_
  refine R_pure (pc := 33) (pc' := 34) (st' := [.ref 241, .ref 241]) (show z_pt 249 33 = some (3, .aload_n 0, []) by decide +kernel) rfl (fun _ _ _ => rfl) ?_
  refine R_getR (pc := 34) (a := 241) (b := 242) (show z_pt 249 34 = some (3, .getfield 7, [10, 0, 6118]) by decide +kernel) (by decide +kernel) ?_
  refine R_at (pc := 37) ?_
  refine R_const (pc := 37) (pc' := 38) (v := 0) (show z_ptc 249 37 = some (38, 0) by decide +kernel) ?_
  refine R_ialdK (pc := 38) (a := 242) (n := 331) (jn := 0) (show z_pt 249 38 = some (3, .iaload, []) by decide +kernel) (show z_ar 242 0 331 = true by decide +kernel) (by decide) (by decide) ?_
  refine R_at (pc := 39) ?_
  refine R_ifne (pc := 39) (t := 46) (show z_pt 249 39 = some (3, .ifCond .ne 7, []) by decide +kernel) (by decide) (fun c6 => ?_) (fun c6 => ?_)
  · rw [if_neg c6] at h
    refine R_const (pc := 46) (pc' := 47) (v := 0) (show z_ptc 249 46 = some (47, 0) by decide +kernel) ?_
    refine R_putI (pc := 47) (a := 241) (show z_pt 249 47 = some (3, .putfield 45, [10, 12, 6130]) by decide +kernel) (by decide +kernel) ⟨rfl, rfl⟩ ?_
    refine R_at (pc := 50) ?_
    refine R_pure (pc := 50) (pc' := 51) (st' := [.ref 241]) (show z_pt 249 50 = some (3, .aload_n 0, []) by decide +kernel) rfl (fun _ _ _ => rfl) ?_
    refine R_getI (pc := 51) (a := 241) (show z_pt 249 51 = some (3, .getfield 45, [10, 12, 6130]) by decide +kernel) (by decide +kernel) ?_
    refine R_at (pc := 54) ?_
    refine R_ifne (pc := 54) (t := 70) (show z_pt 249 54 = some (3, .ifCond .ne 16, []) by decide +kernel) (by decide) (fun c7 => ?_) (fun c7 => ?_)
    · rw [if_neg c7] at h
      refine R_pure (pc := 70) (pc' := 71) (st' := [.double FP.dconst0]) (show z_pt 249 70 = some (3, .dconst 0, []) by decide +kernel) rfl (fun _ _ _ => rfl) ?_
      cases h
      exact R_retD (show z_pt 249 71 = some (3, .dreturn, []) by decide +kernel) (by decide +kernel)
    · rw [if_pos c7] at h
      refine R_pure (pc := 57) (pc' := 58) (st' := [.int k4]) (show z_pt 249 57 = some (3, .iload_n 1, []) by decide +kernel) rfl (fun _ _ _ => rfl) ?_
      refine R_pure (pc := 58) (pc' := 59) (st' := [.double (FP.i2d k4)]) (show z_pt 249 58 = some (3, .i2d, []) by decide +kernel) rfl (fun _ _ _ => rfl) ?_
      refine R_pure (pc := 59) (pc' := 60) (st' := [.ref 241, .double (FP.i2d k4)]) (show z_pt 249 59 = some (3, .aload_n 0, []) by decide +kernel) rfl (fun _ _ _ => rfl) ?_
      refine R_getR (pc := 60) (a := 241) (b := 242) (show z_pt 249 60 = some (3, .getfield 7, [10, 0, 6118]) by decide +kernel) (by decide +kernel) ?_
      refine R_at (pc := 63) ?_
      refine R_const (pc := 63) (pc' := 64) (v := 0) (show z_ptc 249 63 = some (64, 0) by decide +kernel) ?_
      refine R_ialdK (pc := 64) (a := 242) (n := 331) (jn := 0) (show z_pt 249 64 = some (3, .iaload, []) by decide +kernel) (show z_ar 242 0 331 = true by decide +kernel) (by decide) (by decide) ?_
      refine R_at (pc := 65) ?_
      refine R_pure (pc := 65) (pc' := 66) (st' := [.double (FP.i2d ((z_u μ 241 12 0) 242 0)), .double (FP.i2d k4)]) (show z_pt 249 65 = some (3, .i2d, []) by decide +kernel) rfl (fun _ _ _ => rfl) ?_
      obtain ⟨g8, h⟩ := z_ig h
      refine R_ddiv (show z_pt 249 66 = some (3, .ddiv, []) by decide +kernel) g8 ?_
      refine R_pure (pc := 67) (pc' := 71) (show z_pt 249 67 = some (3, .goto 4, []) by decide +kernel) rfl (fun _ _ _ => rfl) ?_
      cases h
      exact R_retD (show z_pt 249 71 = some (3, .dreturn, []) by decide +kernel) (by decide +kernel)
  · rw [if_pos c6] at h
    refine R_const (pc := 42) (pc' := 43) (v := 1) (show z_ptc 249 42 = some (43, 1) by decide +kernel) ?_
    refine R_pure (pc := 43) (pc' := 47) (show z_pt 249 43 = some (3, .goto 4, []) by decide +kernel) rfl (fun _ _ _ => rfl) ?_
    refine R_putI (pc := 47) (a := 241) (show z_pt 249 47 = some (3, .putfield 45, [10, 12, 6130]) by decide +kernel) (by decide +kernel) ⟨rfl, rfl⟩ ?_
    refine R_at (pc := 50) ?_
    refine R_pure (pc := 50) (pc' := 51) (st' := [.ref 241]) (show z_pt 249 50 = some (3, .aload_n 0, []) by decide +kernel) rfl (fun _ _ _ => rfl) ?_
    refine R_getI (pc := 51) (a := 241) (show z_pt 249 51 = some (3, .getfield 45, [10, 12, 6130]) by decide +kernel) (by decide +kernel) ?_
    refine R_at (pc := 54) ?_
    refine R_ifne (pc := 54) (t := 70) (show z_pt 249 54 = some (3, .ifCond .ne 16, []) by decide +kernel) (by decide) (fun c9 => ?_) (fun c9 => ?_)
    · rw [if_neg c9] at h
      refine R_pure (pc := 70) (pc' := 71) (st' := [.double FP.dconst0]) (show z_pt 249 70 = some (3, .dconst 0, []) by decide +kernel) rfl (fun _ _ _ => rfl) ?_
      cases h
      exact R_retD (show z_pt 249 71 = some (3, .dreturn, []) by decide +kernel) (by decide +kernel)
    · rw [if_pos c9] at h
      refine R_pure (pc := 57) (pc' := 58) (st' := [.int k4]) (show z_pt 249 57 = some (3, .iload_n 1, []) by decide +kernel) rfl (fun _ _ _ => rfl) ?_
      refine R_pure (pc := 58) (pc' := 59) (st' := [.double (FP.i2d k4)]) (show z_pt 249 58 = some (3, .i2d, []) by decide +kernel) rfl (fun _ _ _ => rfl) ?_
      refine R_pure (pc := 59) (pc' := 60) (st' := [.ref 241, .double (FP.i2d k4)]) (show z_pt 249 59 = some (3, .aload_n 0, []) by decide +kernel) rfl (fun _ _ _ => rfl) ?_
      refine R_getR (pc := 60) (a := 241) (b := 242) (show z_pt 249 60 = some (3, .getfield 7, [10, 0, 6118]) by decide +kernel) (by decide +kernel) ?_
      refine R_at (pc := 63) ?_
      refine R_const (pc := 63) (pc' := 64) (v := 0) (show z_ptc 249 63 = some (64, 0) by decide +kernel) ?_
      refine R_ialdK (pc := 64) (a := 242) (n := 331) (jn := 0) (show z_pt 249 64 = some (3, .iaload, []) by decide +kernel) (show z_ar 242 0 331 = true by decide +kernel) (by decide) (by decide) ?_
      refine R_at (pc := 65) ?_
      refine R_pure (pc := 65) (pc' := 66) (st' := [.double (FP.i2d ((z_u μ 241 12 1) 242 0)), .double (FP.i2d k4)]) (show z_pt 249 65 = some (3, .i2d, []) by decide +kernel) rfl (fun _ _ _ => rfl) ?_
      obtain ⟨g10, h⟩ := z_ig h
      refine R_ddiv (show z_pt 249 66 = some (3, .ddiv, []) by decide +kernel) g10 ?_
      refine R_pure (pc := 67) (pc' := 71) (show z_pt 249 67 = some (3, .goto 4, []) by decide +kernel) rfl (fun _ _ _ => rfl) ?_
      cases h
      exact R_retD (show z_pt 249 71 = some (3, .dreturn, []) by decide +kernel) (by decide +kernel)
def pm_isAligned_L5_B (R : Int32 → Int32 → Option Int32)  (μ : z_Mem) (f1 : Int32) (f2 : Int32) (K : Int32 → Int32 → Option Int32) (a3 : Int32) (a4 : Int32) : Option Int32 := if (μ 242 2) ≤ a4 then K a3 a4 else if a3 = 0 then (z_rd μ 242 331 (243 + a4)).bind fun v3 => (pm_distance μ f1 v3 0).bind fun q5 => if f2 < q5 then R 0 (a4 + 1) else R 1 (a4 + 1) else R 1 (a4 + 1)
def pm_isAligned_L5 : Nat → z_Mem → Int32 → Int32 → (Int32 → Int32 → Option Int32) → Int32 → Int32 → Option Int32
  | 0 => fun _ _ _ _ _ _ => none
  | n + 1 => fun μ f1 f2 K a3 a4 => pm_isAligned_L5_B (pm_isAligned_L5 n μ f1 f2 K) μ f1 f2 K a3 a4
theorem pm_isAligned_L5_run  (μ : z_Mem) (f1 : Int32) (f2 : Int32) (K : Int32 → Int32 → Option Int32)  (D : Nat) (hD : 4 ≤ D) (hK : ∀ (a3 a4 : Int32) (r : Int32), K a3 a4 = some r → Rn D 250 53 [(0, .ref 241), (1, .int f1), (2, .int f2), (3, .int a3), (4, .int a4)] [] μ (.inl (some (.int r))) μ) : ∀ (n : Nat) (a3 : Int32) (a4 : Int32) (r : Int32), pm_isAligned_L5 n μ f1 f2 K a3 a4 = some r → Rn D 250 5 [(0, .ref 241), (1, .int f1), (2, .int f2), (3, .int a3), (4, .int a4)] [] μ (.inl (some (.int r))) μ := by
  intro n
  induction n with
  | zero => intro a3 a4 r h; cases h
  | succ n ih =>
    intro a3 a4 r h
    have h : pm_isAligned_L5_B (pm_isAligned_L5 n μ f1 f2 K) μ f1 f2 K a3 a4 = some r := h
    unfold pm_isAligned_L5_B at h
    refine R_pure (pc := 5) (pc' := 7) (st' := [.int a4]) (show z_pt 250 5 = some (5, .iload 4, []) by decide +kernel) rfl (fun _ _ _ => rfl) ?_
    refine R_pure (pc := 7) (pc' := 8) (st' := [.ref 241, .int a4]) (show z_pt 250 7 = some (5, .aload_n 0, []) by decide +kernel) rfl (fun _ _ _ => rfl) ?_
    refine R_getR (pc := 8) (a := 241) (b := 242) (show z_pt 250 8 = some (5, .getfield 7, [10, 0, 6118]) by decide +kernel) (by decide +kernel) ?_
    refine R_at (pc := 11) ?_
    refine R_const (pc := 11) (pc' := 12) (v := 2) (show z_ptc 250 11 = some (12, 2) by decide +kernel) ?_
    refine R_ialdK (pc := 12) (a := 242) (n := 331) (jn := 2) (show z_pt 250 12 = some (5, .iaload, []) by decide +kernel) (show z_ar 242 0 331 = true by decide +kernel) (by decide) (by decide) ?_
    refine R_at (pc := 13) ?_
    refine R_icmge (pc := 13) (t := 53) (show z_pt 250 13 = some (5, .if_icmp .ge 40, []) by decide +kernel) (by decide) (fun c1 => ?_) (fun c1 => ?_)
    · rw [if_pos c1] at h
      exact hK _ _  _ h
    · rw [if_neg c1] at h
      refine R_pure (pc := 16) (pc' := 17) (st' := [.int a3]) (show z_pt 250 16 = some (5, .iload_n 3, []) by decide +kernel) rfl (fun _ _ _ => rfl) ?_
      refine R_ifne (pc := 17) (t := 41) (show z_pt 250 17 = some (5, .ifCond .ne 24, []) by decide +kernel) (by decide) (fun c2 => ?_) (fun c2 => ?_)
      · rw [if_neg c2] at h
        refine R_const (pc := 41) (pc' := 42) (v := 1) (show z_ptc 250 41 = some (42, 1) by decide +kernel) ?_
        refine R_pure (pc := 42) (pc' := 46) (show z_pt 250 42 = some (5, .goto 4, []) by decide +kernel) rfl (fun _ _ _ => rfl) ?_
        refine R_pure (pc := 46) (pc' := 47) (ls' := [(0, .ref 241), (1, .int f1), (2, .int f2), (3, .int 1), (4, .int a4)]) (st' := []) (show z_pt 250 46 = some (5, .istore_n 3, []) by decide +kernel) rfl (fun _ _ _ => rfl) ?_
        refine R_inc (pc := 47) (pc' := 50) (ls' := [(0, .ref 241), (1, .int f1), (2, .int f2), (3, .int 1), (4, .int (a4 + 1))]) (c := 1) (show z_pt 250 47 = some (5, .iinc 4 1, []) by decide +kernel) (by decide) rfl rfl ?_
        refine R_pure (pc := 50) (pc' := 5) (ls' := [(0, .ref 241), (1, .int f1), (2, .int f2), (3, .int 1), (4, .int (a4 + 1))]) (st' := []) (show z_pt 250 50 = some (5, .goto (-45), [5]) by decide +kernel) rfl (fun _ _ _ => rfl) ?_
        exact ih _ _ _  h
      · rw [if_pos c2] at h
        refine R_pure (pc := 20) (pc' := 21) (st' := [.ref 241]) (show z_pt 250 20 = some (5, .aload_n 0, []) by decide +kernel) rfl (fun _ _ _ => rfl) ?_
        refine R_pure (pc := 21) (pc' := 22) (st' := [.int f1, .ref 241]) (show z_pt 250 21 = some (5, .iload_n 1, []) by decide +kernel) rfl (fun _ _ _ => rfl) ?_
        refine R_pure (pc := 22) (pc' := 23) (st' := [.ref 241, .int f1, .ref 241]) (show z_pt 250 22 = some (5, .aload_n 0, []) by decide +kernel) rfl (fun _ _ _ => rfl) ?_
        refine R_getR (pc := 23) (a := 241) (b := 242) (show z_pt 250 23 = some (5, .getfield 7, [10, 0, 6118]) by decide +kernel) (by decide +kernel) ?_
        refine R_at (pc := 26) ?_
        refine R_const (pc := 26) (pc' := 29) (v := 243) (show z_ptc 250 26 = some (29, 243) by decide +kernel) ?_
        refine R_pure (pc := 29) (pc' := 31) (st' := [.int a4, .int 243, .ref 242, .int f1, .ref 241]) (show z_pt 250 29 = some (5, .iload 4, []) by decide +kernel) rfl (fun _ _ _ => rfl) ?_
        refine R_pure (pc := 31) (pc' := 32) (st' := [.int (243 + a4), .ref 242, .int f1, .ref 241]) (show z_pt 250 31 = some (5, .iadd, []) by decide +kernel) rfl (fun _ _ _ => rfl) ?_
        obtain ⟨v3, e4, h⟩ := z_bs h
        refine R_ialdR (pc := 32) (a := 242) (n := 331) (show z_pt 250 32 = some (5, .iaload, []) by decide +kernel) (show z_ar 242 0 331 = true by decide +kernel) e4 ?_
        refine R_at (pc := 33) ?_
        refine R_const (pc := 33) (pc' := 34) (v := 0) (show z_ptc 250 33 = some (34, 0) by decide +kernel) ?_
        obtain ⟨q5, e6, h⟩ := z_bs h
        refine R_call (pc := 34) (rr := []) (show z_pt 250 34 = some (5, .invokevirtual 177, [0, 220, 3, 7184, 7186, 62, 1012, 7187]) by decide +kernel) rfl (show z_r2 220 = some (10, 4, true) by decide +kernel) rfl rfl (Or.inr ⟨_, _, rfl, (by decide +kernel)⟩) (pm_distance_run  e6) (by omega) ?_
        refine R_at2 (pc := 37) (st := [.int q5]) ?_
        refine R_pure (pc := 37) (pc' := 38) (st' := [.int f2, .int q5]) (show z_pt 250 37 = some (5, .iload_n 2, []) by decide +kernel) rfl (fun _ _ _ => rfl) ?_
        refine R_icmgt (pc := 38) (t := 45) (show z_pt 250 38 = some (5, .if_icmp .gt 7, []) by decide +kernel) (by decide) (fun c7 => ?_) (fun c7 => ?_)
        · rw [if_pos c7] at h
          refine R_const (pc := 45) (pc' := 46) (v := 0) (show z_ptc 250 45 = some (46, 0) by decide +kernel) ?_
          refine R_pure (pc := 46) (pc' := 47) (ls' := [(0, .ref 241), (1, .int f1), (2, .int f2), (3, .int 0), (4, .int a4)]) (st' := []) (show z_pt 250 46 = some (5, .istore_n 3, []) by decide +kernel) rfl (fun _ _ _ => rfl) ?_
          refine R_inc (pc := 47) (pc' := 50) (ls' := [(0, .ref 241), (1, .int f1), (2, .int f2), (3, .int 0), (4, .int (a4 + 1))]) (c := 1) (show z_pt 250 47 = some (5, .iinc 4 1, []) by decide +kernel) (by decide) rfl rfl ?_
          refine R_pure (pc := 50) (pc' := 5) (ls' := [(0, .ref 241), (1, .int f1), (2, .int f2), (3, .int 0), (4, .int (a4 + 1))]) (st' := []) (show z_pt 250 50 = some (5, .goto (-45), [5]) by decide +kernel) rfl (fun _ _ _ => rfl) ?_
          exact ih _ _ _  h
        · rw [if_neg c7] at h
          refine R_const (pc := 41) (pc' := 42) (v := 1) (show z_ptc 250 41 = some (42, 1) by decide +kernel) ?_
          refine R_pure (pc := 42) (pc' := 46) (show z_pt 250 42 = some (5, .goto 4, []) by decide +kernel) rfl (fun _ _ _ => rfl) ?_
          refine R_pure (pc := 46) (pc' := 47) (ls' := [(0, .ref 241), (1, .int f1), (2, .int f2), (3, .int 1), (4, .int a4)]) (st' := []) (show z_pt 250 46 = some (5, .istore_n 3, []) by decide +kernel) rfl (fun _ _ _ => rfl) ?_
          refine R_inc (pc := 47) (pc' := 50) (ls' := [(0, .ref 241), (1, .int f1), (2, .int f2), (3, .int 1), (4, .int (a4 + 1))]) (c := 1) (show z_pt 250 47 = some (5, .iinc 4 1, []) by decide +kernel) (by decide) rfl rfl ?_
          refine R_pure (pc := 50) (pc' := 5) (ls' := [(0, .ref 241), (1, .int f1), (2, .int f2), (3, .int 1), (4, .int (a4 + 1))]) (st' := []) (show z_pt 250 50 = some (5, .goto (-45), [5]) by decide +kernel) rfl (fun _ _ _ => rfl) ?_
          exact ih _ _ _  h
def pm_isAligned  (μ : z_Mem) (i1 : Int32) (i2 : Int32) : Option Int32 := pm_isAligned_L5 z_fu μ i1 i2 (fun k8 k9 => if vp_nar .boolean k8 = k8 then some k8 else none) 0 0
theorem pm_isAligned_run  {μ : z_Mem} {i1 : Int32} {i2 : Int32}  {r : Int32} (h : pm_isAligned μ i1 i2 = some r) : Rn 4 250 0 [(0, .ref 241), (1, .int i1), (2, .int i2)] [] μ (.inl (some (.int r))) μ := by
  unfold pm_isAligned at h
  refine R_const (pc := 0) (pc' := 1) (v := 0) (show z_ptc 250 0 = some (1, 0) by decide +kernel) ?_
  refine R_pure (pc := 1) (pc' := 2) (ls' := [(0, .ref 241), (1, .int i1), (2, .int i2), (3, .int 0)]) (st' := []) (show z_pt 250 1 = some (5, .istore_n 3, []) by decide +kernel) rfl (fun _ _ _ => rfl) ?_
  refine R_const (pc := 2) (pc' := 3) (v := 0) (show z_ptc 250 2 = some (3, 0) by decide +kernel) ?_
  refine R_pure (pc := 3) (pc' := 5) (ls' := [(0, .ref 241), (1, .int i1), (2, .int i2), (3, .int 0), (4, .int 0)]) (st' := []) (show z_pt 250 3 = some (5, .istore 4, []) by decide +kernel) rfl (fun _ _ _ => rfl) ?_
  refine pm_isAligned_L5_run  _ _ _ _  _ (by omega) ?_ _ _ _ _ h
  intro k8 k9 r h
  refine R_pure (pc := 53) (pc' := 54) (st' := [.int k8]) (show z_pt 250 53 = some (5, .iload_n 3, []) by decide +kernel) rfl (fun _ _ _ => rfl) ?_
  obtain ⟨g10, h⟩ := z_ig h
  cases h
  exact R_retZ (show z_pt 250 54 = some (5, .ireturn, []) by decide +kernel) (t := .boolean) (by decide +kernel) (z_nrZ g10)
def pm_alignedFraction_L37_B (R : Int32 → Int32 → Option (UInt32 × z_Mem))  (μ : z_Mem) (f1 : Int32) (K : Int32 → Int32 → Option (UInt32 × z_Mem)) (a2 : Int32) (a3 : Int32) : Option (UInt32 × z_Mem) := if (μ 242 1) ≤ a3 then K a2 a3 else (pm_isAligned μ a3 f1).bind fun q6 => if q6 = 0 then R (a2 + 0) (a3 + 1) else R (a2 + 1) (a3 + 1)
def pm_alignedFraction_L37 : Nat → z_Mem → Int32 → (Int32 → Int32 → Option (UInt32 × z_Mem)) → Int32 → Int32 → Option (UInt32 × z_Mem)
  | 0 => fun _ _ _ _ _ => none
  | n + 1 => fun μ f1 K a2 a3 => pm_alignedFraction_L37_B (pm_alignedFraction_L37 n μ f1 K) μ f1 K a2 a3
theorem pm_alignedFraction_L37_run  (μ : z_Mem) (f1 : Int32) (K : Int32 → Int32 → Option (UInt32 × z_Mem))  (D : Nat) (hD : 5 ≤ D) (hK : ∀ (a2 a3 : Int32) (r : (UInt32 × z_Mem)), K a2 a3 = some r → Rn D 251 70 [(0, .ref 241), (1, .int f1), (2, .int a2), (3, .int a3)] [] μ (.inl (some (.float r.1))) r.2) : ∀ (n : Nat) (a2 : Int32) (a3 : Int32) (r : (UInt32 × z_Mem)), pm_alignedFraction_L37 n μ f1 K a2 a3 = some r → Rn D 251 37 [(0, .ref 241), (1, .int f1), (2, .int a2), (3, .int a3)] [] μ (.inl (some (.float r.1))) r.2 := by
  intro n
  induction n with
  | zero => intro a2 a3 r h; cases h
  | succ n ih =>
    intro a2 a3 r h
    have h : pm_alignedFraction_L37_B (pm_alignedFraction_L37 n μ f1 K) μ f1 K a2 a3 = some r := h
    unfold pm_alignedFraction_L37_B at h
    refine R_pure (pc := 37) (pc' := 38) (st' := [.int a3]) (show z_pt 251 37 = some (4, .iload_n 3, []) by decide +kernel) rfl (fun _ _ _ => rfl) ?_
    refine R_pure (pc := 38) (pc' := 39) (st' := [.ref 241, .int a3]) (show z_pt 251 38 = some (4, .aload_n 0, []) by decide +kernel) rfl (fun _ _ _ => rfl) ?_
    refine R_getR (pc := 39) (a := 241) (b := 242) (show z_pt 251 39 = some (4, .getfield 7, [10, 0, 6118]) by decide +kernel) (by decide +kernel) ?_
    refine R_at (pc := 42) ?_
    refine R_const (pc := 42) (pc' := 43) (v := 1) (show z_ptc 251 42 = some (43, 1) by decide +kernel) ?_
    refine R_ialdK (pc := 43) (a := 242) (n := 331) (jn := 1) (show z_pt 251 43 = some (4, .iaload, []) by decide +kernel) (show z_ar 242 0 331 = true by decide +kernel) (by decide) (by decide) ?_
    refine R_at (pc := 44) ?_
    refine R_icmge (pc := 44) (t := 70) (show z_pt 251 44 = some (4, .if_icmp .ge 26, []) by decide +kernel) (by decide) (fun c5 => ?_) (fun c5 => ?_)
    · rw [if_pos c5] at h
      exact hK _ _  _ h
    · rw [if_neg c5] at h
      refine R_pure (pc := 47) (pc' := 48) (st' := [.int a2]) (show z_pt 251 47 = some (4, .iload_n 2, []) by decide +kernel) rfl (fun _ _ _ => rfl) ?_
      refine R_pure (pc := 48) (pc' := 49) (st' := [.ref 241, .int a2]) (show z_pt 251 48 = some (4, .aload_n 0, []) by decide +kernel) rfl (fun _ _ _ => rfl) ?_
      refine R_pure (pc := 49) (pc' := 50) (st' := [.int a3, .ref 241, .int a2]) (show z_pt 251 49 = some (4, .iload_n 3, []) by decide +kernel) rfl (fun _ _ _ => rfl) ?_
      refine R_pure (pc := 50) (pc' := 51) (st' := [.int f1, .int a3, .ref 241, .int a2]) (show z_pt 251 50 = some (4, .iload_n 1, []) by decide +kernel) rfl (fun _ _ _ => rfl) ?_
      obtain ⟨q6, e7, h⟩ := z_bs h
      refine R_call (pc := 51) (rr := [.int a2]) (show z_pt 251 51 = some (4, .invokevirtual 210, [0, 250, 2, 8056, 8058, 71, 1012, 8059]) by decide +kernel) rfl (show z_r2 250 = some (10, 5, true) by decide +kernel) rfl rfl (Or.inr ⟨_, _, rfl, (by decide +kernel)⟩) (pm_isAligned_run  e7) (by omega) ?_
      refine R_at2 (pc := 54) (st := [.int q6, .int a2]) ?_
      refine R_ifeq (pc := 54) (t := 61) (show z_pt 251 54 = some (4, .ifCond .eq 7, []) by decide +kernel) (by decide) (fun c8 => ?_) (fun c8 => ?_)
      · rw [if_pos c8] at h
        refine R_const (pc := 61) (pc' := 62) (v := 0) (show z_ptc 251 61 = some (62, 0) by decide +kernel) ?_
        refine R_pure (pc := 62) (pc' := 63) (st' := [.int (a2 + 0)]) (show z_pt 251 62 = some (4, .iadd, []) by decide +kernel) rfl (fun _ _ _ => rfl) ?_
        refine R_pure (pc := 63) (pc' := 64) (ls' := [(0, .ref 241), (1, .int f1), (2, .int (a2 + 0)), (3, .int a3)]) (st' := []) (show z_pt 251 63 = some (4, .istore_n 2, []) by decide +kernel) rfl (fun _ _ _ => rfl) ?_
        refine R_inc (pc := 64) (pc' := 67) (ls' := [(0, .ref 241), (1, .int f1), (2, .int (a2 + 0)), (3, .int (a3 + 1))]) (c := 1) (show z_pt 251 64 = some (4, .iinc 3 1, []) by decide +kernel) (by decide) rfl rfl ?_
        refine R_pure (pc := 67) (pc' := 37) (ls' := [(0, .ref 241), (1, .int f1), (2, .int (a2 + 0)), (3, .int (a3 + 1))]) (st' := []) (show z_pt 251 67 = some (4, .goto (-30), [4]) by decide +kernel) rfl (fun _ _ _ => rfl) ?_
        exact ih _ _ _  h
      · rw [if_neg c8] at h
        refine R_const (pc := 57) (pc' := 58) (v := 1) (show z_ptc 251 57 = some (58, 1) by decide +kernel) ?_
        refine R_pure (pc := 58) (pc' := 62) (show z_pt 251 58 = some (4, .goto 4, []) by decide +kernel) rfl (fun _ _ _ => rfl) ?_
        refine R_pure (pc := 62) (pc' := 63) (st' := [.int (a2 + 1)]) (show z_pt 251 62 = some (4, .iadd, []) by decide +kernel) rfl (fun _ _ _ => rfl) ?_
        refine R_pure (pc := 63) (pc' := 64) (ls' := [(0, .ref 241), (1, .int f1), (2, .int (a2 + 1)), (3, .int a3)]) (st' := []) (show z_pt 251 63 = some (4, .istore_n 2, []) by decide +kernel) rfl (fun _ _ _ => rfl) ?_
        refine R_inc (pc := 64) (pc' := 67) (ls' := [(0, .ref 241), (1, .int f1), (2, .int (a2 + 1)), (3, .int (a3 + 1))]) (c := 1) (show z_pt 251 64 = some (4, .iinc 3 1, []) by decide +kernel) (by decide) rfl rfl ?_
        refine R_pure (pc := 67) (pc' := 37) (ls' := [(0, .ref 241), (1, .int f1), (2, .int (a2 + 1)), (3, .int (a3 + 1))]) (st' := []) (show z_pt 251 67 = some (4, .goto (-30), [4]) by decide +kernel) rfl (fun _ _ _ => rfl) ?_
        exact ih _ _ _  h
def pm_alignedFraction  (μ : z_Mem) (i1 : Int32) : Option (UInt32 × z_Mem) := (pm_in μ i1 0 1800).bind fun q1 => if q1 = 0 then pm_alignedFraction_L37 z_fu (z_u μ 241 12 1) i1 (fun k17 k18 => if ((z_u μ 241 12 1) 241 12) = 0 then if z_n32 (FP.fdiv (FP.i2f k17) (FP.i2f ((z_u μ 241 12 1) 242 1))) = true then some ((FP.fdiv (FP.i2f k17) (FP.i2f ((z_u μ 241 12 1) 242 1))), (z_u μ 241 12 1)) else none else some (FP.fconst0, (z_u μ 241 12 1))) 0 0 else if (μ 242 1) = 0 then pm_alignedFraction_L37 z_fu (z_u μ 241 12 2) i1 (fun k13 k14 => if ((z_u μ 241 12 2) 241 12) = 0 then if z_n32 (FP.fdiv (FP.i2f k13) (FP.i2f ((z_u μ 241 12 2) 242 1))) = true then some ((FP.fdiv (FP.i2f k13) (FP.i2f ((z_u μ 241 12 2) 242 1))), (z_u μ 241 12 2)) else none else some (FP.fconst0, (z_u μ 241 12 2))) 0 0 else pm_alignedFraction_L37 z_fu (z_u μ 241 12 0) i1 (fun k9 k10 => if ((z_u μ 241 12 0) 241 12) = 0 then if z_n32 (FP.fdiv (FP.i2f k9) (FP.i2f ((z_u μ 241 12 0) 242 1))) = true then some ((FP.fdiv (FP.i2f k9) (FP.i2f ((z_u μ 241 12 0) 242 1))), (z_u μ 241 12 0)) else none else some (FP.fconst0, (z_u μ 241 12 0))) 0 0
theorem pm_alignedFraction_run  {μ : z_Mem} {i1 : Int32}  {r : (UInt32 × z_Mem)} (h : pm_alignedFraction μ i1 = some r) : Rn 5 251 0 [(0, .ref 241), (1, .int i1)] [] μ (.inl (some (.float r.1))) r.2 := by
  unfold pm_alignedFraction at h
  refine R_pure (pc := 0) (pc' := 1) (st' := [.ref 241]) (show z_pt 251 0 = some (4, .aload_n 0, []) by decide +kernel) rfl (fun _ _ _ => rfl) ?_
  refine R_pure (pc := 1) (pc' := 2) (st' := [.int i1, .ref 241]) (show z_pt 251 1 = some (4, .iload_n 1, []) by decide +kernel) rfl (fun _ _ _ => rfl) ?_
  refine R_const (pc := 2) (pc' := 3) (v := 0) (show z_ptc 251 2 = some (3, 0) by decide +kernel) ?_
  refine R_const (pc := 3) (pc' := 6) (v := 1800) (show z_ptc 251 3 = some (6, 1800) by decide +kernel) ?_
  obtain ⟨q1, e2, h⟩ := z_bs h
  refine R_call (pc := 6) (rr := [.ref 241]) (show z_pt 251 6 = some (4, .invokestatic 55, [1, 160, 3, 6192, 6193, 0, 1012, 6194]) by decide +kernel) rfl (show z_r2 160 = some (10, 3, true) by decide +kernel) rfl rfl (Or.inl (by decide)) (pm_in_run  e2) (by omega) ?_
  refine R_at2 (pc := 9) (st := [.int q1, .ref 241]) ?_
  refine R_ifne (pc := 9) (t := 16) (show z_pt 251 9 = some (4, .ifCond .ne 7, []) by decide +kernel) (by decide) (fun c3 => ?_) (fun c3 => ?_)
  · rw [if_neg c3] at h
    refine R_pure (pc := 16) (pc' := 17) (st' := [.ref 241, .ref 241]) (show z_pt 251 16 = some (4, .aload_n 0, []) by decide +kernel) rfl (fun _ _ _ => rfl) ?_
    refine R_getR (pc := 17) (a := 241) (b := 242) (show z_pt 251 17 = some (4, .getfield 7, [10, 0, 6118]) by decide +kernel) (by decide +kernel) ?_
    refine R_at (pc := 20) ?_
    refine R_const (pc := 20) (pc' := 21) (v := 1) (show z_ptc 251 20 = some (21, 1) by decide +kernel) ?_
    refine R_ialdK (pc := 21) (a := 242) (n := 331) (jn := 1) (show z_pt 251 21 = some (4, .iaload, []) by decide +kernel) (show z_ar 242 0 331 = true by decide +kernel) (by decide) (by decide) ?_
    refine R_at (pc := 22) ?_
    refine R_ifne (pc := 22) (t := 29) (show z_pt 251 22 = some (4, .ifCond .ne 7, []) by decide +kernel) (by decide) (fun c4 => ?_) (fun c4 => ?_)
    · rw [if_neg c4] at h
      refine R_const (pc := 29) (pc' := 30) (v := 0) (show z_ptc 251 29 = some (30, 0) by decide +kernel) ?_
      refine R_putI (pc := 30) (a := 241) (show z_pt 251 30 = some (4, .putfield 45, [10, 12, 6130]) by decide +kernel) (by decide +kernel) ⟨rfl, rfl⟩ ?_
      refine R_at (pc := 33) ?_
      refine R_const (pc := 33) (pc' := 34) (v := 0) (show z_ptc 251 33 = some (34, 0) by decide +kernel) ?_
      refine R_pure (pc := 34) (pc' := 35) (ls' := [(0, .ref 241), (1, .int i1), (2, .int 0)]) (st' := []) (show z_pt 251 34 = some (4, .istore_n 2, []) by decide +kernel) rfl (fun _ _ _ => rfl) ?_
      refine R_const (pc := 35) (pc' := 36) (v := 0) (show z_ptc 251 35 = some (36, 0) by decide +kernel) ?_
      refine R_pure (pc := 36) (pc' := 37) (ls' := [(0, .ref 241), (1, .int i1), (2, .int 0), (3, .int 0)]) (st' := []) (show z_pt 251 36 = some (4, .istore_n 3, []) by decide +kernel) rfl (fun _ _ _ => rfl) ?_
      refine pm_alignedFraction_L37_run  _ _ _  _ (by omega) ?_ _ _ _ _ h
      intro k9 k10 r h
      refine R_pure (pc := 70) (pc' := 71) (st' := [.ref 241]) (show z_pt 251 70 = some (4, .aload_n 0, []) by decide +kernel) rfl (fun _ _ _ => rfl) ?_
      refine R_getI (pc := 71) (a := 241) (show z_pt 251 71 = some (4, .getfield 45, [10, 12, 6130]) by decide +kernel) (by decide +kernel) ?_
      refine R_at (pc := 74) ?_
      refine R_ifne (pc := 74) (t := 90) (show z_pt 251 74 = some (4, .ifCond .ne 16, []) by decide +kernel) (by decide) (fun c11 => ?_) (fun c11 => ?_)
      · rw [if_neg c11] at h
        refine R_pure (pc := 90) (pc' := 91) (st' := [.float FP.fconst0]) (show z_pt 251 90 = some (4, .fconst 0, []) by decide +kernel) rfl (fun _ _ _ => rfl) ?_
        cases h
        exact R_retF (show z_pt 251 91 = some (4, .freturn, []) by decide +kernel) (by decide +kernel)
      · rw [if_pos c11] at h
        refine R_pure (pc := 77) (pc' := 78) (st' := [.int k9]) (show z_pt 251 77 = some (4, .iload_n 2, []) by decide +kernel) rfl (fun _ _ _ => rfl) ?_
        refine R_pure (pc := 78) (pc' := 79) (st' := [.float (FP.i2f k9)]) (show z_pt 251 78 = some (4, .i2f, []) by decide +kernel) rfl (fun _ _ _ => rfl) ?_
        refine R_pure (pc := 79) (pc' := 80) (st' := [.ref 241, .float (FP.i2f k9)]) (show z_pt 251 79 = some (4, .aload_n 0, []) by decide +kernel) rfl (fun _ _ _ => rfl) ?_
        refine R_getR (pc := 80) (a := 241) (b := 242) (show z_pt 251 80 = some (4, .getfield 7, [10, 0, 6118]) by decide +kernel) (by decide +kernel) ?_
        refine R_at (pc := 83) ?_
        refine R_const (pc := 83) (pc' := 84) (v := 1) (show z_ptc 251 83 = some (84, 1) by decide +kernel) ?_
        refine R_ialdK (pc := 84) (a := 242) (n := 331) (jn := 1) (show z_pt 251 84 = some (4, .iaload, []) by decide +kernel) (show z_ar 242 0 331 = true by decide +kernel) (by decide) (by decide) ?_
        refine R_at (pc := 85) ?_
        refine R_pure (pc := 85) (pc' := 86) (st' := [.float (FP.i2f ((z_u μ 241 12 0) 242 1)), .float (FP.i2f k9)]) (show z_pt 251 85 = some (4, .i2f, []) by decide +kernel) rfl (fun _ _ _ => rfl) ?_
        obtain ⟨g12, h⟩ := z_ig h
        refine R_fdiv (show z_pt 251 86 = some (4, .fdiv, []) by decide +kernel) g12 ?_
        refine R_pure (pc := 87) (pc' := 91) (show z_pt 251 87 = some (4, .goto 4, []) by decide +kernel) rfl (fun _ _ _ => rfl) ?_
        cases h
        exact R_retF (show z_pt 251 91 = some (4, .freturn, []) by decide +kernel) (by decide +kernel)
    · rw [if_pos c4] at h
      refine R_const (pc := 25) (pc' := 26) (v := 2) (show z_ptc 251 25 = some (26, 2) by decide +kernel) ?_
      refine R_pure (pc := 26) (pc' := 30) (show z_pt 251 26 = some (4, .goto 4, []) by decide +kernel) rfl (fun _ _ _ => rfl) ?_
      refine R_putI (pc := 30) (a := 241) (show z_pt 251 30 = some (4, .putfield 45, [10, 12, 6130]) by decide +kernel) (by decide +kernel) ⟨rfl, rfl⟩ ?_
      refine R_at (pc := 33) ?_
      refine R_const (pc := 33) (pc' := 34) (v := 0) (show z_ptc 251 33 = some (34, 0) by decide +kernel) ?_
      refine R_pure (pc := 34) (pc' := 35) (ls' := [(0, .ref 241), (1, .int i1), (2, .int 0)]) (st' := []) (show z_pt 251 34 = some (4, .istore_n 2, []) by decide +kernel) rfl (fun _ _ _ => rfl) ?_
      refine R_const (pc := 35) (pc' := 36) (v := 0) (show z_ptc 251 35 = some (36, 0) by decide +kernel) ?_
      refine R_pure (pc := 36) (pc' := 37) (ls' := [(0, .ref 241), (1, .int i1), (2, .int 0), (3, .int 0)]) (st' := []) (show z_pt 251 36 = some (4, .istore_n 3, []) by decide +kernel) rfl (fun _ _ _ => rfl) ?_
      refine pm_alignedFraction_L37_run  _ _ _  _ (by omega) ?_ _ _ _ _ h
      intro k13 k14 r h
      refine R_pure (pc := 70) (pc' := 71) (st' := [.ref 241]) (show z_pt 251 70 = some (4, .aload_n 0, []) by decide +kernel) rfl (fun _ _ _ => rfl) ?_
      refine R_getI (pc := 71) (a := 241) (show z_pt 251 71 = some (4, .getfield 45, [10, 12, 6130]) by decide +kernel) (by decide +kernel) ?_
      refine R_at (pc := 74) ?_
      refine R_ifne (pc := 74) (t := 90) (show z_pt 251 74 = some (4, .ifCond .ne 16, []) by decide +kernel) (by decide) (fun c15 => ?_) (fun c15 => ?_)
      · rw [if_neg c15] at h
        refine R_pure (pc := 90) (pc' := 91) (st' := [.float FP.fconst0]) (show z_pt 251 90 = some (4, .fconst 0, []) by decide +kernel) rfl (fun _ _ _ => rfl) ?_
        cases h
        exact R_retF (show z_pt 251 91 = some (4, .freturn, []) by decide +kernel) (by decide +kernel)
      · rw [if_pos c15] at h
        refine R_pure (pc := 77) (pc' := 78) (st' := [.int k13]) (show z_pt 251 77 = some (4, .iload_n 2, []) by decide +kernel) rfl (fun _ _ _ => rfl) ?_
        refine R_pure (pc := 78) (pc' := 79) (st' := [.float (FP.i2f k13)]) (show z_pt 251 78 = some (4, .i2f, []) by decide +kernel) rfl (fun _ _ _ => rfl) ?_
        refine R_pure (pc := 79) (pc' := 80) (st' := [.ref 241, .float (FP.i2f k13)]) (show z_pt 251 79 = some (4, .aload_n 0, []) by decide +kernel) rfl (fun _ _ _ => rfl) ?_
        refine R_getR (pc := 80) (a := 241) (b := 242) (show z_pt 251 80 = some (4, .getfield 7, [10, 0, 6118]) by decide +kernel) (by decide +kernel) ?_
        refine R_at (pc := 83) ?_
        refine R_const (pc := 83) (pc' := 84) (v := 1) (show z_ptc 251 83 = some (84, 1) by decide +kernel) ?_
        refine R_ialdK (pc := 84) (a := 242) (n := 331) (jn := 1) (show z_pt 251 84 = some (4, .iaload, []) by decide +kernel) (show z_ar 242 0 331 = true by decide +kernel) (by decide) (by decide) ?_
        refine R_at (pc := 85) ?_
        refine R_pure (pc := 85) (pc' := 86) (st' := [.float (FP.i2f ((z_u μ 241 12 2) 242 1)), .float (FP.i2f k13)]) (show z_pt 251 85 = some (4, .i2f, []) by decide +kernel) rfl (fun _ _ _ => rfl) ?_
        obtain ⟨g16, h⟩ := z_ig h
        refine R_fdiv (show z_pt 251 86 = some (4, .fdiv, []) by decide +kernel) g16 ?_
        refine R_pure (pc := 87) (pc' := 91) (show z_pt 251 87 = some (4, .goto 4, []) by decide +kernel) rfl (fun _ _ _ => rfl) ?_
        cases h
        exact R_retF (show z_pt 251 91 = some (4, .freturn, []) by decide +kernel) (by decide +kernel)
  · rw [if_pos c3] at h
    refine R_const (pc := 12) (pc' := 13) (v := 1) (show z_ptc 251 12 = some (13, 1) by decide +kernel) ?_
    refine R_pure (pc := 13) (pc' := 30) (show z_pt 251 13 = some (4, .goto 17, []) by decide +kernel) rfl (fun _ _ _ => rfl) ?_
    refine R_putI (pc := 30) (a := 241) (show z_pt 251 30 = some (4, .putfield 45, [10, 12, 6130]) by decide +kernel) (by decide +kernel) ⟨rfl, rfl⟩ ?_
    refine R_at (pc := 33) ?_
    refine R_const (pc := 33) (pc' := 34) (v := 0) (show z_ptc 251 33 = some (34, 0) by decide +kernel) ?_
    refine R_pure (pc := 34) (pc' := 35) (ls' := [(0, .ref 241), (1, .int i1), (2, .int 0)]) (st' := []) (show z_pt 251 34 = some (4, .istore_n 2, []) by decide +kernel) rfl (fun _ _ _ => rfl) ?_
    refine R_const (pc := 35) (pc' := 36) (v := 0) (show z_ptc 251 35 = some (36, 0) by decide +kernel) ?_
    refine R_pure (pc := 36) (pc' := 37) (ls' := [(0, .ref 241), (1, .int i1), (2, .int 0), (3, .int 0)]) (st' := []) (show z_pt 251 36 = some (4, .istore_n 3, []) by decide +kernel) rfl (fun _ _ _ => rfl) ?_
    refine pm_alignedFraction_L37_run  _ _ _  _ (by omega) ?_ _ _ _ _ h
    intro k17 k18 r h
    refine R_pure (pc := 70) (pc' := 71) (st' := [.ref 241]) (show z_pt 251 70 = some (4, .aload_n 0, []) by decide +kernel) rfl (fun _ _ _ => rfl) ?_
    refine R_getI (pc := 71) (a := 241) (show z_pt 251 71 = some (4, .getfield 45, [10, 12, 6130]) by decide +kernel) (by decide +kernel) ?_
    refine R_at (pc := 74) ?_
    refine R_ifne (pc := 74) (t := 90) (show z_pt 251 74 = some (4, .ifCond .ne 16, []) by decide +kernel) (by decide) (fun c19 => ?_) (fun c19 => ?_)
    · rw [if_neg c19] at h
      refine R_pure (pc := 90) (pc' := 91) (st' := [.float FP.fconst0]) (show z_pt 251 90 = some (4, .fconst 0, []) by decide +kernel) rfl (fun _ _ _ => rfl) ?_
      cases h
      exact R_retF (show z_pt 251 91 = some (4, .freturn, []) by decide +kernel) (by decide +kernel)
    · rw [if_pos c19] at h
      refine R_pure (pc := 77) (pc' := 78) (st' := [.int k17]) (show z_pt 251 77 = some (4, .iload_n 2, []) by decide +kernel) rfl (fun _ _ _ => rfl) ?_
      refine R_pure (pc := 78) (pc' := 79) (st' := [.float (FP.i2f k17)]) (show z_pt 251 78 = some (4, .i2f, []) by decide +kernel) rfl (fun _ _ _ => rfl) ?_
      refine R_pure (pc := 79) (pc' := 80) (st' := [.ref 241, .float (FP.i2f k17)]) (show z_pt 251 79 = some (4, .aload_n 0, []) by decide +kernel) rfl (fun _ _ _ => rfl) ?_
      refine R_getR (pc := 80) (a := 241) (b := 242) (show z_pt 251 80 = some (4, .getfield 7, [10, 0, 6118]) by decide +kernel) (by decide +kernel) ?_
      refine R_at (pc := 83) ?_
      refine R_const (pc := 83) (pc' := 84) (v := 1) (show z_ptc 251 83 = some (84, 1) by decide +kernel) ?_
      refine R_ialdK (pc := 84) (a := 242) (n := 331) (jn := 1) (show z_pt 251 84 = some (4, .iaload, []) by decide +kernel) (show z_ar 242 0 331 = true by decide +kernel) (by decide) (by decide) ?_
      refine R_at (pc := 85) ?_
      refine R_pure (pc := 85) (pc' := 86) (st' := [.float (FP.i2f ((z_u μ 241 12 1) 242 1)), .float (FP.i2f k17)]) (show z_pt 251 85 = some (4, .i2f, []) by decide +kernel) rfl (fun _ _ _ => rfl) ?_
      obtain ⟨g20, h⟩ := z_ig h
      refine R_fdiv (show z_pt 251 86 = some (4, .fdiv, []) by decide +kernel) g20 ?_
      refine R_pure (pc := 87) (pc' := 91) (show z_pt 251 87 = some (4, .goto 4, []) by decide +kernel) rfl (fun _ _ _ => rfl) ?_
      cases h
      exact R_retF (show z_pt 251 91 = some (4, .freturn, []) by decide +kernel) (by decide +kernel)
def pm_writes  (μ : z_Mem) (i1 : Int32) : Option z_Mem := if z_inb (μ 241 11) 100 = true then some (z_u (z_u μ 247 (μ 241 11).toNatClampNeg (vp_nar .char (((i1 : Int32).toUInt32 % 65536).toInt32))) 241 11 (((z_u μ 247 (μ 241 11).toNatClampNeg (vp_nar .char (((i1 : Int32).toUInt32 % 65536).toInt32))) 241 11) + 1)) else none
theorem pm_writes_run  {μ : z_Mem} {i1 : Int32}  {r : z_Mem} (h : pm_writes μ i1 = some r) : Rn 0 252 0 [(0, .ref 241), (1, .int i1)] [] μ (.inl none) r := by
  unfold pm_writes at h
  refine R_pure (pc := 0) (pc' := 1) (st' := [.ref 241]) (show z_pt 252 0 = some (2, .aload_n 0, []) by decide +kernel) rfl (fun _ _ _ => rfl) ?_
  refine R_getR (pc := 1) (a := 241) (b := 247) (show z_pt 252 1 = some (2, .getfield 33, [10, 10, 6128]) by decide +kernel) (by decide +kernel) ?_
  refine R_at (pc := 4) ?_
  refine R_pure (pc := 4) (pc' := 5) (st' := [.ref 241, .ref 247]) (show z_pt 252 4 = some (2, .aload_n 0, []) by decide +kernel) rfl (fun _ _ _ => rfl) ?_
  refine R_getI (pc := 5) (a := 241) (show z_pt 252 5 = some (2, .getfield 213, [10, 11, 6129]) by decide +kernel) (by decide +kernel) ?_
  refine R_at (pc := 8) ?_
  refine R_pure (pc := 8) (pc' := 9) (st' := [.int i1, .int (μ 241 11), .ref 247]) (show z_pt 252 8 = some (2, .iload_n 1, []) by decide +kernel) rfl (fun _ _ _ => rfl) ?_
  refine R_pure (pc := 9) (pc' := 10) (st' := [.int (((i1 : Int32).toUInt32 % 65536).toInt32), .int (μ 241 11), .ref 247]) (show z_pt 252 9 = some (2, .i2c, []) by decide +kernel) rfl (fun _ _ _ => rfl) ?_
  obtain ⟨g1, h⟩ := z_ig h
  refine R_cast (pc := 10) (a := 247) (n := 100) (show z_pt 252 10 = some (2, .castore, []) by decide +kernel) (show z_ar 247 1 100 = true by decide +kernel) g1 ?_
  refine R_at (pc := 11) ?_
  refine R_pure (pc := 11) (pc' := 12) (st' := [.ref 241]) (show z_pt 252 11 = some (2, .aload_n 0, []) by decide +kernel) rfl (fun _ _ _ => rfl) ?_
  refine R_pure (pc := 12) (pc' := 13) (st' := [.ref 241, .ref 241]) (show z_pt 252 12 = some (2, .dup, []) by decide +kernel) rfl (fun _ _ _ => rfl) ?_
  refine R_getI (pc := 13) (a := 241) (show z_pt 252 13 = some (2, .getfield 213, [10, 11, 6129]) by decide +kernel) (by decide +kernel) ?_
  refine R_at (pc := 16) ?_
  refine R_const (pc := 16) (pc' := 17) (v := 1) (show z_ptc 252 16 = some (17, 1) by decide +kernel) ?_
  refine R_pure (pc := 17) (pc' := 18) (st' := [.int (((z_u μ 247 (μ 241 11).toNatClampNeg (vp_nar .char (((i1 : Int32).toUInt32 % 65536).toInt32))) 241 11) + 1), .ref 241]) (show z_pt 252 17 = some (2, .iadd, []) by decide +kernel) rfl (fun _ _ _ => rfl) ?_
  refine R_putI (pc := 18) (a := 241) (show z_pt 252 18 = some (2, .putfield 213, [10, 11, 6129]) by decide +kernel) (by decide +kernel) ⟨rfl, rfl⟩ ?_
  refine R_at (pc := 21) ?_
  cases h
  exact R_retV (show z_pt 252 21 = some (2, .return_, []) by decide +kernel) (by decide +kernel)
end ZP9
