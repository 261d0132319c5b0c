section ZP0
def pR_signAhead  (μ : z_Mem)  : Option Int32 := if (μ 21 0) ≤ (μ 34 0) then some (-1) else (z_rd μ 22 60 (μ 34 0)).bind fun v2 => some v2
theorem pR_signAhead_run  {μ : z_Mem}   {r : Int32} (h : pR_signAhead μ = some r) : Rn 0 5 0 [(0, .ref 34)] [] μ (.inl (some (.int r))) μ := by
  unfold pR_signAhead at h
  refine R_pure (pc := 0) (pc' := 1) (st' := [.ref 34]) (show z_pt 5 0 = some (1, .aload_n 0, []) by decide +kernel) rfl (fun _ _ _ => rfl) ?_
  refine R_getI (pc := 1) (a := 34) (show z_pt 5 1 = some (1, .getfield 22, [0, 0, 1239]) by decide +kernel) (by decide +kernel) ?_
  refine R_at (pc := 4) ?_
  refine R_pure (pc := 4) (pc' := 5) (st' := [.ref 34, .int (μ 34 0)]) (show z_pt 5 4 = some (1, .aload_n 0, []) by decide +kernel) rfl (fun _ _ _ => rfl) ?_
  refine R_getR (pc := 5) (a := 34) (b := 21) (show z_pt 5 5 = some (1, .getfield 18, [0, 2, 2003]) by decide +kernel) (by decide +kernel) ?_
  refine R_at (pc := 8) ?_
  refine R_getI (pc := 8) (a := 21) (show z_pt 5 8 = some (1, .getfield 37, [5, 0, 1198]) by decide +kernel) (by decide +kernel) ?_
  refine R_at (pc := 11) ?_
  refine R_icmge (pc := 11) (t := 29) (show z_pt 5 11 = some (1, .if_icmp .ge 18, []) by decide +kernel) (by decide) (fun c1 => ?_) (fun c1 => ?_)
  · rw [if_pos c1] at h
    refine R_const (pc := 29) (pc' := 30) (v := (-1)) (show z_ptc 5 29 = some (30, (-1)) by decide +kernel) ?_
    cases h
    exact R_retI (show z_pt 5 30 = some (1, .ireturn, []) by decide +kernel) (by decide +kernel)
  · rw [if_neg c1] at h
    refine R_pure (pc := 14) (pc' := 15) (st' := [.ref 34]) (show z_pt 5 14 = some (1, .aload_n 0, []) by decide +kernel) rfl (fun _ _ _ => rfl) ?_
    refine R_getR (pc := 15) (a := 34) (b := 21) (show z_pt 5 15 = some (1, .getfield 18, [0, 2, 2003]) by decide +kernel) (by decide +kernel) ?_
    refine R_at (pc := 18) ?_
    refine R_getR (pc := 18) (a := 21) (b := 22) (show z_pt 5 18 = some (1, .getfield 73, [5, 1, 1201]) by decide +kernel) (by decide +kernel) ?_
    refine R_at (pc := 21) ?_
    refine R_pure (pc := 21) (pc' := 22) (st' := [.ref 34, .ref 22]) (show z_pt 5 21 = some (1, .aload_n 0, []) by decide +kernel) rfl (fun _ _ _ => rfl) ?_
    refine R_getI (pc := 22) (a := 34) (show z_pt 5 22 = some (1, .getfield 22, [0, 0, 1239]) by decide +kernel) (by decide +kernel) ?_
    refine R_at (pc := 25) ?_
    obtain ⟨v2, e3, h⟩ := z_bs h
    refine R_caldR (pc := 25) (a := 22) (n := 60) (show z_pt 5 25 = some (1, .caload, []) by decide +kernel) (show z_ar 22 1 60 = true by decide +kernel) e3 ?_
    refine R_at (pc := 26) ?_
    refine R_pure (pc := 26) (pc' := 30) (show z_pt 5 26 = some (1, .goto 4, []) by decide +kernel) rfl (fun _ _ _ => rfl) ?_
    cases h
    exact R_retI (show z_pt 5 30 = some (1, .ireturn, []) by decide +kernel) (by decide +kernel)
def pR_read  (μ : z_Mem) (i1 : Int32) : Option (Int32 × z_Mem) := (pR_signAhead μ).bind fun q1 => if q1 = i1 then some (1, (z_u μ 34 0 ((μ 34 0) + 1))) else some (0, μ)
theorem pR_read_run  {μ : z_Mem} {i1 : Int32}  {r : (Int32 × z_Mem)} (h : pR_read μ i1 = some r) : Rn 1 6 0 [(0, .ref 34), (1, .int i1)] [] μ (.inl (some (.int r.1))) r.2 := by
  unfold pR_read at h
  refine R_pure (pc := 0) (pc' := 1) (st' := [.ref 34]) (show z_pt 6 0 = some (2, .aload_n 0, []) by decide +kernel) rfl (fun _ _ _ => rfl) ?_
  obtain ⟨q1, e2, h⟩ := z_bs h
  refine R_call (pc := 1) (rr := []) (show z_pt 6 1 = some (2, .invokevirtual 42, [0, 5, 0, 4173, 4175, 22, 1010, 4176]) by decide +kernel) rfl (show z_r2 5 = some (0, 1, true) by decide +kernel) rfl rfl (Or.inr ⟨_, _, rfl, (by decide +kernel)⟩) (pR_signAhead_run  e2) (by omega) ?_
  refine R_at2 (pc := 4) (st := [.int q1]) ?_
  refine R_pure (pc := 4) (pc' := 5) (st' := [.int i1, .int q1]) (show z_pt 6 4 = some (2, .iload_n 1, []) by decide +kernel) rfl (fun _ _ _ => rfl) ?_
  refine R_icmeq (pc := 5) (t := 10) (show z_pt 6 5 = some (2, .if_icmp .eq 5, []) by decide +kernel) (by decide) (fun c3 => ?_) (fun c3 => ?_)
  · rw [if_pos c3] at h
    refine R_pure (pc := 10) (pc' := 11) (st' := [.ref 34]) (show z_pt 6 10 = some (2, .aload_n 0, []) by decide +kernel) rfl (fun _ _ _ => rfl) ?_
    refine R_pure (pc := 11) (pc' := 12) (st' := [.ref 34, .ref 34]) (show z_pt 6 11 = some (2, .dup, []) by decide +kernel) rfl (fun _ _ _ => rfl) ?_
    refine R_getI (pc := 12) (a := 34) (show z_pt 6 12 = some (2, .getfield 22, [0, 0, 1239]) by decide +kernel) (by decide +kernel) ?_
    refine R_at (pc := 15) ?_
    refine R_const (pc := 15) (pc' := 16) (v := 1) (show z_ptc 6 15 = some (16, 1) by decide +kernel) ?_
    refine R_pure (pc := 16) (pc' := 17) (st' := [.int ((μ 34 0) + 1), .ref 34]) (show z_pt 6 16 = some (2, .iadd, []) by decide +kernel) rfl (fun _ _ _ => rfl) ?_
    refine R_putI (pc := 17) (a := 34) (show z_pt 6 17 = some (2, .putfield 22, [0, 0, 1239]) by decide +kernel) (by decide +kernel) ⟨rfl, rfl⟩ ?_
    refine R_at (pc := 20) ?_
    refine R_const (pc := 20) (pc' := 21) (v := 1) (show z_ptc 6 20 = some (21, 1) by decide +kernel) ?_
    cases h
    exact R_retZ (show z_pt 6 21 = some (2, .ireturn, []) by decide +kernel) (t := .boolean) (by decide +kernel) (by decide)
  · rw [if_neg c3] at h
    refine R_const (pc := 8) (pc' := 9) (v := 0) (show z_ptc 6 8 = some (9, 0) by decide +kernel) ?_
    cases h
    exact R_retZ (show z_pt 6 9 = some (2, .ireturn, []) by decide +kernel) (t := .boolean) (by decide +kernel) (by decide)
def pR_readWord_L2_B (R : z_Mem → Int32 → Option (Int32 × z_Mem)) (sj : Nat)  (K : z_Mem → Int32 → Option (Int32 × z_Mem)) (μ : z_Mem) (a2 : Int32) : Option (Int32 × z_Mem) := if (Int32.ofNat (z_str sj).length) ≤ a2 then K μ a2 else if z_inb a2 (z_str sj).length = true then (pR_read μ (Int32.ofNat ((z_str sj).getD a2.toNatClampNeg 0))).bind fun q3 => if q3.1 = 0 then some (0, q3.2) else R q3.2 (a2 + 1) else none
def pR_readWord_L2 : Nat → Nat → (z_Mem → Int32 → Option (Int32 × z_Mem)) → z_Mem → Int32 → Option (Int32 × z_Mem)
  | 0 => fun _ _ _ _ => none
  | n + 1 => fun sj K μ a2 => pR_readWord_L2_B (pR_readWord_L2 n sj K) sj K μ a2
theorem pR_readWord_L2_run (sj : Nat)  (K : z_Mem → Int32 → Option (Int32 × z_Mem)) (hsj : Nat.blt sj 21 = true) (D : Nat) (hD : 6 ≤ D) (hK : ∀ (μ : z_Mem) (a2 : Int32) (r : (Int32 × z_Mem)), K μ a2 = some r → Rn D 7 30 [(0, .ref 34), (1, .ref (1000 + sj)), (2, .int a2)] [] μ (.inl (some (.int r.1))) r.2) : ∀ (n : Nat) (μ : z_Mem) (a2 : Int32) (r : (Int32 × z_Mem)), pR_readWord_L2 n sj K μ a2 = some r → Rn D 7 2 [(0, .ref 34), (1, .ref (1000 + sj)), (2, .int a2)] [] μ (.inl (some (.int r.1))) r.2 := by
  intro n
  induction n with
  | zero => intro μ a2 r h; cases h
  | succ n ih =>
    intro μ a2 r h
    have h : pR_readWord_L2_B (pR_readWord_L2 n sj K) sj K μ a2 = some r := h
    unfold pR_readWord_L2_B at h
    refine R_pure (pc := 2) (pc' := 3) (st' := [.int a2]) (show z_pt 7 2 = some (3, .iload_n 2, []) by decide +kernel) rfl (fun _ _ _ => rfl) ?_
    refine R_pure (pc := 3) (pc' := 4) (st' := [.ref (1000 + sj), .int a2]) (show z_pt 7 3 = some (3, .aload_n 1, []) by decide +kernel) rfl (fun _ _ _ => rfl) ?_
    refine R_slen (pc := 4) (show z_pt 7 4 = some (3, .invokevirtual 77, [8]) by decide +kernel) rfl hsj (by omega) rfl ?_
    refine R_at (pc := 7) ?_
    refine R_icmge (pc := 7) (t := 30) (show z_pt 7 7 = some (3, .if_icmp .ge 23, []) by decide +kernel) (by decide) (fun c1 => ?_) (fun c1 => ?_)
    · rw [if_pos c1] at h
      exact hK _ _  _ h
    · rw [if_neg c1] at h
      refine R_pure (pc := 10) (pc' := 11) (st' := [.ref 34]) (show z_pt 7 10 = some (3, .aload_n 0, []) by decide +kernel) rfl (fun _ _ _ => rfl) ?_
      refine R_pure (pc := 11) (pc' := 12) (st' := [.ref (1000 + sj), .ref 34]) (show z_pt 7 11 = some (3, .aload_n 1, []) by decide +kernel) rfl (fun _ _ _ => rfl) ?_
      refine R_pure (pc := 12) (pc' := 13) (st' := [.int a2, .ref (1000 + sj), .ref 34]) (show z_pt 7 12 = some (3, .iload_n 2, []) by decide +kernel) rfl (fun _ _ _ => rfl) ?_
      obtain ⟨g2, h⟩ := z_ig h
      refine R_sch (pc := 13) (show z_pt 7 13 = some (3, .invokevirtual 81, [9]) by decide +kernel) rfl hsj g2 (by omega) rfl ?_
      refine R_at (pc := 16) ?_
      obtain ⟨q3, e4, h⟩ := z_bs h
      refine R_call (pc := 16) (rr := []) (show z_pt 7 16 = some (3, .invokevirtual 33, [0, 6, 1, 4230, 4232, 24, 1010, 4233]) by decide +kernel) rfl (show z_r2 6 = some (0, 2, true) by decide +kernel) rfl rfl (Or.inr ⟨_, _, rfl, (by decide +kernel)⟩) (pR_read_run  e4) (by omega) ?_
      refine R_at2 (pc := 19) (st := [.int q3.1]) ?_
      refine R_ifne (pc := 19) (t := 24) (show z_pt 7 19 = some (3, .ifCond .ne 5, []) by decide +kernel) (by decide) (fun c5 => ?_) (fun c5 => ?_)
      · rw [if_neg c5] at h
        refine R_inc (pc := 24) (pc' := 27) (ls' := [(0, .ref 34), (1, .ref (1000 + sj)), (2, .int (a2 + 1))]) (c := 1) (show z_pt 7 24 = some (3, .iinc 2 1, []) by decide +kernel) (by decide) rfl rfl ?_
        refine R_pure (pc := 27) (pc' := 2) (ls' := [(0, .ref 34), (1, .ref (1000 + sj)), (2, .int (a2 + 1))]) (st' := []) (show z_pt 7 27 = some (3, .goto (-25), [3]) by decide +kernel) rfl (fun _ _ _ => rfl) ?_
        exact ih _ _ _  h
      · rw [if_pos c5] at h
        refine R_const (pc := 22) (pc' := 23) (v := 0) (show z_ptc 7 22 = some (23, 0) by decide +kernel) ?_
        cases h
        exact R_retZ (show z_pt 7 23 = some (3, .ireturn, []) by decide +kernel) (t := .boolean) (by decide +kernel) (by decide)
def pR_readWord (sj : Nat) (μ : z_Mem)  : Option (Int32 × z_Mem) := pR_readWord_L2 z_fu sj (fun M7 k6 => some (1, M7)) μ 0
theorem pR_readWord_run {sj : Nat} {μ : z_Mem}  (hsj : Nat.blt sj 21 = true) {r : (Int32 × z_Mem)} (h : pR_readWord sj μ = some r) : Rn 6 7 0 [(0, .ref 34), (1, .ref (1000 + sj))] [] μ (.inl (some (.int r.1))) r.2 := by
  unfold pR_readWord at h
  refine R_const (pc := 0) (pc' := 1) (v := 0) (show z_ptc 7 0 = some (1, 0) by decide +kernel) ?_
  refine R_pure (pc := 1) (pc' := 2) (ls' := [(0, .ref 34), (1, .ref (1000 + sj)), (2, .int 0)]) (st' := []) (show z_pt 7 1 = some (3, .istore_n 2, []) by decide +kernel) rfl (fun _ _ _ => rfl) ?_
  refine pR_readWord_L2_run _  _ hsj _ (by omega) ?_ _ _ _ _ h
  intro M7 k6 r h
  refine R_const (pc := 30) (pc' := 31) (v := 1) (show z_ptc 7 30 = some (31, 1) by decide +kernel) ?_
  cases h
  exact R_retZ (show z_pt 7 31 = some (3, .ireturn, []) by decide +kernel) (t := .boolean) (by decide +kernel) (by decide)
def pR_setValue  (μ : z_Mem) (i1 : Int32) (i2 : Int32) : Option z_Mem := if z_inb (((μ 34 1) * 3) + i1) 27 = true then some (z_u μ 36 (((μ 34 1) * 3) + i1).toNatClampNeg i2) else none
theorem pR_setValue_run  {μ : z_Mem} {i1 : Int32} {i2 : Int32}  {r : z_Mem} (h : pR_setValue μ i1 i2 = some r) : Rn 0 13 0 [(0, .ref 34), (1, .int i1), (2, .int i2)] [] μ (.inl none) r := by
  unfold pR_setValue at h
  refine R_pure (pc := 0) (pc' := 1) (st' := [.ref 34]) (show z_pt 13 0 = some (3, .aload_n 0, []) by decide +kernel) rfl (fun _ _ _ => rfl) ?_
  refine R_getR (pc := 1) (a := 34) (b := 36) (show z_pt 13 1 = some (3, .getfield 15, [0, 4, 2005]) by decide +kernel) (by decide +kernel) ?_
  refine R_at (pc := 4) ?_
  refine R_pure (pc := 4) (pc' := 5) (st' := [.ref 34, .ref 36]) (show z_pt 13 4 = some (3, .aload_n 0, []) by decide +kernel) rfl (fun _ _ _ => rfl) ?_
  refine R_getI (pc := 5) (a := 34) (show z_pt 13 5 = some (3, .getfield 26, [0, 1, 2001]) by decide +kernel) (by decide +kernel) ?_
  refine R_at (pc := 8) ?_
  refine R_const (pc := 8) (pc' := 9) (v := 3) (show z_ptc 13 8 = some (9, 3) by decide +kernel) ?_
  refine R_pure (pc := 9) (pc' := 10) (st' := [.int ((μ 34 1) * 3), .ref 36]) (show z_pt 13 9 = some (3, .imul, []) by decide +kernel) rfl (fun _ _ _ => rfl) ?_
  refine R_pure (pc := 10) (pc' := 11) (st' := [.int i1, .int ((μ 34 1) * 3), .ref 36]) (show z_pt 13 10 = some (3, .iload_n 1, []) by decide +kernel) rfl (fun _ _ _ => rfl) ?_
  refine R_pure (pc := 11) (pc' := 12) (st' := [.int (((μ 34 1) * 3) + i1), .ref 36]) (show z_pt 13 11 = some (3, .iadd, []) by decide +kernel) rfl (fun _ _ _ => rfl) ?_
  refine R_pure (pc := 12) (pc' := 13) (st' := [.int i2, .int (((μ 34 1) * 3) + i1), .ref 36]) (show z_pt 13 12 = some (3, .iload_n 2, []) by decide +kernel) rfl (fun _ _ _ => rfl) ?_
  obtain ⟨g1, h⟩ := z_ig h
  refine R_iast (pc := 13) (a := 36) (n := 27) (show z_pt 13 13 = some (3, .iastore, []) by decide +kernel) (show z_ar 36 0 27 = true by decide +kernel) g1 ?_
  refine R_at (pc := 14) ?_
  cases h
  exact R_retV (show z_pt 13 14 = some (3, .return_, []) by decide +kernel) (by decide +kernel)
def pR_readBetween  (μ : z_Mem) (i1 : Int32) (i2 : Int32) (i3 : Int32) (i4 : Int32) : Option (Int32 × z_Mem) := (pR_signAhead μ).bind fun q1 => if q1 < i1 then some (0, μ) else if q1 ≤ i2 then (pR_setValue μ i3 (q1 - i4)).bind fun q5 => some (1, (z_u q5 34 0 ((q5 34 0) + 1))) else some (0, μ)
theorem pR_readBetween_run  {μ : z_Mem} {i1 : Int32} {i2 : Int32} {i3 : Int32} {i4 : Int32}  {r : (Int32 × z_Mem)} (h : pR_readBetween μ i1 i2 i3 i4 = some r) : Rn 1 10 0 [(0, .ref 34), (1, .int i1), (2, .int i2), (3, .int i3), (4, .int i4)] [] μ (.inl (some (.int r.1))) r.2 := by
  unfold pR_readBetween at h
  refine R_pure (pc := 0) (pc' := 1) (st' := [.ref 34]) (show z_pt 10 0 = some (6, .aload_n 0, []) by decide +kernel) rfl (fun _ _ _ => rfl) ?_
  obtain ⟨q1, e2, h⟩ := z_bs h
  refine R_call (pc := 1) (rr := []) (show z_pt 10 1 = some (6, .invokevirtual 42, [0, 5, 0, 4173, 4175, 22, 1010, 4176]) by decide +kernel) rfl (show z_r2 5 = some (0, 1, true) by decide +kernel) rfl rfl (Or.inr ⟨_, _, rfl, (by decide +kernel)⟩) (pR_signAhead_run  e2) (by omega) ?_
  refine R_at2 (pc := 4) (st := [.int q1]) ?_
  refine R_pure (pc := 4) (pc' := 6) (ls' := [(0, .ref 34), (1, .int i1), (2, .int i2), (3, .int i3), (4, .int i4), (5, .int q1)]) (st' := []) (show z_pt 10 4 = some (6, .istore 5, []) by decide +kernel) rfl (fun _ _ _ => rfl) ?_
  refine R_pure (pc := 6) (pc' := 8) (st' := [.int q1]) (show z_pt 10 6 = some (6, .iload 5, []) by decide +kernel) rfl (fun _ _ _ => rfl) ?_
  refine R_pure (pc := 8) (pc' := 9) (st' := [.int i1, .int q1]) (show z_pt 10 8 = some (6, .iload_n 1, []) by decide +kernel) rfl (fun _ _ _ => rfl) ?_
  refine R_icmlt (pc := 9) (t := 18) (show z_pt 10 9 = some (6, .if_icmp .lt 9, []) by decide +kernel) (by decide) (fun c3 => ?_) (fun c3 => ?_)
  · rw [if_pos c3] at h
    refine R_const (pc := 18) (pc' := 19) (v := 0) (show z_ptc 10 18 = some (19, 0) by decide +kernel) ?_
    cases h
    exact R_retZ (show z_pt 10 19 = some (6, .ireturn, []) by decide +kernel) (t := .boolean) (by decide +kernel) (by decide)
  · rw [if_neg c3] at h
    refine R_pure (pc := 12) (pc' := 14) (st' := [.int q1]) (show z_pt 10 12 = some (6, .iload 5, []) by decide +kernel) rfl (fun _ _ _ => rfl) ?_
    refine R_pure (pc := 14) (pc' := 15) (st' := [.int i2, .int q1]) (show z_pt 10 14 = some (6, .iload_n 2, []) by decide +kernel) rfl (fun _ _ _ => rfl) ?_
    refine R_icmle (pc := 15) (t := 20) (show z_pt 10 15 = some (6, .if_icmp .le 5, []) by decide +kernel) (by decide) (fun c4 => ?_) (fun c4 => ?_)
    · rw [if_pos c4] at h
      refine R_pure (pc := 20) (pc' := 21) (st' := [.ref 34]) (show z_pt 10 20 = some (6, .aload_n 0, []) by decide +kernel) rfl (fun _ _ _ => rfl) ?_
      refine R_pure (pc := 21) (pc' := 22) (st' := [.int i3, .ref 34]) (show z_pt 10 21 = some (6, .iload_n 3, []) by decide +kernel) rfl (fun _ _ _ => rfl) ?_
      refine R_pure (pc := 22) (pc' := 24) (st' := [.int q1, .int i3, .ref 34]) (show z_pt 10 22 = some (6, .iload 5, []) by decide +kernel) rfl (fun _ _ _ => rfl) ?_
      refine R_pure (pc := 24) (pc' := 26) (st' := [.int i4, .int q1, .int i3, .ref 34]) (show z_pt 10 24 = some (6, .iload 4, []) by decide +kernel) rfl (fun _ _ _ => rfl) ?_
      refine R_pure (pc := 26) (pc' := 27) (st' := [.int (q1 - i4), .int i3, .ref 34]) (show z_pt 10 26 = some (6, .isub, []) by decide +kernel) rfl (fun _ _ _ => rfl) ?_
      obtain ⟨q5, e6, h⟩ := z_bs h
      refine R_call (pc := 27) (rr := []) (show z_pt 10 27 = some (6, .invokevirtual 89, [0, 13, 2, 5006, 5008, 28, 1010, 5009]) by decide +kernel) rfl (show z_r2 13 = some (0, 3, true) by decide +kernel) rfl rfl (Or.inr ⟨_, _, rfl, (by decide +kernel)⟩) (pR_setValue_run  e6) (by omega) ?_
      refine R_at2 (pc := 30) (st := []) ?_
      refine R_pure (pc := 30) (pc' := 31) (st' := [.ref 34]) (show z_pt 10 30 = some (6, .aload_n 0, []) by decide +kernel) rfl (fun _ _ _ => rfl) ?_
      refine R_pure (pc := 31) (pc' := 32) (st' := [.ref 34, .ref 34]) (show z_pt 10 31 = some (6, .dup, []) by decide +kernel) rfl (fun _ _ _ => rfl) ?_
      refine R_getI (pc := 32) (a := 34) (show z_pt 10 32 = some (6, .getfield 22, [0, 0, 1239]) by decide +kernel) (by decide +kernel) ?_
      refine R_at (pc := 35) ?_
      refine R_const (pc := 35) (pc' := 36) (v := 1) (show z_ptc 10 35 = some (36, 1) by decide +kernel) ?_
      refine R_pure (pc := 36) (pc' := 37) (st' := [.int ((q5 34 0) + 1), .ref 34]) (show z_pt 10 36 = some (6, .iadd, []) by decide +kernel) rfl (fun _ _ _ => rfl) ?_
      refine R_putI (pc := 37) (a := 34) (show z_pt 10 37 = some (6, .putfield 22, [0, 0, 1239]) by decide +kernel) (by decide +kernel) ⟨rfl, rfl⟩ ?_
      refine R_at (pc := 40) ?_
      refine R_const (pc := 40) (pc' := 41) (v := 1) (show z_ptc 10 40 = some (41, 1) by decide +kernel) ?_
      cases h
      exact R_retZ (show z_pt 10 41 = some (6, .ireturn, []) by decide +kernel) (t := .boolean) (by decide +kernel) (by decide)
    · rw [if_neg c4] at h
      refine R_const (pc := 18) (pc' := 19) (v := 0) (show z_ptc 10 18 = some (19, 0) by decide +kernel) ?_
      cases h
      exact R_retZ (show z_pt 10 19 = some (6, .ireturn, []) by decide +kernel) (t := .boolean) (by decide +kernel) (by decide)
def pR_readLetter  (μ : z_Mem) (i1 : Int32) : Option (Int32 × z_Mem) := (pR_readBetween μ 97 122 i1 0).bind fun q1 => if vp_nar .boolean q1.1 = q1.1 then some (q1.1, q1.2) else none
theorem pR_readLetter_run  {μ : z_Mem} {i1 : Int32}  {r : (Int32 × z_Mem)} (h : pR_readLetter μ i1 = some r) : Rn 2 8 0 [(0, .ref 34), (1, .int i1)] [] μ (.inl (some (.int r.1))) r.2 := by
  unfold pR_readLetter at h
  refine R_pure (pc := 0) (pc' := 1) (st' := [.ref 34]) (show z_pt 8 0 = some (2, .aload_n 0, []) by decide +kernel) rfl (fun _ _ _ => rfl) ?_
  refine R_const (pc := 1) (pc' := 3) (v := 97) (show z_ptc 8 1 = some (3, 97) by decide +kernel) ?_
  refine R_const (pc := 3) (pc' := 5) (v := 122) (show z_ptc 8 3 = some (5, 122) by decide +kernel) ?_
  refine R_pure (pc := 5) (pc' := 6) (st' := [.int i1, .int 122, .int 97, .ref 34]) (show z_pt 8 5 = some (2, .iload_n 1, []) by decide +kernel) rfl (fun _ _ _ => rfl) ?_
  refine R_const (pc := 6) (pc' := 7) (v := 0) (show z_ptc 8 6 = some (7, 0) by decide +kernel) ?_
  obtain ⟨q1, e2, h⟩ := z_bs h
  refine R_call (pc := 7) (rr := []) (show z_pt 8 7 = some (2, .invokevirtual 85, [0, 10, 4, 5002, 5004, 27, 1010, 5005]) by decide +kernel) rfl (show z_r2 10 = some (0, 6, true) by decide +kernel) rfl rfl (Or.inr ⟨_, _, rfl, (by decide +kernel)⟩) (pR_readBetween_run  e2) (by omega) ?_
  refine R_at2 (pc := 10) (st := [.int q1.1]) ?_
  obtain ⟨g3, h⟩ := z_ig h
  cases h
  exact R_retZ (show z_pt 8 10 = some (2, .ireturn, []) by decide +kernel) (t := .boolean) (by decide +kernel) (z_nrZ g3)
def pR_readDigit  (μ : z_Mem) (i1 : Int32) : Option (Int32 × z_Mem) := (pR_readBetween μ 48 57 i1 48).bind fun q1 => if vp_nar .boolean q1.1 = q1.1 then some (q1.1, q1.2) else none
theorem pR_readDigit_run  {μ : z_Mem} {i1 : Int32}  {r : (Int32 × z_Mem)} (h : pR_readDigit μ i1 = some r) : Rn 2 9 0 [(0, .ref 34), (1, .int i1)] [] μ (.inl (some (.int r.1))) r.2 := by
  unfold pR_readDigit at h
  refine R_pure (pc := 0) (pc' := 1) (st' := [.ref 34]) (show z_pt 9 0 = some (2, .aload_n 0, []) by decide +kernel) rfl (fun _ _ _ => rfl) ?_
  refine R_const (pc := 1) (pc' := 3) (v := 48) (show z_ptc 9 1 = some (3, 48) by decide +kernel) ?_
  refine R_const (pc := 3) (pc' := 5) (v := 57) (show z_ptc 9 3 = some (5, 57) by decide +kernel) ?_
  refine R_pure (pc := 5) (pc' := 6) (st' := [.int i1, .int 57, .int 48, .ref 34]) (show z_pt 9 5 = some (2, .iload_n 1, []) by decide +kernel) rfl (fun _ _ _ => rfl) ?_
  refine R_const (pc := 6) (pc' := 8) (v := 48) (show z_ptc 9 6 = some (8, 48) by decide +kernel) ?_
  obtain ⟨q1, e2, h⟩ := z_bs h
  refine R_call (pc := 8) (rr := []) (show z_pt 9 8 = some (2, .invokevirtual 85, [0, 10, 4, 5002, 5004, 27, 1010, 5005]) by decide +kernel) rfl (show z_r2 10 = some (0, 6, true) by decide +kernel) rfl rfl (Or.inr ⟨_, _, rfl, (by decide +kernel)⟩) (pR_readBetween_run  e2) (by omega) ?_
  refine R_at2 (pc := 11) (st := [.int q1.1]) ?_
  obtain ⟨g3, h⟩ := z_ig h
  cases h
  exact R_retZ (show z_pt 9 11 = some (2, .ireturn, []) by decide +kernel) (t := .boolean) (by decide +kernel) (z_nrZ g3)
def pR_value  (μ : z_Mem) (i1 : Int32) : Option Int32 := (z_rd μ 36 27 (((μ 34 1) * 3) + i1)).bind fun v1 => some v1
theorem pR_value_run  {μ : z_Mem} {i1 : Int32}  {r : Int32} (h : pR_value μ i1 = some r) : Rn 0 12 0 [(0, .ref 34), (1, .int i1)] [] μ (.inl (some (.int r))) μ := by
  unfold pR_value at h
  refine R_pure (pc := 0) (pc' := 1) (st' := [.ref 34]) (show z_pt 12 0 = some (2, .aload_n 0, []) by decide +kernel) rfl (fun _ _ _ => rfl) ?_
  refine R_getR (pc := 1) (a := 34) (b := 36) (show z_pt 12 1 = some (2, .getfield 15, [0, 4, 2005]) by decide +kernel) (by decide +kernel) ?_
  refine R_at (pc := 4) ?_
  refine R_pure (pc := 4) (pc' := 5) (st' := [.ref 34, .ref 36]) (show z_pt 12 4 = some (2, .aload_n 0, []) by decide +kernel) rfl (fun _ _ _ => rfl) ?_
  refine R_getI (pc := 5) (a := 34) (show z_pt 12 5 = some (2, .getfield 26, [0, 1, 2001]) by decide +kernel) (by decide +kernel) ?_
  refine R_at (pc := 8) ?_
  refine R_const (pc := 8) (pc' := 9) (v := 3) (show z_ptc 12 8 = some (9, 3) by decide +kernel) ?_
  refine R_pure (pc := 9) (pc' := 10) (st' := [.int ((μ 34 1) * 3), .ref 36]) (show z_pt 12 9 = some (2, .imul, []) by decide +kernel) rfl (fun _ _ _ => rfl) ?_
  refine R_pure (pc := 10) (pc' := 11) (st' := [.int i1, .int ((μ 34 1) * 3), .ref 36]) (show z_pt 12 10 = some (2, .iload_n 1, []) by decide +kernel) rfl (fun _ _ _ => rfl) ?_
  refine R_pure (pc := 11) (pc' := 12) (st' := [.int (((μ 34 1) * 3) + i1), .ref 36]) (show z_pt 12 11 = some (2, .iadd, []) by decide +kernel) rfl (fun _ _ _ => rfl) ?_
  obtain ⟨v1, e2, h⟩ := z_bs h
  refine R_ialdR (pc := 12) (a := 36) (n := 27) (show z_pt 12 12 = some (2, .iaload, []) by decide +kernel) (show z_ar 36 0 27 = true by decide +kernel) e2 ?_
  refine R_at (pc := 13) ?_
  cases h
  exact R_retI (show z_pt 12 13 = some (2, .ireturn, []) by decide +kernel) (by decide +kernel)
def pR_readNumber  (μ : z_Mem) (i1 : Int32) (i2 : Int32) : Option (Int32 × z_Mem) := (pR_readDigit μ i1).bind fun q1 => if q1.1 = 0 then some (0, q1.2) else (pR_value q1.2 i1).bind fun q4 => (pR_readDigit q1.2 i1).bind fun q6 => if q6.1 = 0 then (pR_setValue q6.2 i1 (i2 * q4)).bind fun q9 => some (1, q9) else (pR_value q6.2 i1).bind fun q11 => (pR_setValue q6.2 i1 (i2 * ((10 * q4) + q11))).bind fun q13 => some (1, q13)
theorem pR_readNumber_run  {μ : z_Mem} {i1 : Int32} {i2 : Int32}  {r : (Int32 × z_Mem)} (h : pR_readNumber μ i1 i2 = some r) : Rn 3 11 0 [(0, .ref 34), (1, .int i1), (2, .int i2)] [] μ (.inl (some (.int r.1))) r.2 := by
  unfold pR_readNumber at h
  refine R_pure (pc := 0) (pc' := 1) (st' := [.ref 34]) (show z_pt 11 0 = some (4, .aload_n 0, []) by decide +kernel) rfl (fun _ _ _ => rfl) ?_
  refine R_pure (pc := 1) (pc' := 2) (st' := [.int i1, .ref 34]) (show z_pt 11 1 = some (4, .iload_n 1, []) by decide +kernel) rfl (fun _ _ _ => rfl) ?_
  obtain ⟨q1, e2, h⟩ := z_bs h
  refine R_call (pc := 2) (rr := []) (show z_pt 11 2 = some (4, .invokevirtual 58, [0, 9, 1, 4238, 5000, 26, 1010, 5001]) by decide +kernel) rfl (show z_r2 9 = some (0, 2, true) by decide +kernel) rfl rfl (Or.inr ⟨_, _, rfl, (by decide +kernel)⟩) (pR_readDigit_run  e2) (by omega) ?_
  refine R_at2 (pc := 5) (st := [.int q1.1]) ?_
  refine R_ifne (pc := 5) (t := 10) (show z_pt 11 5 = some (4, .ifCond .ne 5, []) by decide +kernel) (by decide) (fun c3 => ?_) (fun c3 => ?_)
  · rw [if_neg c3] at h
    refine R_pure (pc := 10) (pc' := 11) (st' := [.ref 34]) (show z_pt 11 10 = some (4, .aload_n 0, []) by decide +kernel) rfl (fun _ _ _ => rfl) ?_
    refine R_pure (pc := 11) (pc' := 12) (st' := [.int i1, .ref 34]) (show z_pt 11 11 = some (4, .iload_n 1, []) by decide +kernel) rfl (fun _ _ _ => rfl) ?_
    obtain ⟨q4, e5, h⟩ := z_bs h
    refine R_call (pc := 12) (rr := []) (show z_pt 11 12 = some (4, .invokevirtual 93, [0, 12, 1, 5010, 5012, 29, 1010, 5013]) by decide +kernel) rfl (show z_r2 12 = some (0, 2, true) by decide +kernel) rfl rfl (Or.inr ⟨_, _, rfl, (by decide +kernel)⟩) (pR_value_run  e5) (by omega) ?_
    refine R_at2 (pc := 15) (st := [.int q4]) ?_
    refine R_pure (pc := 15) (pc' := 16) (ls' := [(0, .ref 34), (1, .int i1), (2, .int i2), (3, .int q4)]) (st' := []) (show z_pt 11 15 = some (4, .istore_n 3, []) by decide +kernel) rfl (fun _ _ _ => rfl) ?_
    refine R_pure (pc := 16) (pc' := 17) (st' := [.ref 34]) (show z_pt 11 16 = some (4, .aload_n 0, []) by decide +kernel) rfl (fun _ _ _ => rfl) ?_
    refine R_pure (pc := 17) (pc' := 18) (st' := [.int i1, .ref 34]) (show z_pt 11 17 = some (4, .iload_n 1, []) by decide +kernel) rfl (fun _ _ _ => rfl) ?_
    obtain ⟨q6, e7, h⟩ := z_bs h
    refine R_call (pc := 18) (rr := []) (show z_pt 11 18 = some (4, .invokevirtual 58, [0, 9, 1, 4238, 5000, 26, 1010, 5001]) by decide +kernel) rfl (show z_r2 9 = some (0, 2, true) by decide +kernel) rfl rfl (Or.inr ⟨_, _, rfl, (by decide +kernel)⟩) (pR_readDigit_run  e7) (by omega) ?_
    refine R_at2 (pc := 21) (st := [.int q6.1]) ?_
    refine R_ifeq (pc := 21) (t := 35) (show z_pt 11 21 = some (4, .ifCond .eq 14, []) by decide +kernel) (by decide) (fun c8 => ?_) (fun c8 => ?_)
    · rw [if_pos c8] at h
      refine R_pure (pc := 35) (pc' := 36) (st' := [.ref 34]) (show z_pt 11 35 = some (4, .aload_n 0, []) by decide +kernel) rfl (fun _ _ _ => rfl) ?_
      refine R_pure (pc := 36) (pc' := 37) (st' := [.int i1, .ref 34]) (show z_pt 11 36 = some (4, .iload_n 1, []) by decide +kernel) rfl (fun _ _ _ => rfl) ?_
      refine R_pure (pc := 37) (pc' := 38) (st' := [.int i2, .int i1, .ref 34]) (show z_pt 11 37 = some (4, .iload_n 2, []) by decide +kernel) rfl (fun _ _ _ => rfl) ?_
      refine R_pure (pc := 38) (pc' := 39) (st' := [.int q4, .int i2, .int i1, .ref 34]) (show z_pt 11 38 = some (4, .iload_n 3, []) by decide +kernel) rfl (fun _ _ _ => rfl) ?_
      refine R_pure (pc := 39) (pc' := 40) (st' := [.int (i2 * q4), .int i1, .ref 34]) (show z_pt 11 39 = some (4, .imul, []) by decide +kernel) rfl (fun _ _ _ => rfl) ?_
      obtain ⟨q9, e10, h⟩ := z_bs h
      refine R_call (pc := 40) (rr := []) (show z_pt 11 40 = some (4, .invokevirtual 89, [0, 13, 2, 5006, 5008, 28, 1010, 5009]) by decide +kernel) rfl (show z_r2 13 = some (0, 3, true) by decide +kernel) rfl rfl (Or.inr ⟨_, _, rfl, (by decide +kernel)⟩) (pR_setValue_run  e10) (by omega) ?_
      refine R_at2 (pc := 43) (st := []) ?_
      refine R_const (pc := 43) (pc' := 44) (v := 1) (show z_ptc 11 43 = some (44, 1) by decide +kernel) ?_
      cases h
      exact R_retZ (show z_pt 11 44 = some (4, .ireturn, []) by decide +kernel) (t := .boolean) (by decide +kernel) (by decide)
    · rw [if_neg c8] at h
      refine R_const (pc := 24) (pc' := 26) (v := 10) (show z_ptc 11 24 = some (26, 10) by decide +kernel) ?_
      refine R_pure (pc := 26) (pc' := 27) (st' := [.int q4, .int 10]) (show z_pt 11 26 = some (4, .iload_n 3, []) by decide +kernel) rfl (fun _ _ _ => rfl) ?_
      refine R_pure (pc := 27) (pc' := 28) (st' := [.int (10 * q4)]) (show z_pt 11 27 = some (4, .imul, []) by decide +kernel) rfl (fun _ _ _ => rfl) ?_
      refine R_pure (pc := 28) (pc' := 29) (st' := [.ref 34, .int (10 * q4)]) (show z_pt 11 28 = some (4, .aload_n 0, []) by decide +kernel) rfl (fun _ _ _ => rfl) ?_
      refine R_pure (pc := 29) (pc' := 30) (st' := [.int i1, .ref 34, .int (10 * q4)]) (show z_pt 11 29 = some (4, .iload_n 1, []) by decide +kernel) rfl (fun _ _ _ => rfl) ?_
      obtain ⟨q11, e12, h⟩ := z_bs h
      refine R_call (pc := 30) (rr := [.int (10 * q4)]) (show z_pt 11 30 = some (4, .invokevirtual 93, [0, 12, 1, 5010, 5012, 29, 1010, 5013]) by decide +kernel) rfl (show z_r2 12 = some (0, 2, true) by decide +kernel) rfl rfl (Or.inr ⟨_, _, rfl, (by decide +kernel)⟩) (pR_value_run  e12) (by omega) ?_
      refine R_at2 (pc := 33) (st := [.int q11, .int (10 * q4)]) ?_
      refine R_pure (pc := 33) (pc' := 34) (st' := [.int ((10 * q4) + q11)]) (show z_pt 11 33 = some (4, .iadd, []) by decide +kernel) rfl (fun _ _ _ => rfl) ?_
      refine R_pure (pc := 34) (pc' := 35) (ls' := [(0, .ref 34), (1, .int i1), (2, .int i2), (3, .int ((10 * q4) + q11))]) (st' := []) (show z_pt 11 34 = some (4, .istore_n 3, []) by decide +kernel) rfl (fun _ _ _ => rfl) ?_
      refine R_pure (pc := 35) (pc' := 36) (st' := [.ref 34]) (show z_pt 11 35 = some (4, .aload_n 0, []) by decide +kernel) rfl (fun _ _ _ => rfl) ?_
      refine R_pure (pc := 36) (pc' := 37) (st' := [.int i1, .ref 34]) (show z_pt 11 36 = some (4, .iload_n 1, []) by decide +kernel) rfl (fun _ _ _ => rfl) ?_
      refine R_pure (pc := 37) (pc' := 38) (st' := [.int i2, .int i1, .ref 34]) (show z_pt 11 37 = some (4, .iload_n 2, []) by decide +kernel) rfl (fun _ _ _ => rfl) ?_
      refine R_pure (pc := 38) (pc' := 39) (st' := [.int ((10 * q4) + q11), .int i2, .int i1, .ref 34]) (show z_pt 11 38 = some (4, .iload_n 3, []) by decide +kernel) rfl (fun _ _ _ => rfl) ?_
      refine R_pure (pc := 39) (pc' := 40) (st' := [.int (i2 * ((10 * q4) + q11)), .int i1, .ref 34]) (show z_pt 11 39 = some (4, .imul, []) by decide +kernel) rfl (fun _ _ _ => rfl) ?_
      obtain ⟨q13, e14, h⟩ := z_bs h
      refine R_call (pc := 40) (rr := []) (show z_pt 11 40 = some (4, .invokevirtual 89, [0, 13, 2, 5006, 5008, 28, 1010, 5009]) by decide +kernel) rfl (show z_r2 13 = some (0, 3, true) by decide +kernel) rfl rfl (Or.inr ⟨_, _, rfl, (by decide +kernel)⟩) (pR_setValue_run  e14) (by omega) ?_
      refine R_at2 (pc := 43) (st := []) ?_
      refine R_const (pc := 43) (pc' := 44) (v := 1) (show z_ptc 11 43 = some (44, 1) by decide +kernel) ?_
      cases h
      exact R_retZ (show z_pt 11 44 = some (4, .ireturn, []) by decide +kernel) (t := .boolean) (by decide +kernel) (by decide)
  · rw [if_pos c3] at h
    refine R_const (pc := 8) (pc' := 9) (v := 0) (show z_ptc 11 8 = some (9, 0) by decide +kernel) ?_
    cases h
    exact R_retZ (show z_pt 11 9 = some (4, .ireturn, []) by decide +kernel) (t := .boolean) (by decide +kernel) (by decide)
def pR_readCommand  (μ : z_Mem)  : Option (Int32 × z_Mem) := (pR_signAhead μ).bind fun q1 => if z_inb (μ 34 1) 9 = true then (z_rd (z_u μ 35 (μ 34 1).toNatClampNeg q1) 35 9 ((z_u μ 35 (μ 34 1).toNatClampNeg q1) 34 1)).bind fun v4 => if v4 = 103 then (pR_readWord 0 (z_u μ 35 (μ 34 1).toNatClampNeg q1)).bind fun q7 => if q7.1 = 0 then some (0, q7.2) else (pR_readNumber q7.2 0 1).bind fun q10 => if q10.1 = 0 then some (0, q10.2) else some (1, q10.2) else if v4 = 104 then (pR_readWord 5 (z_u μ 35 (μ 34 1).toNatClampNeg q1)).bind fun q14 => if q14.1 = 0 then some (0, q14.2) else (pR_readNumber q14.2 0 1).bind fun q17 => if q17.1 = 0 then some (0, q17.2) else some (1, q17.2) else if v4 = 109 then (pR_readWord 1 (z_u μ 35 (μ 34 1).toNatClampNeg q1)).bind fun q21 => if q21.1 = 0 then some (0, q21.2) else (pR_readDigit q21.2 0).bind fun q24 => if q24.1 = 0 then some (0, q24.2) else (pR_read q24.2 45).bind fun q27 => if q27.1 = 0 then some (0, q27.2) else (pR_readDigit q27.2 1).bind fun q30 => if q30.1 = 0 then some (0, q30.2) else (pR_read q30.2 47).bind fun q33 => if q33.1 = 0 then some (0, q33.2) else (pR_readDigit q33.2 2).bind fun q36 => if q36.1 = 0 then some (0, q36.2) else some (1, q36.2) else if v4 = 110 then (pR_readWord 4 (z_u μ 35 (μ 34 1).toNatClampNeg q1)).bind fun q40 => if q40.1 = 0 then some (0, q40.2) else (pR_readLetter q40.2 0).bind fun q43 => if q43.1 = 0 then some (0, q43.2) else (pR_readDigit q43.2 1).bind fun q46 => if q46.1 = 0 then some (0, q46.2) else some (1, q46.2) else if v4 = 116 then (pR_readWord 2 (z_u μ 35 (μ 34 1).toNatClampNeg q1)).bind fun q50 => if q50.1 = 0 then some (0, q50.2) else (pR_readDigit q50.2 0).bind fun q53 => if q53.1 = 0 then some (0, q53.2) else (pR_read q53.2 43).bind fun q56 => if q56.1 = 0 then (pR_read q56.2 45).bind fun q59 => if q59.1 = 0 then some (0, q59.2) else (pR_readNumber q59.2 1 (-1)).bind fun q62 => if q62.1 = 0 then some (0, q62.2) else some (1, q62.2) else (pR_readNumber q56.2 1 1).bind fun q65 => if q65.1 = 0 then some (0, q65.2) else some (1, q65.2) else if v4 = 119 then (pR_readWord 3 (z_u μ 35 (μ 34 1).toNatClampNeg q1)).bind fun q69 => if q69.1 = 0 then some (0, q69.2) else (pR_readDigit q69.2 0).bind fun q72 => if q72.1 = 0 then some (0, q72.2) else (pR_read q72.2 42).bind fun q75 => if q75.1 = 0 then some (0, q75.2) else (pR_readNumber q75.2 1 1).bind fun q78 => if q78.1 = 0 then some (0, q78.2) else some (1, q78.2) else some (0, (z_u μ 35 (μ 34 1).toNatClampNeg q1)) else none
theorem pR_readCommand_run  {μ : z_Mem}   {r : (Int32 × z_Mem)} (h : pR_readCommand μ = some r) : Rn 7 4 0 [(0, .ref 34)] [] μ (.inl (some (.int r.1))) r.2 := by
  unfold pR_readCommand at h
  refine R_pure (pc := 0) (pc' := 1) (st' := [.ref 34]) (show z_pt 4 0 = some (1, .aload_n 0, []) by decide +kernel) rfl (fun _ _ _ => rfl) ?_
  refine R_getR (pc := 1) (a := 34) (b := 35) (show z_pt 4 1 = some (1, .getfield 9, [0, 3, 2004]) by decide +kernel) (by decide +kernel) ?_
  refine R_at (pc := 4) ?_
  refine R_pure (pc := 4) (pc' := 5) (st' := [.ref 34, .ref 35]) (show z_pt 4 4 = some (1, .aload_n 0, []) by decide +kernel) rfl (fun _ _ _ => rfl) ?_
  refine R_getI (pc := 5) (a := 34) (show z_pt 4 5 = some (1, .getfield 26, [0, 1, 2001]) by decide +kernel) (by decide +kernel) ?_
  refine R_at (pc := 8) ?_
  refine R_pure (pc := 8) (pc' := 9) (st' := [.ref 34, .int (μ 34 1), .ref 35]) (show z_pt 4 8 = some (1, .aload_n 0, []) by decide +kernel) rfl (fun _ _ _ => rfl) ?_
  obtain ⟨q1, e2, h⟩ := z_bs h
  refine R_call (pc := 9) (rr := [.int (μ 34 1), .ref 35]) (show z_pt 4 9 = some (1, .invokevirtual 42, [0, 5, 0, 4173, 4175, 22, 1010, 4176]) by decide +kernel) rfl (show z_r2 5 = some (0, 1, true) by decide +kernel) rfl rfl (Or.inr ⟨_, _, rfl, (by decide +kernel)⟩) (pR_signAhead_run  e2) (by omega) ?_
  refine R_at2 (pc := 12) (st := [.int q1, .int (μ 34 1), .ref 35]) ?_
  obtain ⟨g3, h⟩ := z_ig h
  refine R_iast (pc := 12) (a := 35) (n := 9) (show z_pt 4 12 = some (1, .iastore, []) by decide +kernel) (show z_ar 35 0 9 = true by decide +kernel) g3 ?_
  refine R_at (pc := 13) ?_
  refine R_pure (pc := 13) (pc' := 14) (st' := [.ref 34]) (show z_pt 4 13 = some (1, .aload_n 0, []) by decide +kernel) rfl (fun _ _ _ => rfl) ?_
  refine R_getR (pc := 14) (a := 34) (b := 35) (show z_pt 4 14 = some (1, .getfield 9, [0, 3, 2004]) by decide +kernel) (by decide +kernel) ?_
  refine R_at (pc := 17) ?_
  refine R_pure (pc := 17) (pc' := 18) (st' := [.ref 34, .ref 35]) (show z_pt 4 17 = some (1, .aload_n 0, []) by decide +kernel) rfl (fun _ _ _ => rfl) ?_
  refine R_getI (pc := 18) (a := 34) (show z_pt 4 18 = some (1, .getfield 26, [0, 1, 2001]) by decide +kernel) (by decide +kernel) ?_
  refine R_at (pc := 21) ?_
  obtain ⟨v4, e5, h⟩ := z_bs h
  refine R_ialdR (pc := 21) (a := 35) (n := 9) (show z_pt 4 21 = some (1, .iaload, []) by decide +kernel) (show z_ar 35 0 9 = true by decide +kernel) e5 ?_
  refine R_at (pc := 22) ?_
  by_cases c6 : v4 = 103
  · rw [if_pos c6] at h
    refine R_sw (pc := 22) (t := 104) (v := 103) (show z_pt 4 22 = some (1, .tableswitch 321 103 119 #[82, 297, 321, 321, 321, 321, 106, 266, 321, 321, 321, 321, 321, 163, 321, 321, 225], []) by decide +kernel) c6 (show z_swt 4 22 103 = some 104 by decide +kernel) ?_
    refine R_pure (pc := 104) (pc' := 105) (st' := [.ref 34]) (show z_pt 4 104 = some (1, .aload_n 0, []) by decide +kernel) rfl (fun _ _ _ => rfl) ?_
    refine R_pure (pc := 105) (pc' := 107) (st' := [.ref (1000 + 0), .ref 34]) (show z_pt 4 105 = some (1, .ldc 46, [1, 0]) by decide +kernel) rfl (fun _ _ _ => rfl) ?_
    obtain ⟨q7, e8, h⟩ := z_bs h
    refine R_call (pc := 107) (rr := []) (show z_pt 4 107 = some (1, .invokevirtual 48, [0, 7, 1, 4178, 4180, 23, 1010, 4181]) by decide +kernel) rfl (show z_r2 7 = some (0, 3, true) by decide +kernel) rfl rfl (Or.inr ⟨_, _, rfl, (by decide +kernel)⟩) (pR_readWord_run (show Nat.blt 0 21 = true by decide) e8) (by omega) ?_
    refine R_at2 (pc := 110) (st := [.int q7.1]) ?_
    refine R_ifeq (pc := 110) (t := 126) (show z_pt 4 110 = some (1, .ifCond .eq 16, []) by decide +kernel) (by decide) (fun c9 => ?_) (fun c9 => ?_)
    · rw [if_pos c9] at h
      refine R_const (pc := 126) (pc' := 127) (v := 0) (show z_ptc 4 126 = some (127, 0) by decide +kernel) ?_
      cases h
      exact R_retZ (show z_pt 4 127 = some (1, .ireturn, []) by decide +kernel) (t := .boolean) (by decide +kernel) (by decide)
    · rw [if_neg c9] at h
      refine R_pure (pc := 113) (pc' := 114) (st' := [.ref 34]) (show z_pt 4 113 = some (1, .aload_n 0, []) by decide +kernel) rfl (fun _ _ _ => rfl) ?_
      refine R_const (pc := 114) (pc' := 115) (v := 0) (show z_ptc 4 114 = some (115, 0) by decide +kernel) ?_
      refine R_const (pc := 115) (pc' := 116) (v := 1) (show z_ptc 4 115 = some (116, 1) by decide +kernel) ?_
      obtain ⟨q10, e11, h⟩ := z_bs h
      refine R_call (pc := 116) (rr := []) (show z_pt 4 116 = some (1, .invokevirtual 52, [0, 11, 2, 4234, 4236, 25, 1010, 4237]) by decide +kernel) rfl (show z_r2 11 = some (0, 4, true) by decide +kernel) rfl rfl (Or.inr ⟨_, _, rfl, (by decide +kernel)⟩) (pR_readNumber_run  e11) (by omega) ?_
      refine R_at2 (pc := 119) (st := [.int q10.1]) ?_
      refine R_ifeq (pc := 119) (t := 126) (show z_pt 4 119 = some (1, .ifCond .eq 7, []) by decide +kernel) (by decide) (fun c12 => ?_) (fun c12 => ?_)
      · rw [if_pos c12] at h
        refine R_const (pc := 126) (pc' := 127) (v := 0) (show z_ptc 4 126 = some (127, 0) by decide +kernel) ?_
        cases h
        exact R_retZ (show z_pt 4 127 = some (1, .ireturn, []) by decide +kernel) (t := .boolean) (by decide +kernel) (by decide)
      · rw [if_neg c12] at h
        refine R_const (pc := 122) (pc' := 123) (v := 1) (show z_ptc 4 122 = some (123, 1) by decide +kernel) ?_
        refine R_pure (pc := 123) (pc' := 127) (show z_pt 4 123 = some (1, .goto 4, []) by decide +kernel) rfl (fun _ _ _ => rfl) ?_
        cases h
        exact R_retZ (show z_pt 4 127 = some (1, .ireturn, []) by decide +kernel) (t := .boolean) (by decide +kernel) (by decide)
  rw [if_neg c6] at h
  by_cases c13 : v4 = 104
  · rw [if_pos c13] at h
    refine R_sw (pc := 22) (t := 319) (v := 104) (show z_pt 4 22 = some (1, .tableswitch 321 103 119 #[82, 297, 321, 321, 321, 321, 106, 266, 321, 321, 321, 321, 321, 163, 321, 321, 225], []) by decide +kernel) c13 (show z_swt 4 22 104 = some 319 by decide +kernel) ?_
    refine R_pure (pc := 319) (pc' := 320) (st' := [.ref 34]) (show z_pt 4 319 = some (1, .aload_n 0, []) by decide +kernel) rfl (fun _ _ _ => rfl) ?_
    refine R_pure (pc := 320) (pc' := 322) (st' := [.ref (1000 + 5), .ref 34]) (show z_pt 4 320 = some (1, .ldc 71, [1, 5]) by decide +kernel) rfl (fun _ _ _ => rfl) ?_
    obtain ⟨q14, e15, h⟩ := z_bs h
    refine R_call (pc := 322) (rr := []) (show z_pt 4 322 = some (1, .invokevirtual 48, [0, 7, 1, 4178, 4180, 23, 1010, 4181]) by decide +kernel) rfl (show z_r2 7 = some (0, 3, true) by decide +kernel) rfl rfl (Or.inr ⟨_, _, rfl, (by decide +kernel)⟩) (pR_readWord_run (show Nat.blt 5 21 = true by decide) e15) (by omega) ?_
    refine R_at2 (pc := 325) (st := [.int q14.1]) ?_
    refine R_ifeq (pc := 325) (t := 341) (show z_pt 4 325 = some (1, .ifCond .eq 16, []) by decide +kernel) (by decide) (fun c16 => ?_) (fun c16 => ?_)
    · rw [if_pos c16] at h
      refine R_const (pc := 341) (pc' := 342) (v := 0) (show z_ptc 4 341 = some (342, 0) by decide +kernel) ?_
      cases h
      exact R_retZ (show z_pt 4 342 = some (1, .ireturn, []) by decide +kernel) (t := .boolean) (by decide +kernel) (by decide)
    · rw [if_neg c16] at h
      refine R_pure (pc := 328) (pc' := 329) (st' := [.ref 34]) (show z_pt 4 328 = some (1, .aload_n 0, []) by decide +kernel) rfl (fun _ _ _ => rfl) ?_
      refine R_const (pc := 329) (pc' := 330) (v := 0) (show z_ptc 4 329 = some (330, 0) by decide +kernel) ?_
      refine R_const (pc := 330) (pc' := 331) (v := 1) (show z_ptc 4 330 = some (331, 1) by decide +kernel) ?_
      obtain ⟨q17, e18, h⟩ := z_bs h
      refine R_call (pc := 331) (rr := []) (show z_pt 4 331 = some (1, .invokevirtual 52, [0, 11, 2, 4234, 4236, 25, 1010, 4237]) by decide +kernel) rfl (show z_r2 11 = some (0, 4, true) by decide +kernel) rfl rfl (Or.inr ⟨_, _, rfl, (by decide +kernel)⟩) (pR_readNumber_run  e18) (by omega) ?_
      refine R_at2 (pc := 334) (st := [.int q17.1]) ?_
      refine R_ifeq (pc := 334) (t := 341) (show z_pt 4 334 = some (1, .ifCond .eq 7, []) by decide +kernel) (by decide) (fun c19 => ?_) (fun c19 => ?_)
      · rw [if_pos c19] at h
        refine R_const (pc := 341) (pc' := 342) (v := 0) (show z_ptc 4 341 = some (342, 0) by decide +kernel) ?_
        cases h
        exact R_retZ (show z_pt 4 342 = some (1, .ireturn, []) by decide +kernel) (t := .boolean) (by decide +kernel) (by decide)
      · rw [if_neg c19] at h
        refine R_const (pc := 337) (pc' := 338) (v := 1) (show z_ptc 4 337 = some (338, 1) by decide +kernel) ?_
        refine R_pure (pc := 338) (pc' := 342) (show z_pt 4 338 = some (1, .goto 4, []) by decide +kernel) rfl (fun _ _ _ => rfl) ?_
        cases h
        exact R_retZ (show z_pt 4 342 = some (1, .ireturn, []) by decide +kernel) (t := .boolean) (by decide +kernel) (by decide)
  rw [if_neg c13] at h
  by_cases c20 : v4 = 109
  · rw [if_pos c20] at h
    refine R_sw (pc := 22) (t := 128) (v := 109) (show z_pt 4 22 = some (1, .tableswitch 321 103 119 #[82, 297, 321, 321, 321, 321, 106, 266, 321, 321, 321, 321, 321, 163, 321, 321, 225], []) by decide +kernel) c20 (show z_swt 4 22 109 = some 128 by decide +kernel) ?_
    refine R_pure (pc := 128) (pc' := 129) (st' := [.ref 34]) (show z_pt 4 128 = some (1, .aload_n 0, []) by decide +kernel) rfl (fun _ _ _ => rfl) ?_
    refine R_pure (pc := 129) (pc' := 131) (st' := [.ref (1000 + 1), .ref 34]) (show z_pt 4 129 = some (1, .ldc 56, [1, 1]) by decide +kernel) rfl (fun _ _ _ => rfl) ?_
    obtain ⟨q21, e22, h⟩ := z_bs h
    refine R_call (pc := 131) (rr := []) (show z_pt 4 131 = some (1, .invokevirtual 48, [0, 7, 1, 4178, 4180, 23, 1010, 4181]) by decide +kernel) rfl (show z_r2 7 = some (0, 3, true) by decide +kernel) rfl rfl (Or.inr ⟨_, _, rfl, (by decide +kernel)⟩) (pR_readWord_run (show Nat.blt 1 21 = true by decide) e22) (by omega) ?_
    refine R_at2 (pc := 134) (st := [.int q21.1]) ?_
    refine R_ifeq (pc := 134) (t := 183) (show z_pt 4 134 = some (1, .ifCond .eq 49, []) by decide +kernel) (by decide) (fun c23 => ?_) (fun c23 => ?_)
    · rw [if_pos c23] at h
      refine R_const (pc := 183) (pc' := 184) (v := 0) (show z_ptc 4 183 = some (184, 0) by decide +kernel) ?_
      cases h
      exact R_retZ (show z_pt 4 184 = some (1, .ireturn, []) by decide +kernel) (t := .boolean) (by decide +kernel) (by decide)
    · rw [if_neg c23] at h
      refine R_pure (pc := 137) (pc' := 138) (st' := [.ref 34]) (show z_pt 4 137 = some (1, .aload_n 0, []) by decide +kernel) rfl (fun _ _ _ => rfl) ?_
      refine R_const (pc := 138) (pc' := 139) (v := 0) (show z_ptc 4 138 = some (139, 0) by decide +kernel) ?_
      obtain ⟨q24, e25, h⟩ := z_bs h
      refine R_call (pc := 139) (rr := []) (show z_pt 4 139 = some (1, .invokevirtual 58, [0, 9, 1, 4238, 5000, 26, 1010, 5001]) by decide +kernel) rfl (show z_r2 9 = some (0, 2, true) by decide +kernel) rfl rfl (Or.inr ⟨_, _, rfl, (by decide +kernel)⟩) (pR_readDigit_run  e25) (by omega) ?_
      refine R_at2 (pc := 142) (st := [.int q24.1]) ?_
      refine R_ifeq (pc := 142) (t := 183) (show z_pt 4 142 = some (1, .ifCond .eq 41, []) by decide +kernel) (by decide) (fun c26 => ?_) (fun c26 => ?_)
      · rw [if_pos c26] at h
        refine R_const (pc := 183) (pc' := 184) (v := 0) (show z_ptc 4 183 = some (184, 0) by decide +kernel) ?_
        cases h
        exact R_retZ (show z_pt 4 184 = some (1, .ireturn, []) by decide +kernel) (t := .boolean) (by decide +kernel) (by decide)
      · rw [if_neg c26] at h
        refine R_pure (pc := 145) (pc' := 146) (st' := [.ref 34]) (show z_pt 4 145 = some (1, .aload_n 0, []) by decide +kernel) rfl (fun _ _ _ => rfl) ?_
        refine R_const (pc := 146) (pc' := 148) (v := 45) (show z_ptc 4 146 = some (148, 45) by decide +kernel) ?_
        obtain ⟨q27, e28, h⟩ := z_bs h
        refine R_call (pc := 148) (rr := []) (show z_pt 4 148 = some (1, .invokevirtual 33, [0, 6, 1, 4230, 4232, 24, 1010, 4233]) by decide +kernel) rfl (show z_r2 6 = some (0, 2, true) by decide +kernel) rfl rfl (Or.inr ⟨_, _, rfl, (by decide +kernel)⟩) (pR_read_run  e28) (by omega) ?_
        refine R_at2 (pc := 151) (st := [.int q27.1]) ?_
        refine R_ifeq (pc := 151) (t := 183) (show z_pt 4 151 = some (1, .ifCond .eq 32, []) by decide +kernel) (by decide) (fun c29 => ?_) (fun c29 => ?_)
        · rw [if_pos c29] at h
          refine R_const (pc := 183) (pc' := 184) (v := 0) (show z_ptc 4 183 = some (184, 0) by decide +kernel) ?_
          cases h
          exact R_retZ (show z_pt 4 184 = some (1, .ireturn, []) by decide +kernel) (t := .boolean) (by decide +kernel) (by decide)
        · rw [if_neg c29] at h
          refine R_pure (pc := 154) (pc' := 155) (st' := [.ref 34]) (show z_pt 4 154 = some (1, .aload_n 0, []) by decide +kernel) rfl (fun _ _ _ => rfl) ?_
          refine R_const (pc := 155) (pc' := 156) (v := 1) (show z_ptc 4 155 = some (156, 1) by decide +kernel) ?_
          obtain ⟨q30, e31, h⟩ := z_bs h
          refine R_call (pc := 156) (rr := []) (show z_pt 4 156 = some (1, .invokevirtual 58, [0, 9, 1, 4238, 5000, 26, 1010, 5001]) by decide +kernel) rfl (show z_r2 9 = some (0, 2, true) by decide +kernel) rfl rfl (Or.inr ⟨_, _, rfl, (by decide +kernel)⟩) (pR_readDigit_run  e31) (by omega) ?_
          refine R_at2 (pc := 159) (st := [.int q30.1]) ?_
          refine R_ifeq (pc := 159) (t := 183) (show z_pt 4 159 = some (1, .ifCond .eq 24, []) by decide +kernel) (by decide) (fun c32 => ?_) (fun c32 => ?_)
          · rw [if_pos c32] at h
            refine R_const (pc := 183) (pc' := 184) (v := 0) (show z_ptc 4 183 = some (184, 0) by decide +kernel) ?_
            cases h
            exact R_retZ (show z_pt 4 184 = some (1, .ireturn, []) by decide +kernel) (t := .boolean) (by decide +kernel) (by decide)
          · rw [if_neg c32] at h
            refine R_pure (pc := 162) (pc' := 163) (st' := [.ref 34]) (show z_pt 4 162 = some (1, .aload_n 0, []) by decide +kernel) rfl (fun _ _ _ => rfl) ?_
            refine R_const (pc := 163) (pc' := 165) (v := 47) (show z_ptc 4 163 = some (165, 47) by decide +kernel) ?_
            obtain ⟨q33, e34, h⟩ := z_bs h
            refine R_call (pc := 165) (rr := []) (show z_pt 4 165 = some (1, .invokevirtual 33, [0, 6, 1, 4230, 4232, 24, 1010, 4233]) by decide +kernel) rfl (show z_r2 6 = some (0, 2, true) by decide +kernel) rfl rfl (Or.inr ⟨_, _, rfl, (by decide +kernel)⟩) (pR_read_run  e34) (by omega) ?_
            refine R_at2 (pc := 168) (st := [.int q33.1]) ?_
            refine R_ifeq (pc := 168) (t := 183) (show z_pt 4 168 = some (1, .ifCond .eq 15, []) by decide +kernel) (by decide) (fun c35 => ?_) (fun c35 => ?_)
            · rw [if_pos c35] at h
              refine R_const (pc := 183) (pc' := 184) (v := 0) (show z_ptc 4 183 = some (184, 0) by decide +kernel) ?_
              cases h
              exact R_retZ (show z_pt 4 184 = some (1, .ireturn, []) by decide +kernel) (t := .boolean) (by decide +kernel) (by decide)
            · rw [if_neg c35] at h
              refine R_pure (pc := 171) (pc' := 172) (st' := [.ref 34]) (show z_pt 4 171 = some (1, .aload_n 0, []) by decide +kernel) rfl (fun _ _ _ => rfl) ?_
              refine R_const (pc := 172) (pc' := 173) (v := 2) (show z_ptc 4 172 = some (173, 2) by decide +kernel) ?_
              obtain ⟨q36, e37, h⟩ := z_bs h
              refine R_call (pc := 173) (rr := []) (show z_pt 4 173 = some (1, .invokevirtual 58, [0, 9, 1, 4238, 5000, 26, 1010, 5001]) by decide +kernel) rfl (show z_r2 9 = some (0, 2, true) by decide +kernel) rfl rfl (Or.inr ⟨_, _, rfl, (by decide +kernel)⟩) (pR_readDigit_run  e37) (by omega) ?_
              refine R_at2 (pc := 176) (st := [.int q36.1]) ?_
              refine R_ifeq (pc := 176) (t := 183) (show z_pt 4 176 = some (1, .ifCond .eq 7, []) by decide +kernel) (by decide) (fun c38 => ?_) (fun c38 => ?_)
              · rw [if_pos c38] at h
                refine R_const (pc := 183) (pc' := 184) (v := 0) (show z_ptc 4 183 = some (184, 0) by decide +kernel) ?_
                cases h
                exact R_retZ (show z_pt 4 184 = some (1, .ireturn, []) by decide +kernel) (t := .boolean) (by decide +kernel) (by decide)
              · rw [if_neg c38] at h
                refine R_const (pc := 179) (pc' := 180) (v := 1) (show z_ptc 4 179 = some (180, 1) by decide +kernel) ?_
                refine R_pure (pc := 180) (pc' := 184) (show z_pt 4 180 = some (1, .goto 4, []) by decide +kernel) rfl (fun _ _ _ => rfl) ?_
                cases h
                exact R_retZ (show z_pt 4 184 = some (1, .ireturn, []) by decide +kernel) (t := .boolean) (by decide +kernel) (by decide)
  rw [if_neg c20] at h
  by_cases c39 : v4 = 110
  · rw [if_pos c39] at h
    refine R_sw (pc := 22) (t := 288) (v := 110) (show z_pt 4 22 = some (1, .tableswitch 321 103 119 #[82, 297, 321, 321, 321, 321, 106, 266, 321, 321, 321, 321, 321, 163, 321, 321, 225], []) by decide +kernel) c39 (show z_swt 4 22 110 = some 288 by decide +kernel) ?_
    refine R_pure (pc := 288) (pc' := 289) (st' := [.ref 34]) (show z_pt 4 288 = some (1, .aload_n 0, []) by decide +kernel) rfl (fun _ _ _ => rfl) ?_
    refine R_pure (pc := 289) (pc' := 291) (st' := [.ref (1000 + 4), .ref 34]) (show z_pt 4 289 = some (1, .ldc 66, [1, 4]) by decide +kernel) rfl (fun _ _ _ => rfl) ?_
    obtain ⟨q40, e41, h⟩ := z_bs h
    refine R_call (pc := 291) (rr := []) (show z_pt 4 291 = some (1, .invokevirtual 48, [0, 7, 1, 4178, 4180, 23, 1010, 4181]) by decide +kernel) rfl (show z_r2 7 = some (0, 3, true) by decide +kernel) rfl rfl (Or.inr ⟨_, _, rfl, (by decide +kernel)⟩) (pR_readWord_run (show Nat.blt 4 21 = true by decide) e41) (by omega) ?_
    refine R_at2 (pc := 294) (st := [.int q40.1]) ?_
    refine R_ifeq (pc := 294) (t := 317) (show z_pt 4 294 = some (1, .ifCond .eq 23, []) by decide +kernel) (by decide) (fun c42 => ?_) (fun c42 => ?_)
    · rw [if_pos c42] at h
      refine R_const (pc := 317) (pc' := 318) (v := 0) (show z_ptc 4 317 = some (318, 0) by decide +kernel) ?_
      cases h
      exact R_retZ (show z_pt 4 318 = some (1, .ireturn, []) by decide +kernel) (t := .boolean) (by decide +kernel) (by decide)
    · rw [if_neg c42] at h
      refine R_pure (pc := 297) (pc' := 298) (st' := [.ref 34]) (show z_pt 4 297 = some (1, .aload_n 0, []) by decide +kernel) rfl (fun _ _ _ => rfl) ?_
      refine R_const (pc := 298) (pc' := 299) (v := 0) (show z_ptc 4 298 = some (299, 0) by decide +kernel) ?_
      obtain ⟨q43, e44, h⟩ := z_bs h
      refine R_call (pc := 299) (rr := []) (show z_pt 4 299 = some (1, .invokevirtual 68, [0, 8, 1, 5018, 5020, 30, 1010, 5021]) by decide +kernel) rfl (show z_r2 8 = some (0, 2, true) by decide +kernel) rfl rfl (Or.inr ⟨_, _, rfl, (by decide +kernel)⟩) (pR_readLetter_run  e44) (by omega) ?_
      refine R_at2 (pc := 302) (st := [.int q43.1]) ?_
      refine R_ifeq (pc := 302) (t := 317) (show z_pt 4 302 = some (1, .ifCond .eq 15, []) by decide +kernel) (by decide) (fun c45 => ?_) (fun c45 => ?_)
      · rw [if_pos c45] at h
        refine R_const (pc := 317) (pc' := 318) (v := 0) (show z_ptc 4 317 = some (318, 0) by decide +kernel) ?_
        cases h
        exact R_retZ (show z_pt 4 318 = some (1, .ireturn, []) by decide +kernel) (t := .boolean) (by decide +kernel) (by decide)
      · rw [if_neg c45] at h
        refine R_pure (pc := 305) (pc' := 306) (st' := [.ref 34]) (show z_pt 4 305 = some (1, .aload_n 0, []) by decide +kernel) rfl (fun _ _ _ => rfl) ?_
        refine R_const (pc := 306) (pc' := 307) (v := 1) (show z_ptc 4 306 = some (307, 1) by decide +kernel) ?_
        obtain ⟨q46, e47, h⟩ := z_bs h
        refine R_call (pc := 307) (rr := []) (show z_pt 4 307 = some (1, .invokevirtual 58, [0, 9, 1, 4238, 5000, 26, 1010, 5001]) by decide +kernel) rfl (show z_r2 9 = some (0, 2, true) by decide +kernel) rfl rfl (Or.inr ⟨_, _, rfl, (by decide +kernel)⟩) (pR_readDigit_run  e47) (by omega) ?_
        refine R_at2 (pc := 310) (st := [.int q46.1]) ?_
        refine R_ifeq (pc := 310) (t := 317) (show z_pt 4 310 = some (1, .ifCond .eq 7, []) by decide +kernel) (by decide) (fun c48 => ?_) (fun c48 => ?_)
        · rw [if_pos c48] at h
          refine R_const (pc := 317) (pc' := 318) (v := 0) (show z_ptc 4 317 = some (318, 0) by decide +kernel) ?_
          cases h
          exact R_retZ (show z_pt 4 318 = some (1, .ireturn, []) by decide +kernel) (t := .boolean) (by decide +kernel) (by decide)
        · rw [if_neg c48] at h
          refine R_const (pc := 313) (pc' := 314) (v := 1) (show z_ptc 4 313 = some (314, 1) by decide +kernel) ?_
          refine R_pure (pc := 314) (pc' := 318) (show z_pt 4 314 = some (1, .goto 4, []) by decide +kernel) rfl (fun _ _ _ => rfl) ?_
          cases h
          exact R_retZ (show z_pt 4 318 = some (1, .ireturn, []) by decide +kernel) (t := .boolean) (by decide +kernel) (by decide)
  rw [if_neg c39] at h
  by_cases c49 : v4 = 116
  · rw [if_pos c49] at h
    refine R_sw (pc := 22) (t := 185) (v := 116) (show z_pt 4 22 = some (1, .tableswitch 321 103 119 #[82, 297, 321, 321, 321, 321, 106, 266, 321, 321, 321, 321, 321, 163, 321, 321, 225], []) by decide +kernel) c49 (show z_swt 4 22 116 = some 185 by decide +kernel) ?_
    refine R_pure (pc := 185) (pc' := 186) (st' := [.ref 34]) (show z_pt 4 185 = some (1, .aload_n 0, []) by decide +kernel) rfl (fun _ _ _ => rfl) ?_
    refine R_pure (pc := 186) (pc' := 188) (st' := [.ref (1000 + 2), .ref 34]) (show z_pt 4 186 = some (1, .ldc 62, [1, 2]) by decide +kernel) rfl (fun _ _ _ => rfl) ?_
    obtain ⟨q50, e51, h⟩ := z_bs h
    refine R_call (pc := 188) (rr := []) (show z_pt 4 188 = some (1, .invokevirtual 48, [0, 7, 1, 4178, 4180, 23, 1010, 4181]) by decide +kernel) rfl (show z_r2 7 = some (0, 3, true) by decide +kernel) rfl rfl (Or.inr ⟨_, _, rfl, (by decide +kernel)⟩) (pR_readWord_run (show Nat.blt 2 21 = true by decide) e51) (by omega) ?_
    refine R_at2 (pc := 191) (st := [.int q50.1]) ?_
    refine R_ifeq (pc := 191) (t := 245) (show z_pt 4 191 = some (1, .ifCond .eq 54, []) by decide +kernel) (by decide) (fun c52 => ?_) (fun c52 => ?_)
    · rw [if_pos c52] at h
      refine R_const (pc := 245) (pc' := 246) (v := 0) (show z_ptc 4 245 = some (246, 0) by decide +kernel) ?_
      cases h
      exact R_retZ (show z_pt 4 246 = some (1, .ireturn, []) by decide +kernel) (t := .boolean) (by decide +kernel) (by decide)
    · rw [if_neg c52] at h
      refine R_pure (pc := 194) (pc' := 195) (st' := [.ref 34]) (show z_pt 4 194 = some (1, .aload_n 0, []) by decide +kernel) rfl (fun _ _ _ => rfl) ?_
      refine R_const (pc := 195) (pc' := 196) (v := 0) (show z_ptc 4 195 = some (196, 0) by decide +kernel) ?_
      obtain ⟨q53, e54, h⟩ := z_bs h
      refine R_call (pc := 196) (rr := []) (show z_pt 4 196 = some (1, .invokevirtual 58, [0, 9, 1, 4238, 5000, 26, 1010, 5001]) by decide +kernel) rfl (show z_r2 9 = some (0, 2, true) by decide +kernel) rfl rfl (Or.inr ⟨_, _, rfl, (by decide +kernel)⟩) (pR_readDigit_run  e54) (by omega) ?_
      refine R_at2 (pc := 199) (st := [.int q53.1]) ?_
      refine R_ifeq (pc := 199) (t := 245) (show z_pt 4 199 = some (1, .ifCond .eq 46, []) by decide +kernel) (by decide) (fun c55 => ?_) (fun c55 => ?_)
      · rw [if_pos c55] at h
        refine R_const (pc := 245) (pc' := 246) (v := 0) (show z_ptc 4 245 = some (246, 0) by decide +kernel) ?_
        cases h
        exact R_retZ (show z_pt 4 246 = some (1, .ireturn, []) by decide +kernel) (t := .boolean) (by decide +kernel) (by decide)
      · rw [if_neg c55] at h
        refine R_pure (pc := 202) (pc' := 203) (st' := [.ref 34]) (show z_pt 4 202 = some (1, .aload_n 0, []) by decide +kernel) rfl (fun _ _ _ => rfl) ?_
        refine R_const (pc := 203) (pc' := 205) (v := 43) (show z_ptc 4 203 = some (205, 43) by decide +kernel) ?_
        obtain ⟨q56, e57, h⟩ := z_bs h
        refine R_call (pc := 205) (rr := []) (show z_pt 4 205 = some (1, .invokevirtual 33, [0, 6, 1, 4230, 4232, 24, 1010, 4233]) by decide +kernel) rfl (show z_r2 6 = some (0, 2, true) by decide +kernel) rfl rfl (Or.inr ⟨_, _, rfl, (by decide +kernel)⟩) (pR_read_run  e57) (by omega) ?_
        refine R_at2 (pc := 208) (st := [.int q56.1]) ?_
        refine R_ifeq (pc := 208) (t := 223) (show z_pt 4 208 = some (1, .ifCond .eq 15, []) by decide +kernel) (by decide) (fun c58 => ?_) (fun c58 => ?_)
        · rw [if_pos c58] at h
          refine R_pure (pc := 223) (pc' := 224) (st' := [.ref 34]) (show z_pt 4 223 = some (1, .aload_n 0, []) by decide +kernel) rfl (fun _ _ _ => rfl) ?_
          refine R_const (pc := 224) (pc' := 226) (v := 45) (show z_ptc 4 224 = some (226, 45) by decide +kernel) ?_
          obtain ⟨q59, e60, h⟩ := z_bs h
          refine R_call (pc := 226) (rr := []) (show z_pt 4 226 = some (1, .invokevirtual 33, [0, 6, 1, 4230, 4232, 24, 1010, 4233]) by decide +kernel) rfl (show z_r2 6 = some (0, 2, true) by decide +kernel) rfl rfl (Or.inr ⟨_, _, rfl, (by decide +kernel)⟩) (pR_read_run  e60) (by omega) ?_
          refine R_at2 (pc := 229) (st := [.int q59.1]) ?_
          refine R_ifeq (pc := 229) (t := 245) (show z_pt 4 229 = some (1, .ifCond .eq 16, []) by decide +kernel) (by decide) (fun c61 => ?_) (fun c61 => ?_)
          · rw [if_pos c61] at h
            refine R_const (pc := 245) (pc' := 246) (v := 0) (show z_ptc 4 245 = some (246, 0) by decide +kernel) ?_
            cases h
            exact R_retZ (show z_pt 4 246 = some (1, .ireturn, []) by decide +kernel) (t := .boolean) (by decide +kernel) (by decide)
          · rw [if_neg c61] at h
            refine R_pure (pc := 232) (pc' := 233) (st' := [.ref 34]) (show z_pt 4 232 = some (1, .aload_n 0, []) by decide +kernel) rfl (fun _ _ _ => rfl) ?_
            refine R_const (pc := 233) (pc' := 234) (v := 1) (show z_ptc 4 233 = some (234, 1) by decide +kernel) ?_
            refine R_const (pc := 234) (pc' := 235) (v := (-1)) (show z_ptc 4 234 = some (235, (-1)) by decide +kernel) ?_
            obtain ⟨q62, e63, h⟩ := z_bs h
            refine R_call (pc := 235) (rr := []) (show z_pt 4 235 = some (1, .invokevirtual 52, [0, 11, 2, 4234, 4236, 25, 1010, 4237]) by decide +kernel) rfl (show z_r2 11 = some (0, 4, true) by decide +kernel) rfl rfl (Or.inr ⟨_, _, rfl, (by decide +kernel)⟩) (pR_readNumber_run  e63) (by omega) ?_
            refine R_at2 (pc := 238) (st := [.int q62.1]) ?_
            refine R_ifeq (pc := 238) (t := 245) (show z_pt 4 238 = some (1, .ifCond .eq 7, []) by decide +kernel) (by decide) (fun c64 => ?_) (fun c64 => ?_)
            · rw [if_pos c64] at h
              refine R_const (pc := 245) (pc' := 246) (v := 0) (show z_ptc 4 245 = some (246, 0) by decide +kernel) ?_
              cases h
              exact R_retZ (show z_pt 4 246 = some (1, .ireturn, []) by decide +kernel) (t := .boolean) (by decide +kernel) (by decide)
            · rw [if_neg c64] at h
              refine R_const (pc := 241) (pc' := 242) (v := 1) (show z_ptc 4 241 = some (242, 1) by decide +kernel) ?_
              refine R_pure (pc := 242) (pc' := 246) (show z_pt 4 242 = some (1, .goto 4, []) by decide +kernel) rfl (fun _ _ _ => rfl) ?_
              cases h
              exact R_retZ (show z_pt 4 246 = some (1, .ireturn, []) by decide +kernel) (t := .boolean) (by decide +kernel) (by decide)
        · rw [if_neg c58] at h
          refine R_pure (pc := 211) (pc' := 212) (st' := [.ref 34]) (show z_pt 4 211 = some (1, .aload_n 0, []) by decide +kernel) rfl (fun _ _ _ => rfl) ?_
          refine R_const (pc := 212) (pc' := 213) (v := 1) (show z_ptc 4 212 = some (213, 1) by decide +kernel) ?_
          refine R_const (pc := 213) (pc' := 214) (v := 1) (show z_ptc 4 213 = some (214, 1) by decide +kernel) ?_
          obtain ⟨q65, e66, h⟩ := z_bs h
          refine R_call (pc := 214) (rr := []) (show z_pt 4 214 = some (1, .invokevirtual 52, [0, 11, 2, 4234, 4236, 25, 1010, 4237]) by decide +kernel) rfl (show z_r2 11 = some (0, 4, true) by decide +kernel) rfl rfl (Or.inr ⟨_, _, rfl, (by decide +kernel)⟩) (pR_readNumber_run  e66) (by omega) ?_
          refine R_at2 (pc := 217) (st := [.int q65.1]) ?_
          refine R_ifeq (pc := 217) (t := 245) (show z_pt 4 217 = some (1, .ifCond .eq 28, []) by decide +kernel) (by decide) (fun c67 => ?_) (fun c67 => ?_)
          · rw [if_pos c67] at h
            refine R_const (pc := 245) (pc' := 246) (v := 0) (show z_ptc 4 245 = some (246, 0) by decide +kernel) ?_
            cases h
            exact R_retZ (show z_pt 4 246 = some (1, .ireturn, []) by decide +kernel) (t := .boolean) (by decide +kernel) (by decide)
          · rw [if_neg c67] at h
            refine R_pure (pc := 220) (pc' := 241) (show z_pt 4 220 = some (1, .goto 21, []) by decide +kernel) rfl (fun _ _ _ => rfl) ?_
            refine R_const (pc := 241) (pc' := 242) (v := 1) (show z_ptc 4 241 = some (242, 1) by decide +kernel) ?_
            refine R_pure (pc := 242) (pc' := 246) (show z_pt 4 242 = some (1, .goto 4, []) by decide +kernel) rfl (fun _ _ _ => rfl) ?_
            cases h
            exact R_retZ (show z_pt 4 246 = some (1, .ireturn, []) by decide +kernel) (t := .boolean) (by decide +kernel) (by decide)
  rw [if_neg c49] at h
  by_cases c68 : v4 = 119
  · rw [if_pos c68] at h
    refine R_sw (pc := 22) (t := 247) (v := 119) (show z_pt 4 22 = some (1, .tableswitch 321 103 119 #[82, 297, 321, 321, 321, 321, 106, 266, 321, 321, 321, 321, 321, 163, 321, 321, 225], []) by decide +kernel) c68 (show z_swt 4 22 119 = some 247 by decide +kernel) ?_
    refine R_pure (pc := 247) (pc' := 248) (st' := [.ref 34]) (show z_pt 4 247 = some (1, .aload_n 0, []) by decide +kernel) rfl (fun _ _ _ => rfl) ?_
    refine R_pure (pc := 248) (pc' := 250) (st' := [.ref (1000 + 3), .ref 34]) (show z_pt 4 248 = some (1, .ldc 64, [1, 3]) by decide +kernel) rfl (fun _ _ _ => rfl) ?_
    obtain ⟨q69, e70, h⟩ := z_bs h
    refine R_call (pc := 250) (rr := []) (show z_pt 4 250 = some (1, .invokevirtual 48, [0, 7, 1, 4178, 4180, 23, 1010, 4181]) by decide +kernel) rfl (show z_r2 7 = some (0, 3, true) by decide +kernel) rfl rfl (Or.inr ⟨_, _, rfl, (by decide +kernel)⟩) (pR_readWord_run (show Nat.blt 3 21 = true by decide) e70) (by omega) ?_
    refine R_at2 (pc := 253) (st := [.int q69.1]) ?_
    refine R_ifeq (pc := 253) (t := 286) (show z_pt 4 253 = some (1, .ifCond .eq 33, []) by decide +kernel) (by decide) (fun c71 => ?_) (fun c71 => ?_)
    · rw [if_pos c71] at h
      refine R_const (pc := 286) (pc' := 287) (v := 0) (show z_ptc 4 286 = some (287, 0) by decide +kernel) ?_
      cases h
      exact R_retZ (show z_pt 4 287 = some (1, .ireturn, []) by decide +kernel) (t := .boolean) (by decide +kernel) (by decide)
    · rw [if_neg c71] at h
      refine R_pure (pc := 256) (pc' := 257) (st' := [.ref 34]) (show z_pt 4 256 = some (1, .aload_n 0, []) by decide +kernel) rfl (fun _ _ _ => rfl) ?_
      refine R_const (pc := 257) (pc' := 258) (v := 0) (show z_ptc 4 257 = some (258, 0) by decide +kernel) ?_
      obtain ⟨q72, e73, h⟩ := z_bs h
      refine R_call (pc := 258) (rr := []) (show z_pt 4 258 = some (1, .invokevirtual 58, [0, 9, 1, 4238, 5000, 26, 1010, 5001]) by decide +kernel) rfl (show z_r2 9 = some (0, 2, true) by decide +kernel) rfl rfl (Or.inr ⟨_, _, rfl, (by decide +kernel)⟩) (pR_readDigit_run  e73) (by omega) ?_
      refine R_at2 (pc := 261) (st := [.int q72.1]) ?_
      refine R_ifeq (pc := 261) (t := 286) (show z_pt 4 261 = some (1, .ifCond .eq 25, []) by decide +kernel) (by decide) (fun c74 => ?_) (fun c74 => ?_)
      · rw [if_pos c74] at h
        refine R_const (pc := 286) (pc' := 287) (v := 0) (show z_ptc 4 286 = some (287, 0) by decide +kernel) ?_
        cases h
        exact R_retZ (show z_pt 4 287 = some (1, .ireturn, []) by decide +kernel) (t := .boolean) (by decide +kernel) (by decide)
      · rw [if_neg c74] at h
        refine R_pure (pc := 264) (pc' := 265) (st' := [.ref 34]) (show z_pt 4 264 = some (1, .aload_n 0, []) by decide +kernel) rfl (fun _ _ _ => rfl) ?_
        refine R_const (pc := 265) (pc' := 267) (v := 42) (show z_ptc 4 265 = some (267, 42) by decide +kernel) ?_
        obtain ⟨q75, e76, h⟩ := z_bs h
        refine R_call (pc := 267) (rr := []) (show z_pt 4 267 = some (1, .invokevirtual 33, [0, 6, 1, 4230, 4232, 24, 1010, 4233]) by decide +kernel) rfl (show z_r2 6 = some (0, 2, true) by decide +kernel) rfl rfl (Or.inr ⟨_, _, rfl, (by decide +kernel)⟩) (pR_read_run  e76) (by omega) ?_
        refine R_at2 (pc := 270) (st := [.int q75.1]) ?_
        refine R_ifeq (pc := 270) (t := 286) (show z_pt 4 270 = some (1, .ifCond .eq 16, []) by decide +kernel) (by decide) (fun c77 => ?_) (fun c77 => ?_)
        · rw [if_pos c77] at h
          refine R_const (pc := 286) (pc' := 287) (v := 0) (show z_ptc 4 286 = some (287, 0) by decide +kernel) ?_
          cases h
          exact R_retZ (show z_pt 4 287 = some (1, .ireturn, []) by decide +kernel) (t := .boolean) (by decide +kernel) (by decide)
        · rw [if_neg c77] at h
          refine R_pure (pc := 273) (pc' := 274) (st' := [.ref 34]) (show z_pt 4 273 = some (1, .aload_n 0, []) by decide +kernel) rfl (fun _ _ _ => rfl) ?_
          refine R_const (pc := 274) (pc' := 275) (v := 1) (show z_ptc 4 274 = some (275, 1) by decide +kernel) ?_
          refine R_const (pc := 275) (pc' := 276) (v := 1) (show z_ptc 4 275 = some (276, 1) by decide +kernel) ?_
          obtain ⟨q78, e79, h⟩ := z_bs h
          refine R_call (pc := 276) (rr := []) (show z_pt 4 276 = some (1, .invokevirtual 52, [0, 11, 2, 4234, 4236, 25, 1010, 4237]) by decide +kernel) rfl (show z_r2 11 = some (0, 4, true) by decide +kernel) rfl rfl (Or.inr ⟨_, _, rfl, (by decide +kernel)⟩) (pR_readNumber_run  e79) (by omega) ?_
          refine R_at2 (pc := 279) (st := [.int q78.1]) ?_
          refine R_ifeq (pc := 279) (t := 286) (show z_pt 4 279 = some (1, .ifCond .eq 7, []) by decide +kernel) (by decide) (fun c80 => ?_) (fun c80 => ?_)
          · rw [if_pos c80] at h
            refine R_const (pc := 286) (pc' := 287) (v := 0) (show z_ptc 4 286 = some (287, 0) by decide +kernel) ?_
            cases h
            exact R_retZ (show z_pt 4 287 = some (1, .ireturn, []) by decide +kernel) (t := .boolean) (by decide +kernel) (by decide)
          · rw [if_neg c80] at h
            refine R_const (pc := 282) (pc' := 283) (v := 1) (show z_ptc 4 282 = some (283, 1) by decide +kernel) ?_
            refine R_pure (pc := 283) (pc' := 287) (show z_pt 4 283 = some (1, .goto 4, []) by decide +kernel) rfl (fun _ _ _ => rfl) ?_
            cases h
            exact R_retZ (show z_pt 4 287 = some (1, .ireturn, []) by decide +kernel) (t := .boolean) (by decide +kernel) (by decide)
  rw [if_neg c68] at h
  refine R_swd (pc := 22) (t := 343) (cs := [103, 104, 109, 110, 116, 119]) (show z_pt 4 22 = some (1, .tableswitch 321 103 119 #[82, 297, 321, 321, 321, 321, 106, 266, 321, 321, 321, 321, 321, 163, 321, 321, 225], []) by decide +kernel) (show z_swd 4 22 [103, 104, 109, 110, 116, 119] = some 343 by decide +kernel) (z_nc c6 (z_nc c13 (z_nc c20 (z_nc c39 (z_nc c49 (z_nc c68 (z_nn _))))))) ?_
  refine R_const (pc := 343) (pc' := 344) (v := 0) (show z_ptc 4 343 = some (344, 0) by decide +kernel) ?_
  cases h
  exact R_retZ (show z_pt 4 344 = some (1, .ireturn, []) by decide +kernel) (t := .boolean) (by decide +kernel) (by decide)
def pR_readText_L12_B (R : z_Mem → Int32 → Option (Int32 × z_Mem))   (K : z_Mem → Int32 → Option (Int32 × z_Mem)) (μ : z_Mem) (a1 : Int32) : Option (Int32 × z_Mem) := if 9 ≤ a1 then K μ a1 else (pR_readCommand μ).bind fun q2 => if q2.1 = 0 then some (0, q2.2) else (pR_read (z_u q2.2 34 1 ((q2.2 34 1) + 1)) 59).bind fun q5 => if q5.1 = 0 then if (q5.2 34 0) = (q5.2 21 0) then some (1, q5.2) else some (0, q5.2) else R q5.2 (a1 + 1)
def pR_readText_L12 : Nat → (z_Mem → Int32 → Option (Int32 × z_Mem)) → z_Mem → Int32 → Option (Int32 × z_Mem)
  | 0 => fun _ _ _ => none
  | n + 1 => fun K μ a1 => pR_readText_L12_B (pR_readText_L12 n K) K μ a1
theorem pR_readText_L12_run   (K : z_Mem → Int32 → Option (Int32 × z_Mem))  (D : Nat) (hD : 8 ≤ D) (hK : ∀ (μ : z_Mem) (a1 : Int32) (r : (Int32 × z_Mem)), K μ a1 = some r → Rn D 1 72 [(0, .ref 34), (1, .int a1)] [] μ (.inl (some (.int r.1))) r.2) : ∀ (n : Nat) (μ : z_Mem) (a1 : Int32) (r : (Int32 × z_Mem)), pR_readText_L12 n K μ a1 = some r → Rn D 1 12 [(0, .ref 34), (1, .int a1)] [] μ (.inl (some (.int r.1))) r.2 := by
  intro n
  induction n with
  | zero => intro μ a1 r h; cases h
  | succ n ih =>
    intro μ a1 r h
    have h : pR_readText_L12_B (pR_readText_L12 n K) K μ a1 = some r := h
    unfold pR_readText_L12_B at h
    refine R_pure (pc := 12) (pc' := 13) (st' := [.int a1]) (show z_pt 1 12 = some (2, .iload_n 1, []) by decide +kernel) rfl (fun _ _ _ => rfl) ?_
    refine R_const (pc := 13) (pc' := 15) (v := 9) (show z_ptc 1 13 = some (15, 9) by decide +kernel) ?_
    refine R_icmge (pc := 15) (t := 72) (show z_pt 1 15 = some (2, .if_icmp .ge 57, []) by decide +kernel) (by decide) (fun c1 => ?_) (fun c1 => ?_)
    · rw [if_pos c1] at h
      exact hK _ _  _ h
    · rw [if_neg c1] at h
      refine R_pure (pc := 18) (pc' := 19) (st' := [.ref 34]) (show z_pt 1 18 = some (2, .aload_n 0, []) by decide +kernel) rfl (fun _ _ _ => rfl) ?_
      obtain ⟨q2, e3, h⟩ := z_bs h
      refine R_call (pc := 19) (rr := []) (show z_pt 1 19 = some (2, .invokevirtual 29, [0, 4, 0, 4169, 4171, 21, 1010, 4172]) by decide +kernel) rfl (show z_r2 4 = some (0, 1, true) by decide +kernel) rfl rfl (Or.inr ⟨_, _, rfl, (by decide +kernel)⟩) (pR_readCommand_run  e3) (by omega) ?_
      refine R_at2 (pc := 22) (st := [.int q2.1]) ?_
      refine R_ifne (pc := 22) (t := 27) (show z_pt 1 22 = some (2, .ifCond .ne 5, []) by decide +kernel) (by decide) (fun c4 => ?_) (fun c4 => ?_)
      · rw [if_neg c4] at h
        refine R_pure (pc := 27) (pc' := 28) (st' := [.ref 34]) (show z_pt 1 27 = some (2, .aload_n 0, []) by decide +kernel) rfl (fun _ _ _ => rfl) ?_
        refine R_pure (pc := 28) (pc' := 29) (st' := [.ref 34, .ref 34]) (show z_pt 1 28 = some (2, .dup, []) by decide +kernel) rfl (fun _ _ _ => rfl) ?_
        refine R_getI (pc := 29) (a := 34) (show z_pt 1 29 = some (2, .getfield 26, [0, 1, 2001]) by decide +kernel) (by decide +kernel) ?_
        refine R_at (pc := 32) ?_
        refine R_const (pc := 32) (pc' := 33) (v := 1) (show z_ptc 1 32 = some (33, 1) by decide +kernel) ?_
        refine R_pure (pc := 33) (pc' := 34) (st' := [.int ((q2.2 34 1) + 1), .ref 34]) (show z_pt 1 33 = some (2, .iadd, []) by decide +kernel) rfl (fun _ _ _ => rfl) ?_
        refine R_putI (pc := 34) (a := 34) (show z_pt 1 34 = some (2, .putfield 26, [0, 1, 2001]) by decide +kernel) (by decide +kernel) ⟨rfl, rfl⟩ ?_
        refine R_at (pc := 37) ?_
        refine R_pure (pc := 37) (pc' := 38) (st' := [.ref 34]) (show z_pt 1 37 = some (2, .aload_n 0, []) by decide +kernel) rfl (fun _ _ _ => rfl) ?_
        refine R_const (pc := 38) (pc' := 40) (v := 59) (show z_ptc 1 38 = some (40, 59) by decide +kernel) ?_
        obtain ⟨q5, e6, h⟩ := z_bs h
        refine R_call (pc := 40) (rr := []) (show z_pt 1 40 = some (2, .invokevirtual 33, [0, 6, 1, 4230, 4232, 24, 1010, 4233]) by decide +kernel) rfl (show z_r2 6 = some (0, 2, true) by decide +kernel) rfl rfl (Or.inr ⟨_, _, rfl, (by decide +kernel)⟩) (pR_read_run  e6) (by omega) ?_
        refine R_at2 (pc := 43) (st := [.int q5.1]) ?_
        refine R_ifne (pc := 43) (t := 66) (show z_pt 1 43 = some (2, .ifCond .ne 23, []) by decide +kernel) (by decide) (fun c7 => ?_) (fun c7 => ?_)
        · rw [if_neg c7] at h
          refine R_inc (pc := 66) (pc' := 69) (ls' := [(0, .ref 34), (1, .int (a1 + 1))]) (c := 1) (show z_pt 1 66 = some (2, .iinc 1 1, []) by decide +kernel) (by decide) rfl rfl ?_
          refine R_pure (pc := 69) (pc' := 12) (ls' := [(0, .ref 34), (1, .int (a1 + 1))]) (st' := []) (show z_pt 1 69 = some (2, .goto (-57), [2]) by decide +kernel) rfl (fun _ _ _ => rfl) ?_
          exact ih _ _ _  h
        · rw [if_pos c7] at h
          refine R_pure (pc := 46) (pc' := 47) (st' := [.ref 34]) (show z_pt 1 46 = some (2, .aload_n 0, []) by decide +kernel) rfl (fun _ _ _ => rfl) ?_
          refine R_getI (pc := 47) (a := 34) (show z_pt 1 47 = some (2, .getfield 22, [0, 0, 1239]) by decide +kernel) (by decide +kernel) ?_
          refine R_at (pc := 50) ?_
          refine R_pure (pc := 50) (pc' := 51) (st' := [.ref 34, .int (q5.2 34 0)]) (show z_pt 1 50 = some (2, .aload_n 0, []) by decide +kernel) rfl (fun _ _ _ => rfl) ?_
          refine R_getR (pc := 51) (a := 34) (b := 21) (show z_pt 1 51 = some (2, .getfield 18, [0, 2, 2003]) by decide +kernel) (by decide +kernel) ?_
          refine R_at (pc := 54) ?_
          refine R_getI (pc := 54) (a := 21) (show z_pt 1 54 = some (2, .getfield 37, [5, 0, 1198]) by decide +kernel) (by decide +kernel) ?_
          refine R_at (pc := 57) ?_
          refine R_icmne (pc := 57) (t := 64) (show z_pt 1 57 = some (2, .if_icmp .ne 7, []) by decide +kernel) (by decide) (fun c8 => ?_) (fun c8 => ?_)
          · rw [if_neg c8] at h
            refine R_const (pc := 64) (pc' := 65) (v := 0) (show z_ptc 1 64 = some (65, 0) by decide +kernel) ?_
            cases h
            exact R_retZ (show z_pt 1 65 = some (2, .ireturn, []) by decide +kernel) (t := .boolean) (by decide +kernel) (by decide)
          · rw [if_pos c8] at h
            refine R_const (pc := 60) (pc' := 61) (v := 1) (show z_ptc 1 60 = some (61, 1) by decide +kernel) ?_
            refine R_pure (pc := 61) (pc' := 65) (show z_pt 1 61 = some (2, .goto 4, []) by decide +kernel) rfl (fun _ _ _ => rfl) ?_
            cases h
            exact R_retZ (show z_pt 1 65 = some (2, .ireturn, []) by decide +kernel) (t := .boolean) (by decide +kernel) (by decide)
      · rw [if_pos c4] at h
        refine R_const (pc := 25) (pc' := 26) (v := 0) (show z_ptc 1 25 = some (26, 0) by decide +kernel) ?_
        cases h
        exact R_retZ (show z_pt 1 26 = some (2, .ireturn, []) by decide +kernel) (t := .boolean) (by decide +kernel) (by decide)
def pR_readText  (μ : z_Mem)  : Option (Int32 × z_Mem) := pR_readText_L12 z_fu (fun M10 k9 => some (0, M10)) (z_u (z_u μ 34 0 0) 34 1 0) 0
theorem pR_readText_run  {μ : z_Mem}   {r : (Int32 × z_Mem)} (h : pR_readText μ = some r) : Rn 8 1 0 [(0, .ref 34)] [] μ (.inl (some (.int r.1))) r.2 := by
  unfold pR_readText at h
  refine R_pure (pc := 0) (pc' := 1) (st' := [.ref 34]) (show z_pt 1 0 = some (2, .aload_n 0, []) by decide +kernel) rfl (fun _ _ _ => rfl) ?_
  refine R_const (pc := 1) (pc' := 2) (v := 0) (show z_ptc 1 1 = some (2, 0) by decide +kernel) ?_
  refine R_putI (pc := 2) (a := 34) (show z_pt 1 2 = some (2, .putfield 22, [0, 0, 1239]) by decide +kernel) (by decide +kernel) ⟨rfl, rfl⟩ ?_
  refine R_at (pc := 5) ?_
  refine R_pure (pc := 5) (pc' := 6) (st' := [.ref 34]) (show z_pt 1 5 = some (2, .aload_n 0, []) by decide +kernel) rfl (fun _ _ _ => rfl) ?_
  refine R_const (pc := 6) (pc' := 7) (v := 0) (show z_ptc 1 6 = some (7, 0) by decide +kernel) ?_
  refine R_putI (pc := 7) (a := 34) (show z_pt 1 7 = some (2, .putfield 26, [0, 1, 2001]) by decide +kernel) (by decide +kernel) ⟨rfl, rfl⟩ ?_
  refine R_at (pc := 10) ?_
  refine R_const (pc := 10) (pc' := 11) (v := 0) (show z_ptc 1 10 = some (11, 0) by decide +kernel) ?_
  refine R_pure (pc := 11) (pc' := 12) (ls' := [(0, .ref 34), (1, .int 0)]) (st' := []) (show z_pt 1 11 = some (2, .istore_n 1, []) by decide +kernel) rfl (fun _ _ _ => rfl) ?_
  refine pR_readText_L12_run   _  _ (by omega) ?_ _ _ _ _ h
  intro M10 k9 r h
  refine R_const (pc := 72) (pc' := 73) (v := 0) (show z_ptc 1 72 = some (73, 0) by decide +kernel) ?_
  cases h
  exact R_retZ (show z_pt 1 73 = some (2, .ireturn, []) by decide +kernel) (t := .boolean) (by decide +kernel) (by decide)
def pR_kindOf  (μ : z_Mem) (i1 : Int32) : Option Int32 := if i1 < 0 then some (-1) else if (μ 34 1) ≤ i1 then some (-1) else (z_rd μ 35 9 i1).bind fun v3 => some v3
theorem pR_kindOf_run  {μ : z_Mem} {i1 : Int32}  {r : Int32} (h : pR_kindOf μ i1 = some r) : Rn 0 2 0 [(0, .ref 34), (1, .int i1)] [] μ (.inl (some (.int r))) μ := by
  unfold pR_kindOf at h
  refine R_pure (pc := 0) (pc' := 1) (st' := [.int i1]) (show z_pt 2 0 = some (2, .iload_n 1, []) by decide +kernel) rfl (fun _ _ _ => rfl) ?_
  refine R_iflt (pc := 1) (t := 21) (show z_pt 2 1 = some (2, .ifCond .lt 20, []) by decide +kernel) (by decide) (fun c1 => ?_) (fun c1 => ?_)
  · rw [if_pos c1] at h
    refine R_const (pc := 21) (pc' := 22) (v := (-1)) (show z_ptc 2 21 = some (22, (-1)) by decide +kernel) ?_
    cases h
    exact R_retI (show z_pt 2 22 = some (2, .ireturn, []) by decide +kernel) (by decide +kernel)
  · rw [if_neg c1] at h
    refine R_pure (pc := 4) (pc' := 5) (st' := [.int i1]) (show z_pt 2 4 = some (2, .iload_n 1, []) by decide +kernel) rfl (fun _ _ _ => rfl) ?_
    refine R_pure (pc := 5) (pc' := 6) (st' := [.ref 34, .int i1]) (show z_pt 2 5 = some (2, .aload_n 0, []) by decide +kernel) rfl (fun _ _ _ => rfl) ?_
    refine R_getI (pc := 6) (a := 34) (show z_pt 2 6 = some (2, .getfield 26, [0, 1, 2001]) by decide +kernel) (by decide +kernel) ?_
    refine R_at (pc := 9) ?_
    refine R_icmge (pc := 9) (t := 21) (show z_pt 2 9 = some (2, .if_icmp .ge 12, []) by decide +kernel) (by decide) (fun c2 => ?_) (fun c2 => ?_)
    · rw [if_pos c2] at h
      refine R_const (pc := 21) (pc' := 22) (v := (-1)) (show z_ptc 2 21 = some (22, (-1)) by decide +kernel) ?_
      cases h
      exact R_retI (show z_pt 2 22 = some (2, .ireturn, []) by decide +kernel) (by decide +kernel)
    · rw [if_neg c2] at h
      refine R_pure (pc := 12) (pc' := 13) (st' := [.ref 34]) (show z_pt 2 12 = some (2, .aload_n 0, []) by decide +kernel) rfl (fun _ _ _ => rfl) ?_
      refine R_getR (pc := 13) (a := 34) (b := 35) (show z_pt 2 13 = some (2, .getfield 9, [0, 3, 2004]) by decide +kernel) (by decide +kernel) ?_
      refine R_at (pc := 16) ?_
      refine R_pure (pc := 16) (pc' := 17) (st' := [.int i1, .ref 35]) (show z_pt 2 16 = some (2, .iload_n 1, []) by decide +kernel) rfl (fun _ _ _ => rfl) ?_
      obtain ⟨v3, e4, h⟩ := z_bs h
      refine R_ialdR (pc := 17) (a := 35) (n := 9) (show z_pt 2 17 = some (2, .iaload, []) by decide +kernel) (show z_ar 35 0 9 = true by decide +kernel) e4 ?_
      refine R_at (pc := 18) ?_
      refine R_pure (pc := 18) (pc' := 22) (show z_pt 2 18 = some (2, .goto 4, []) by decide +kernel) rfl (fun _ _ _ => rfl) ?_
      cases h
      exact R_retI (show z_pt 2 22 = some (2, .ireturn, []) by decide +kernel) (by decide +kernel)
def pR_valueOf  (μ : z_Mem) (i1 : Int32) (i2 : Int32) : Option Int32 := if i1 < 0 then some (-1) else if (μ 34 1) ≤ i1 then some (-1) else (z_rd μ 36 27 ((i1 * 3) + i2)).bind fun v3 => some v3
theorem pR_valueOf_run  {μ : z_Mem} {i1 : Int32} {i2 : Int32}  {r : Int32} (h : pR_valueOf μ i1 i2 = some r) : Rn 0 3 0 [(0, .ref 34), (1, .int i1), (2, .int i2)] [] μ (.inl (some (.int r))) μ := by
  unfold pR_valueOf at h
  refine R_pure (pc := 0) (pc' := 1) (st' := [.int i1]) (show z_pt 3 0 = some (3, .iload_n 1, []) by decide +kernel) rfl (fun _ _ _ => rfl) ?_
  refine R_iflt (pc := 1) (t := 25) (show z_pt 3 1 = some (3, .ifCond .lt 24, []) by decide +kernel) (by decide) (fun c1 => ?_) (fun c1 => ?_)
  · rw [if_pos c1] at h
    refine R_const (pc := 25) (pc' := 26) (v := (-1)) (show z_ptc 3 25 = some (26, (-1)) by decide +kernel) ?_
    cases h
    exact R_retI (show z_pt 3 26 = some (3, .ireturn, []) by decide +kernel) (by decide +kernel)
  · rw [if_neg c1] at h
    refine R_pure (pc := 4) (pc' := 5) (st' := [.int i1]) (show z_pt 3 4 = some (3, .iload_n 1, []) by decide +kernel) rfl (fun _ _ _ => rfl) ?_
    refine R_pure (pc := 5) (pc' := 6) (st' := [.ref 34, .int i1]) (show z_pt 3 5 = some (3, .aload_n 0, []) by decide +kernel) rfl (fun _ _ _ => rfl) ?_
    refine R_getI (pc := 6) (a := 34) (show z_pt 3 6 = some (3, .getfield 26, [0, 1, 2001]) by decide +kernel) (by decide +kernel) ?_
    refine R_at (pc := 9) ?_
    refine R_icmge (pc := 9) (t := 25) (show z_pt 3 9 = some (3, .if_icmp .ge 16, []) by decide +kernel) (by decide) (fun c2 => ?_) (fun c2 => ?_)
    · rw [if_pos c2] at h
      refine R_const (pc := 25) (pc' := 26) (v := (-1)) (show z_ptc 3 25 = some (26, (-1)) by decide +kernel) ?_
      cases h
      exact R_retI (show z_pt 3 26 = some (3, .ireturn, []) by decide +kernel) (by decide +kernel)
    · rw [if_neg c2] at h
      refine R_pure (pc := 12) (pc' := 13) (st' := [.ref 34]) (show z_pt 3 12 = some (3, .aload_n 0, []) by decide +kernel) rfl (fun _ _ _ => rfl) ?_
      refine R_getR (pc := 13) (a := 34) (b := 36) (show z_pt 3 13 = some (3, .getfield 15, [0, 4, 2005]) by decide +kernel) (by decide +kernel) ?_
      refine R_at (pc := 16) ?_
      refine R_pure (pc := 16) (pc' := 17) (st' := [.int i1, .ref 36]) (show z_pt 3 16 = some (3, .iload_n 1, []) by decide +kernel) rfl (fun _ _ _ => rfl) ?_
      refine R_const (pc := 17) (pc' := 18) (v := 3) (show z_ptc 3 17 = some (18, 3) by decide +kernel) ?_
      refine R_pure (pc := 18) (pc' := 19) (st' := [.int (i1 * 3), .ref 36]) (show z_pt 3 18 = some (3, .imul, []) by decide +kernel) rfl (fun _ _ _ => rfl) ?_
      refine R_pure (pc := 19) (pc' := 20) (st' := [.int i2, .int (i1 * 3), .ref 36]) (show z_pt 3 19 = some (3, .iload_n 2, []) by decide +kernel) rfl (fun _ _ _ => rfl) ?_
      refine R_pure (pc := 20) (pc' := 21) (st' := [.int ((i1 * 3) + i2), .ref 36]) (show z_pt 3 20 = some (3, .iadd, []) by decide +kernel) rfl (fun _ _ _ => rfl) ?_
      obtain ⟨v3, e4, h⟩ := z_bs h
      refine R_ialdR (pc := 21) (a := 36) (n := 27) (show z_pt 3 21 = some (3, .iaload, []) by decide +kernel) (show z_ar 36 0 27 = true by decide +kernel) e4 ?_
      refine R_at (pc := 22) ?_
      refine R_pure (pc := 22) (pc' := 26) (show z_pt 3 22 = some (3, .goto 4, []) by decide +kernel) rfl (fun _ _ _ => rfl) ?_
      cases h
      exact R_retI (show z_pt 3 26 = some (3, .ireturn, []) by decide +kernel) (by decide +kernel)
def pE_copyFrom (t : Nat) (u : Nat) (μ : z_Mem)  : Option z_Mem := some (z_cp (z_cp (z_cp (z_cp (z_u μ t 0 (μ u 0)) (u + 1) (t + 1) 0 0 6) (u + 2) (t + 2) 0 0 6) (u + 3) (t + 3) 0 0 6) (u + 4) (t + 4) 0 0 60)
theorem pE_copyFrom_run {t : Nat} {u : Nat} {μ : z_Mem}  (ht : zEn t = true) (hu : zEn u = true) {r : z_Mem} (h : pE_copyFrom t u μ = some r) : Rn 1 15 0 [(0, .ref t), (1, .ref u)] [] μ (.inl none) r := by
  unfold pE_copyFrom at h
  refine R_pure (pc := 0) (pc' := 1) (st' := [.ref t]) (show z_pt 15 0 = some (2, .aload_n 0, []) by decide +kernel) rfl (fun _ _ _ => rfl) ?_
  refine R_pure (pc := 1) (pc' := 2) (st' := [.ref u, .ref t]) (show z_pt 15 1 = some (2, .aload_n 1, []) by decide +kernel) rfl (fun _ _ _ => rfl) ?_
  refine R_getI (pc := 2) (a := u) (show z_pt 15 2 = some (2, .getfield 24, [1, 0, 1153]) by decide +kernel) (zEn_all hu).2.1 ?_
  refine R_at (pc := 5) ?_
  refine R_putI (pc := 5) (a := t) (show z_pt 15 5 = some (2, .putfield 24, [1, 0, 1153]) by decide +kernel) (zEn_all ht).2.1 ⟨rfl, rfl⟩ ?_
  refine R_at (pc := 8) ?_
  refine R_pure (pc := 8) (pc' := 9) (st' := [.ref u]) (show z_pt 15 8 = some (2, .aload_n 1, []) by decide +kernel) rfl (fun _ _ _ => rfl) ?_
  refine R_getR (pc := 9) (a := u) (b := (u + 1)) (show z_pt 15 9 = some (2, .getfield 9, [1, 1, 1155]) by decide +kernel) (zEn_all hu).2.2.1 ?_
  refine R_at (pc := 12) ?_
  refine R_const (pc := 12) (pc' := 13) (v := 0) (show z_ptc 15 12 = some (13, 0) by decide +kernel) ?_
  refine R_pure (pc := 13) (pc' := 14) (st' := [.ref t, .int 0, .ref (u + 1)]) (show z_pt 15 13 = some (2, .aload_n 0, []) by decide +kernel) rfl (fun _ _ _ => rfl) ?_
  refine R_getR (pc := 14) (a := t) (b := (t + 1)) (show z_pt 15 14 = some (2, .getfield 9, [1, 1, 1155]) by decide +kernel) (zEn_all ht).2.2.1 ?_
  refine R_at (pc := 17) ?_
  refine R_const (pc := 17) (pc' := 18) (v := 0) (show z_ptc 15 17 = some (18, 0) by decide +kernel) ?_
  refine R_const (pc := 18) (pc' := 20) (v := 6) (show z_ptc 15 18 = some (20, 6) by decide +kernel) ?_
  refine R_cpyK (t0 := 0) (t1 := 0) (pc := 20) (b := (u + 1)) (a := (t + 1)) (n0 := 6) (n1 := 6) (sn := 0) (dn := 0) (nn := 6) (show z_pt 15 20 = some (2, .invokestatic 28, [7, 0, 5, 2101, 2086, 2085, 1018]) by decide +kernel) rfl (by omega) (zEn_all hu).2.2.2.2.2.2.1 (zEn_all ht).2.2.2.2.2.2.1 rfl (by decide) ?_
  refine R_at (pc := 23) ?_
  refine R_pure (pc := 23) (pc' := 24) (st' := [.ref u]) (show z_pt 15 23 = some (2, .aload_n 1, []) by decide +kernel) rfl (fun _ _ _ => rfl) ?_
  refine R_getR (pc := 24) (a := u) (b := (u + 2)) (show z_pt 15 24 = some (2, .getfield 15, [1, 2, 1156]) by decide +kernel) (zEn_all hu).2.2.2.1 ?_
  refine R_at (pc := 27) ?_
  refine R_const (pc := 27) (pc' := 28) (v := 0) (show z_ptc 15 27 = some (28, 0) by decide +kernel) ?_
  refine R_pure (pc := 28) (pc' := 29) (st' := [.ref t, .int 0, .ref (u + 2)]) (show z_pt 15 28 = some (2, .aload_n 0, []) by decide +kernel) rfl (fun _ _ _ => rfl) ?_
  refine R_getR (pc := 29) (a := t) (b := (t + 2)) (show z_pt 15 29 = some (2, .getfield 15, [1, 2, 1156]) by decide +kernel) (zEn_all ht).2.2.2.1 ?_
  refine R_at (pc := 32) ?_
  refine R_const (pc := 32) (pc' := 33) (v := 0) (show z_ptc 15 32 = some (33, 0) by decide +kernel) ?_
  refine R_const (pc := 33) (pc' := 35) (v := 6) (show z_ptc 15 33 = some (35, 6) by decide +kernel) ?_
  refine R_cpyK (t0 := 0) (t1 := 0) (pc := 35) (b := (u + 2)) (a := (t + 2)) (n0 := 6) (n1 := 6) (sn := 0) (dn := 0) (nn := 6) (show z_pt 15 35 = some (2, .invokestatic 28, [7, 0, 5, 2101, 2086, 2085, 1018]) by decide +kernel) rfl (by omega) (zEn_all hu).2.2.2.2.2.2.2.1 (zEn_all ht).2.2.2.2.2.2.2.1 rfl (by decide) ?_
  refine R_at (pc := 38) ?_
  refine R_pure (pc := 38) (pc' := 39) (st' := [.ref u]) (show z_pt 15 38 = some (2, .aload_n 1, []) by decide +kernel) rfl (fun _ _ _ => rfl) ?_
  refine R_getR (pc := 39) (a := u) (b := (u + 3)) (show z_pt 15 39 = some (2, .getfield 18, [1, 3, 1157]) by decide +kernel) (zEn_all hu).2.2.2.2.1 ?_
  refine R_at (pc := 42) ?_
  refine R_const (pc := 42) (pc' := 43) (v := 0) (show z_ptc 15 42 = some (43, 0) by decide +kernel) ?_
  refine R_pure (pc := 43) (pc' := 44) (st' := [.ref t, .int 0, .ref (u + 3)]) (show z_pt 15 43 = some (2, .aload_n 0, []) by decide +kernel) rfl (fun _ _ _ => rfl) ?_
  refine R_getR (pc := 44) (a := t) (b := (t + 3)) (show z_pt 15 44 = some (2, .getfield 18, [1, 3, 1157]) by decide +kernel) (zEn_all ht).2.2.2.2.1 ?_
  refine R_at (pc := 47) ?_
  refine R_const (pc := 47) (pc' := 48) (v := 0) (show z_ptc 15 47 = some (48, 0) by decide +kernel) ?_
  refine R_const (pc := 48) (pc' := 50) (v := 6) (show z_ptc 15 48 = some (50, 6) by decide +kernel) ?_
  refine R_cpyK (t0 := 0) (t1 := 0) (pc := 50) (b := (u + 3)) (a := (t + 3)) (n0 := 6) (n1 := 6) (sn := 0) (dn := 0) (nn := 6) (show z_pt 15 50 = some (2, .invokestatic 28, [7, 0, 5, 2101, 2086, 2085, 1018]) by decide +kernel) rfl (by omega) (zEn_all hu).2.2.2.2.2.2.2.2.1 (zEn_all ht).2.2.2.2.2.2.2.2.1 rfl (by decide) ?_
  refine R_at (pc := 53) ?_
  refine R_pure (pc := 53) (pc' := 54) (st' := [.ref u]) (show z_pt 15 53 = some (2, .aload_n 1, []) by decide +kernel) rfl (fun _ _ _ => rfl) ?_
  refine R_getR (pc := 54) (a := u) (b := (u + 4)) (show z_pt 15 54 = some (2, .getfield 21, [1, 4, 1159]) by decide +kernel) (zEn_all hu).2.2.2.2.2.1 ?_
  refine R_at (pc := 57) ?_
  refine R_const (pc := 57) (pc' := 58) (v := 0) (show z_ptc 15 57 = some (58, 0) by decide +kernel) ?_
  refine R_pure (pc := 58) (pc' := 59) (st' := [.ref t, .int 0, .ref (u + 4)]) (show z_pt 15 58 = some (2, .aload_n 0, []) by decide +kernel) rfl (fun _ _ _ => rfl) ?_
  refine R_getR (pc := 59) (a := t) (b := (t + 4)) (show z_pt 15 59 = some (2, .getfield 21, [1, 4, 1159]) by decide +kernel) (zEn_all ht).2.2.2.2.2.1 ?_
  refine R_at (pc := 62) ?_
  refine R_const (pc := 62) (pc' := 63) (v := 0) (show z_ptc 15 62 = some (63, 0) by decide +kernel) ?_
  refine R_const (pc := 63) (pc' := 65) (v := 60) (show z_ptc 15 63 = some (65, 60) by decide +kernel) ?_
  refine R_cpyK (t0 := 0) (t1 := 0) (pc := 65) (b := (u + 4)) (a := (t + 4)) (n0 := 60) (n1 := 60) (sn := 0) (dn := 0) (nn := 60) (show z_pt 15 65 = some (2, .invokestatic 28, [7, 0, 5, 2101, 2086, 2085, 1018]) by decide +kernel) rfl (by omega) (zEn_all hu).2.2.2.2.2.2.2.2.2 (zEn_all ht).2.2.2.2.2.2.2.2.2 rfl (by decide) ?_
  refine R_at (pc := 68) ?_
  cases h
  exact R_retV (show z_pt 15 68 = some (2, .return_, []) by decide +kernel) (by decide +kernel)
def pE_placeOf_L2_B (R : Int32 → Option Int32)  (μ : z_Mem) (f1 : Int32) (f2 : Int32) (K : Int32 → Option Int32) (a3 : Int32) : Option Int32 := if (μ 16 0) ≤ a3 then K a3 else (z_rd μ 17 6 a3).bind fun v2 => if v2 = f1 then (z_rd μ 18 6 a3).bind fun v5 => if v5 = f2 then some a3 else R (a3 + 1) else R (a3 + 1)
def pE_placeOf_L2 : Nat → z_Mem → Int32 → Int32 → (Int32 → Option Int32) → Int32 → Option Int32
  | 0 => fun _ _ _ _ _ => none
  | n + 1 => fun μ f1 f2 K a3 => pE_placeOf_L2_B (pE_placeOf_L2 n μ f1 f2 K) μ f1 f2 K a3
theorem pE_placeOf_L2_run  (μ : z_Mem) (f1 : Int32) (f2 : Int32) (K : Int32 → Option Int32)  (D : Nat) (hD : 0 ≤ D) (hK : ∀ (a3 : Int32) (r : Int32), K a3 = some r → Rn D 16 38 [(0, .ref 16), (1, .int f1), (2, .int f2), (3, .int a3)] [] μ (.inl (some (.int r))) μ) : ∀ (n : Nat) (a3 : Int32) (r : Int32), pE_placeOf_L2 n μ f1 f2 K a3 = some r → Rn D 16 2 [(0, .ref 16), (1, .int f1), (2, .int f2), (3, .int a3)] [] μ (.inl (some (.int r))) μ := by
  intro n
  induction n with
  | zero => intro a3 r h; cases h
  | succ n ih =>
    intro a3 r h
    have h : pE_placeOf_L2_B (pE_placeOf_L2 n μ f1 f2 K) μ f1 f2 K a3 = some r := h
    unfold pE_placeOf_L2_B at h
    refine R_pure (pc := 2) (pc' := 3) (st' := [.int a3]) (show z_pt 16 2 = some (4, .iload_n 3, []) by decide +kernel) rfl (fun _ _ _ => rfl) ?_
    refine R_pure (pc := 3) (pc' := 4) (st' := [.ref 16, .int a3]) (show z_pt 16 3 = some (4, .aload_n 0, []) by decide +kernel) rfl (fun _ _ _ => rfl) ?_
    refine R_getI (pc := 4) (a := 16) (show z_pt 16 4 = some (4, .getfield 24, [1, 0, 1153]) by decide +kernel) (by decide +kernel) ?_
    refine R_at (pc := 7) ?_
    refine R_icmge (pc := 7) (t := 38) (show z_pt 16 7 = some (4, .if_icmp .ge 31, []) by decide +kernel) (by decide) (fun c1 => ?_) (fun c1 => ?_)
    · rw [if_pos c1] at h
      exact hK _  _ h
    · rw [if_neg c1] at h
      refine R_pure (pc := 10) (pc' := 11) (st' := [.ref 16]) (show z_pt 16 10 = some (4, .aload_n 0, []) by decide +kernel) rfl (fun _ _ _ => rfl) ?_
      refine R_getR (pc := 11) (a := 16) (b := 17) (show z_pt 16 11 = some (4, .getfield 9, [1, 1, 1155]) by decide +kernel) (by decide +kernel) ?_
      refine R_at (pc := 14) ?_
      refine R_pure (pc := 14) (pc' := 15) (st' := [.int a3, .ref 17]) (show z_pt 16 14 = some (4, .iload_n 3, []) by decide +kernel) rfl (fun _ _ _ => rfl) ?_
      obtain ⟨v2, e3, h⟩ := z_bs h
      refine R_ialdR (pc := 15) (a := 17) (n := 6) (show z_pt 16 15 = some (4, .iaload, []) by decide +kernel) (show z_ar 17 0 6 = true by decide +kernel) e3 ?_
      refine R_at (pc := 16) ?_
      refine R_pure (pc := 16) (pc' := 17) (st' := [.int f1, .int v2]) (show z_pt 16 16 = some (4, .iload_n 1, []) by decide +kernel) rfl (fun _ _ _ => rfl) ?_
      refine R_icmne (pc := 17) (t := 32) (show z_pt 16 17 = some (4, .if_icmp .ne 15, []) by decide +kernel) (by decide) (fun c4 => ?_) (fun c4 => ?_)
      · rw [if_neg c4] at h
        refine R_inc (pc := 32) (pc' := 35) (ls' := [(0, .ref 16), (1, .int f1), (2, .int f2), (3, .int (a3 + 1))]) (c := 1) (show z_pt 16 32 = some (4, .iinc 3 1, []) by decide +kernel) (by decide) rfl rfl ?_
        refine R_pure (pc := 35) (pc' := 2) (ls' := [(0, .ref 16), (1, .int f1), (2, .int f2), (3, .int (a3 + 1))]) (st' := []) (show z_pt 16 35 = some (4, .goto (-33), [4]) by decide +kernel) rfl (fun _ _ _ => rfl) ?_
        exact ih _ _  h
      · rw [if_pos c4] at h
        refine R_pure (pc := 20) (pc' := 21) (st' := [.ref 16]) (show z_pt 16 20 = some (4, .aload_n 0, []) by decide +kernel) rfl (fun _ _ _ => rfl) ?_
        refine R_getR (pc := 21) (a := 16) (b := 18) (show z_pt 16 21 = some (4, .getfield 15, [1, 2, 1156]) by decide +kernel) (by decide +kernel) ?_
        refine R_at (pc := 24) ?_
        refine R_pure (pc := 24) (pc' := 25) (st' := [.int a3, .ref 18]) (show z_pt 16 24 = some (4, .iload_n 3, []) by decide +kernel) rfl (fun _ _ _ => rfl) ?_
        obtain ⟨v5, e6, h⟩ := z_bs h
        refine R_ialdR (pc := 25) (a := 18) (n := 6) (show z_pt 16 25 = some (4, .iaload, []) by decide +kernel) (show z_ar 18 0 6 = true by decide +kernel) e6 ?_
        refine R_at (pc := 26) ?_
        refine R_pure (pc := 26) (pc' := 27) (st' := [.int f2, .int v5]) (show z_pt 16 26 = some (4, .iload_n 2, []) by decide +kernel) rfl (fun _ _ _ => rfl) ?_
        refine R_icmne (pc := 27) (t := 32) (show z_pt 16 27 = some (4, .if_icmp .ne 5, []) by decide +kernel) (by decide) (fun c7 => ?_) (fun c7 => ?_)
        · rw [if_neg c7] at h
          refine R_inc (pc := 32) (pc' := 35) (ls' := [(0, .ref 16), (1, .int f1), (2, .int f2), (3, .int (a3 + 1))]) (c := 1) (show z_pt 16 32 = some (4, .iinc 3 1, []) by decide +kernel) (by decide) rfl rfl ?_
          refine R_pure (pc := 35) (pc' := 2) (ls' := [(0, .ref 16), (1, .int f1), (2, .int f2), (3, .int (a3 + 1))]) (st' := []) (show z_pt 16 35 = some (4, .goto (-33), [4]) by decide +kernel) rfl (fun _ _ _ => rfl) ?_
          exact ih _ _  h
        · rw [if_pos c7] at h
          refine R_pure (pc := 30) (pc' := 31) (st' := [.int a3]) (show z_pt 16 30 = some (4, .iload_n 3, []) by decide +kernel) rfl (fun _ _ _ => rfl) ?_
          cases h
          exact R_retI (show z_pt 16 31 = some (4, .ireturn, []) by decide +kernel) (by decide +kernel)
def pE_placeOf  (μ : z_Mem) (i1 : Int32) (i2 : Int32) : Option Int32 := pE_placeOf_L2 z_fu μ i1 i2 (fun k8 => some (-1)) 0
theorem pE_placeOf_run  {μ : z_Mem} {i1 : Int32} {i2 : Int32}  {r : Int32} (h : pE_placeOf μ i1 i2 = some r) : Rn 0 16 0 [(0, .ref 16), (1, .int i1), (2, .int i2)] [] μ (.inl (some (.int r))) μ := by
  unfold pE_placeOf at h
  refine R_const (pc := 0) (pc' := 1) (v := 0) (show z_ptc 16 0 = some (1, 0) by decide +kernel) ?_
  refine R_pure (pc := 1) (pc' := 2) (ls' := [(0, .ref 16), (1, .int i1), (2, .int i2), (3, .int 0)]) (st' := []) (show z_pt 16 1 = some (4, .istore_n 3, []) by decide +kernel) rfl (fun _ _ _ => rfl) ?_
  refine pE_placeOf_L2_run  _ _ _ _  _ (by omega) ?_ _ _ _ h
  intro k8 r h
  refine R_const (pc := 38) (pc' := 39) (v := (-1)) (show z_ptc 16 38 = some (39, (-1)) by decide +kernel) ?_
  cases h
  exact R_retI (show z_pt 16 39 = some (4, .ireturn, []) by decide +kernel) (by decide +kernel)
def pE_write  (μ : z_Mem) (i1 : Int32) (i2 : Int32) : Option (Int32 × z_Mem) := (pE_placeOf μ i1 i2).bind fun q1 => if q1 = (-1) then if 6 ≤ (μ 16 0) then if q1 = (-1) then some ((μ 16 0), μ) else if z_inb q1 6 = true then if z_inb q1 6 = true then if z_inb q1 6 = true then if ¬ (0 : Int32) < 0 ∧ ¬ (q1 * 10) < 0 ∧ ¬ (10 : Int32) < 0 ∧ (0 : Int32).toNatClampNeg + (10 : Int32).toNatClampNeg ≤ 10 ∧ (q1 * 10).toNatClampNeg + (10 : Int32).toNatClampNeg ≤ 60 then some (((z_cp (z_u (z_u (z_u μ 17 q1.toNatClampNeg i1) 18 q1.toNatClampNeg i2) 19 q1.toNatClampNeg ((z_u (z_u μ 17 q1.toNatClampNeg i1) 18 q1.toNatClampNeg i2) 2 0)) 4 20 (0 : Int32).toNatClampNeg (q1 * 10).toNatClampNeg (10 : Int32).toNatClampNeg) 16 0), (z_cp (z_u (z_u (z_u μ 17 q1.toNatClampNeg i1) 18 q1.toNatClampNeg i2) 19 q1.toNatClampNeg ((z_u (z_u μ 17 q1.toNatClampNeg i1) 18 q1.toNatClampNeg i2) 2 0)) 4 20 (0 : Int32).toNatClampNeg (q1 * 10).toNatClampNeg (10 : Int32).toNatClampNeg)) else none else none else none else none else if (μ 16 0) = (-1) then some (((z_u μ 16 0 ((μ 16 0) + 1)) 16 0), (z_u μ 16 0 ((μ 16 0) + 1))) else if z_inb (μ 16 0) 6 = true then if z_inb (μ 16 0) 6 = true then if z_inb (μ 16 0) 6 = true then if ¬ (0 : Int32) < 0 ∧ ¬ ((μ 16 0) * 10) < 0 ∧ ¬ (10 : Int32) < 0 ∧ (0 : Int32).toNatClampNeg + (10 : Int32).toNatClampNeg ≤ 10 ∧ ((μ 16 0) * 10).toNatClampNeg + (10 : Int32).toNatClampNeg ≤ 60 then some (((z_cp (z_u (z_u (z_u (z_u μ 16 0 ((μ 16 0) + 1)) 17 (μ 16 0).toNatClampNeg i1) 18 (μ 16 0).toNatClampNeg i2) 19 (μ 16 0).toNatClampNeg ((z_u (z_u (z_u μ 16 0 ((μ 16 0) + 1)) 17 (μ 16 0).toNatClampNeg i1) 18 (μ 16 0).toNatClampNeg i2) 2 0)) 4 20 (0 : Int32).toNatClampNeg ((μ 16 0) * 10).toNatClampNeg (10 : Int32).toNatClampNeg) 16 0), (z_cp (z_u (z_u (z_u (z_u μ 16 0 ((μ 16 0) + 1)) 17 (μ 16 0).toNatClampNeg i1) 18 (μ 16 0).toNatClampNeg i2) 19 (μ 16 0).toNatClampNeg ((z_u (z_u (z_u μ 16 0 ((μ 16 0) + 1)) 17 (μ 16 0).toNatClampNeg i1) 18 (μ 16 0).toNatClampNeg i2) 2 0)) 4 20 (0 : Int32).toNatClampNeg ((μ 16 0) * 10).toNatClampNeg (10 : Int32).toNatClampNeg)) else none else none else none else none else if q1 = (-1) then some ((μ 16 0), μ) else if z_inb q1 6 = true then if z_inb q1 6 = true then if z_inb q1 6 = true then if ¬ (0 : Int32) < 0 ∧ ¬ (q1 * 10) < 0 ∧ ¬ (10 : Int32) < 0 ∧ (0 : Int32).toNatClampNeg + (10 : Int32).toNatClampNeg ≤ 10 ∧ (q1 * 10).toNatClampNeg + (10 : Int32).toNatClampNeg ≤ 60 then some (((z_cp (z_u (z_u (z_u μ 17 q1.toNatClampNeg i1) 18 q1.toNatClampNeg i2) 19 q1.toNatClampNeg ((z_u (z_u μ 17 q1.toNatClampNeg i1) 18 q1.toNatClampNeg i2) 2 0)) 4 20 (0 : Int32).toNatClampNeg (q1 * 10).toNatClampNeg (10 : Int32).toNatClampNeg) 16 0), (z_cp (z_u (z_u (z_u μ 17 q1.toNatClampNeg i1) 18 q1.toNatClampNeg i2) 19 q1.toNatClampNeg ((z_u (z_u μ 17 q1.toNatClampNeg i1) 18 q1.toNatClampNeg i2) 2 0)) 4 20 (0 : Int32).toNatClampNeg (q1 * 10).toNatClampNeg (10 : Int32).toNatClampNeg)) else none else none else none else none
theorem pE_write_run  {μ : z_Mem} {i1 : Int32} {i2 : Int32}  {r : (Int32 × z_Mem)} (h : pE_write μ i1 i2 = some r) : Rn 1 17 0 [(0, .ref 16), (1, .int i1), (2, .int i2), (3, .ref 2)] [] μ (.inl (some (.int r.1))) r.2 := by
  unfold pE_write at h
  refine R_pure (pc := 0) (pc' := 1) (st' := [.ref 16]) (show z_pt 17 0 = some (5, .aload_n 0, []) by decide +kernel) rfl (fun _ _ _ => rfl) ?_
  refine R_pure (pc := 1) (pc' := 2) (st' := [.int i1, .ref 16]) (show z_pt 17 1 = some (5, .iload_n 1, []) by decide +kernel) rfl (fun _ _ _ => rfl) ?_
  refine R_pure (pc := 2) (pc' := 3) (st' := [.int i2, .int i1, .ref 16]) (show z_pt 17 2 = some (5, .iload_n 2, []) by decide +kernel) rfl (fun _ _ _ => rfl) ?_
  obtain ⟨q1, e2, h⟩ := z_bs h
  refine R_call (pc := 3) (rr := []) (show z_pt 17 3 = some (5, .invokevirtual 34, [0, 16, 2, 4085, 4078, 4079, 1006, 4080]) by decide +kernel) rfl (show z_r2 16 = some (1, 4, true) by decide +kernel) rfl rfl (Or.inr ⟨_, _, rfl, (by decide +kernel)⟩) (pE_placeOf_run  e2) (by omega) ?_
  refine R_at2 (pc := 6) (st := [.int q1]) ?_
  refine R_pure (pc := 6) (pc' := 8) (ls' := [(0, .ref 16), (1, .int i1), (2, .int i2), (3, .ref 2), (4, .int q1)]) (st' := []) (show z_pt 17 6 = some (5, .istore 4, []) by decide +kernel) rfl (fun _ _ _ => rfl) ?_
  refine R_pure (pc := 8) (pc' := 10) (st' := [.int q1]) (show z_pt 17 8 = some (5, .iload 4, []) by decide +kernel) rfl (fun _ _ _ => rfl) ?_
  refine R_const (pc := 10) (pc' := 11) (v := (-1)) (show z_ptc 17 10 = some (11, (-1)) by decide +kernel) ?_
  refine R_icmne (pc := 11) (t := 39) (show z_pt 17 11 = some (5, .if_icmp .ne 28, []) by decide +kernel) (by decide) (fun c3 => ?_) (fun c3 => ?_)
  · rw [if_neg c3] at h
    refine R_pure (pc := 39) (pc' := 41) (st' := [.int q1]) (show z_pt 17 39 = some (5, .iload 4, []) by decide +kernel) rfl (fun _ _ _ => rfl) ?_
    refine R_const (pc := 41) (pc' := 42) (v := (-1)) (show z_ptc 17 41 = some (42, (-1)) by decide +kernel) ?_
    refine R_icmeq (pc := 42) (t := 91) (show z_pt 17 42 = some (5, .if_icmp .eq 49, []) by decide +kernel) (by decide) (fun c4 => ?_) (fun c4 => ?_)
    · rw [if_pos c4] at h
      refine R_pure (pc := 91) (pc' := 92) (st' := [.ref 16]) (show z_pt 17 91 = some (5, .aload_n 0, []) by decide +kernel) rfl (fun _ _ _ => rfl) ?_
      refine R_getI (pc := 92) (a := 16) (show z_pt 17 92 = some (5, .getfield 24, [1, 0, 1153]) by decide +kernel) (by decide +kernel) ?_
      refine R_at (pc := 95) ?_
      cases h
      exact R_retI (show z_pt 17 95 = some (5, .ireturn, []) by decide +kernel) (by decide +kernel)
    · rw [if_neg c4] at h
      refine R_pure (pc := 45) (pc' := 46) (st' := [.ref 16]) (show z_pt 17 45 = some (5, .aload_n 0, []) by decide +kernel) rfl (fun _ _ _ => rfl) ?_
      refine R_getR (pc := 46) (a := 16) (b := 17) (show z_pt 17 46 = some (5, .getfield 9, [1, 1, 1155]) by decide +kernel) (by decide +kernel) ?_
      refine R_at (pc := 49) ?_
      refine R_pure (pc := 49) (pc' := 51) (st' := [.int q1, .ref 17]) (show z_pt 17 49 = some (5, .iload 4, []) by decide +kernel) rfl (fun _ _ _ => rfl) ?_
      refine R_pure (pc := 51) (pc' := 52) (st' := [.int i1, .int q1, .ref 17]) (show z_pt 17 51 = some (5, .iload_n 1, []) by decide +kernel) rfl (fun _ _ _ => rfl) ?_
      obtain ⟨g5, h⟩ := z_ig h
      refine R_iast (pc := 52) (a := 17) (n := 6) (show z_pt 17 52 = some (5, .iastore, []) by decide +kernel) (show z_ar 17 0 6 = true by decide +kernel) g5 ?_
      refine R_at (pc := 53) ?_
      refine R_pure (pc := 53) (pc' := 54) (st' := [.ref 16]) (show z_pt 17 53 = some (5, .aload_n 0, []) by decide +kernel) rfl (fun _ _ _ => rfl) ?_
      refine R_getR (pc := 54) (a := 16) (b := 18) (show z_pt 17 54 = some (5, .getfield 15, [1, 2, 1156]) by decide +kernel) (by decide +kernel) ?_
      refine R_at (pc := 57) ?_
      refine R_pure (pc := 57) (pc' := 59) (st' := [.int q1, .ref 18]) (show z_pt 17 57 = some (5, .iload 4, []) by decide +kernel) rfl (fun _ _ _ => rfl) ?_
      refine R_pure (pc := 59) (pc' := 60) (st' := [.int i2, .int q1, .ref 18]) (show z_pt 17 59 = some (5, .iload_n 2, []) by decide +kernel) rfl (fun _ _ _ => rfl) ?_
      obtain ⟨g6, h⟩ := z_ig h
      refine R_iast (pc := 60) (a := 18) (n := 6) (show z_pt 17 60 = some (5, .iastore, []) by decide +kernel) (show z_ar 18 0 6 = true by decide +kernel) g6 ?_
      refine R_at (pc := 61) ?_
      refine R_pure (pc := 61) (pc' := 62) (st' := [.ref 16]) (show z_pt 17 61 = some (5, .aload_n 0, []) by decide +kernel) rfl (fun _ _ _ => rfl) ?_
      refine R_getR (pc := 62) (a := 16) (b := 19) (show z_pt 17 62 = some (5, .getfield 18, [1, 3, 1157]) by decide +kernel) (by decide +kernel) ?_
      refine R_at (pc := 65) ?_
      refine R_pure (pc := 65) (pc' := 67) (st' := [.int q1, .ref 19]) (show z_pt 17 65 = some (5, .iload 4, []) by decide +kernel) rfl (fun _ _ _ => rfl) ?_
      refine R_pure (pc := 67) (pc' := 68) (st' := [.ref 2, .int q1, .ref 19]) (show z_pt 17 67 = some (5, .aload_n 3, []) by decide +kernel) rfl (fun _ _ _ => rfl) ?_
      refine R_getI (pc := 68) (a := 2) (show z_pt 17 68 = some (5, .getfield 38, [2, 0, 1048]) by decide +kernel) (by decide +kernel) ?_
      refine R_at (pc := 71) ?_
      obtain ⟨g7, h⟩ := z_ig h
      refine R_iast (pc := 71) (a := 19) (n := 6) (show z_pt 17 71 = some (5, .iastore, []) by decide +kernel) (show z_ar 19 0 6 = true by decide +kernel) g7 ?_
      refine R_at (pc := 72) ?_
      refine R_pure (pc := 72) (pc' := 73) (st' := [.ref 2]) (show z_pt 17 72 = some (5, .aload_n 3, []) by decide +kernel) rfl (fun _ _ _ => rfl) ?_
      refine R_getR (pc := 73) (a := 2) (b := 4) (show z_pt 17 73 = some (5, .getfield 42, [2, 4, 1062]) by decide +kernel) (by decide +kernel) ?_
      refine R_at (pc := 76) ?_
      refine R_const (pc := 76) (pc' := 77) (v := 0) (show z_ptc 17 76 = some (77, 0) by decide +kernel) ?_
      refine R_pure (pc := 77) (pc' := 78) (st' := [.ref 16, .int 0, .ref 4]) (show z_pt 17 77 = some (5, .aload_n 0, []) by decide +kernel) rfl (fun _ _ _ => rfl) ?_
      refine R_getR (pc := 78) (a := 16) (b := 20) (show z_pt 17 78 = some (5, .getfield 21, [1, 4, 1159]) by decide +kernel) (by decide +kernel) ?_
      refine R_at (pc := 81) ?_
      refine R_pure (pc := 81) (pc' := 83) (st' := [.int q1, .ref 20, .int 0, .ref 4]) (show z_pt 17 81 = some (5, .iload 4, []) by decide +kernel) rfl (fun _ _ _ => rfl) ?_
      refine R_const (pc := 83) (pc' := 85) (v := 10) (show z_ptc 17 83 = some (85, 10) by decide +kernel) ?_
      refine R_pure (pc := 85) (pc' := 86) (st' := [.int (q1 * 10), .ref 20, .int 0, .ref 4]) (show z_pt 17 85 = some (5, .imul, []) by decide +kernel) rfl (fun _ _ _ => rfl) ?_
      refine R_const (pc := 86) (pc' := 88) (v := 10) (show z_ptc 17 86 = some (88, 10) by decide +kernel) ?_
      obtain ⟨g8, h⟩ := z_ig h
      refine R_cpy (t0 := 0) (t1 := 0) (pc := 88) (b := 4) (a := 20) (n0 := 10) (n1 := 60) (show z_pt 17 88 = some (5, .invokestatic 28, [7, 0, 5, 2101, 2086, 2085, 1018]) by decide +kernel) rfl (by omega) (show z_ar 4 0 10 = true by decide +kernel) (show z_ar 20 0 60 = true by decide +kernel) rfl g8 ?_
      refine R_at (pc := 91) ?_
      refine R_pure (pc := 91) (pc' := 92) (st' := [.ref 16]) (show z_pt 17 91 = some (5, .aload_n 0, []) by decide +kernel) rfl (fun _ _ _ => rfl) ?_
      refine R_getI (pc := 92) (a := 16) (show z_pt 17 92 = some (5, .getfield 24, [1, 0, 1153]) by decide +kernel) (by decide +kernel) ?_
      refine R_at (pc := 95) ?_
      cases h
      exact R_retI (show z_pt 17 95 = some (5, .ireturn, []) by decide +kernel) (by decide +kernel)
  · rw [if_pos c3] at h
    refine R_pure (pc := 14) (pc' := 15) (st' := [.ref 16]) (show z_pt 17 14 = some (5, .aload_n 0, []) by decide +kernel) rfl (fun _ _ _ => rfl) ?_
    refine R_getI (pc := 15) (a := 16) (show z_pt 17 15 = some (5, .getfield 24, [1, 0, 1153]) by decide +kernel) (by decide +kernel) ?_
    refine R_at (pc := 18) ?_
    refine R_const (pc := 18) (pc' := 20) (v := 6) (show z_ptc 17 18 = some (20, 6) by decide +kernel) ?_
    refine R_icmge (pc := 20) (t := 39) (show z_pt 17 20 = some (5, .if_icmp .ge 19, []) by decide +kernel) (by decide) (fun c9 => ?_) (fun c9 => ?_)
    · rw [if_pos c9] at h
      refine R_pure (pc := 39) (pc' := 41) (st' := [.int q1]) (show z_pt 17 39 = some (5, .iload 4, []) by decide +kernel) rfl (fun _ _ _ => rfl) ?_
      refine R_const (pc := 41) (pc' := 42) (v := (-1)) (show z_ptc 17 41 = some (42, (-1)) by decide +kernel) ?_
      refine R_icmeq (pc := 42) (t := 91) (show z_pt 17 42 = some (5, .if_icmp .eq 49, []) by decide +kernel) (by decide) (fun c10 => ?_) (fun c10 => ?_)
      · rw [if_pos c10] at h
        refine R_pure (pc := 91) (pc' := 92) (st' := [.ref 16]) (show z_pt 17 91 = some (5, .aload_n 0, []) by decide +kernel) rfl (fun _ _ _ => rfl) ?_
        refine R_getI (pc := 92) (a := 16) (show z_pt 17 92 = some (5, .getfield 24, [1, 0, 1153]) by decide +kernel) (by decide +kernel) ?_
        refine R_at (pc := 95) ?_
        cases h
        exact R_retI (show z_pt 17 95 = some (5, .ireturn, []) by decide +kernel) (by decide +kernel)
      · rw [if_neg c10] at h
        refine R_pure (pc := 45) (pc' := 46) (st' := [.ref 16]) (show z_pt 17 45 = some (5, .aload_n 0, []) by decide +kernel) rfl (fun _ _ _ => rfl) ?_
        refine R_getR (pc := 46) (a := 16) (b := 17) (show z_pt 17 46 = some (5, .getfield 9, [1, 1, 1155]) by decide +kernel) (by decide +kernel) ?_
        refine R_at (pc := 49) ?_
        refine R_pure (pc := 49) (pc' := 51) (st' := [.int q1, .ref 17]) (show z_pt 17 49 = some (5, .iload 4, []) by decide +kernel) rfl (fun _ _ _ => rfl) ?_
        refine R_pure (pc := 51) (pc' := 52) (st' := [.int i1, .int q1, .ref 17]) (show z_pt 17 51 = some (5, .iload_n 1, []) by decide +kernel) rfl (fun _ _ _ => rfl) ?_
        obtain ⟨g11, h⟩ := z_ig h
        refine R_iast (pc := 52) (a := 17) (n := 6) (show z_pt 17 52 = some (5, .iastore, []) by decide +kernel) (show z_ar 17 0 6 = true by decide +kernel) g11 ?_
        refine R_at (pc := 53) ?_
        refine R_pure (pc := 53) (pc' := 54) (st' := [.ref 16]) (show z_pt 17 53 = some (5, .aload_n 0, []) by decide +kernel) rfl (fun _ _ _ => rfl) ?_
        refine R_getR (pc := 54) (a := 16) (b := 18) (show z_pt 17 54 = some (5, .getfield 15, [1, 2, 1156]) by decide +kernel) (by decide +kernel) ?_
        refine R_at (pc := 57) ?_
        refine R_pure (pc := 57) (pc' := 59) (st' := [.int q1, .ref 18]) (show z_pt 17 57 = some (5, .iload 4, []) by decide +kernel) rfl (fun _ _ _ => rfl) ?_
        refine R_pure (pc := 59) (pc' := 60) (st' := [.int i2, .int q1, .ref 18]) (show z_pt 17 59 = some (5, .iload_n 2, []) by decide +kernel) rfl (fun _ _ _ => rfl) ?_
        obtain ⟨g12, h⟩ := z_ig h
        refine R_iast (pc := 60) (a := 18) (n := 6) (show z_pt 17 60 = some (5, .iastore, []) by decide +kernel) (show z_ar 18 0 6 = true by decide +kernel) g12 ?_
        refine R_at (pc := 61) ?_
        refine R_pure (pc := 61) (pc' := 62) (st' := [.ref 16]) (show z_pt 17 61 = some (5, .aload_n 0, []) by decide +kernel) rfl (fun _ _ _ => rfl) ?_
        refine R_getR (pc := 62) (a := 16) (b := 19) (show z_pt 17 62 = some (5, .getfield 18, [1, 3, 1157]) by decide +kernel) (by decide +kernel) ?_
        refine R_at (pc := 65) ?_
        refine R_pure (pc := 65) (pc' := 67) (st' := [.int q1, .ref 19]) (show z_pt 17 65 = some (5, .iload 4, []) by decide +kernel) rfl (fun _ _ _ => rfl) ?_
        refine R_pure (pc := 67) (pc' := 68) (st' := [.ref 2, .int q1, .ref 19]) (show z_pt 17 67 = some (5, .aload_n 3, []) by decide +kernel) rfl (fun _ _ _ => rfl) ?_
        refine R_getI (pc := 68) (a := 2) (show z_pt 17 68 = some (5, .getfield 38, [2, 0, 1048]) by decide +kernel) (by decide +kernel) ?_
        refine R_at (pc := 71) ?_
        obtain ⟨g13, h⟩ := z_ig h
        refine R_iast (pc := 71) (a := 19) (n := 6) (show z_pt 17 71 = some (5, .iastore, []) by decide +kernel) (show z_ar 19 0 6 = true by decide +kernel) g13 ?_
        refine R_at (pc := 72) ?_
        refine R_pure (pc := 72) (pc' := 73) (st' := [.ref 2]) (show z_pt 17 72 = some (5, .aload_n 3, []) by decide +kernel) rfl (fun _ _ _ => rfl) ?_
        refine R_getR (pc := 73) (a := 2) (b := 4) (show z_pt 17 73 = some (5, .getfield 42, [2, 4, 1062]) by decide +kernel) (by decide +kernel) ?_
        refine R_at (pc := 76) ?_
        refine R_const (pc := 76) (pc' := 77) (v := 0) (show z_ptc 17 76 = some (77, 0) by decide +kernel) ?_
        refine R_pure (pc := 77) (pc' := 78) (st' := [.ref 16, .int 0, .ref 4]) (show z_pt 17 77 = some (5, .aload_n 0, []) by decide +kernel) rfl (fun _ _ _ => rfl) ?_
        refine R_getR (pc := 78) (a := 16) (b := 20) (show z_pt 17 78 = some (5, .getfield 21, [1, 4, 1159]) by decide +kernel) (by decide +kernel) ?_
        refine R_at (pc := 81) ?_
        refine R_pure (pc := 81) (pc' := 83) (st' := [.int q1, .ref 20, .int 0, .ref 4]) (show z_pt 17 81 = some (5, .iload 4, []) by decide +kernel) rfl (fun _ _ _ => rfl) ?_
        refine R_const (pc := 83) (pc' := 85) (v := 10) (show z_ptc 17 83 = some (85, 10) by decide +kernel) ?_
        refine R_pure (pc := 85) (pc' := 86) (st' := [.int (q1 * 10), .ref 20, .int 0, .ref 4]) (show z_pt 17 85 = some (5, .imul, []) by decide +kernel) rfl (fun _ _ _ => rfl) ?_
        refine R_const (pc := 86) (pc' := 88) (v := 10) (show z_ptc 17 86 = some (88, 10) by decide +kernel) ?_
        obtain ⟨g14, h⟩ := z_ig h
        refine R_cpy (t0 := 0) (t1 := 0) (pc := 88) (b := 4) (a := 20) (n0 := 10) (n1 := 60) (show z_pt 17 88 = some (5, .invokestatic 28, [7, 0, 5, 2101, 2086, 2085, 1018]) by decide +kernel) rfl (by omega) (show z_ar 4 0 10 = true by decide +kernel) (show z_ar 20 0 60 = true by decide +kernel) rfl g14 ?_
        refine R_at (pc := 91) ?_
        refine R_pure (pc := 91) (pc' := 92) (st' := [.ref 16]) (show z_pt 17 91 = some (5, .aload_n 0, []) by decide +kernel) rfl (fun _ _ _ => rfl) ?_
        refine R_getI (pc := 92) (a := 16) (show z_pt 17 92 = some (5, .getfield 24, [1, 0, 1153]) by decide +kernel) (by decide +kernel) ?_
        refine R_at (pc := 95) ?_
        cases h
        exact R_retI (show z_pt 17 95 = some (5, .ireturn, []) by decide +kernel) (by decide +kernel)
    · rw [if_neg c9] at h
      refine R_pure (pc := 23) (pc' := 24) (st' := [.ref 16]) (show z_pt 17 23 = some (5, .aload_n 0, []) by decide +kernel) rfl (fun _ _ _ => rfl) ?_
      refine R_getI (pc := 24) (a := 16) (show z_pt 17 24 = some (5, .getfield 24, [1, 0, 1153]) by decide +kernel) (by decide +kernel) ?_
      refine R_at (pc := 27) ?_
      refine R_pure (pc := 27) (pc' := 29) (ls' := [(0, .ref 16), (1, .int i1), (2, .int i2), (3, .ref 2), (4, .int (μ 16 0))]) (st' := []) (show z_pt 17 27 = some (5, .istore 4, []) by decide +kernel) rfl (fun _ _ _ => rfl) ?_
      refine R_pure (pc := 29) (pc' := 30) (st' := [.ref 16]) (show z_pt 17 29 = some (5, .aload_n 0, []) by decide +kernel) rfl (fun _ _ _ => rfl) ?_
      refine R_pure (pc := 30) (pc' := 31) (st' := [.ref 16, .ref 16]) (show z_pt 17 30 = some (5, .dup, []) by decide +kernel) rfl (fun _ _ _ => rfl) ?_
      refine R_getI (pc := 31) (a := 16) (show z_pt 17 31 = some (5, .getfield 24, [1, 0, 1153]) by decide +kernel) (by decide +kernel) ?_
      refine R_at (pc := 34) ?_
      refine R_const (pc := 34) (pc' := 35) (v := 1) (show z_ptc 17 34 = some (35, 1) by decide +kernel) ?_
      refine R_pure (pc := 35) (pc' := 36) (st' := [.int ((μ 16 0) + 1), .ref 16]) (show z_pt 17 35 = some (5, .iadd, []) by decide +kernel) rfl (fun _ _ _ => rfl) ?_
      refine R_putI (pc := 36) (a := 16) (show z_pt 17 36 = some (5, .putfield 24, [1, 0, 1153]) by decide +kernel) (by decide +kernel) ⟨rfl, rfl⟩ ?_
      refine R_at (pc := 39) ?_
      refine R_pure (pc := 39) (pc' := 41) (st' := [.int (μ 16 0)]) (show z_pt 17 39 = some (5, .iload 4, []) by decide +kernel) rfl (fun _ _ _ => rfl) ?_
      refine R_const (pc := 41) (pc' := 42) (v := (-1)) (show z_ptc 17 41 = some (42, (-1)) by decide +kernel) ?_
      refine R_icmeq (pc := 42) (t := 91) (show z_pt 17 42 = some (5, .if_icmp .eq 49, []) by decide +kernel) (by decide) (fun c15 => ?_) (fun c15 => ?_)
      · rw [if_pos c15] at h
        refine R_pure (pc := 91) (pc' := 92) (st' := [.ref 16]) (show z_pt 17 91 = some (5, .aload_n 0, []) by decide +kernel) rfl (fun _ _ _ => rfl) ?_
        refine R_getI (pc := 92) (a := 16) (show z_pt 17 92 = some (5, .getfield 24, [1, 0, 1153]) by decide +kernel) (by decide +kernel) ?_
        refine R_at (pc := 95) ?_
        cases h
        exact R_retI (show z_pt 17 95 = some (5, .ireturn, []) by decide +kernel) (by decide +kernel)
      · rw [if_neg c15] at h
        refine R_pure (pc := 45) (pc' := 46) (st' := [.ref 16]) (show z_pt 17 45 = some (5, .aload_n 0, []) by decide +kernel) rfl (fun _ _ _ => rfl) ?_
        refine R_getR (pc := 46) (a := 16) (b := 17) (show z_pt 17 46 = some (5, .getfield 9, [1, 1, 1155]) by decide +kernel) (by decide +kernel) ?_
        refine R_at (pc := 49) ?_
        refine R_pure (pc := 49) (pc' := 51) (st' := [.int (μ 16 0), .ref 17]) (show z_pt 17 49 = some (5, .iload 4, []) by decide +kernel) rfl (fun _ _ _ => rfl) ?_
        refine R_pure (pc := 51) (pc' := 52) (st' := [.int i1, .int (μ 16 0), .ref 17]) (show z_pt 17 51 = some (5, .iload_n 1, []) by decide +kernel) rfl (fun _ _ _ => rfl) ?_
        obtain ⟨g16, h⟩ := z_ig h
        refine R_iast (pc := 52) (a := 17) (n := 6) (show z_pt 17 52 = some (5, .iastore, []) by decide +kernel) (show z_ar 17 0 6 = true by decide +kernel) g16 ?_
        refine R_at (pc := 53) ?_
        refine R_pure (pc := 53) (pc' := 54) (st' := [.ref 16]) (show z_pt 17 53 = some (5, .aload_n 0, []) by decide +kernel) rfl (fun _ _ _ => rfl) ?_
        refine R_getR (pc := 54) (a := 16) (b := 18) (show z_pt 17 54 = some (5, .getfield 15, [1, 2, 1156]) by decide +kernel) (by decide +kernel) ?_
        refine R_at (pc := 57) ?_
        refine R_pure (pc := 57) (pc' := 59) (st' := [.int (μ 16 0), .ref 18]) (show z_pt 17 57 = some (5, .iload 4, []) by decide +kernel) rfl (fun _ _ _ => rfl) ?_
        refine R_pure (pc := 59) (pc' := 60) (st' := [.int i2, .int (μ 16 0), .ref 18]) (show z_pt 17 59 = some (5, .iload_n 2, []) by decide +kernel) rfl (fun _ _ _ => rfl) ?_
        obtain ⟨g17, h⟩ := z_ig h
        refine R_iast (pc := 60) (a := 18) (n := 6) (show z_pt 17 60 = some (5, .iastore, []) by decide +kernel) (show z_ar 18 0 6 = true by decide +kernel) g17 ?_
        refine R_at (pc := 61) ?_
        refine R_pure (pc := 61) (pc' := 62) (st' := [.ref 16]) (show z_pt 17 61 = some (5, .aload_n 0, []) by decide +kernel) rfl (fun _ _ _ => rfl) ?_
        refine R_getR (pc := 62) (a := 16) (b := 19) (show z_pt 17 62 = some (5, .getfield 18, [1, 3, 1157]) by decide +kernel) (by decide +kernel) ?_
        refine R_at (pc := 65) ?_
        refine R_pure (pc := 65) (pc' := 67) (st' := [.int (μ 16 0), .ref 19]) (show z_pt 17 65 = some (5, .iload 4, []) by decide +kernel) rfl (fun _ _ _ => rfl) ?_
        refine R_pure (pc := 67) (pc' := 68) (st' := [.ref 2, .int (μ 16 0), .ref 19]) (show z_pt 17 67 = some (5, .aload_n 3, []) by decide +kernel) rfl (fun _ _ _ => rfl) ?_
        refine R_getI (pc := 68) (a := 2) (show z_pt 17 68 = some (5, .getfield 38, [2, 0, 1048]) by decide +kernel) (by decide +kernel) ?_
        refine R_at (pc := 71) ?_
        obtain ⟨g18, h⟩ := z_ig h
        refine R_iast (pc := 71) (a := 19) (n := 6) (show z_pt 17 71 = some (5, .iastore, []) by decide +kernel) (show z_ar 19 0 6 = true by decide +kernel) g18 ?_
        refine R_at (pc := 72) ?_
        refine R_pure (pc := 72) (pc' := 73) (st' := [.ref 2]) (show z_pt 17 72 = some (5, .aload_n 3, []) by decide +kernel) rfl (fun _ _ _ => rfl) ?_
        refine R_getR (pc := 73) (a := 2) (b := 4) (show z_pt 17 73 = some (5, .getfield 42, [2, 4, 1062]) by decide +kernel) (by decide +kernel) ?_
        refine R_at (pc := 76) ?_
        refine R_const (pc := 76) (pc' := 77) (v := 0) (show z_ptc 17 76 = some (77, 0) by decide +kernel) ?_
        refine R_pure (pc := 77) (pc' := 78) (st' := [.ref 16, .int 0, .ref 4]) (show z_pt 17 77 = some (5, .aload_n 0, []) by decide +kernel) rfl (fun _ _ _ => rfl) ?_
        refine R_getR (pc := 78) (a := 16) (b := 20) (show z_pt 17 78 = some (5, .getfield 21, [1, 4, 1159]) by decide +kernel) (by decide +kernel) ?_
        refine R_at (pc := 81) ?_
        refine R_pure (pc := 81) (pc' := 83) (st' := [.int (μ 16 0), .ref 20, .int 0, .ref 4]) (show z_pt 17 81 = some (5, .iload 4, []) by decide +kernel) rfl (fun _ _ _ => rfl) ?_
        refine R_const (pc := 83) (pc' := 85) (v := 10) (show z_ptc 17 83 = some (85, 10) by decide +kernel) ?_
        refine R_pure (pc := 85) (pc' := 86) (st' := [.int ((μ 16 0) * 10), .ref 20, .int 0, .ref 4]) (show z_pt 17 85 = some (5, .imul, []) by decide +kernel) rfl (fun _ _ _ => rfl) ?_
        refine R_const (pc := 86) (pc' := 88) (v := 10) (show z_ptc 17 86 = some (88, 10) by decide +kernel) ?_
        obtain ⟨g19, h⟩ := z_ig h
        refine R_cpy (t0 := 0) (t1 := 0) (pc := 88) (b := 4) (a := 20) (n0 := 10) (n1 := 60) (show z_pt 17 88 = some (5, .invokestatic 28, [7, 0, 5, 2101, 2086, 2085, 1018]) by decide +kernel) rfl (by omega) (show z_ar 4 0 10 = true by decide +kernel) (show z_ar 20 0 60 = true by decide +kernel) rfl g19 ?_
        refine R_at (pc := 91) ?_
        refine R_pure (pc := 91) (pc' := 92) (st' := [.ref 16]) (show z_pt 17 91 = some (5, .aload_n 0, []) by decide +kernel) rfl (fun _ _ _ => rfl) ?_
        refine R_getI (pc := 92) (a := 16) (show z_pt 17 92 = some (5, .getfield 24, [1, 0, 1153]) by decide +kernel) (by decide +kernel) ?_
        refine R_at (pc := 95) ?_
        cases h
        exact R_retI (show z_pt 17 95 = some (5, .ireturn, []) by decide +kernel) (by decide +kernel)
def pE_removeAt  (μ : z_Mem) (i1 : Int32) : Option (Int32 × z_Mem) := (z_rd (z_u μ 16 0 ((μ 16 0) - 1)) 17 6 ((z_u μ 16 0 ((μ 16 0) - 1)) 16 0)).bind fun v1 => if z_inb i1 6 = true then (z_rd (z_u (z_u μ 16 0 ((μ 16 0) - 1)) 17 i1.toNatClampNeg v1) 18 6 ((z_u (z_u μ 16 0 ((μ 16 0) - 1)) 17 i1.toNatClampNeg v1) 16 0)).bind fun v4 => if z_inb i1 6 = true then (z_rd (z_u (z_u (z_u μ 16 0 ((μ 16 0) - 1)) 17 i1.toNatClampNeg v1) 18 i1.toNatClampNeg v4) 19 6 ((z_u (z_u (z_u μ 16 0 ((μ 16 0) - 1)) 17 i1.toNatClampNeg v1) 18 i1.toNatClampNeg v4) 16 0)).bind fun v7 => if z_inb i1 6 = true then if ¬ (((z_u (z_u (z_u (z_u μ 16 0 ((μ 16 0) - 1)) 17 i1.toNatClampNeg v1) 18 i1.toNatClampNeg v4) 19 i1.toNatClampNeg v7) 16 0) * 10) < 0 ∧ ¬ (i1 * 10) < 0 ∧ ¬ (10 : Int32) < 0 ∧ (((z_u (z_u (z_u (z_u μ 16 0 ((μ 16 0) - 1)) 17 i1.toNatClampNeg v1) 18 i1.toNatClampNeg v4) 19 i1.toNatClampNeg v7) 16 0) * 10).toNatClampNeg + (10 : Int32).toNatClampNeg ≤ 60 ∧ (i1 * 10).toNatClampNeg + (10 : Int32).toNatClampNeg ≤ 60 then some (((z_cp (z_u (z_u (z_u (z_u μ 16 0 ((μ 16 0) - 1)) 17 i1.toNatClampNeg v1) 18 i1.toNatClampNeg v4) 19 i1.toNatClampNeg v7) 20 20 (((z_u (z_u (z_u (z_u μ 16 0 ((μ 16 0) - 1)) 17 i1.toNatClampNeg v1) 18 i1.toNatClampNeg v4) 19 i1.toNatClampNeg v7) 16 0) * 10).toNatClampNeg (i1 * 10).toNatClampNeg (10 : Int32).toNatClampNeg) 16 0), (z_cp (z_u (z_u (z_u (z_u μ 16 0 ((μ 16 0) - 1)) 17 i1.toNatClampNeg v1) 18 i1.toNatClampNeg v4) 19 i1.toNatClampNeg v7) 20 20 (((z_u (z_u (z_u (z_u μ 16 0 ((μ 16 0) - 1)) 17 i1.toNatClampNeg v1) 18 i1.toNatClampNeg v4) 19 i1.toNatClampNeg v7) 16 0) * 10).toNatClampNeg (i1 * 10).toNatClampNeg (10 : Int32).toNatClampNeg)) else none else none else none else none
theorem pE_removeAt_run  {μ : z_Mem} {i1 : Int32}  {r : (Int32 × z_Mem)} (h : pE_removeAt μ i1 = some r) : Rn 1 18 0 [(0, .ref 16), (1, .int i1)] [] μ (.inl (some (.int r.1))) r.2 := by
  unfold pE_removeAt at h
  refine R_pure (pc := 0) (pc' := 1) (st' := [.ref 16]) (show z_pt 18 0 = some (2, .aload_n 0, []) by decide +kernel) rfl (fun _ _ _ => rfl) ?_
  refine R_pure (pc := 1) (pc' := 2) (st' := [.ref 16, .ref 16]) (show z_pt 18 1 = some (2, .dup, []) by decide +kernel) rfl (fun _ _ _ => rfl) ?_
  refine R_getI (pc := 2) (a := 16) (show z_pt 18 2 = some (2, .getfield 24, [1, 0, 1153]) by decide +kernel) (by decide +kernel) ?_
  refine R_at (pc := 5) ?_
  refine R_const (pc := 5) (pc' := 6) (v := 1) (show z_ptc 18 5 = some (6, 1) by decide +kernel) ?_
  refine R_pure (pc := 6) (pc' := 7) (st' := [.int ((μ 16 0) - 1), .ref 16]) (show z_pt 18 6 = some (2, .isub, []) by decide +kernel) rfl (fun _ _ _ => rfl) ?_
  refine R_putI (pc := 7) (a := 16) (show z_pt 18 7 = some (2, .putfield 24, [1, 0, 1153]) by decide +kernel) (by decide +kernel) ⟨rfl, rfl⟩ ?_
  refine R_at (pc := 10) ?_
  refine R_pure (pc := 10) (pc' := 11) (st' := [.ref 16]) (show z_pt 18 10 = some (2, .aload_n 0, []) by decide +kernel) rfl (fun _ _ _ => rfl) ?_
  refine R_getR (pc := 11) (a := 16) (b := 17) (show z_pt 18 11 = some (2, .getfield 9, [1, 1, 1155]) by decide +kernel) (by decide +kernel) ?_
  refine R_at (pc := 14) ?_
  refine R_pure (pc := 14) (pc' := 15) (st' := [.int i1, .ref 17]) (show z_pt 18 14 = some (2, .iload_n 1, []) by decide +kernel) rfl (fun _ _ _ => rfl) ?_
  refine R_pure (pc := 15) (pc' := 16) (st' := [.ref 16, .int i1, .ref 17]) (show z_pt 18 15 = some (2, .aload_n 0, []) by decide +kernel) rfl (fun _ _ _ => rfl) ?_
  refine R_getR (pc := 16) (a := 16) (b := 17) (show z_pt 18 16 = some (2, .getfield 9, [1, 1, 1155]) by decide +kernel) (by decide +kernel) ?_
  refine R_at (pc := 19) ?_
  refine R_pure (pc := 19) (pc' := 20) (st' := [.ref 16, .ref 17, .int i1, .ref 17]) (show z_pt 18 19 = some (2, .aload_n 0, []) by decide +kernel) rfl (fun _ _ _ => rfl) ?_
  refine R_getI (pc := 20) (a := 16) (show z_pt 18 20 = some (2, .getfield 24, [1, 0, 1153]) by decide +kernel) (by decide +kernel) ?_
  refine R_at (pc := 23) ?_
  obtain ⟨v1, e2, h⟩ := z_bs h
  refine R_ialdR (pc := 23) (a := 17) (n := 6) (show z_pt 18 23 = some (2, .iaload, []) by decide +kernel) (show z_ar 17 0 6 = true by decide +kernel) e2 ?_
  refine R_at (pc := 24) ?_
  obtain ⟨g3, h⟩ := z_ig h
  refine R_iast (pc := 24) (a := 17) (n := 6) (show z_pt 18 24 = some (2, .iastore, []) by decide +kernel) (show z_ar 17 0 6 = true by decide +kernel) g3 ?_
  refine R_at (pc := 25) ?_
  refine R_pure (pc := 25) (pc' := 26) (st' := [.ref 16]) (show z_pt 18 25 = some (2, .aload_n 0, []) by decide +kernel) rfl (fun _ _ _ => rfl) ?_
  refine R_getR (pc := 26) (a := 16) (b := 18) (show z_pt 18 26 = some (2, .getfield 15, [1, 2, 1156]) by decide +kernel) (by decide +kernel) ?_
  refine R_at (pc := 29) ?_
  refine R_pure (pc := 29) (pc' := 30) (st' := [.int i1, .ref 18]) (show z_pt 18 29 = some (2, .iload_n 1, []) by decide +kernel) rfl (fun _ _ _ => rfl) ?_
  refine R_pure (pc := 30) (pc' := 31) (st' := [.ref 16, .int i1, .ref 18]) (show z_pt 18 30 = some (2, .aload_n 0, []) by decide +kernel) rfl (fun _ _ _ => rfl) ?_
  refine R_getR (pc := 31) (a := 16) (b := 18) (show z_pt 18 31 = some (2, .getfield 15, [1, 2, 1156]) by decide +kernel) (by decide +kernel) ?_
  refine R_at (pc := 34) ?_
  refine R_pure (pc := 34) (pc' := 35) (st' := [.ref 16, .ref 18, .int i1, .ref 18]) (show z_pt 18 34 = some (2, .aload_n 0, []) by decide +kernel) rfl (fun _ _ _ => rfl) ?_
  refine R_getI (pc := 35) (a := 16) (show z_pt 18 35 = some (2, .getfield 24, [1, 0, 1153]) by decide +kernel) (by decide +kernel) ?_
  refine R_at (pc := 38) ?_
  obtain ⟨v4, e5, h⟩ := z_bs h
  refine R_ialdR (pc := 38) (a := 18) (n := 6) (show z_pt 18 38 = some (2, .iaload, []) by decide +kernel) (show z_ar 18 0 6 = true by decide +kernel) e5 ?_
  refine R_at (pc := 39) ?_
  obtain ⟨g6, h⟩ := z_ig h
  refine R_iast (pc := 39) (a := 18) (n := 6) (show z_pt 18 39 = some (2, .iastore, []) by decide +kernel) (show z_ar 18 0 6 = true by decide +kernel) g6 ?_
  refine R_at (pc := 40) ?_
  refine R_pure (pc := 40) (pc' := 41) (st' := [.ref 16]) (show z_pt 18 40 = some (2, .aload_n 0, []) by decide +kernel) rfl (fun _ _ _ => rfl) ?_
  refine R_getR (pc := 41) (a := 16) (b := 19) (show z_pt 18 41 = some (2, .getfield 18, [1, 3, 1157]) by decide +kernel) (by decide +kernel) ?_
  refine R_at (pc := 44) ?_
  refine R_pure (pc := 44) (pc' := 45) (st' := [.int i1, .ref 19]) (show z_pt 18 44 = some (2, .iload_n 1, []) by decide +kernel) rfl (fun _ _ _ => rfl) ?_
  refine R_pure (pc := 45) (pc' := 46) (st' := [.ref 16, .int i1, .ref 19]) (show z_pt 18 45 = some (2, .aload_n 0, []) by decide +kernel) rfl (fun _ _ _ => rfl) ?_
  refine R_getR (pc := 46) (a := 16) (b := 19) (show z_pt 18 46 = some (2, .getfield 18, [1, 3, 1157]) by decide +kernel) (by decide +kernel) ?_
  refine R_at (pc := 49) ?_
  refine R_pure (pc := 49) (pc' := 50) (st' := [.ref 16, .ref 19, .int i1, .ref 19]) (show z_pt 18 49 = some (2, .aload_n 0, []) by decide +kernel) rfl (fun _ _ _ => rfl) ?_
  refine R_getI (pc := 50) (a := 16) (show z_pt 18 50 = some (2, .getfield 24, [1, 0, 1153]) by decide +kernel) (by decide +kernel) ?_
  refine R_at (pc := 53) ?_
  obtain ⟨v7, e8, h⟩ := z_bs h
  refine R_ialdR (pc := 53) (a := 19) (n := 6) (show z_pt 18 53 = some (2, .iaload, []) by decide +kernel) (show z_ar 19 0 6 = true by decide +kernel) e8 ?_
  refine R_at (pc := 54) ?_
  obtain ⟨g9, h⟩ := z_ig h
  refine R_iast (pc := 54) (a := 19) (n := 6) (show z_pt 18 54 = some (2, .iastore, []) by decide +kernel) (show z_ar 19 0 6 = true by decide +kernel) g9 ?_
  refine R_at (pc := 55) ?_
  refine R_pure (pc := 55) (pc' := 56) (st' := [.ref 16]) (show z_pt 18 55 = some (2, .aload_n 0, []) by decide +kernel) rfl (fun _ _ _ => rfl) ?_
  refine R_getR (pc := 56) (a := 16) (b := 20) (show z_pt 18 56 = some (2, .getfield 21, [1, 4, 1159]) by decide +kernel) (by decide +kernel) ?_
  refine R_at (pc := 59) ?_
  refine R_pure (pc := 59) (pc' := 60) (st' := [.ref 16, .ref 20]) (show z_pt 18 59 = some (2, .aload_n 0, []) by decide +kernel) rfl (fun _ _ _ => rfl) ?_
  refine R_getI (pc := 60) (a := 16) (show z_pt 18 60 = some (2, .getfield 24, [1, 0, 1153]) by decide +kernel) (by decide +kernel) ?_
  refine R_at (pc := 63) ?_
  refine R_const (pc := 63) (pc' := 65) (v := 10) (show z_ptc 18 63 = some (65, 10) by decide +kernel) ?_
  refine R_pure (pc := 65) (pc' := 66) (st' := [.int (((z_u (z_u (z_u (z_u μ 16 0 ((μ 16 0) - 1)) 17 i1.toNatClampNeg v1) 18 i1.toNatClampNeg v4) 19 i1.toNatClampNeg v7) 16 0) * 10), .ref 20]) (show z_pt 18 65 = some (2, .imul, []) by decide +kernel) rfl (fun _ _ _ => rfl) ?_
  refine R_pure (pc := 66) (pc' := 67) (st' := [.ref 16, .int (((z_u (z_u (z_u (z_u μ 16 0 ((μ 16 0) - 1)) 17 i1.toNatClampNeg v1) 18 i1.toNatClampNeg v4) 19 i1.toNatClampNeg v7) 16 0) * 10), .ref 20]) (show z_pt 18 66 = some (2, .aload_n 0, []) by decide +kernel) rfl (fun _ _ _ => rfl) ?_
  refine R_getR (pc := 67) (a := 16) (b := 20) (show z_pt 18 67 = some (2, .getfield 21, [1, 4, 1159]) by decide +kernel) (by decide +kernel) ?_
  refine R_at (pc := 70) ?_
  refine R_pure (pc := 70) (pc' := 71) (st' := [.int i1, .ref 20, .int (((z_u (z_u (z_u (z_u μ 16 0 ((μ 16 0) - 1)) 17 i1.toNatClampNeg v1) 18 i1.toNatClampNeg v4) 19 i1.toNatClampNeg v7) 16 0) * 10), .ref 20]) (show z_pt 18 70 = some (2, .iload_n 1, []) by decide +kernel) rfl (fun _ _ _ => rfl) ?_
  refine R_const (pc := 71) (pc' := 73) (v := 10) (show z_ptc 18 71 = some (73, 10) by decide +kernel) ?_
  refine R_pure (pc := 73) (pc' := 74) (st' := [.int (i1 * 10), .ref 20, .int (((z_u (z_u (z_u (z_u μ 16 0 ((μ 16 0) - 1)) 17 i1.toNatClampNeg v1) 18 i1.toNatClampNeg v4) 19 i1.toNatClampNeg v7) 16 0) * 10), .ref 20]) (show z_pt 18 73 = some (2, .imul, []) by decide +kernel) rfl (fun _ _ _ => rfl) ?_
  refine R_const (pc := 74) (pc' := 76) (v := 10) (show z_ptc 18 74 = some (76, 10) by decide +kernel) ?_
  obtain ⟨g10, h⟩ := z_ig h
  refine R_cpy (t0 := 0) (t1 := 0) (pc := 76) (b := 20) (a := 20) (n0 := 60) (n1 := 60) (show z_pt 18 76 = some (2, .invokestatic 28, [7, 0, 5, 2101, 2086, 2085, 1018]) by decide +kernel) rfl (by omega) (show z_ar 20 0 60 = true by decide +kernel) (show z_ar 20 0 60 = true by decide +kernel) rfl g10 ?_
  refine R_at (pc := 79) ?_
  refine R_pure (pc := 79) (pc' := 80) (st' := [.ref 16]) (show z_pt 18 79 = some (2, .aload_n 0, []) by decide +kernel) rfl (fun _ _ _ => rfl) ?_
  refine R_getI (pc := 80) (a := 16) (show z_pt 18 80 = some (2, .getfield 24, [1, 0, 1153]) by decide +kernel) (by decide +kernel) ?_
  refine R_at (pc := 83) ?_
  cases h
  exact R_retI (show z_pt 18 83 = some (2, .ireturn, []) by decide +kernel) (by decide +kernel)
def pE_positionIn  (μ : z_Mem) (i1 : Int32) (i2 : Int32) : Option Int32 := (z_rd μ 20 60 ((i1 * 10) + i2)).bind fun v1 => some v1
theorem pE_positionIn_run  {μ : z_Mem} {i1 : Int32} {i2 : Int32}  {r : Int32} (h : pE_positionIn μ i1 i2 = some r) : Rn 0 19 0 [(0, .ref 16), (1, .int i1), (2, .int i2)] [] μ (.inl (some (.int r))) μ := by
  unfold pE_positionIn at h
  refine R_pure (pc := 0) (pc' := 1) (st' := [.ref 16]) (show z_pt 19 0 = some (3, .aload_n 0, []) by decide +kernel) rfl (fun _ _ _ => rfl) ?_
  refine R_getR (pc := 1) (a := 16) (b := 20) (show z_pt 19 1 = some (3, .getfield 21, [1, 4, 1159]) by decide +kernel) (by decide +kernel) ?_
  refine R_at (pc := 4) ?_
  refine R_pure (pc := 4) (pc' := 5) (st' := [.int i1, .ref 20]) (show z_pt 19 4 = some (3, .iload_n 1, []) by decide +kernel) rfl (fun _ _ _ => rfl) ?_
  refine R_const (pc := 5) (pc' := 7) (v := 10) (show z_ptc 19 5 = some (7, 10) by decide +kernel) ?_
  refine R_pure (pc := 7) (pc' := 8) (st' := [.int (i1 * 10), .ref 20]) (show z_pt 19 7 = some (3, .imul, []) by decide +kernel) rfl (fun _ _ _ => rfl) ?_
  refine R_pure (pc := 8) (pc' := 9) (st' := [.int i2, .int (i1 * 10), .ref 20]) (show z_pt 19 8 = some (3, .iload_n 2, []) by decide +kernel) rfl (fun _ _ _ => rfl) ?_
  refine R_pure (pc := 9) (pc' := 10) (st' := [.int ((i1 * 10) + i2), .ref 20]) (show z_pt 19 9 = some (3, .iadd, []) by decide +kernel) rfl (fun _ _ _ => rfl) ?_
  obtain ⟨v1, e2, h⟩ := z_bs h
  refine R_ialdR (pc := 10) (a := 20) (n := 60) (show z_pt 19 10 = some (3, .iaload, []) by decide +kernel) (show z_ar 20 0 60 = true by decide +kernel) e2 ?_
  refine R_at (pc := 11) ?_
  cases h
  exact R_retI (show z_pt 19 11 = some (3, .ireturn, []) by decide +kernel) (by decide +kernel)
def pE_differencesTo_L5_B (R : Int32 → Int32 → Option Int32)  (μ : z_Mem) (f2 : Int32) (K : Int32 → Int32 → Option Int32) (a3 : Int32) (a4 : Int32) : Option Int32 := (z_rd μ 19 6 f2).bind fun v1 => if v1 ≤ a4 then K a3 a4 else (pE_positionIn μ f2 a4).bind fun q4 => (z_rd μ 4 10 a4).bind fun v6 => if q4 = v6 then R a3 (a4 + 1) else R (a3 + 1) (a4 + 1)
def pE_differencesTo_L5 : Nat → z_Mem → Int32 → (Int32 → Int32 → Option Int32) → Int32 → Int32 → Option Int32
  | 0 => fun _ _ _ _ _ => none
  | n + 1 => fun μ f2 K a3 a4 => pE_differencesTo_L5_B (pE_differencesTo_L5 n μ f2 K) μ f2 K a3 a4
theorem pE_differencesTo_L5_run  (μ : z_Mem) (f2 : Int32) (K : Int32 → Int32 → Option Int32)  (D : Nat) (hD : 1 ≤ D) (hK : ∀ (a3 a4 : Int32) (r : Int32), K a3 a4 = some r → Rn D 20 42 [(0, .ref 16), (1, .ref 2), (2, .int f2), (3, .int a3), (4, .int a4)] [] μ (.inl (some (.int r))) μ) : ∀ (n : Nat) (a3 : Int32) (a4 : Int32) (r : Int32), pE_differencesTo_L5 n μ f2 K a3 a4 = some r → Rn D 20 5 [(0, .ref 16), (1, .ref 2), (2, .int f2), (3, .int a3), (4, .int a4)] [] μ (.inl (some (.int r))) μ := by
  intro n
  induction n with
  | zero => intro a3 a4 r h; cases h
  | succ n ih =>
    intro a3 a4 r h
    have h : pE_differencesTo_L5_B (pE_differencesTo_L5 n μ f2 K) μ f2 K a3 a4 = some r := h
    unfold pE_differencesTo_L5_B at h
    refine R_pure (pc := 5) (pc' := 7) (st' := [.int a4]) (show z_pt 20 5 = some (5, .iload 4, []) by decide +kernel) rfl (fun _ _ _ => rfl) ?_
    refine R_pure (pc := 7) (pc' := 8) (st' := [.ref 16, .int a4]) (show z_pt 20 7 = some (5, .aload_n 0, []) by decide +kernel) rfl (fun _ _ _ => rfl) ?_
    refine R_getR (pc := 8) (a := 16) (b := 19) (show z_pt 20 8 = some (5, .getfield 18, [1, 3, 1157]) by decide +kernel) (by decide +kernel) ?_
    refine R_at (pc := 11) ?_
    refine R_pure (pc := 11) (pc' := 12) (st' := [.int f2, .ref 19, .int a4]) (show z_pt 20 11 = some (5, .iload_n 2, []) by decide +kernel) rfl (fun _ _ _ => rfl) ?_
    obtain ⟨v1, e2, h⟩ := z_bs h
    refine R_ialdR (pc := 12) (a := 19) (n := 6) (show z_pt 20 12 = some (5, .iaload, []) by decide +kernel) (show z_ar 19 0 6 = true by decide +kernel) e2 ?_
    refine R_at (pc := 13) ?_
    refine R_icmge (pc := 13) (t := 42) (show z_pt 20 13 = some (5, .if_icmp .ge 29, []) by decide +kernel) (by decide) (fun c3 => ?_) (fun c3 => ?_)
    · rw [if_pos c3] at h
      exact hK _ _  _ h
    · rw [if_neg c3] at h
      refine R_pure (pc := 16) (pc' := 17) (st' := [.ref 16]) (show z_pt 20 16 = some (5, .aload_n 0, []) by decide +kernel) rfl (fun _ _ _ => rfl) ?_
      refine R_pure (pc := 17) (pc' := 18) (st' := [.int f2, .ref 16]) (show z_pt 20 17 = some (5, .iload_n 2, []) by decide +kernel) rfl (fun _ _ _ => rfl) ?_
      refine R_pure (pc := 18) (pc' := 20) (st' := [.int a4, .int f2, .ref 16]) (show z_pt 20 18 = some (5, .iload 4, []) by decide +kernel) rfl (fun _ _ _ => rfl) ?_
      obtain ⟨q4, e5, h⟩ := z_bs h
      refine R_call (pc := 20) (rr := []) (show z_pt 20 20 = some (5, .invokevirtual 45, [0, 19, 2, 4125, 4114, 4115, 1006, 4116]) by decide +kernel) rfl (show z_r2 19 = some (1, 3, true) by decide +kernel) rfl rfl (Or.inr ⟨_, _, rfl, (by decide +kernel)⟩) (pE_positionIn_run  e5) (by omega) ?_
      refine R_at2 (pc := 23) (st := [.int q4]) ?_
      refine R_pure (pc := 23) (pc' := 24) (st' := [.ref 2, .int q4]) (show z_pt 20 23 = some (5, .aload_n 1, []) by decide +kernel) rfl (fun _ _ _ => rfl) ?_
      refine R_getR (pc := 24) (a := 2) (b := 4) (show z_pt 20 24 = some (5, .getfield 42, [2, 4, 1062]) by decide +kernel) (by decide +kernel) ?_
      refine R_at (pc := 27) ?_
      refine R_pure (pc := 27) (pc' := 29) (st' := [.int a4, .ref 4, .int q4]) (show z_pt 20 27 = some (5, .iload 4, []) by decide +kernel) rfl (fun _ _ _ => rfl) ?_
      obtain ⟨v6, e7, h⟩ := z_bs h
      refine R_ialdR (pc := 29) (a := 4) (n := 10) (show z_pt 20 29 = some (5, .iaload, []) by decide +kernel) (show z_ar 4 0 10 = true by decide +kernel) e7 ?_
      refine R_at (pc := 30) ?_
      refine R_icmeq (pc := 30) (t := 36) (show z_pt 20 30 = some (5, .if_icmp .eq 6, []) by decide +kernel) (by decide) (fun c8 => ?_) (fun c8 => ?_)
      · rw [if_pos c8] at h
        refine R_inc (pc := 36) (pc' := 39) (ls' := [(0, .ref 16), (1, .ref 2), (2, .int f2), (3, .int a3), (4, .int (a4 + 1))]) (c := 1) (show z_pt 20 36 = some (5, .iinc 4 1, []) by decide +kernel) (by decide) rfl rfl ?_
        refine R_pure (pc := 39) (pc' := 5) (ls' := [(0, .ref 16), (1, .ref 2), (2, .int f2), (3, .int a3), (4, .int (a4 + 1))]) (st' := []) (show z_pt 20 39 = some (5, .goto (-34), [5]) by decide +kernel) rfl (fun _ _ _ => rfl) ?_
        exact ih _ _ _  h
      · rw [if_neg c8] at h
        refine R_inc (pc := 33) (pc' := 36) (ls' := [(0, .ref 16), (1, .ref 2), (2, .int f2), (3, .int (a3 + 1)), (4, .int a4)]) (c := 1) (show z_pt 20 33 = some (5, .iinc 3 1, []) by decide +kernel) (by decide) rfl rfl ?_
        refine R_inc (pc := 36) (pc' := 39) (ls' := [(0, .ref 16), (1, .ref 2), (2, .int f2), (3, .int (a3 + 1)), (4, .int (a4 + 1))]) (c := 1) (show z_pt 20 36 = some (5, .iinc 4 1, []) by decide +kernel) (by decide) rfl rfl ?_
        refine R_pure (pc := 39) (pc' := 5) (ls' := [(0, .ref 16), (1, .ref 2), (2, .int f2), (3, .int (a3 + 1)), (4, .int (a4 + 1))]) (st' := []) (show z_pt 20 39 = some (5, .goto (-34), [5]) by decide +kernel) rfl (fun _ _ _ => rfl) ?_
        exact ih _ _ _  h
def pE_differencesTo  (μ : z_Mem) (i2 : Int32) : Option Int32 := pE_differencesTo_L5 z_fu μ i2 (fun k9 k10 => some k9) 0 0
theorem pE_differencesTo_run  {μ : z_Mem} {i2 : Int32}  {r : Int32} (h : pE_differencesTo μ i2 = some r) : Rn 1 20 0 [(0, .ref 16), (1, .ref 2), (2, .int i2)] [] μ (.inl (some (.int r))) μ := by
  unfold pE_differencesTo at h
  refine R_const (pc := 0) (pc' := 1) (v := 0) (show z_ptc 20 0 = some (1, 0) by decide +kernel) ?_
  refine R_pure (pc := 1) (pc' := 2) (ls' := [(0, .ref 16), (1, .ref 2), (2, .int i2), (3, .int 0)]) (st' := []) (show z_pt 20 1 = some (5, .istore_n 3, []) by decide +kernel) rfl (fun _ _ _ => rfl) ?_
  refine R_const (pc := 2) (pc' := 3) (v := 0) (show z_ptc 20 2 = some (3, 0) by decide +kernel) ?_
  refine R_pure (pc := 3) (pc' := 5) (ls' := [(0, .ref 16), (1, .ref 2), (2, .int i2), (3, .int 0), (4, .int 0)]) (st' := []) (show z_pt 20 3 = some (5, .istore 4, []) by decide +kernel) rfl (fun _ _ _ => rfl) ?_
  refine pE_differencesTo_L5_run  _ _ _  _ (by omega) ?_ _ _ _ _ h
  intro k9 k10 r h
  refine R_pure (pc := 42) (pc' := 43) (st' := [.int k9]) (show z_pt 20 42 = some (5, .iload_n 3, []) by decide +kernel) rfl (fun _ _ _ => rfl) ?_
  cases h
  exact R_retI (show z_pt 20 43 = some (5, .ireturn, []) by decide +kernel) (by decide +kernel)
end ZP0
