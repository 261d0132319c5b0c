section ZP8
def pm_nearest_L6_B (R : Int32 → Int32 → Option Int32)  (μ : z_Mem) (f1 : Int32) (f2 : Int32) (f3 : Int32) (K : Int32 → Int32 → Option Int32) (a4 : Int32) (a5 : Int32) : Option Int32 := (z_rd μ 242 331 (231 + f1)).bind fun v1 => if v1 ≤ a5 then K a4 a5 else (pm_pointsTo μ f1 a5 f3).bind fun q4 => (pm_apart μ q4 f2).bind fun q6 => (pm_pointsTo μ f1 a4 f3).bind fun q8 => (pm_apart μ q8 f2).bind fun q10 => if q10 ≤ q6 then R a4 (a5 + 1) else R a5 (a5 + 1)
def pm_nearest_L6 : Nat → z_Mem → Int32 → Int32 → Int32 → (Int32 → Int32 → Option Int32) → Int32 → Int32 → Option Int32
  | 0 => fun _ _ _ _ _ _ _ => none
  | n + 1 => fun μ f1 f2 f3 K a4 a5 => pm_nearest_L6_B (pm_nearest_L6 n μ f1 f2 f3 K) μ f1 f2 f3 K a4 a5
theorem pm_nearest_L6_run  (μ : z_Mem) (f1 : Int32) (f2 : Int32) (f3 : Int32) (K : Int32 → Int32 → Option Int32)  (D : Nat) (hD : 2 ≤ D) (hK : ∀ (a4 a5 : Int32) (r : Int32), K a4 a5 = some r → Rn D 219 63 [(0, .ref 241), (1, .int f1), (2, .int f2), (3, .int f3), (4, .int a4), (5, .int a5)] [] μ (.inl (some (.int r))) μ) : ∀ (n : Nat) (a4 : Int32) (a5 : Int32) (r : Int32), pm_nearest_L6 n μ f1 f2 f3 K a4 a5 = some r → Rn D 219 6 [(0, .ref 241), (1, .int f1), (2, .int f2), (3, .int f3), (4, .int a4), (5, .int a5)] [] μ (.inl (some (.int r))) μ := by
  intro n
  induction n with
  | zero => intro a4 a5 r h; cases h
  | succ n ih =>
    intro a4 a5 r h
    have h : pm_nearest_L6_B (pm_nearest_L6 n μ f1 f2 f3 K) μ f1 f2 f3 K a4 a5 = some r := h
    unfold pm_nearest_L6_B at h
    refine R_pure (pc := 6) (pc' := 8) (st' := [.int a5]) (show z_pt 219 6 = some (6, .iload 5, []) by decide +kernel) rfl (fun _ _ _ => rfl) ?_
    refine R_pure (pc := 8) (pc' := 9) (st' := [.ref 241, .int a5]) (show z_pt 219 8 = some (6, .aload_n 0, []) by decide +kernel) rfl (fun _ _ _ => rfl) ?_
    refine R_getR (pc := 9) (a := 241) (b := 242) (show z_pt 219 9 = some (6, .getfield 7, [10, 0, 6118]) by decide +kernel) (by decide +kernel) ?_
    refine R_at (pc := 12) ?_
    refine R_const (pc := 12) (pc' := 15) (v := 231) (show z_ptc 219 12 = some (15, 231) by decide +kernel) ?_
    refine R_pure (pc := 15) (pc' := 16) (st' := [.int f1, .int 231, .ref 242, .int a5]) (show z_pt 219 15 = some (6, .iload_n 1, []) by decide +kernel) rfl (fun _ _ _ => rfl) ?_
    refine R_pure (pc := 16) (pc' := 17) (st' := [.int (231 + f1), .ref 242, .int a5]) (show z_pt 219 16 = some (6, .iadd, []) by decide +kernel) rfl (fun _ _ _ => rfl) ?_
    obtain ⟨v1, e2, h⟩ := z_bs h
    refine R_ialdR (pc := 17) (a := 242) (n := 331) (show z_pt 219 17 = some (6, .iaload, []) by decide +kernel) (show z_ar 242 0 331 = true by decide +kernel) e2 ?_
    refine R_at (pc := 18) ?_
    refine R_icmge (pc := 18) (t := 63) (show z_pt 219 18 = some (6, .if_icmp .ge 45, []) by decide +kernel) (by decide) (fun c3 => ?_) (fun c3 => ?_)
    · rw [if_pos c3] at h
      exact hK _ _  _ h
    · rw [if_neg c3] at h
      refine R_pure (pc := 21) (pc' := 22) (st' := [.ref 241]) (show z_pt 219 21 = some (6, .aload_n 0, []) by decide +kernel) rfl (fun _ _ _ => rfl) ?_
      refine R_pure (pc := 22) (pc' := 23) (st' := [.int f1, .ref 241]) (show z_pt 219 22 = some (6, .iload_n 1, []) by decide +kernel) rfl (fun _ _ _ => rfl) ?_
      refine R_pure (pc := 23) (pc' := 25) (st' := [.int a5, .int f1, .ref 241]) (show z_pt 219 23 = some (6, .iload 5, []) by decide +kernel) rfl (fun _ _ _ => rfl) ?_
      refine R_pure (pc := 25) (pc' := 26) (st' := [.int f3, .int a5, .int f1, .ref 241]) (show z_pt 219 25 = some (6, .iload_n 3, []) by decide +kernel) rfl (fun _ _ _ => rfl) ?_
      obtain ⟨q4, e5, h⟩ := z_bs h
      refine R_call (pc := 26) (rr := []) (show z_pt 219 26 = some (6, .invokevirtual 162, [0, 215, 3, 7154, 7156, 58, 1012, 7157]) by decide +kernel) rfl (show z_r2 215 = some (10, 6, true) by decide +kernel) rfl rfl (Or.inr ⟨_, _, rfl, (by decide +kernel)⟩) (pm_pointsTo_run  e5) (by omega) ?_
      refine R_at2 (pc := 29) (st := [.int q4]) ?_
      refine R_pure (pc := 29) (pc' := 30) (st' := [.int f2, .int q4]) (show z_pt 219 29 = some (6, .iload_n 2, []) by decide +kernel) rfl (fun _ _ _ => rfl) ?_
      obtain ⟨q6, e7, h⟩ := z_bs h
      refine R_call (pc := 30) (rr := []) (show z_pt 219 30 = some (6, .invokestatic 165, [1, 217, 2, 7177, 7178, 0, 1012, 7179]) by decide +kernel) rfl (show z_r2 217 = some (10, 3, true) by decide +kernel) rfl rfl (Or.inl (by decide)) (pm_apart_run  e7) (by omega) ?_
      refine R_at2 (pc := 33) (st := [.int q6]) ?_
      refine R_pure (pc := 33) (pc' := 34) (st' := [.ref 241, .int q6]) (show z_pt 219 33 = some (6, .aload_n 0, []) by decide +kernel) rfl (fun _ _ _ => rfl) ?_
      refine R_pure (pc := 34) (pc' := 35) (st' := [.int f1, .ref 241, .int q6]) (show z_pt 219 34 = some (6, .iload_n 1, []) by decide +kernel) rfl (fun _ _ _ => rfl) ?_
      refine R_pure (pc := 35) (pc' := 37) (st' := [.int a4, .int f1, .ref 241, .int q6]) (show z_pt 219 35 = some (6, .iload 4, []) by decide +kernel) rfl (fun _ _ _ => rfl) ?_
      refine R_pure (pc := 37) (pc' := 38) (st' := [.int f3, .int a4, .int f1, .ref 241, .int q6]) (show z_pt 219 37 = some (6, .iload_n 3, []) by decide +kernel) rfl (fun _ _ _ => rfl) ?_
      obtain ⟨q8, e9, h⟩ := z_bs h
      refine R_call (pc := 38) (rr := [.int q6]) (show z_pt 219 38 = some (6, .invokevirtual 162, [0, 215, 3, 7154, 7156, 58, 1012, 7157]) by decide +kernel) rfl (show z_r2 215 = some (10, 6, true) by decide +kernel) rfl rfl (Or.inr ⟨_, _, rfl, (by decide +kernel)⟩) (pm_pointsTo_run  e9) (by omega) ?_
      refine R_at2 (pc := 41) (st := [.int q8, .int q6]) ?_
      refine R_pure (pc := 41) (pc' := 42) (st' := [.int f2, .int q8, .int q6]) (show z_pt 219 41 = some (6, .iload_n 2, []) by decide +kernel) rfl (fun _ _ _ => rfl) ?_
      obtain ⟨q10, e11, h⟩ := z_bs h
      refine R_call (pc := 42) (rr := [.int q6]) (show z_pt 219 42 = some (6, .invokestatic 165, [1, 217, 2, 7177, 7178, 0, 1012, 7179]) by decide +kernel) rfl (show z_r2 217 = some (10, 3, true) by decide +kernel) rfl rfl (Or.inl (by decide)) (pm_apart_run  e11) (by omega) ?_
      refine R_at2 (pc := 45) (st := [.int q10, .int q6]) ?_
      refine R_icmge (pc := 45) (t := 53) (show z_pt 219 45 = some (6, .if_icmp .ge 8, []) by decide +kernel) (by decide) (fun c12 => ?_) (fun c12 => ?_)
      · rw [if_pos c12] at h
        refine R_pure (pc := 53) (pc' := 55) (st' := [.int a4]) (show z_pt 219 53 = some (6, .iload 4, []) by decide +kernel) rfl (fun _ _ _ => rfl) ?_
        refine R_pure (pc := 55) (pc' := 57) (ls' := [(0, .ref 241), (1, .int f1), (2, .int f2), (3, .int f3), (4, .int a4), (5, .int a5)]) (st' := []) (show z_pt 219 55 = some (6, .istore 4, []) by decide +kernel) rfl (fun _ _ _ => rfl) ?_
        refine R_inc (pc := 57) (pc' := 60) (ls' := [(0, .ref 241), (1, .int f1), (2, .int f2), (3, .int f3), (4, .int a4), (5, .int (a5 + 1))]) (c := 1) (show z_pt 219 57 = some (6, .iinc 5 1, []) by decide +kernel) (by decide) rfl rfl ?_
        refine R_pure (pc := 60) (pc' := 6) (ls' := [(0, .ref 241), (1, .int f1), (2, .int f2), (3, .int f3), (4, .int a4), (5, .int (a5 + 1))]) (st' := []) (show z_pt 219 60 = some (6, .goto (-54), [6]) by decide +kernel) rfl (fun _ _ _ => rfl) ?_
        exact ih _ _ _  h
      · rw [if_neg c12] at h
        refine R_pure (pc := 48) (pc' := 50) (st' := [.int a5]) (show z_pt 219 48 = some (6, .iload 5, []) by decide +kernel) rfl (fun _ _ _ => rfl) ?_
        refine R_pure (pc := 50) (pc' := 55) (show z_pt 219 50 = some (6, .goto 5, []) by decide +kernel) rfl (fun _ _ _ => rfl) ?_
        refine R_pure (pc := 55) (pc' := 57) (ls' := [(0, .ref 241), (1, .int f1), (2, .int f2), (3, .int f3), (4, .int a5), (5, .int a5)]) (st' := []) (show z_pt 219 55 = some (6, .istore 4, []) by decide +kernel) rfl (fun _ _ _ => rfl) ?_
        refine R_inc (pc := 57) (pc' := 60) (ls' := [(0, .ref 241), (1, .int f1), (2, .int f2), (3, .int f3), (4, .int a5), (5, .int (a5 + 1))]) (c := 1) (show z_pt 219 57 = some (6, .iinc 5 1, []) by decide +kernel) (by decide) rfl rfl ?_
        refine R_pure (pc := 60) (pc' := 6) (ls' := [(0, .ref 241), (1, .int f1), (2, .int f2), (3, .int f3), (4, .int a5), (5, .int (a5 + 1))]) (st' := []) (show z_pt 219 60 = some (6, .goto (-54), [6]) by decide +kernel) rfl (fun _ _ _ => rfl) ?_
        exact ih _ _ _  h
def pm_nearest  (μ : z_Mem) (i1 : Int32) (i2 : Int32) (i3 : Int32) : Option Int32 := pm_nearest_L6 z_fu μ i1 i2 i3 (fun k13 k14 => some k13) 0 1
theorem pm_nearest_run  {μ : z_Mem} {i1 : Int32} {i2 : Int32} {i3 : Int32}  {r : Int32} (h : pm_nearest μ i1 i2 i3 = some r) : Rn 2 219 0 [(0, .ref 241), (1, .int i1), (2, .int i2), (3, .int i3)] [] μ (.inl (some (.int r))) μ := by
  unfold pm_nearest at h
  refine R_const (pc := 0) (pc' := 1) (v := 0) (show z_ptc 219 0 = some (1, 0) by decide +kernel) ?_
  refine R_pure (pc := 1) (pc' := 3) (ls' := [(0, .ref 241), (1, .int i1), (2, .int i2), (3, .int i3), (4, .int 0)]) (st' := []) (show z_pt 219 1 = some (6, .istore 4, []) by decide +kernel) rfl (fun _ _ _ => rfl) ?_
  refine R_const (pc := 3) (pc' := 4) (v := 1) (show z_ptc 219 3 = some (4, 1) by decide +kernel) ?_
  refine R_pure (pc := 4) (pc' := 6) (ls' := [(0, .ref 241), (1, .int i1), (2, .int i2), (3, .int i3), (4, .int 0), (5, .int 1)]) (st' := []) (show z_pt 219 4 = some (6, .istore 5, []) by decide +kernel) rfl (fun _ _ _ => rfl) ?_
  refine pm_nearest_L6_run  _ _ _ _ _  _ (by omega) ?_ _ _ _ _ h
  intro k13 k14 r h
  refine R_pure (pc := 63) (pc' := 65) (st' := [.int k13]) (show z_pt 219 63 = some (6, .iload 4, []) by decide +kernel) rfl (fun _ _ _ => rfl) ?_
  cases h
  exact R_retI (show z_pt 219 65 = some (6, .ireturn, []) by decide +kernel) (by decide +kernel)
def pm_distance  (μ : z_Mem) (i1 : Int32) (i2 : Int32) (i3 : Int32) : Option Int32 := (pm_nearest μ i1 i2 i3).bind fun q1 => (pm_pointsTo μ i1 q1 i3).bind fun q3 => (pm_apart μ q3 i2).bind fun q5 => some q5
theorem pm_distance_run  {μ : z_Mem} {i1 : Int32} {i2 : Int32} {i3 : Int32}  {r : Int32} (h : pm_distance μ i1 i2 i3 = some r) : Rn 3 220 0 [(0, .ref 241), (1, .int i1), (2, .int i2), (3, .int i3)] [] μ (.inl (some (.int r))) μ := by
  unfold pm_distance at h
  refine R_pure (pc := 0) (pc' := 1) (st' := [.ref 241]) (show z_pt 220 0 = some (4, .aload_n 0, []) by decide +kernel) rfl (fun _ _ _ => rfl) ?_
  refine R_pure (pc := 1) (pc' := 2) (st' := [.int i1, .ref 241]) (show z_pt 220 1 = some (4, .iload_n 1, []) by decide +kernel) rfl (fun _ _ _ => rfl) ?_
  refine R_pure (pc := 2) (pc' := 3) (st' := [.ref 241, .int i1, .ref 241]) (show z_pt 220 2 = some (4, .aload_n 0, []) by decide +kernel) rfl (fun _ _ _ => rfl) ?_
  refine R_pure (pc := 3) (pc' := 4) (st' := [.int i1, .ref 241, .int i1, .ref 241]) (show z_pt 220 3 = some (4, .iload_n 1, []) by decide +kernel) rfl (fun _ _ _ => rfl) ?_
  refine R_pure (pc := 4) (pc' := 5) (st' := [.int i2, .int i1, .ref 241, .int i1, .ref 241]) (show z_pt 220 4 = some (4, .iload_n 2, []) by decide +kernel) rfl (fun _ _ _ => rfl) ?_
  refine R_pure (pc := 5) (pc' := 6) (st' := [.int i3, .int i2, .int i1, .ref 241, .int i1, .ref 241]) (show z_pt 220 5 = some (4, .iload_n 3, []) by decide +kernel) rfl (fun _ _ _ => rfl) ?_
  obtain ⟨q1, e2, h⟩ := z_bs h
  refine R_call (pc := 6) (rr := [.int i1, .ref 241]) (show z_pt 220 6 = some (4, .invokevirtual 168, [0, 219, 3, 7173, 7175, 61, 1012, 7176]) by decide +kernel) rfl (show z_r2 219 = some (10, 6, true) by decide +kernel) rfl rfl (Or.inr ⟨_, _, rfl, (by decide +kernel)⟩) (pm_nearest_run  e2) (by omega) ?_
  refine R_at2 (pc := 9) (st := [.int q1, .int i1, .ref 241]) ?_
  refine R_pure (pc := 9) (pc' := 10) (st' := [.int i3, .int q1, .int i1, .ref 241]) (show z_pt 220 9 = some (4, .iload_n 3, []) by decide +kernel) rfl (fun _ _ _ => rfl) ?_
  obtain ⟨q3, e4, h⟩ := z_bs h
  refine R_call (pc := 10) (rr := []) (show z_pt 220 10 = some (4, .invokevirtual 162, [0, 215, 3, 7154, 7156, 58, 1012, 7157]) by decide +kernel) rfl (show z_r2 215 = some (10, 6, true) by decide +kernel) rfl rfl (Or.inr ⟨_, _, rfl, (by decide +kernel)⟩) (pm_pointsTo_run  e4) (by omega) ?_
  refine R_at2 (pc := 13) (st := [.int q3]) ?_
  refine R_pure (pc := 13) (pc' := 14) (st' := [.int i2, .int q3]) (show z_pt 220 13 = some (4, .iload_n 2, []) by decide +kernel) rfl (fun _ _ _ => rfl) ?_
  obtain ⟨q5, e6, h⟩ := z_bs h
  refine R_call (pc := 14) (rr := []) (show z_pt 220 14 = some (4, .invokestatic 165, [1, 217, 2, 7177, 7178, 0, 1012, 7179]) by decide +kernel) rfl (show z_r2 217 = some (10, 3, true) by decide +kernel) rfl rfl (Or.inl (by decide)) (pm_apart_run  e6) (by omega) ?_
  refine R_at2 (pc := 17) (st := [.int q5]) ?_
  cases h
  exact R_retI (show z_pt 220 17 = some (4, .ireturn, []) by decide +kernel) (by decide +kernel)
def pm_whyNoStar  (μ : z_Mem) (i1 : Int32) (i2 : Int32) : Option Int32 := (pm_isWheel μ i1).bind fun q1 => if q1 = 0 then some 1 else (pm_placeOf μ i2).bind fun q4 => if q4 = (-1) then some 2 else some 0
theorem pm_whyNoStar_run  {μ : z_Mem} {i1 : Int32} {i2 : Int32}  {r : Int32} (h : pm_whyNoStar μ i1 i2 = some r) : Rn 2 221 0 [(0, .ref 241), (1, .int i1), (2, .int i2)] [] μ (.inl (some (.int r))) μ := by
  unfold pm_whyNoStar at h
  refine R_pure (pc := 0) (pc' := 1) (st' := [.ref 241]) (show z_pt 221 0 = some (3, .aload_n 0, []) by decide +kernel) rfl (fun _ _ _ => rfl) ?_
  refine R_pure (pc := 1) (pc' := 2) (st' := [.int i1, .ref 241]) (show z_pt 221 1 = some (3, .iload_n 1, []) by decide +kernel) rfl (fun _ _ _ => rfl) ?_
  obtain ⟨q1, e2, h⟩ := z_bs h
  refine R_call (pc := 2) (rr := []) (show z_pt 221 2 = some (3, .invokevirtual 156, [0, 171, 1, 7146, 7148, 57, 1012, 7149]) by decide +kernel) rfl (show z_r2 171 = some (10, 2, true) by decide +kernel) rfl rfl (Or.inr ⟨_, _, rfl, (by decide +kernel)⟩) (pm_isWheel_run  e2) (by omega) ?_
  refine R_at2 (pc := 5) (st := [.int q1]) ?_
  refine R_ifne (pc := 5) (t := 12) (show z_pt 221 5 = some (3, .ifCond .ne 7, []) by decide +kernel) (by decide) (fun c3 => ?_) (fun c3 => ?_)
  · rw [if_neg c3] at h
    refine R_pure (pc := 12) (pc' := 13) (st' := [.ref 241]) (show z_pt 221 12 = some (3, .aload_n 0, []) by decide +kernel) rfl (fun _ _ _ => rfl) ?_
    refine R_pure (pc := 13) (pc' := 14) (st' := [.int i2, .ref 241]) (show z_pt 221 13 = some (3, .iload_n 2, []) by decide +kernel) rfl (fun _ _ _ => rfl) ?_
    obtain ⟨q4, e5, h⟩ := z_bs h
    refine R_call (pc := 14) (rr := []) (show z_pt 221 14 = some (3, .invokevirtual 171, [0, 218, 1, 7169, 7171, 60, 1012, 7172]) by decide +kernel) rfl (show z_r2 218 = some (10, 3, true) by decide +kernel) rfl rfl (Or.inr ⟨_, _, rfl, (by decide +kernel)⟩) (pm_placeOf_run  e5) (by omega) ?_
    refine R_at2 (pc := 17) (st := [.int q4]) ?_
    refine R_const (pc := 17) (pc' := 18) (v := (-1)) (show z_ptc 221 17 = some (18, (-1)) by decide +kernel) ?_
    refine R_icmne (pc := 18) (t := 25) (show z_pt 221 18 = some (3, .if_icmp .ne 7, []) by decide +kernel) (by decide) (fun c6 => ?_) (fun c6 => ?_)
    · rw [if_neg c6] at h
      refine R_const (pc := 25) (pc' := 26) (v := 0) (show z_ptc 221 25 = some (26, 0) by decide +kernel) ?_
      cases h
      exact R_retI (show z_pt 221 26 = some (3, .ireturn, []) by decide +kernel) (by decide +kernel)
    · rw [if_pos c6] at h
      refine R_const (pc := 21) (pc' := 22) (v := 2) (show z_ptc 221 21 = some (22, 2) by decide +kernel) ?_
      refine R_pure (pc := 22) (pc' := 26) (show z_pt 221 22 = some (3, .goto 4, []) by decide +kernel) rfl (fun _ _ _ => rfl) ?_
      cases h
      exact R_retI (show z_pt 221 26 = some (3, .ireturn, []) by decide +kernel) (by decide +kernel)
  · rw [if_pos c3] at h
    refine R_const (pc := 8) (pc' := 9) (v := 1) (show z_ptc 221 8 = some (9, 1) by decide +kernel) ?_
    refine R_pure (pc := 9) (pc' := 26) (show z_pt 221 9 = some (3, .goto 17, []) by decide +kernel) rfl (fun _ _ _ => rfl) ?_
    cases h
    exact R_retI (show z_pt 221 26 = some (3, .ireturn, []) by decide +kernel) (by decide +kernel)
def pm_nearestSpoke  (μ : z_Mem) (i1 : Int32) (i2 : Int32) : Option (Int32 × z_Mem) := (pm_whyNoStar μ i1 i2).bind fun q1 => if q1 ≤ 0 then (pm_placeOf μ i2).bind fun q4 => (z_rd μ 242 331 (243 + q4)).bind fun v6 => (pm_nearest μ i1 v6 0).bind fun q8 => (pm_done μ q8).bind fun q10 => some (q10.1, q10.2) else (pm_fails μ q1).bind fun q12 => some (q12.1, q12.2)
theorem pm_nearestSpoke_run  {μ : z_Mem} {i1 : Int32} {i2 : Int32}  {r : (Int32 × z_Mem)} (h : pm_nearestSpoke μ i1 i2 = some r) : Rn 3 222 0 [(0, .ref 241), (1, .int i1), (2, .int i2)] [] μ (.inl (some (.int r.1))) r.2 := by
  unfold pm_nearestSpoke at h
  refine R_pure (pc := 0) (pc' := 1) (st' := [.ref 241]) (show z_pt 222 0 = some (4, .aload_n 0, []) by decide +kernel) rfl (fun _ _ _ => rfl) ?_
  refine R_pure (pc := 1) (pc' := 2) (st' := [.int i1, .ref 241]) (show z_pt 222 1 = some (4, .iload_n 1, []) by decide +kernel) rfl (fun _ _ _ => rfl) ?_
  refine R_pure (pc := 2) (pc' := 3) (st' := [.int i2, .int i1, .ref 241]) (show z_pt 222 2 = some (4, .iload_n 2, []) by decide +kernel) rfl (fun _ _ _ => rfl) ?_
  obtain ⟨q1, e2, h⟩ := z_bs h
  refine R_call (pc := 3) (rr := []) (show z_pt 222 3 = some (4, .invokevirtual 174, [0, 221, 2, 7165, 7167, 59, 1012, 7168]) by decide +kernel) rfl (show z_r2 221 = some (10, 3, true) by decide +kernel) rfl rfl (Or.inr ⟨_, _, rfl, (by decide +kernel)⟩) (pm_whyNoStar_run  e2) (by omega) ?_
  refine R_at2 (pc := 6) (st := [.int q1]) ?_
  refine R_pure (pc := 6) (pc' := 7) (ls' := [(0, .ref 241), (1, .int i1), (2, .int i2), (3, .int q1)]) (st' := []) (show z_pt 222 6 = some (4, .istore_n 3, []) by decide +kernel) rfl (fun _ _ _ => rfl) ?_
  refine R_pure (pc := 7) (pc' := 8) (st' := [.int q1]) (show z_pt 222 7 = some (4, .iload_n 3, []) by decide +kernel) rfl (fun _ _ _ => rfl) ?_
  refine R_ifle (pc := 8) (t := 19) (show z_pt 222 8 = some (4, .ifCond .le 11, []) by decide +kernel) (by decide) (fun c3 => ?_) (fun c3 => ?_)
  · rw [if_pos c3] at h
    refine R_pure (pc := 19) (pc' := 20) (st' := [.ref 241]) (show z_pt 222 19 = some (4, .aload_n 0, []) by decide +kernel) rfl (fun _ _ _ => rfl) ?_
    refine R_pure (pc := 20) (pc' := 21) (st' := [.ref 241, .ref 241]) (show z_pt 222 20 = some (4, .aload_n 0, []) by decide +kernel) rfl (fun _ _ _ => rfl) ?_
    refine R_pure (pc := 21) (pc' := 22) (st' := [.int i1, .ref 241, .ref 241]) (show z_pt 222 21 = some (4, .iload_n 1, []) by decide +kernel) rfl (fun _ _ _ => rfl) ?_
    refine R_pure (pc := 22) (pc' := 23) (st' := [.ref 241, .int i1, .ref 241, .ref 241]) (show z_pt 222 22 = some (4, .aload_n 0, []) by decide +kernel) rfl (fun _ _ _ => rfl) ?_
    refine R_getR (pc := 23) (a := 241) (b := 242) (show z_pt 222 23 = some (4, .getfield 7, [10, 0, 6118]) by decide +kernel) (by decide +kernel) ?_
    refine R_at (pc := 26) ?_
    refine R_const (pc := 26) (pc' := 29) (v := 243) (show z_ptc 222 26 = some (29, 243) by decide +kernel) ?_
    refine R_pure (pc := 29) (pc' := 30) (st' := [.ref 241, .int 243, .ref 242, .int i1, .ref 241, .ref 241]) (show z_pt 222 29 = some (4, .aload_n 0, []) by decide +kernel) rfl (fun _ _ _ => rfl) ?_
    refine R_pure (pc := 30) (pc' := 31) (st' := [.int i2, .ref 241, .int 243, .ref 242, .int i1, .ref 241, .ref 241]) (show z_pt 222 30 = some (4, .iload_n 2, []) by decide +kernel) rfl (fun _ _ _ => rfl) ?_
    obtain ⟨q4, e5, h⟩ := z_bs h
    refine R_call (pc := 31) (rr := [.int 243, .ref 242, .int i1, .ref 241, .ref 241]) (show z_pt 222 31 = some (4, .invokevirtual 171, [0, 218, 1, 7169, 7171, 60, 1012, 7172]) by decide +kernel) rfl (show z_r2 218 = some (10, 3, true) by decide +kernel) rfl rfl (Or.inr ⟨_, _, rfl, (by decide +kernel)⟩) (pm_placeOf_run  e5) (by omega) ?_
    refine R_at2 (pc := 34) (st := [.int q4, .int 243, .ref 242, .int i1, .ref 241, .ref 241]) ?_
    refine R_pure (pc := 34) (pc' := 35) (st' := [.int (243 + q4), .ref 242, .int i1, .ref 241, .ref 241]) (show z_pt 222 34 = some (4, .iadd, []) by decide +kernel) rfl (fun _ _ _ => rfl) ?_
    obtain ⟨v6, e7, h⟩ := z_bs h
    refine R_ialdR (pc := 35) (a := 242) (n := 331) (show z_pt 222 35 = some (4, .iaload, []) by decide +kernel) (show z_ar 242 0 331 = true by decide +kernel) e7 ?_
    refine R_at (pc := 36) ?_
    refine R_const (pc := 36) (pc' := 37) (v := 0) (show z_ptc 222 36 = some (37, 0) by decide +kernel) ?_
    obtain ⟨q8, e9, h⟩ := z_bs h
    refine R_call (pc := 37) (rr := [.ref 241]) (show z_pt 222 37 = some (4, .invokevirtual 168, [0, 219, 3, 7173, 7175, 61, 1012, 7176]) by decide +kernel) rfl (show z_r2 219 = some (10, 6, true) by decide +kernel) rfl rfl (Or.inr ⟨_, _, rfl, (by decide +kernel)⟩) (pm_nearest_run  e9) (by omega) ?_
    refine R_at2 (pc := 40) (st := [.int q8, .ref 241]) ?_
    obtain ⟨q10, e11, h⟩ := z_bs h
    refine R_call (pc := 40) (rr := []) (show z_pt 222 40 = some (4, .invokevirtual 79, [0, 164, 1, 6199, 6201, 37, 1012, 6202]) by decide +kernel) rfl (show z_r2 164 = some (10, 2, true) by decide +kernel) rfl rfl (Or.inr ⟨_, _, rfl, (by decide +kernel)⟩) (pm_done_run  e11) (by omega) ?_
    refine R_at2 (pc := 43) (st := [.int q10.1]) ?_
    cases h
    exact R_retI (show z_pt 222 43 = some (4, .ireturn, []) by decide +kernel) (by decide +kernel)
  · rw [if_neg c3] at h
    refine R_pure (pc := 11) (pc' := 12) (st' := [.ref 241]) (show z_pt 222 11 = some (4, .aload_n 0, []) by decide +kernel) rfl (fun _ _ _ => rfl) ?_
    refine R_pure (pc := 12) (pc' := 13) (st' := [.int q1, .ref 241]) (show z_pt 222 12 = some (4, .iload_n 3, []) by decide +kernel) rfl (fun _ _ _ => rfl) ?_
    obtain ⟨q12, e13, h⟩ := z_bs h
    refine R_call (pc := 13) (rr := []) (show z_pt 222 13 = some (4, .invokevirtual 75, [0, 165, 1, 6195, 6197, 36, 1012, 6198]) by decide +kernel) rfl (show z_r2 165 = some (10, 2, true) by decide +kernel) rfl rfl (Or.inr ⟨_, _, rfl, (by decide +kernel)⟩) (pm_fails_run  e13) (by omega) ?_
    refine R_at2 (pc := 16) (st := [.int q12.1]) ?_
    refine R_pure (pc := 16) (pc' := 43) (show z_pt 222 16 = some (4, .goto 27, []) by decide +kernel) rfl (fun _ _ _ => rfl) ?_
    cases h
    exact R_retI (show z_pt 222 43 = some (4, .ireturn, []) by decide +kernel) (by decide +kernel)
def pm_distanceToStar  (μ : z_Mem) (i1 : Int32) (i2 : Int32) : Option (Int32 × z_Mem) := (pm_whyNoStar μ i1 i2).bind fun q1 => if q1 ≤ 0 then (pm_placeOf μ i2).bind fun q4 => (z_rd μ 242 331 (243 + q4)).bind fun v6 => (pm_distance μ i1 v6 0).bind fun q8 => (pm_done μ q8).bind fun q10 => some (q10.1, q10.2) else (pm_fails μ q1).bind fun q12 => some (q12.1, q12.2)
theorem pm_distanceToStar_run  {μ : z_Mem} {i1 : Int32} {i2 : Int32}  {r : (Int32 × z_Mem)} (h : pm_distanceToStar μ i1 i2 = some r) : Rn 4 223 0 [(0, .ref 241), (1, .int i1), (2, .int i2)] [] μ (.inl (some (.int r.1))) r.2 := by
  unfold pm_distanceToStar at h
  refine R_pure (pc := 0) (pc' := 1) (st' := [.ref 241]) (show z_pt 223 0 = some (4, .aload_n 0, []) by decide +kernel) rfl (fun _ _ _ => rfl) ?_
  refine R_pure (pc := 1) (pc' := 2) (st' := [.int i1, .ref 241]) (show z_pt 223 1 = some (4, .iload_n 1, []) by decide +kernel) rfl (fun _ _ _ => rfl) ?_
  refine R_pure (pc := 2) (pc' := 3) (st' := [.int i2, .int i1, .ref 241]) (show z_pt 223 2 = some (4, .iload_n 2, []) by decide +kernel) rfl (fun _ _ _ => rfl) ?_
  obtain ⟨q1, e2, h⟩ := z_bs h
  refine R_call (pc := 3) (rr := []) (show z_pt 223 3 = some (4, .invokevirtual 174, [0, 221, 2, 7165, 7167, 59, 1012, 7168]) by decide +kernel) rfl (show z_r2 221 = some (10, 3, true) by decide +kernel) rfl rfl (Or.inr ⟨_, _, rfl, (by decide +kernel)⟩) (pm_whyNoStar_run  e2) (by omega) ?_
  refine R_at2 (pc := 6) (st := [.int q1]) ?_
  refine R_pure (pc := 6) (pc' := 7) (ls' := [(0, .ref 241), (1, .int i1), (2, .int i2), (3, .int q1)]) (st' := []) (show z_pt 223 6 = some (4, .istore_n 3, []) by decide +kernel) rfl (fun _ _ _ => rfl) ?_
  refine R_pure (pc := 7) (pc' := 8) (st' := [.int q1]) (show z_pt 223 7 = some (4, .iload_n 3, []) by decide +kernel) rfl (fun _ _ _ => rfl) ?_
  refine R_ifle (pc := 8) (t := 19) (show z_pt 223 8 = some (4, .ifCond .le 11, []) by decide +kernel) (by decide) (fun c3 => ?_) (fun c3 => ?_)
  · rw [if_pos c3] at h
    refine R_pure (pc := 19) (pc' := 20) (st' := [.ref 241]) (show z_pt 223 19 = some (4, .aload_n 0, []) by decide +kernel) rfl (fun _ _ _ => rfl) ?_
    refine R_pure (pc := 20) (pc' := 21) (st' := [.ref 241, .ref 241]) (show z_pt 223 20 = some (4, .aload_n 0, []) by decide +kernel) rfl (fun _ _ _ => rfl) ?_
    refine R_pure (pc := 21) (pc' := 22) (st' := [.int i1, .ref 241, .ref 241]) (show z_pt 223 21 = some (4, .iload_n 1, []) by decide +kernel) rfl (fun _ _ _ => rfl) ?_
    refine R_pure (pc := 22) (pc' := 23) (st' := [.ref 241, .int i1, .ref 241, .ref 241]) (show z_pt 223 22 = some (4, .aload_n 0, []) by decide +kernel) rfl (fun _ _ _ => rfl) ?_
    refine R_getR (pc := 23) (a := 241) (b := 242) (show z_pt 223 23 = some (4, .getfield 7, [10, 0, 6118]) by decide +kernel) (by decide +kernel) ?_
    refine R_at (pc := 26) ?_
    refine R_const (pc := 26) (pc' := 29) (v := 243) (show z_ptc 223 26 = some (29, 243) by decide +kernel) ?_
    refine R_pure (pc := 29) (pc' := 30) (st' := [.ref 241, .int 243, .ref 242, .int i1, .ref 241, .ref 241]) (show z_pt 223 29 = some (4, .aload_n 0, []) by decide +kernel) rfl (fun _ _ _ => rfl) ?_
    refine R_pure (pc := 30) (pc' := 31) (st' := [.int i2, .ref 241, .int 243, .ref 242, .int i1, .ref 241, .ref 241]) (show z_pt 223 30 = some (4, .iload_n 2, []) by decide +kernel) rfl (fun _ _ _ => rfl) ?_
    obtain ⟨q4, e5, h⟩ := z_bs h
    refine R_call (pc := 31) (rr := [.int 243, .ref 242, .int i1, .ref 241, .ref 241]) (show z_pt 223 31 = some (4, .invokevirtual 171, [0, 218, 1, 7169, 7171, 60, 1012, 7172]) by decide +kernel) rfl (show z_r2 218 = some (10, 3, true) by decide +kernel) rfl rfl (Or.inr ⟨_, _, rfl, (by decide +kernel)⟩) (pm_placeOf_run  e5) (by omega) ?_
    refine R_at2 (pc := 34) (st := [.int q4, .int 243, .ref 242, .int i1, .ref 241, .ref 241]) ?_
    refine R_pure (pc := 34) (pc' := 35) (st' := [.int (243 + q4), .ref 242, .int i1, .ref 241, .ref 241]) (show z_pt 223 34 = some (4, .iadd, []) by decide +kernel) rfl (fun _ _ _ => rfl) ?_
    obtain ⟨v6, e7, h⟩ := z_bs h
    refine R_ialdR (pc := 35) (a := 242) (n := 331) (show z_pt 223 35 = some (4, .iaload, []) by decide +kernel) (show z_ar 242 0 331 = true by decide +kernel) e7 ?_
    refine R_at (pc := 36) ?_
    refine R_const (pc := 36) (pc' := 37) (v := 0) (show z_ptc 223 36 = some (37, 0) by decide +kernel) ?_
    obtain ⟨q8, e9, h⟩ := z_bs h
    refine R_call (pc := 37) (rr := [.ref 241]) (show z_pt 223 37 = some (4, .invokevirtual 177, [0, 220, 3, 7184, 7186, 62, 1012, 7187]) by decide +kernel) rfl (show z_r2 220 = some (10, 4, true) by decide +kernel) rfl rfl (Or.inr ⟨_, _, rfl, (by decide +kernel)⟩) (pm_distance_run  e9) (by omega) ?_
    refine R_at2 (pc := 40) (st := [.int q8, .ref 241]) ?_
    obtain ⟨q10, e11, h⟩ := z_bs h
    refine R_call (pc := 40) (rr := []) (show z_pt 223 40 = some (4, .invokevirtual 79, [0, 164, 1, 6199, 6201, 37, 1012, 6202]) by decide +kernel) rfl (show z_r2 164 = some (10, 2, true) by decide +kernel) rfl rfl (Or.inr ⟨_, _, rfl, (by decide +kernel)⟩) (pm_done_run  e11) (by omega) ?_
    refine R_at2 (pc := 43) (st := [.int q10.1]) ?_
    cases h
    exact R_retI (show z_pt 223 43 = some (4, .ireturn, []) by decide +kernel) (by decide +kernel)
  · rw [if_neg c3] at h
    refine R_pure (pc := 11) (pc' := 12) (st' := [.ref 241]) (show z_pt 223 11 = some (4, .aload_n 0, []) by decide +kernel) rfl (fun _ _ _ => rfl) ?_
    refine R_pure (pc := 12) (pc' := 13) (st' := [.int q1, .ref 241]) (show z_pt 223 12 = some (4, .iload_n 3, []) by decide +kernel) rfl (fun _ _ _ => rfl) ?_
    obtain ⟨q12, e13, h⟩ := z_bs h
    refine R_call (pc := 13) (rr := []) (show z_pt 223 13 = some (4, .invokevirtual 75, [0, 165, 1, 6195, 6197, 36, 1012, 6198]) by decide +kernel) rfl (show z_r2 165 = some (10, 2, true) by decide +kernel) rfl rfl (Or.inr ⟨_, _, rfl, (by decide +kernel)⟩) (pm_fails_run  e13) (by omega) ?_
    refine R_at2 (pc := 16) (st := [.int q12.1]) ?_
    refine R_pure (pc := 16) (pc' := 43) (show z_pt 223 16 = some (4, .goto 27, []) by decide +kernel) rfl (fun _ _ _ => rfl) ?_
    cases h
    exact R_retI (show z_pt 223 43 = some (4, .ireturn, []) by decide +kernel) (by decide +kernel)
def pm_teethFor_L21_B (R : Int32 → Int32 → Option Int32)  (μ : z_Mem) (f1 : Int32) (f2 : Int32) (f3 : Int32) (K : Int32 → Int32 → Option Int32) (a4 : Int32) (a5 : Int32) : Option Int32 := (z_rd μ 242 331 (227 + f1)).bind fun v5 => (z_rd μ 242 331 (7 + v5)).bind fun v7 => if v7 ≤ a5 then K a4 a5 else (pm_distance μ f1 f3 a5).bind fun q10 => (pm_distance μ f1 f3 a4).bind fun q12 => if q12 ≤ q10 then R a4 (a5 + 1) else R a5 (a5 + 1)
def pm_teethFor_L21 : Nat → z_Mem → Int32 → Int32 → Int32 → (Int32 → Int32 → Option Int32) → Int32 → Int32 → Option Int32
  | 0 => fun _ _ _ _ _ _ _ => none
  | n + 1 => fun μ f1 f2 f3 K a4 a5 => pm_teethFor_L21_B (pm_teethFor_L21 n μ f1 f2 f3 K) μ f1 f2 f3 K a4 a5
theorem pm_teethFor_L21_run  (μ : z_Mem) (f1 : Int32) (f2 : Int32) (f3 : Int32) (K : Int32 → Int32 → Option Int32)  (D : Nat) (hD : 4 ≤ D) (hK : ∀ (a4 a5 : Int32) (r : Int32), K a4 a5 = some r → Rn D 224 78 [(0, .ref 241), (1, .int f1), (2, .int f2), (3, .int f3), (4, .int a4), (5, .int a5)] [] μ (.inl (some (.int r))) μ) : ∀ (n : Nat) (a4 : Int32) (a5 : Int32) (r : Int32), pm_teethFor_L21 n μ f1 f2 f3 K a4 a5 = some r → Rn D 224 21 [(0, .ref 241), (1, .int f1), (2, .int f2), (3, .int f3), (4, .int a4), (5, .int a5)] [] μ (.inl (some (.int r))) μ := by
  intro n
  induction n with
  | zero => intro a4 a5 r h; cases h
  | succ n ih =>
    intro a4 a5 r h
    have h : pm_teethFor_L21_B (pm_teethFor_L21 n μ f1 f2 f3 K) μ f1 f2 f3 K a4 a5 = some r := h
    unfold pm_teethFor_L21_B at h
    refine R_pure (pc := 21) (pc' := 23) (st' := [.int a5]) (show z_pt 224 21 = some (6, .iload 5, []) by decide +kernel) rfl (fun _ _ _ => rfl) ?_
    refine R_pure (pc := 23) (pc' := 24) (st' := [.ref 241, .int a5]) (show z_pt 224 23 = some (6, .aload_n 0, []) by decide +kernel) rfl (fun _ _ _ => rfl) ?_
    refine R_getR (pc := 24) (a := 241) (b := 242) (show z_pt 224 24 = some (6, .getfield 7, [10, 0, 6118]) by decide +kernel) (by decide +kernel) ?_
    refine R_at (pc := 27) ?_
    refine R_const (pc := 27) (pc' := 29) (v := 7) (show z_ptc 224 27 = some (29, 7) by decide +kernel) ?_
    refine R_pure (pc := 29) (pc' := 30) (st' := [.ref 241, .int 7, .ref 242, .int a5]) (show z_pt 224 29 = some (6, .aload_n 0, []) by decide +kernel) rfl (fun _ _ _ => rfl) ?_
    refine R_getR (pc := 30) (a := 241) (b := 242) (show z_pt 224 30 = some (6, .getfield 7, [10, 0, 6118]) by decide +kernel) (by decide +kernel) ?_
    refine R_at (pc := 33) ?_
    refine R_const (pc := 33) (pc' := 36) (v := 227) (show z_ptc 224 33 = some (36, 227) by decide +kernel) ?_
    refine R_pure (pc := 36) (pc' := 37) (st' := [.int f1, .int 227, .ref 242, .int 7, .ref 242, .int a5]) (show z_pt 224 36 = some (6, .iload_n 1, []) by decide +kernel) rfl (fun _ _ _ => rfl) ?_
    refine R_pure (pc := 37) (pc' := 38) (st' := [.int (227 + f1), .ref 242, .int 7, .ref 242, .int a5]) (show z_pt 224 37 = some (6, .iadd, []) by decide +kernel) rfl (fun _ _ _ => rfl) ?_
    obtain ⟨v5, e6, h⟩ := z_bs h
    refine R_ialdR (pc := 38) (a := 242) (n := 331) (show z_pt 224 38 = some (6, .iaload, []) by decide +kernel) (show z_ar 242 0 331 = true by decide +kernel) e6 ?_
    refine R_at (pc := 39) ?_
    refine R_pure (pc := 39) (pc' := 40) (st' := [.int (7 + v5), .ref 242, .int a5]) (show z_pt 224 39 = some (6, .iadd, []) by decide +kernel) rfl (fun _ _ _ => rfl) ?_
    obtain ⟨v7, e8, h⟩ := z_bs h
    refine R_ialdR (pc := 40) (a := 242) (n := 331) (show z_pt 224 40 = some (6, .iaload, []) by decide +kernel) (show z_ar 242 0 331 = true by decide +kernel) e8 ?_
    refine R_at (pc := 41) ?_
    refine R_icmge (pc := 41) (t := 78) (show z_pt 224 41 = some (6, .if_icmp .ge 37, []) by decide +kernel) (by decide) (fun c9 => ?_) (fun c9 => ?_)
    · rw [if_pos c9] at h
      exact hK _ _  _ h
    · rw [if_neg c9] at h
      refine R_pure (pc := 44) (pc' := 45) (st' := [.ref 241]) (show z_pt 224 44 = some (6, .aload_n 0, []) by decide +kernel) rfl (fun _ _ _ => rfl) ?_
      refine R_pure (pc := 45) (pc' := 46) (st' := [.int f1, .ref 241]) (show z_pt 224 45 = some (6, .iload_n 1, []) by decide +kernel) rfl (fun _ _ _ => rfl) ?_
      refine R_pure (pc := 46) (pc' := 47) (st' := [.int f3, .int f1, .ref 241]) (show z_pt 224 46 = some (6, .iload_n 3, []) by decide +kernel) rfl (fun _ _ _ => rfl) ?_
      refine R_pure (pc := 47) (pc' := 49) (st' := [.int a5, .int f3, .int f1, .ref 241]) (show z_pt 224 47 = some (6, .iload 5, []) by decide +kernel) rfl (fun _ _ _ => rfl) ?_
      obtain ⟨q10, e11, h⟩ := z_bs h
      refine R_call (pc := 49) (rr := []) (show z_pt 224 49 = some (6, .invokevirtual 177, [0, 220, 3, 7184, 7186, 62, 1012, 7187]) by decide +kernel) rfl (show z_r2 220 = some (10, 4, true) by decide +kernel) rfl rfl (Or.inr ⟨_, _, rfl, (by decide +kernel)⟩) (pm_distance_run  e11) (by omega) ?_
      refine R_at2 (pc := 52) (st := [.int q10]) ?_
      refine R_pure (pc := 52) (pc' := 53) (st' := [.ref 241, .int q10]) (show z_pt 224 52 = some (6, .aload_n 0, []) by decide +kernel) rfl (fun _ _ _ => rfl) ?_
      refine R_pure (pc := 53) (pc' := 54) (st' := [.int f1, .ref 241, .int q10]) (show z_pt 224 53 = some (6, .iload_n 1, []) by decide +kernel) rfl (fun _ _ _ => rfl) ?_
      refine R_pure (pc := 54) (pc' := 55) (st' := [.int f3, .int f1, .ref 241, .int q10]) (show z_pt 224 54 = some (6, .iload_n 3, []) by decide +kernel) rfl (fun _ _ _ => rfl) ?_
      refine R_pure (pc := 55) (pc' := 57) (st' := [.int a4, .int f3, .int f1, .ref 241, .int q10]) (show z_pt 224 55 = some (6, .iload 4, []) by decide +kernel) rfl (fun _ _ _ => rfl) ?_
      obtain ⟨q12, e13, h⟩ := z_bs h
      refine R_call (pc := 57) (rr := [.int q10]) (show z_pt 224 57 = some (6, .invokevirtual 177, [0, 220, 3, 7184, 7186, 62, 1012, 7187]) by decide +kernel) rfl (show z_r2 220 = some (10, 4, true) by decide +kernel) rfl rfl (Or.inr ⟨_, _, rfl, (by decide +kernel)⟩) (pm_distance_run  e13) (by omega) ?_
      refine R_at2 (pc := 60) (st := [.int q12, .int q10]) ?_
      refine R_icmge (pc := 60) (t := 68) (show z_pt 224 60 = some (6, .if_icmp .ge 8, []) by decide +kernel) (by decide) (fun c14 => ?_) (fun c14 => ?_)
      · rw [if_pos c14] at h
        refine R_pure (pc := 68) (pc' := 70) (st' := [.int a4]) (show z_pt 224 68 = some (6, .iload 4, []) by decide +kernel) rfl (fun _ _ _ => rfl) ?_
        refine R_pure (pc := 70) (pc' := 72) (ls' := [(0, .ref 241), (1, .int f1), (2, .int f2), (3, .int f3), (4, .int a4), (5, .int a5)]) (st' := []) (show z_pt 224 70 = some (6, .istore 4, []) by decide +kernel) rfl (fun _ _ _ => rfl) ?_
        refine R_inc (pc := 72) (pc' := 75) (ls' := [(0, .ref 241), (1, .int f1), (2, .int f2), (3, .int f3), (4, .int a4), (5, .int (a5 + 1))]) (c := 1) (show z_pt 224 72 = some (6, .iinc 5 1, []) by decide +kernel) (by decide) rfl rfl ?_
        refine R_pure (pc := 75) (pc' := 21) (ls' := [(0, .ref 241), (1, .int f1), (2, .int f2), (3, .int f3), (4, .int a4), (5, .int (a5 + 1))]) (st' := []) (show z_pt 224 75 = some (6, .goto (-54), [6]) by decide +kernel) rfl (fun _ _ _ => rfl) ?_
        exact ih _ _ _  h
      · rw [if_neg c14] at h
        refine R_pure (pc := 63) (pc' := 65) (st' := [.int a5]) (show z_pt 224 63 = some (6, .iload 5, []) by decide +kernel) rfl (fun _ _ _ => rfl) ?_
        refine R_pure (pc := 65) (pc' := 70) (show z_pt 224 65 = some (6, .goto 5, []) by decide +kernel) rfl (fun _ _ _ => rfl) ?_
        refine R_pure (pc := 70) (pc' := 72) (ls' := [(0, .ref 241), (1, .int f1), (2, .int f2), (3, .int f3), (4, .int a5), (5, .int a5)]) (st' := []) (show z_pt 224 70 = some (6, .istore 4, []) by decide +kernel) rfl (fun _ _ _ => rfl) ?_
        refine R_inc (pc := 72) (pc' := 75) (ls' := [(0, .ref 241), (1, .int f1), (2, .int f2), (3, .int f3), (4, .int a5), (5, .int (a5 + 1))]) (c := 1) (show z_pt 224 72 = some (6, .iinc 5 1, []) by decide +kernel) (by decide) rfl rfl ?_
        refine R_pure (pc := 75) (pc' := 21) (ls' := [(0, .ref 241), (1, .int f1), (2, .int f2), (3, .int f3), (4, .int a5), (5, .int (a5 + 1))]) (st' := []) (show z_pt 224 75 = some (6, .goto (-54), [6]) by decide +kernel) rfl (fun _ _ _ => rfl) ?_
        exact ih _ _ _  h
def pm_teethFor  (μ : z_Mem) (i1 : Int32) (i2 : Int32) : Option Int32 := (pm_placeOf μ i2).bind fun q1 => (z_rd μ 242 331 (243 + q1)).bind fun v3 => pm_teethFor_L21 z_fu μ i1 i2 v3 (fun k15 k16 => some k15) 0 1
theorem pm_teethFor_run  {μ : z_Mem} {i1 : Int32} {i2 : Int32}  {r : Int32} (h : pm_teethFor μ i1 i2 = some r) : Rn 4 224 0 [(0, .ref 241), (1, .int i1), (2, .int i2)] [] μ (.inl (some (.int r))) μ := by
  unfold pm_teethFor at h
  refine R_pure (pc := 0) (pc' := 1) (st' := [.ref 241]) (show z_pt 224 0 = some (6, .aload_n 0, []) by decide +kernel) rfl (fun _ _ _ => rfl) ?_
  refine R_getR (pc := 1) (a := 241) (b := 242) (show z_pt 224 1 = some (6, .getfield 7, [10, 0, 6118]) by decide +kernel) (by decide +kernel) ?_
  refine R_at (pc := 4) ?_
  refine R_const (pc := 4) (pc' := 7) (v := 243) (show z_ptc 224 4 = some (7, 243) by decide +kernel) ?_
  refine R_pure (pc := 7) (pc' := 8) (st' := [.ref 241, .int 243, .ref 242]) (show z_pt 224 7 = some (6, .aload_n 0, []) by decide +kernel) rfl (fun _ _ _ => rfl) ?_
  refine R_pure (pc := 8) (pc' := 9) (st' := [.int i2, .ref 241, .int 243, .ref 242]) (show z_pt 224 8 = some (6, .iload_n 2, []) by decide +kernel) rfl (fun _ _ _ => rfl) ?_
  obtain ⟨q1, e2, h⟩ := z_bs h
  refine R_call (pc := 9) (rr := [.int 243, .ref 242]) (show z_pt 224 9 = some (6, .invokevirtual 171, [0, 218, 1, 7169, 7171, 60, 1012, 7172]) by decide +kernel) rfl (show z_r2 218 = some (10, 3, true) by decide +kernel) rfl rfl (Or.inr ⟨_, _, rfl, (by decide +kernel)⟩) (pm_placeOf_run  e2) (by omega) ?_
  refine R_at2 (pc := 12) (st := [.int q1, .int 243, .ref 242]) ?_
  refine R_pure (pc := 12) (pc' := 13) (st' := [.int (243 + q1), .ref 242]) (show z_pt 224 12 = some (6, .iadd, []) by decide +kernel) rfl (fun _ _ _ => rfl) ?_
  obtain ⟨v3, e4, h⟩ := z_bs h
  refine R_ialdR (pc := 13) (a := 242) (n := 331) (show z_pt 224 13 = some (6, .iaload, []) by decide +kernel) (show z_ar 242 0 331 = true by decide +kernel) e4 ?_
  refine R_at (pc := 14) ?_
  refine R_pure (pc := 14) (pc' := 15) (ls' := [(0, .ref 241), (1, .int i1), (2, .int i2), (3, .int v3)]) (st' := []) (show z_pt 224 14 = some (6, .istore_n 3, []) by decide +kernel) rfl (fun _ _ _ => rfl) ?_
  refine R_const (pc := 15) (pc' := 16) (v := 0) (show z_ptc 224 15 = some (16, 0) by decide +kernel) ?_
  refine R_pure (pc := 16) (pc' := 18) (ls' := [(0, .ref 241), (1, .int i1), (2, .int i2), (3, .int v3), (4, .int 0)]) (st' := []) (show z_pt 224 16 = some (6, .istore 4, []) by decide +kernel) rfl (fun _ _ _ => rfl) ?_
  refine R_const (pc := 18) (pc' := 19) (v := 1) (show z_ptc 224 18 = some (19, 1) by decide +kernel) ?_
  refine R_pure (pc := 19) (pc' := 21) (ls' := [(0, .ref 241), (1, .int i1), (2, .int i2), (3, .int v3), (4, .int 0), (5, .int 1)]) (st' := []) (show z_pt 224 19 = some (6, .istore 5, []) by decide +kernel) rfl (fun _ _ _ => rfl) ?_
  refine pm_teethFor_L21_run  _ _ _ _ _  _ (by omega) ?_ _ _ _ _ h
  intro k15 k16 r h
  refine R_pure (pc := 78) (pc' := 80) (st' := [.int k15]) (show z_pt 224 78 = some (6, .iload 4, []) by decide +kernel) rfl (fun _ _ _ => rfl) ?_
  cases h
  exact R_retI (show z_pt 224 80 = some (6, .ireturn, []) by decide +kernel) (by decide +kernel)
def pm_teethToFollow  (μ : z_Mem) (i1 : Int32) (i2 : Int32) : Option (Int32 × z_Mem) := (pm_whyNoStar μ i1 i2).bind fun q1 => if q1 ≤ 0 then (pm_teethFor μ i1 i2).bind fun q4 => (pm_done μ q4).bind fun q6 => some (q6.1, q6.2) else (pm_fails μ q1).bind fun q8 => some (q8.1, q8.2)
theorem pm_teethToFollow_run  {μ : z_Mem} {i1 : Int32} {i2 : Int32}  {r : (Int32 × z_Mem)} (h : pm_teethToFollow μ i1 i2 = some r) : Rn 5 225 0 [(0, .ref 241), (1, .int i1), (2, .int i2)] [] μ (.inl (some (.int r.1))) r.2 := by
  unfold pm_teethToFollow at h
  refine R_pure (pc := 0) (pc' := 1) (st' := [.ref 241]) (show z_pt 225 0 = some (4, .aload_n 0, []) by decide +kernel) rfl (fun _ _ _ => rfl) ?_
  refine R_pure (pc := 1) (pc' := 2) (st' := [.int i1, .ref 241]) (show z_pt 225 1 = some (4, .iload_n 1, []) by decide +kernel) rfl (fun _ _ _ => rfl) ?_
  refine R_pure (pc := 2) (pc' := 3) (st' := [.int i2, .int i1, .ref 241]) (show z_pt 225 2 = some (4, .iload_n 2, []) by decide +kernel) rfl (fun _ _ _ => rfl) ?_
  obtain ⟨q1, e2, h⟩ := z_bs h
  refine R_call (pc := 3) (rr := []) (show z_pt 225 3 = some (4, .invokevirtual 174, [0, 221, 2, 7165, 7167, 59, 1012, 7168]) by decide +kernel) rfl (show z_r2 221 = some (10, 3, true) by decide +kernel) rfl rfl (Or.inr ⟨_, _, rfl, (by decide +kernel)⟩) (pm_whyNoStar_run  e2) (by omega) ?_
  refine R_at2 (pc := 6) (st := [.int q1]) ?_
  refine R_pure (pc := 6) (pc' := 7) (ls' := [(0, .ref 241), (1, .int i1), (2, .int i2), (3, .int q1)]) (st' := []) (show z_pt 225 6 = some (4, .istore_n 3, []) by decide +kernel) rfl (fun _ _ _ => rfl) ?_
  refine R_pure (pc := 7) (pc' := 8) (st' := [.int q1]) (show z_pt 225 7 = some (4, .iload_n 3, []) by decide +kernel) rfl (fun _ _ _ => rfl) ?_
  refine R_ifle (pc := 8) (t := 19) (show z_pt 225 8 = some (4, .ifCond .le 11, []) by decide +kernel) (by decide) (fun c3 => ?_) (fun c3 => ?_)
  · rw [if_pos c3] at h
    refine R_pure (pc := 19) (pc' := 20) (st' := [.ref 241]) (show z_pt 225 19 = some (4, .aload_n 0, []) by decide +kernel) rfl (fun _ _ _ => rfl) ?_
    refine R_pure (pc := 20) (pc' := 21) (st' := [.ref 241, .ref 241]) (show z_pt 225 20 = some (4, .aload_n 0, []) by decide +kernel) rfl (fun _ _ _ => rfl) ?_
    refine R_pure (pc := 21) (pc' := 22) (st' := [.int i1, .ref 241, .ref 241]) (show z_pt 225 21 = some (4, .iload_n 1, []) by decide +kernel) rfl (fun _ _ _ => rfl) ?_
    refine R_pure (pc := 22) (pc' := 23) (st' := [.int i2, .int i1, .ref 241, .ref 241]) (show z_pt 225 22 = some (4, .iload_n 2, []) by decide +kernel) rfl (fun _ _ _ => rfl) ?_
    obtain ⟨q4, e5, h⟩ := z_bs h
    refine R_call (pc := 23) (rr := [.ref 241]) (show z_pt 225 23 = some (4, .invokevirtual 180, [0, 224, 2, 7192, 7194, 63, 1012, 7195]) by decide +kernel) rfl (show z_r2 224 = some (10, 6, true) by decide +kernel) rfl rfl (Or.inr ⟨_, _, rfl, (by decide +kernel)⟩) (pm_teethFor_run  e5) (by omega) ?_
    refine R_at2 (pc := 26) (st := [.int q4, .ref 241]) ?_
    obtain ⟨q6, e7, h⟩ := z_bs h
    refine R_call (pc := 26) (rr := []) (show z_pt 225 26 = some (4, .invokevirtual 79, [0, 164, 1, 6199, 6201, 37, 1012, 6202]) by decide +kernel) rfl (show z_r2 164 = some (10, 2, true) by decide +kernel) rfl rfl (Or.inr ⟨_, _, rfl, (by decide +kernel)⟩) (pm_done_run  e7) (by omega) ?_
    refine R_at2 (pc := 29) (st := [.int q6.1]) ?_
    cases h
    exact R_retI (show z_pt 225 29 = some (4, .ireturn, []) by decide +kernel) (by decide +kernel)
  · rw [if_neg c3] at h
    refine R_pure (pc := 11) (pc' := 12) (st' := [.ref 241]) (show z_pt 225 11 = some (4, .aload_n 0, []) by decide +kernel) rfl (fun _ _ _ => rfl) ?_
    refine R_pure (pc := 12) (pc' := 13) (st' := [.int q1, .ref 241]) (show z_pt 225 12 = some (4, .iload_n 3, []) by decide +kernel) rfl (fun _ _ _ => rfl) ?_
    obtain ⟨q8, e9, h⟩ := z_bs h
    refine R_call (pc := 13) (rr := []) (show z_pt 225 13 = some (4, .invokevirtual 75, [0, 165, 1, 6195, 6197, 36, 1012, 6198]) by decide +kernel) rfl (show z_r2 165 = some (10, 2, true) by decide +kernel) rfl rfl (Or.inr ⟨_, _, rfl, (by decide +kernel)⟩) (pm_fails_run  e9) (by omega) ?_
    refine R_at2 (pc := 16) (st := [.int q8.1]) ?_
    refine R_pure (pc := 16) (pc' := 29) (show z_pt 225 16 = some (4, .goto 13, []) by decide +kernel) rfl (fun _ _ _ => rfl) ?_
    cases h
    exact R_retI (show z_pt 225 29 = some (4, .ireturn, []) by decide +kernel) (by decide +kernel)
def pm_follows  (μ : z_Mem) (i1 : Int32) (i2 : Int32) : Option (Int32 × z_Mem) := (pm_whyNoStar μ i1 i2).bind fun q1 => if q1 ≤ 0 then (pm_teethFor μ i1 i2).bind fun q4 => if q4 ≤ 0 then (pm_placeOf μ i2).bind fun q7 => (z_rd μ 242 331 (243 + q7)).bind fun v9 => (pm_distance μ i1 v9 0).bind fun q11 => (pm_done μ q11).bind fun q13 => some (q13.1, q13.2) else (z_rd μ 242 331 (227 + i1)).bind fun v15 => (pm_turnsAll μ v15 q4).bind fun q17 => (pm_placeOf q17.2 i2).bind fun q19 => (z_rd q17.2 242 331 (243 + q19)).bind fun v21 => (pm_distance q17.2 i1 v21 0).bind fun q23 => (pm_done q17.2 q23).bind fun q25 => some (q25.1, q25.2) else (pm_fails μ q1).bind fun q27 => some (q27.1, q27.2)
theorem pm_follows_run  {μ : z_Mem} {i1 : Int32} {i2 : Int32}  {r : (Int32 × z_Mem)} (h : pm_follows μ i1 i2 = some r) : Rn 5 226 0 [(0, .ref 241), (1, .int i1), (2, .int i2)] [] μ (.inl (some (.int r.1))) r.2 := by
  unfold pm_follows at h
  refine R_pure (pc := 0) (pc' := 1) (st' := [.ref 241]) (show z_pt 226 0 = some (6, .aload_n 0, []) by decide +kernel) rfl (fun _ _ _ => rfl) ?_
  refine R_pure (pc := 1) (pc' := 2) (st' := [.int i1, .ref 241]) (show z_pt 226 1 = some (6, .iload_n 1, []) by decide +kernel) rfl (fun _ _ _ => rfl) ?_
  refine R_pure (pc := 2) (pc' := 3) (st' := [.int i2, .int i1, .ref 241]) (show z_pt 226 2 = some (6, .iload_n 2, []) by decide +kernel) rfl (fun _ _ _ => rfl) ?_
  obtain ⟨q1, e2, h⟩ := z_bs h
  refine R_call (pc := 3) (rr := []) (show z_pt 226 3 = some (6, .invokevirtual 174, [0, 221, 2, 7165, 7167, 59, 1012, 7168]) by decide +kernel) rfl (show z_r2 221 = some (10, 3, true) by decide +kernel) rfl rfl (Or.inr ⟨_, _, rfl, (by decide +kernel)⟩) (pm_whyNoStar_run  e2) (by omega) ?_
  refine R_at2 (pc := 6) (st := [.int q1]) ?_
  refine R_pure (pc := 6) (pc' := 7) (ls' := [(0, .ref 241), (1, .int i1), (2, .int i2), (3, .int q1)]) (st' := []) (show z_pt 226 6 = some (6, .istore_n 3, []) by decide +kernel) rfl (fun _ _ _ => rfl) ?_
  refine R_pure (pc := 7) (pc' := 8) (st' := [.int q1]) (show z_pt 226 7 = some (6, .iload_n 3, []) by decide +kernel) rfl (fun _ _ _ => rfl) ?_
  refine R_ifle (pc := 8) (t := 17) (show z_pt 226 8 = some (6, .ifCond .le 9, []) by decide +kernel) (by decide) (fun c3 => ?_) (fun c3 => ?_)
  · rw [if_pos c3] at h
    refine R_pure (pc := 17) (pc' := 18) (st' := [.ref 241]) (show z_pt 226 17 = some (6, .aload_n 0, []) by decide +kernel) rfl (fun _ _ _ => rfl) ?_
    refine R_pure (pc := 18) (pc' := 19) (st' := [.int i1, .ref 241]) (show z_pt 226 18 = some (6, .iload_n 1, []) by decide +kernel) rfl (fun _ _ _ => rfl) ?_
    refine R_pure (pc := 19) (pc' := 20) (st' := [.int i2, .int i1, .ref 241]) (show z_pt 226 19 = some (6, .iload_n 2, []) by decide +kernel) rfl (fun _ _ _ => rfl) ?_
    obtain ⟨q4, e5, h⟩ := z_bs h
    refine R_call (pc := 20) (rr := []) (show z_pt 226 20 = some (6, .invokevirtual 180, [0, 224, 2, 7192, 7194, 63, 1012, 7195]) by decide +kernel) rfl (show z_r2 224 = some (10, 6, true) by decide +kernel) rfl rfl (Or.inr ⟨_, _, rfl, (by decide +kernel)⟩) (pm_teethFor_run  e5) (by omega) ?_
    refine R_at2 (pc := 23) (st := [.int q4]) ?_
    refine R_pure (pc := 23) (pc' := 25) (ls' := [(0, .ref 241), (1, .int i1), (2, .int i2), (3, .int q1), (4, .int q4)]) (st' := []) (show z_pt 226 23 = some (6, .istore 4, []) by decide +kernel) rfl (fun _ _ _ => rfl) ?_
    refine R_pure (pc := 25) (pc' := 27) (st' := [.int q4]) (show z_pt 226 25 = some (6, .iload 4, []) by decide +kernel) rfl (fun _ _ _ => rfl) ?_
    refine R_ifle (pc := 27) (t := 49) (show z_pt 226 27 = some (6, .ifCond .le 22, []) by decide +kernel) (by decide) (fun c6 => ?_) (fun c6 => ?_)
    · rw [if_pos c6] at h
      refine R_const (pc := 49) (pc' := 50) (v := 0) (show z_ptc 226 49 = some (50, 0) by decide +kernel) ?_
      refine R_pure (pc := 50) (pc' := 52) (ls' := [(0, .ref 241), (1, .int i1), (2, .int i2), (3, .int q1), (4, .int q4), (5, .int 0)]) (st' := []) (show z_pt 226 50 = some (6, .istore 5, []) by decide +kernel) rfl (fun _ _ _ => rfl) ?_
      refine R_pure (pc := 52) (pc' := 53) (st' := [.ref 241]) (show z_pt 226 52 = some (6, .aload_n 0, []) by decide +kernel) rfl (fun _ _ _ => rfl) ?_
      refine R_pure (pc := 53) (pc' := 54) (st' := [.ref 241, .ref 241]) (show z_pt 226 53 = some (6, .aload_n 0, []) by decide +kernel) rfl (fun _ _ _ => rfl) ?_
      refine R_pure (pc := 54) (pc' := 55) (st' := [.int i1, .ref 241, .ref 241]) (show z_pt 226 54 = some (6, .iload_n 1, []) by decide +kernel) rfl (fun _ _ _ => rfl) ?_
      refine R_pure (pc := 55) (pc' := 56) (st' := [.ref 241, .int i1, .ref 241, .ref 241]) (show z_pt 226 55 = some (6, .aload_n 0, []) by decide +kernel) rfl (fun _ _ _ => rfl) ?_
      refine R_getR (pc := 56) (a := 241) (b := 242) (show z_pt 226 56 = some (6, .getfield 7, [10, 0, 6118]) by decide +kernel) (by decide +kernel) ?_
      refine R_at (pc := 59) ?_
      refine R_const (pc := 59) (pc' := 62) (v := 243) (show z_ptc 226 59 = some (62, 243) by decide +kernel) ?_
      refine R_pure (pc := 62) (pc' := 63) (st' := [.ref 241, .int 243, .ref 242, .int i1, .ref 241, .ref 241]) (show z_pt 226 62 = some (6, .aload_n 0, []) by decide +kernel) rfl (fun _ _ _ => rfl) ?_
      refine R_pure (pc := 63) (pc' := 64) (st' := [.int i2, .ref 241, .int 243, .ref 242, .int i1, .ref 241, .ref 241]) (show z_pt 226 63 = some (6, .iload_n 2, []) by decide +kernel) rfl (fun _ _ _ => rfl) ?_
      obtain ⟨q7, e8, h⟩ := z_bs h
      refine R_call (pc := 64) (rr := [.int 243, .ref 242, .int i1, .ref 241, .ref 241]) (show z_pt 226 64 = some (6, .invokevirtual 171, [0, 218, 1, 7169, 7171, 60, 1012, 7172]) by decide +kernel) rfl (show z_r2 218 = some (10, 3, true) by decide +kernel) rfl rfl (Or.inr ⟨_, _, rfl, (by decide +kernel)⟩) (pm_placeOf_run  e8) (by omega) ?_
      refine R_at2 (pc := 67) (st := [.int q7, .int 243, .ref 242, .int i1, .ref 241, .ref 241]) ?_
      refine R_pure (pc := 67) (pc' := 68) (st' := [.int (243 + q7), .ref 242, .int i1, .ref 241, .ref 241]) (show z_pt 226 67 = some (6, .iadd, []) by decide +kernel) rfl (fun _ _ _ => rfl) ?_
      obtain ⟨v9, e10, h⟩ := z_bs h
      refine R_ialdR (pc := 68) (a := 242) (n := 331) (show z_pt 226 68 = some (6, .iaload, []) by decide +kernel) (show z_ar 242 0 331 = true by decide +kernel) e10 ?_
      refine R_at (pc := 69) ?_
      refine R_const (pc := 69) (pc' := 70) (v := 0) (show z_ptc 226 69 = some (70, 0) by decide +kernel) ?_
      obtain ⟨q11, e12, h⟩ := z_bs h
      refine R_call (pc := 70) (rr := [.ref 241]) (show z_pt 226 70 = some (6, .invokevirtual 177, [0, 220, 3, 7184, 7186, 62, 1012, 7187]) by decide +kernel) rfl (show z_r2 220 = some (10, 4, true) by decide +kernel) rfl rfl (Or.inr ⟨_, _, rfl, (by decide +kernel)⟩) (pm_distance_run  e12) (by omega) ?_
      refine R_at2 (pc := 73) (st := [.int q11, .ref 241]) ?_
      obtain ⟨q13, e14, h⟩ := z_bs h
      refine R_call (pc := 73) (rr := []) (show z_pt 226 73 = some (6, .invokevirtual 79, [0, 164, 1, 6199, 6201, 37, 1012, 6202]) by decide +kernel) rfl (show z_r2 164 = some (10, 2, true) by decide +kernel) rfl rfl (Or.inr ⟨_, _, rfl, (by decide +kernel)⟩) (pm_done_run  e14) (by omega) ?_
      refine R_at2 (pc := 76) (st := [.int q13.1]) ?_
      cases h
      exact R_retI (show z_pt 226 76 = some (6, .ireturn, []) by decide +kernel) (by decide +kernel)
    · rw [if_neg c6] at h
      refine R_pure (pc := 30) (pc' := 31) (st' := [.ref 241]) (show z_pt 226 30 = some (6, .aload_n 0, []) by decide +kernel) rfl (fun _ _ _ => rfl) ?_
      refine R_pure (pc := 31) (pc' := 32) (st' := [.ref 241, .ref 241]) (show z_pt 226 31 = some (6, .aload_n 0, []) by decide +kernel) rfl (fun _ _ _ => rfl) ?_
      refine R_getR (pc := 32) (a := 241) (b := 242) (show z_pt 226 32 = some (6, .getfield 7, [10, 0, 6118]) by decide +kernel) (by decide +kernel) ?_
      refine R_at (pc := 35) ?_
      refine R_const (pc := 35) (pc' := 38) (v := 227) (show z_ptc 226 35 = some (38, 227) by decide +kernel) ?_
      refine R_pure (pc := 38) (pc' := 39) (st' := [.int i1, .int 227, .ref 242, .ref 241]) (show z_pt 226 38 = some (6, .iload_n 1, []) by decide +kernel) rfl (fun _ _ _ => rfl) ?_
      refine R_pure (pc := 39) (pc' := 40) (st' := [.int (227 + i1), .ref 242, .ref 241]) (show z_pt 226 39 = some (6, .iadd, []) by decide +kernel) rfl (fun _ _ _ => rfl) ?_
      obtain ⟨v15, e16, h⟩ := z_bs h
      refine R_ialdR (pc := 40) (a := 242) (n := 331) (show z_pt 226 40 = some (6, .iaload, []) by decide +kernel) (show z_ar 242 0 331 = true by decide +kernel) e16 ?_
      refine R_at (pc := 41) ?_
      refine R_pure (pc := 41) (pc' := 43) (st' := [.int q4, .int v15, .ref 241]) (show z_pt 226 41 = some (6, .iload 4, []) by decide +kernel) rfl (fun _ _ _ => rfl) ?_
      obtain ⟨q17, e18, h⟩ := z_bs h
      refine R_call (pc := 43) (rr := []) (show z_pt 226 43 = some (6, .invokevirtual 123, [0, 186, 2, 7022, 7024, 49, 1012, 7025]) by decide +kernel) rfl (show z_r2 186 = some (10, 10, true) by decide +kernel) rfl rfl (Or.inr ⟨_, _, rfl, (by decide +kernel)⟩) (pm_turnsAll_run  e18) (by omega) ?_
      refine R_at2 (pc := 46) (st := [.int q17.1]) ?_
      refine R_pure (pc := 46) (pc' := 50) (show z_pt 226 46 = some (6, .goto 4, []) by decide +kernel) rfl (fun _ _ _ => rfl) ?_
      refine R_pure (pc := 50) (pc' := 52) (ls' := [(0, .ref 241), (1, .int i1), (2, .int i2), (3, .int q1), (4, .int q4), (5, .int q17.1)]) (st' := []) (show z_pt 226 50 = some (6, .istore 5, []) by decide +kernel) rfl (fun _ _ _ => rfl) ?_
      refine R_pure (pc := 52) (pc' := 53) (st' := [.ref 241]) (show z_pt 226 52 = some (6, .aload_n 0, []) by decide +kernel) rfl (fun _ _ _ => rfl) ?_
      refine R_pure (pc := 53) (pc' := 54) (st' := [.ref 241, .ref 241]) (show z_pt 226 53 = some (6, .aload_n 0, []) by decide +kernel) rfl (fun _ _ _ => rfl) ?_
      refine R_pure (pc := 54) (pc' := 55) (st' := [.int i1, .ref 241, .ref 241]) (show z_pt 226 54 = some (6, .iload_n 1, []) by decide +kernel) rfl (fun _ _ _ => rfl) ?_
      refine R_pure (pc := 55) (pc' := 56) (st' := [.ref 241, .int i1, .ref 241, .ref 241]) (show z_pt 226 55 = some (6, .aload_n 0, []) by decide +kernel) rfl (fun _ _ _ => rfl) ?_
      refine R_getR (pc := 56) (a := 241) (b := 242) (show z_pt 226 56 = some (6, .getfield 7, [10, 0, 6118]) by decide +kernel) (by decide +kernel) ?_
      refine R_at (pc := 59) ?_
      refine R_const (pc := 59) (pc' := 62) (v := 243) (show z_ptc 226 59 = some (62, 243) by decide +kernel) ?_
      refine R_pure (pc := 62) (pc' := 63) (st' := [.ref 241, .int 243, .ref 242, .int i1, .ref 241, .ref 241]) (show z_pt 226 62 = some (6, .aload_n 0, []) by decide +kernel) rfl (fun _ _ _ => rfl) ?_
      refine R_pure (pc := 63) (pc' := 64) (st' := [.int i2, .ref 241, .int 243, .ref 242, .int i1, .ref 241, .ref 241]) (show z_pt 226 63 = some (6, .iload_n 2, []) by decide +kernel) rfl (fun _ _ _ => rfl) ?_
      obtain ⟨q19, e20, h⟩ := z_bs h
      refine R_call (pc := 64) (rr := [.int 243, .ref 242, .int i1, .ref 241, .ref 241]) (show z_pt 226 64 = some (6, .invokevirtual 171, [0, 218, 1, 7169, 7171, 60, 1012, 7172]) by decide +kernel) rfl (show z_r2 218 = some (10, 3, true) by decide +kernel) rfl rfl (Or.inr ⟨_, _, rfl, (by decide +kernel)⟩) (pm_placeOf_run  e20) (by omega) ?_
      refine R_at2 (pc := 67) (st := [.int q19, .int 243, .ref 242, .int i1, .ref 241, .ref 241]) ?_
      refine R_pure (pc := 67) (pc' := 68) (st' := [.int (243 + q19), .ref 242, .int i1, .ref 241, .ref 241]) (show z_pt 226 67 = some (6, .iadd, []) by decide +kernel) rfl (fun _ _ _ => rfl) ?_
      obtain ⟨v21, e22, h⟩ := z_bs h
      refine R_ialdR (pc := 68) (a := 242) (n := 331) (show z_pt 226 68 = some (6, .iaload, []) by decide +kernel) (show z_ar 242 0 331 = true by decide +kernel) e22 ?_
      refine R_at (pc := 69) ?_
      refine R_const (pc := 69) (pc' := 70) (v := 0) (show z_ptc 226 69 = some (70, 0) by decide +kernel) ?_
      obtain ⟨q23, e24, h⟩ := z_bs h
      refine R_call (pc := 70) (rr := [.ref 241]) (show z_pt 226 70 = some (6, .invokevirtual 177, [0, 220, 3, 7184, 7186, 62, 1012, 7187]) by decide +kernel) rfl (show z_r2 220 = some (10, 4, true) by decide +kernel) rfl rfl (Or.inr ⟨_, _, rfl, (by decide +kernel)⟩) (pm_distance_run  e24) (by omega) ?_
      refine R_at2 (pc := 73) (st := [.int q23, .ref 241]) ?_
      obtain ⟨q25, e26, h⟩ := z_bs h
      refine R_call (pc := 73) (rr := []) (show z_pt 226 73 = some (6, .invokevirtual 79, [0, 164, 1, 6199, 6201, 37, 1012, 6202]) by decide +kernel) rfl (show z_r2 164 = some (10, 2, true) by decide +kernel) rfl rfl (Or.inr ⟨_, _, rfl, (by decide +kernel)⟩) (pm_done_run  e26) (by omega) ?_
      refine R_at2 (pc := 76) (st := [.int q25.1]) ?_
      cases h
      exact R_retI (show z_pt 226 76 = some (6, .ireturn, []) by decide +kernel) (by decide +kernel)
  · rw [if_neg c3] at h
    refine R_pure (pc := 11) (pc' := 12) (st' := [.ref 241]) (show z_pt 226 11 = some (6, .aload_n 0, []) by decide +kernel) rfl (fun _ _ _ => rfl) ?_
    refine R_pure (pc := 12) (pc' := 13) (st' := [.int q1, .ref 241]) (show z_pt 226 12 = some (6, .iload_n 3, []) by decide +kernel) rfl (fun _ _ _ => rfl) ?_
    obtain ⟨q27, e28, h⟩ := z_bs h
    refine R_call (pc := 13) (rr := []) (show z_pt 226 13 = some (6, .invokevirtual 75, [0, 165, 1, 6195, 6197, 36, 1012, 6198]) by decide +kernel) rfl (show z_r2 165 = some (10, 2, true) by decide +kernel) rfl rfl (Or.inr ⟨_, _, rfl, (by decide +kernel)⟩) (pm_fails_run  e28) (by omega) ?_
    refine R_at2 (pc := 16) (st := [.int q27.1]) ?_
    cases h
    exact R_retI (show z_pt 226 16 = some (6, .ireturn, []) by decide +kernel) (by decide +kernel)
def pm_follow  (μ : z_Mem) (i1 : Int32) (i2 : Int32) : Option (Int32 × z_Mem) := (pm_begin μ).bind fun q1 => (pm_follows q1 i1 i2).bind fun q3 => (pm_kept q3.2 q3.1).bind fun q5 => some (q5.1, q5.2)
theorem pm_follow_run  {μ : z_Mem} {i1 : Int32} {i2 : Int32}  {r : (Int32 × z_Mem)} (h : pm_follow μ i1 i2 = some r) : Rn 6 227 0 [(0, .ref 241), (1, .int i1), (2, .int i2)] [] μ (.inl (some (.int r.1))) r.2 := by
  unfold pm_follow at h
  refine R_pure (pc := 0) (pc' := 1) (st' := [.ref 241]) (show z_pt 227 0 = some (3, .aload_n 0, []) by decide +kernel) rfl (fun _ _ _ => rfl) ?_
  obtain ⟨q1, e2, h⟩ := z_bs h
  refine R_call (pc := 1) (rr := []) (show z_pt 227 1 = some (3, .invokevirtual 82, [0, 167, 0, 6181, 6183, 34, 1012, 6184]) by decide +kernel) rfl (show z_r2 167 = some (10, 1, true) by decide +kernel) rfl rfl (Or.inr ⟨_, _, rfl, (by decide +kernel)⟩) (pm_begin_run  e2) (by omega) ?_
  refine R_at2 (pc := 4) (st := []) ?_
  refine R_pure (pc := 4) (pc' := 5) (st' := [.ref 241]) (show z_pt 227 4 = some (3, .aload_n 0, []) by decide +kernel) rfl (fun _ _ _ => rfl) ?_
  refine R_pure (pc := 5) (pc' := 6) (st' := [.ref 241, .ref 241]) (show z_pt 227 5 = some (3, .aload_n 0, []) by decide +kernel) rfl (fun _ _ _ => rfl) ?_
  refine R_pure (pc := 6) (pc' := 7) (st' := [.int i1, .ref 241, .ref 241]) (show z_pt 227 6 = some (3, .iload_n 1, []) by decide +kernel) rfl (fun _ _ _ => rfl) ?_
  refine R_pure (pc := 7) (pc' := 8) (st' := [.int i2, .int i1, .ref 241, .ref 241]) (show z_pt 227 7 = some (3, .iload_n 2, []) by decide +kernel) rfl (fun _ _ _ => rfl) ?_
  obtain ⟨q3, e4, h⟩ := z_bs h
  refine R_call (pc := 8) (rr := [.ref 241]) (show z_pt 227 8 = some (3, .invokevirtual 183, [0, 226, 2, 7200, 7202, 64, 1012, 7203]) by decide +kernel) rfl (show z_r2 226 = some (10, 6, true) by decide +kernel) rfl rfl (Or.inr ⟨_, _, rfl, (by decide +kernel)⟩) (pm_follows_run  e4) (by omega) ?_
  refine R_at2 (pc := 11) (st := [.int q3.1, .ref 241]) ?_
  obtain ⟨q5, e6, h⟩ := z_bs h
  refine R_call (pc := 11) (rr := []) (show z_pt 227 11 = some (3, .invokevirtual 88, [0, 168, 1, 6203, 6205, 38, 1012, 6206]) by decide +kernel) rfl (show z_r2 168 = some (10, 3, true) by decide +kernel) rfl rfl (Or.inr ⟨_, _, rfl, (by decide +kernel)⟩) (pm_kept_run  e6) (by omega) ?_
  refine R_at2 (pc := 14) (st := [.int q5.1]) ?_
  cases h
  exact R_retI (show z_pt 227 14 = some (3, .ireturn, []) by decide +kernel) (by decide +kernel)
def pm_addsStar  (μ : z_Mem) (i1 : Int32) (i2 : Int32) : Option (Int32 × z_Mem) := (pm_in μ i1 0 3599).bind fun q1 => if q1 = 0 then (pm_fails μ 1).bind fun q4 => some (q4.1, q4.2) else (pm_in μ i2 (-50) 50).bind fun q6 => if q6 = 0 then (pm_fails μ 1).bind fun q19 => some (q19.1, q19.2) else if (μ 242 2) = 8 then (pm_fails μ 2).bind fun q17 => some (q17.1, q17.2) else if z_inb (235 + (μ 242 2)) 331 = true then if z_inb (243 + (μ 242 2)) 331 = true then if z_inb (251 + (μ 242 2)) 331 = true then (z_rd (z_u (z_u (z_u (z_u (z_u μ 242 (235 + (μ 242 2)).toNatClampNeg (μ 242 3)) 242 (243 + (μ 242 2)).toNatClampNeg i1) 242 (251 + (μ 242 2)).toNatClampNeg i2) 242 2 (((z_u (z_u (z_u μ 242 (235 + (μ 242 2)).toNatClampNeg (μ 242 3)) 242 (243 + (μ 242 2)).toNatClampNeg i1) 242 (251 + (μ 242 2)).toNatClampNeg i2) 242 2) + 1)) 242 3 (((z_u (z_u (z_u (z_u μ 242 (235 + (μ 242 2)).toNatClampNeg (μ 242 3)) 242 (243 + (μ 242 2)).toNatClampNeg i1) 242 (251 + (μ 242 2)).toNatClampNeg i2) 242 2 (((z_u (z_u (z_u μ 242 (235 + (μ 242 2)).toNatClampNeg (μ 242 3)) 242 (243 + (μ 242 2)).toNatClampNeg i1) 242 (251 + (μ 242 2)).toNatClampNeg i2) 242 2) + 1)) 242 3) + 1)) 242 331 (235 + (μ 242 2))).bind fun v13 => (pm_done (z_u (z_u (z_u (z_u (z_u μ 242 (235 + (μ 242 2)).toNatClampNeg (μ 242 3)) 242 (243 + (μ 242 2)).toNatClampNeg i1) 242 (251 + (μ 242 2)).toNatClampNeg i2) 242 2 (((z_u (z_u (z_u μ 242 (235 + (μ 242 2)).toNatClampNeg (μ 242 3)) 242 (243 + (μ 242 2)).toNatClampNeg i1) 242 (251 + (μ 242 2)).toNatClampNeg i2) 242 2) + 1)) 242 3 (((z_u (z_u (z_u (z_u μ 242 (235 + (μ 242 2)).toNatClampNeg (μ 242 3)) 242 (243 + (μ 242 2)).toNatClampNeg i1) 242 (251 + (μ 242 2)).toNatClampNeg i2) 242 2 (((z_u (z_u (z_u μ 242 (235 + (μ 242 2)).toNatClampNeg (μ 242 3)) 242 (243 + (μ 242 2)).toNatClampNeg i1) 242 (251 + (μ 242 2)).toNatClampNeg i2) 242 2) + 1)) 242 3) + 1)) v13).bind fun q15 => some (q15.1, q15.2) else none else none else none
theorem pm_addsStar_run  {μ : z_Mem} {i1 : Int32} {i2 : Int32}  {r : (Int32 × z_Mem)} (h : pm_addsStar μ i1 i2 = some r) : Rn 1 228 0 [(0, .ref 241), (1, .int i1), (2, .int i2)] [] μ (.inl (some (.int r.1))) r.2 := by
  unfold pm_addsStar at h
  refine R_pure (pc := 0) (pc' := 1) (st' := [.int i1]) (show z_pt 228 0 = some (4, .iload_n 1, []) by decide +kernel) rfl (fun _ _ _ => rfl) ?_
  refine R_const (pc := 1) (pc' := 2) (v := 0) (show z_ptc 228 1 = some (2, 0) by decide +kernel) ?_
  refine R_const (pc := 2) (pc' := 5) (v := 3599) (show z_ptc 228 2 = some (5, 3599) by decide +kernel) ?_
  obtain ⟨q1, e2, h⟩ := z_bs h
  refine R_call (pc := 5) (rr := []) (show z_pt 228 5 = some (4, .invokestatic 55, [1, 160, 3, 6192, 6193, 0, 1012, 6194]) by decide +kernel) rfl (show z_r2 160 = some (10, 3, true) by decide +kernel) rfl rfl (Or.inl (by decide)) (pm_in_run  e2) (by omega) ?_
  refine R_at2 (pc := 8) (st := [.int q1]) ?_
  refine R_ifeq (pc := 8) (t := 22) (show z_pt 228 8 = some (4, .ifCond .eq 14, []) by decide +kernel) (by decide) (fun c3 => ?_) (fun c3 => ?_)
  · rw [if_pos c3] at h
    refine R_pure (pc := 22) (pc' := 23) (st' := [.ref 241]) (show z_pt 228 22 = some (4, .aload_n 0, []) by decide +kernel) rfl (fun _ _ _ => rfl) ?_
    refine R_const (pc := 23) (pc' := 24) (v := 1) (show z_ptc 228 23 = some (24, 1) by decide +kernel) ?_
    obtain ⟨q4, e5, h⟩ := z_bs h
    refine R_call (pc := 24) (rr := []) (show z_pt 228 24 = some (4, .invokevirtual 75, [0, 165, 1, 6195, 6197, 36, 1012, 6198]) by decide +kernel) rfl (show z_r2 165 = some (10, 2, true) by decide +kernel) rfl rfl (Or.inr ⟨_, _, rfl, (by decide +kernel)⟩) (pm_fails_run  e5) (by omega) ?_
    refine R_at2 (pc := 27) (st := [.int q4.1]) ?_
    cases h
    exact R_retI (show z_pt 228 27 = some (4, .ireturn, []) by decide +kernel) (by decide +kernel)
  · rw [if_neg c3] at h
    refine R_pure (pc := 11) (pc' := 12) (st' := [.int i2]) (show z_pt 228 11 = some (4, .iload_n 2, []) by decide +kernel) rfl (fun _ _ _ => rfl) ?_
    refine R_const (pc := 12) (pc' := 14) (v := (-50)) (show z_ptc 228 12 = some (14, (-50)) by decide +kernel) ?_
    refine R_const (pc := 14) (pc' := 16) (v := 50) (show z_ptc 228 14 = some (16, 50) by decide +kernel) ?_
    obtain ⟨q6, e7, h⟩ := z_bs h
    refine R_call (pc := 16) (rr := []) (show z_pt 228 16 = some (4, .invokestatic 55, [1, 160, 3, 6192, 6193, 0, 1012, 6194]) by decide +kernel) rfl (show z_r2 160 = some (10, 3, true) by decide +kernel) rfl rfl (Or.inl (by decide)) (pm_in_run  e7) (by omega) ?_
    refine R_at2 (pc := 19) (st := [.int q6]) ?_
    refine R_ifne (pc := 19) (t := 28) (show z_pt 228 19 = some (4, .ifCond .ne 9, []) by decide +kernel) (by decide) (fun c8 => ?_) (fun c8 => ?_)
    · rw [if_neg c8] at h
      refine R_pure (pc := 28) (pc' := 29) (st' := [.ref 241]) (show z_pt 228 28 = some (4, .aload_n 0, []) by decide +kernel) rfl (fun _ _ _ => rfl) ?_
      refine R_getR (pc := 29) (a := 241) (b := 242) (show z_pt 228 29 = some (4, .getfield 7, [10, 0, 6118]) by decide +kernel) (by decide +kernel) ?_
      refine R_at (pc := 32) ?_
      refine R_const (pc := 32) (pc' := 33) (v := 2) (show z_ptc 228 32 = some (33, 2) by decide +kernel) ?_
      refine R_ialdK (pc := 33) (a := 242) (n := 331) (jn := 2) (show z_pt 228 33 = some (4, .iaload, []) by decide +kernel) (show z_ar 242 0 331 = true by decide +kernel) (by decide) (by decide) ?_
      refine R_at (pc := 34) ?_
      refine R_pure (pc := 34) (pc' := 35) (ls' := [(0, .ref 241), (1, .int i1), (2, .int i2), (3, .int (μ 242 2))]) (st' := []) (show z_pt 228 34 = some (4, .istore_n 3, []) by decide +kernel) rfl (fun _ _ _ => rfl) ?_
      refine R_pure (pc := 35) (pc' := 36) (st' := [.int (μ 242 2)]) (show z_pt 228 35 = some (4, .iload_n 3, []) by decide +kernel) rfl (fun _ _ _ => rfl) ?_
      refine R_const (pc := 36) (pc' := 38) (v := 8) (show z_ptc 228 36 = some (38, 8) by decide +kernel) ?_
      refine R_icmne (pc := 38) (t := 47) (show z_pt 228 38 = some (4, .if_icmp .ne 9, []) by decide +kernel) (by decide) (fun c9 => ?_) (fun c9 => ?_)
      · rw [if_neg c9] at h
        refine R_pure (pc := 47) (pc' := 48) (st' := [.ref 241]) (show z_pt 228 47 = some (4, .aload_n 0, []) by decide +kernel) rfl (fun _ _ _ => rfl) ?_
        refine R_getR (pc := 48) (a := 241) (b := 242) (show z_pt 228 48 = some (4, .getfield 7, [10, 0, 6118]) by decide +kernel) (by decide +kernel) ?_
        refine R_at (pc := 51) ?_
        refine R_const (pc := 51) (pc' := 54) (v := 235) (show z_ptc 228 51 = some (54, 235) by decide +kernel) ?_
        refine R_pure (pc := 54) (pc' := 55) (st' := [.int (μ 242 2), .int 235, .ref 242]) (show z_pt 228 54 = some (4, .iload_n 3, []) by decide +kernel) rfl (fun _ _ _ => rfl) ?_
        refine R_pure (pc := 55) (pc' := 56) (st' := [.int (235 + (μ 242 2)), .ref 242]) (show z_pt 228 55 = some (4, .iadd, []) by decide +kernel) rfl (fun _ _ _ => rfl) ?_
        refine R_pure (pc := 56) (pc' := 57) (st' := [.ref 241, .int (235 + (μ 242 2)), .ref 242]) (show z_pt 228 56 = some (4, .aload_n 0, []) by decide +kernel) rfl (fun _ _ _ => rfl) ?_
        refine R_getR (pc := 57) (a := 241) (b := 242) (show z_pt 228 57 = some (4, .getfield 7, [10, 0, 6118]) by decide +kernel) (by decide +kernel) ?_
        refine R_at (pc := 60) ?_
        refine R_const (pc := 60) (pc' := 61) (v := 3) (show z_ptc 228 60 = some (61, 3) by decide +kernel) ?_
        refine R_ialdK (pc := 61) (a := 242) (n := 331) (jn := 3) (show z_pt 228 61 = some (4, .iaload, []) by decide +kernel) (show z_ar 242 0 331 = true by decide +kernel) (by decide) (by decide) ?_
        refine R_at (pc := 62) ?_
        obtain ⟨g10, h⟩ := z_ig h
        refine R_iast (pc := 62) (a := 242) (n := 331) (show z_pt 228 62 = some (4, .iastore, []) by decide +kernel) (show z_ar 242 0 331 = true by decide +kernel) g10 ?_
        refine R_at (pc := 63) ?_
        refine R_pure (pc := 63) (pc' := 64) (st' := [.ref 241]) (show z_pt 228 63 = some (4, .aload_n 0, []) by decide +kernel) rfl (fun _ _ _ => rfl) ?_
        refine R_getR (pc := 64) (a := 241) (b := 242) (show z_pt 228 64 = some (4, .getfield 7, [10, 0, 6118]) by decide +kernel) (by decide +kernel) ?_
        refine R_at (pc := 67) ?_
        refine R_const (pc := 67) (pc' := 70) (v := 243) (show z_ptc 228 67 = some (70, 243) by decide +kernel) ?_
        refine R_pure (pc := 70) (pc' := 71) (st' := [.int (μ 242 2), .int 243, .ref 242]) (show z_pt 228 70 = some (4, .iload_n 3, []) by decide +kernel) rfl (fun _ _ _ => rfl) ?_
        refine R_pure (pc := 71) (pc' := 72) (st' := [.int (243 + (μ 242 2)), .ref 242]) (show z_pt 228 71 = some (4, .iadd, []) by decide +kernel) rfl (fun _ _ _ => rfl) ?_
        refine R_pure (pc := 72) (pc' := 73) (st' := [.int i1, .int (243 + (μ 242 2)), .ref 242]) (show z_pt 228 72 = some (4, .iload_n 1, []) by decide +kernel) rfl (fun _ _ _ => rfl) ?_
        obtain ⟨g11, h⟩ := z_ig h
        refine R_iast (pc := 73) (a := 242) (n := 331) (show z_pt 228 73 = some (4, .iastore, []) by decide +kernel) (show z_ar 242 0 331 = true by decide +kernel) g11 ?_
        refine R_at (pc := 74) ?_
        refine R_pure (pc := 74) (pc' := 75) (st' := [.ref 241]) (show z_pt 228 74 = some (4, .aload_n 0, []) by decide +kernel) rfl (fun _ _ _ => rfl) ?_
        refine R_getR (pc := 75) (a := 241) (b := 242) (show z_pt 228 75 = some (4, .getfield 7, [10, 0, 6118]) by decide +kernel) (by decide +kernel) ?_
        refine R_at (pc := 78) ?_
        refine R_const (pc := 78) (pc' := 81) (v := 251) (show z_ptc 228 78 = some (81, 251) by decide +kernel) ?_
        refine R_pure (pc := 81) (pc' := 82) (st' := [.int (μ 242 2), .int 251, .ref 242]) (show z_pt 228 81 = some (4, .iload_n 3, []) by decide +kernel) rfl (fun _ _ _ => rfl) ?_
        refine R_pure (pc := 82) (pc' := 83) (st' := [.int (251 + (μ 242 2)), .ref 242]) (show z_pt 228 82 = some (4, .iadd, []) by decide +kernel) rfl (fun _ _ _ => rfl) ?_
        refine R_pure (pc := 83) (pc' := 84) (st' := [.int i2, .int (251 + (μ 242 2)), .ref 242]) (show z_pt 228 83 = some (4, .iload_n 2, []) by decide +kernel) rfl (fun _ _ _ => rfl) ?_
        obtain ⟨g12, h⟩ := z_ig h
        refine R_iast (pc := 84) (a := 242) (n := 331) (show z_pt 228 84 = some (4, .iastore, []) by decide +kernel) (show z_ar 242 0 331 = true by decide +kernel) g12 ?_
        refine R_at (pc := 85) ?_
        refine R_pure (pc := 85) (pc' := 86) (st' := [.ref 241]) (show z_pt 228 85 = some (4, .aload_n 0, []) by decide +kernel) rfl (fun _ _ _ => rfl) ?_
        refine R_getR (pc := 86) (a := 241) (b := 242) (show z_pt 228 86 = some (4, .getfield 7, [10, 0, 6118]) by decide +kernel) (by decide +kernel) ?_
        refine R_at (pc := 89) ?_
        refine R_const (pc := 89) (pc' := 90) (v := 2) (show z_ptc 228 89 = some (90, 2) by decide +kernel) ?_
        refine R_pure (pc := 90) (pc' := 91) (st' := [.int 2, .ref 242, .int 2, .ref 242]) (show z_pt 228 90 = some (4, .dup2, []) by decide +kernel) rfl (fun _ _ _ => rfl) ?_
        refine R_ialdK (pc := 91) (a := 242) (n := 331) (jn := 2) (show z_pt 228 91 = some (4, .iaload, []) by decide +kernel) (show z_ar 242 0 331 = true by decide +kernel) (by decide) (by decide) ?_
        refine R_at (pc := 92) ?_
        refine R_const (pc := 92) (pc' := 93) (v := 1) (show z_ptc 228 92 = some (93, 1) by decide +kernel) ?_
        refine R_pure (pc := 93) (pc' := 94) (st' := [.int (((z_u (z_u (z_u μ 242 (235 + (μ 242 2)).toNatClampNeg (μ 242 3)) 242 (243 + (μ 242 2)).toNatClampNeg i1) 242 (251 + (μ 242 2)).toNatClampNeg i2) 242 2) + 1), .int 2, .ref 242]) (show z_pt 228 93 = some (4, .iadd, []) by decide +kernel) rfl (fun _ _ _ => rfl) ?_
        refine R_iastK (pc := 94) (a := 242) (n := 331) (jn := 2) (show z_pt 228 94 = some (4, .iastore, []) by decide +kernel) (show z_ar 242 0 331 = true by decide +kernel) (by decide) (by decide) ?_
        refine R_at (pc := 95) ?_
        refine R_pure (pc := 95) (pc' := 96) (st' := [.ref 241]) (show z_pt 228 95 = some (4, .aload_n 0, []) by decide +kernel) rfl (fun _ _ _ => rfl) ?_
        refine R_getR (pc := 96) (a := 241) (b := 242) (show z_pt 228 96 = some (4, .getfield 7, [10, 0, 6118]) by decide +kernel) (by decide +kernel) ?_
        refine R_at (pc := 99) ?_
        refine R_const (pc := 99) (pc' := 100) (v := 3) (show z_ptc 228 99 = some (100, 3) by decide +kernel) ?_
        refine R_pure (pc := 100) (pc' := 101) (st' := [.int 3, .ref 242, .int 3, .ref 242]) (show z_pt 228 100 = some (4, .dup2, []) by decide +kernel) rfl (fun _ _ _ => rfl) ?_
        refine R_ialdK (pc := 101) (a := 242) (n := 331) (jn := 3) (show z_pt 228 101 = some (4, .iaload, []) by decide +kernel) (show z_ar 242 0 331 = true by decide +kernel) (by decide) (by decide) ?_
        refine R_at (pc := 102) ?_
        refine R_const (pc := 102) (pc' := 103) (v := 1) (show z_ptc 228 102 = some (103, 1) by decide +kernel) ?_
        refine R_pure (pc := 103) (pc' := 104) (st' := [.int (((z_u (z_u (z_u (z_u μ 242 (235 + (μ 242 2)).toNatClampNeg (μ 242 3)) 242 (243 + (μ 242 2)).toNatClampNeg i1) 242 (251 + (μ 242 2)).toNatClampNeg i2) 242 2 (((z_u (z_u (z_u μ 242 (235 + (μ 242 2)).toNatClampNeg (μ 242 3)) 242 (243 + (μ 242 2)).toNatClampNeg i1) 242 (251 + (μ 242 2)).toNatClampNeg i2) 242 2) + 1)) 242 3) + 1), .int 3, .ref 242]) (show z_pt 228 103 = some (4, .iadd, []) by decide +kernel) rfl (fun _ _ _ => rfl) ?_
        refine R_iastK (pc := 104) (a := 242) (n := 331) (jn := 3) (show z_pt 228 104 = some (4, .iastore, []) by decide +kernel) (show z_ar 242 0 331 = true by decide +kernel) (by decide) (by decide) ?_
        refine R_at (pc := 105) ?_
        refine R_pure (pc := 105) (pc' := 106) (st' := [.ref 241]) (show z_pt 228 105 = some (4, .aload_n 0, []) by decide +kernel) rfl (fun _ _ _ => rfl) ?_
        refine R_pure (pc := 106) (pc' := 107) (st' := [.ref 241, .ref 241]) (show z_pt 228 106 = some (4, .aload_n 0, []) by decide +kernel) rfl (fun _ _ _ => rfl) ?_
        refine R_getR (pc := 107) (a := 241) (b := 242) (show z_pt 228 107 = some (4, .getfield 7, [10, 0, 6118]) by decide +kernel) (by decide +kernel) ?_
        refine R_at (pc := 110) ?_
        refine R_const (pc := 110) (pc' := 113) (v := 235) (show z_ptc 228 110 = some (113, 235) by decide +kernel) ?_
        refine R_pure (pc := 113) (pc' := 114) (st' := [.int (μ 242 2), .int 235, .ref 242, .ref 241]) (show z_pt 228 113 = some (4, .iload_n 3, []) by decide +kernel) rfl (fun _ _ _ => rfl) ?_
        refine R_pure (pc := 114) (pc' := 115) (st' := [.int (235 + (μ 242 2)), .ref 242, .ref 241]) (show z_pt 228 114 = some (4, .iadd, []) by decide +kernel) rfl (fun _ _ _ => rfl) ?_
        obtain ⟨v13, e14, h⟩ := z_bs h
        refine R_ialdR (pc := 115) (a := 242) (n := 331) (show z_pt 228 115 = some (4, .iaload, []) by decide +kernel) (show z_ar 242 0 331 = true by decide +kernel) e14 ?_
        refine R_at (pc := 116) ?_
        obtain ⟨q15, e16, h⟩ := z_bs h
        refine R_call (pc := 116) (rr := []) (show z_pt 228 116 = some (4, .invokevirtual 79, [0, 164, 1, 6199, 6201, 37, 1012, 6202]) by decide +kernel) rfl (show z_r2 164 = some (10, 2, true) by decide +kernel) rfl rfl (Or.inr ⟨_, _, rfl, (by decide +kernel)⟩) (pm_done_run  e16) (by omega) ?_
        refine R_at2 (pc := 119) (st := [.int q15.1]) ?_
        cases h
        exact R_retI (show z_pt 228 119 = some (4, .ireturn, []) by decide +kernel) (by decide +kernel)
      · rw [if_pos c9] at h
        refine R_pure (pc := 41) (pc' := 42) (st' := [.ref 241]) (show z_pt 228 41 = some (4, .aload_n 0, []) by decide +kernel) rfl (fun _ _ _ => rfl) ?_
        refine R_const (pc := 42) (pc' := 43) (v := 2) (show z_ptc 228 42 = some (43, 2) by decide +kernel) ?_
        obtain ⟨q17, e18, h⟩ := z_bs h
        refine R_call (pc := 43) (rr := []) (show z_pt 228 43 = some (4, .invokevirtual 75, [0, 165, 1, 6195, 6197, 36, 1012, 6198]) by decide +kernel) rfl (show z_r2 165 = some (10, 2, true) by decide +kernel) rfl rfl (Or.inr ⟨_, _, rfl, (by decide +kernel)⟩) (pm_fails_run  e18) (by omega) ?_
        refine R_at2 (pc := 46) (st := [.int q17.1]) ?_
        cases h
        exact R_retI (show z_pt 228 46 = some (4, .ireturn, []) by decide +kernel) (by decide +kernel)
    · rw [if_pos c8] at h
      refine R_pure (pc := 22) (pc' := 23) (st' := [.ref 241]) (show z_pt 228 22 = some (4, .aload_n 0, []) by decide +kernel) rfl (fun _ _ _ => rfl) ?_
      refine R_const (pc := 23) (pc' := 24) (v := 1) (show z_ptc 228 23 = some (24, 1) by decide +kernel) ?_
      obtain ⟨q19, e20, h⟩ := z_bs h
      refine R_call (pc := 24) (rr := []) (show z_pt 228 24 = some (4, .invokevirtual 75, [0, 165, 1, 6195, 6197, 36, 1012, 6198]) by decide +kernel) rfl (show z_r2 165 = some (10, 2, true) by decide +kernel) rfl rfl (Or.inr ⟨_, _, rfl, (by decide +kernel)⟩) (pm_fails_run  e20) (by omega) ?_
      refine R_at2 (pc := 27) (st := [.int q19.1]) ?_
      cases h
      exact R_retI (show z_pt 228 27 = some (4, .ireturn, []) by decide +kernel) (by decide +kernel)
def pm_addStar  (μ : z_Mem) (i1 : Int32) (i2 : Int32) : Option (Int32 × z_Mem) := (pm_begin μ).bind fun q1 => (pm_addsStar q1 i1 i2).bind fun q3 => (pm_kept q3.2 q3.1).bind fun q5 => some (q5.1, q5.2)
theorem pm_addStar_run  {μ : z_Mem} {i1 : Int32} {i2 : Int32}  {r : (Int32 × z_Mem)} (h : pm_addStar μ i1 i2 = some r) : Rn 2 229 0 [(0, .ref 241), (1, .int i1), (2, .int i2)] [] μ (.inl (some (.int r.1))) r.2 := by
  unfold pm_addStar at h
  refine R_pure (pc := 0) (pc' := 1) (st' := [.ref 241]) (show z_pt 229 0 = some (3, .aload_n 0, []) by decide +kernel) rfl (fun _ _ _ => rfl) ?_
  obtain ⟨q1, e2, h⟩ := z_bs h
  refine R_call (pc := 1) (rr := []) (show z_pt 229 1 = some (3, .invokevirtual 82, [0, 167, 0, 6181, 6183, 34, 1012, 6184]) by decide +kernel) rfl (show z_r2 167 = some (10, 1, true) by decide +kernel) rfl rfl (Or.inr ⟨_, _, rfl, (by decide +kernel)⟩) (pm_begin_run  e2) (by omega) ?_
  refine R_at2 (pc := 4) (st := []) ?_
  refine R_pure (pc := 4) (pc' := 5) (st' := [.ref 241]) (show z_pt 229 4 = some (3, .aload_n 0, []) by decide +kernel) rfl (fun _ _ _ => rfl) ?_
  refine R_pure (pc := 5) (pc' := 6) (st' := [.ref 241, .ref 241]) (show z_pt 229 5 = some (3, .aload_n 0, []) by decide +kernel) rfl (fun _ _ _ => rfl) ?_
  refine R_pure (pc := 6) (pc' := 7) (st' := [.int i1, .ref 241, .ref 241]) (show z_pt 229 6 = some (3, .iload_n 1, []) by decide +kernel) rfl (fun _ _ _ => rfl) ?_
  refine R_pure (pc := 7) (pc' := 8) (st' := [.int i2, .int i1, .ref 241, .ref 241]) (show z_pt 229 7 = some (3, .iload_n 2, []) by decide +kernel) rfl (fun _ _ _ => rfl) ?_
  obtain ⟨q3, e4, h⟩ := z_bs h
  refine R_call (pc := 8) (rr := [.ref 241]) (show z_pt 229 8 = some (3, .invokevirtual 186, [0, 228, 2, 7208, 7210, 65, 1012, 7211]) by decide +kernel) rfl (show z_r2 228 = some (10, 4, true) by decide +kernel) rfl rfl (Or.inr ⟨_, _, rfl, (by decide +kernel)⟩) (pm_addsStar_run  e4) (by omega) ?_
  refine R_at2 (pc := 11) (st := [.int q3.1, .ref 241]) ?_
  obtain ⟨q5, e6, h⟩ := z_bs h
  refine R_call (pc := 11) (rr := []) (show z_pt 229 11 = some (3, .invokevirtual 88, [0, 168, 1, 6203, 6205, 38, 1012, 6206]) by decide +kernel) rfl (show z_r2 168 = some (10, 3, true) by decide +kernel) rfl rfl (Or.inr ⟨_, _, rfl, (by decide +kernel)⟩) (pm_kept_run  e6) (by omega) ?_
  refine R_at2 (pc := 14) (st := [.int q5.1]) ?_
  cases h
  exact R_retI (show z_pt 229 14 = some (3, .ireturn, []) by decide +kernel) (by decide +kernel)
def pm_removes_L31_B (R : z_Mem → Int32 → Option (Int32 × z_Mem))  (f1 : Int32) (f2 : Int32) (f3 : Int32) (K : z_Mem → Int32 → Option (Int32 × z_Mem)) (μ : z_Mem) (a4 : Int32) : Option (Int32 × z_Mem) := if 7 ≤ a4 then K μ a4 else (z_rd μ 242 331 ((f3 + a4) + 1)).bind fun v6 => if z_inb (f3 + a4) 331 = true then R (z_u μ 242 (f3 + a4).toNatClampNeg v6) (a4 + 1) else none
def pm_removes_L31 : Nat → Int32 → Int32 → Int32 → (z_Mem → Int32 → Option (Int32 × z_Mem)) → z_Mem → Int32 → Option (Int32 × z_Mem)
  | 0 => fun _ _ _ _ _ _ => none
  | n + 1 => fun f1 f2 f3 K μ a4 => pm_removes_L31_B (pm_removes_L31 n f1 f2 f3 K) f1 f2 f3 K μ a4
theorem pm_removes_L31_run  (f1 : Int32) (f2 : Int32) (f3 : Int32) (K : z_Mem → Int32 → Option (Int32 × z_Mem))  (D : Nat) (hD : 1 ≤ D) (hK : ∀ (μ : z_Mem) (a4 : Int32) (r : (Int32 × z_Mem)), K μ a4 = some r → Rn D 230 64 [(0, .ref 241), (1, .int f1), (2, .int f2), (3, .int f3), (4, .int a4)] [] μ (.inl (some (.int r.1))) r.2) : ∀ (n : Nat) (μ : z_Mem) (a4 : Int32) (r : (Int32 × z_Mem)), pm_removes_L31 n f1 f2 f3 K μ a4 = some r → Rn D 230 31 [(0, .ref 241), (1, .int f1), (2, .int f2), (3, .int f3), (4, .int a4)] [] μ (.inl (some (.int r.1))) r.2 := by
  intro n
  induction n with
  | zero => intro μ a4 r h; cases h
  | succ n ih =>
    intro μ a4 r h
    have h : pm_removes_L31_B (pm_removes_L31 n f1 f2 f3 K) f1 f2 f3 K μ a4 = some r := h
    unfold pm_removes_L31_B at h
    refine R_pure (pc := 31) (pc' := 33) (st' := [.int a4]) (show z_pt 230 31 = some (5, .iload 4, []) by decide +kernel) rfl (fun _ _ _ => rfl) ?_
    refine R_const (pc := 33) (pc' := 35) (v := 7) (show z_ptc 230 33 = some (35, 7) by decide +kernel) ?_
    refine R_icmge (pc := 35) (t := 64) (show z_pt 230 35 = some (5, .if_icmp .ge 29, []) by decide +kernel) (by decide) (fun c5 => ?_) (fun c5 => ?_)
    · rw [if_pos c5] at h
      exact hK _ _  _ h
    · rw [if_neg c5] at h
      refine R_pure (pc := 38) (pc' := 39) (st' := [.ref 241]) (show z_pt 230 38 = some (5, .aload_n 0, []) by decide +kernel) rfl (fun _ _ _ => rfl) ?_
      refine R_getR (pc := 39) (a := 241) (b := 242) (show z_pt 230 39 = some (5, .getfield 7, [10, 0, 6118]) by decide +kernel) (by decide +kernel) ?_
      refine R_at (pc := 42) ?_
      refine R_pure (pc := 42) (pc' := 43) (st' := [.int f3, .ref 242]) (show z_pt 230 42 = some (5, .iload_n 3, []) by decide +kernel) rfl (fun _ _ _ => rfl) ?_
      refine R_pure (pc := 43) (pc' := 45) (st' := [.int a4, .int f3, .ref 242]) (show z_pt 230 43 = some (5, .iload 4, []) by decide +kernel) rfl (fun _ _ _ => rfl) ?_
      refine R_pure (pc := 45) (pc' := 46) (st' := [.int (f3 + a4), .ref 242]) (show z_pt 230 45 = some (5, .iadd, []) by decide +kernel) rfl (fun _ _ _ => rfl) ?_
      refine R_pure (pc := 46) (pc' := 47) (st' := [.ref 241, .int (f3 + a4), .ref 242]) (show z_pt 230 46 = some (5, .aload_n 0, []) by decide +kernel) rfl (fun _ _ _ => rfl) ?_
      refine R_getR (pc := 47) (a := 241) (b := 242) (show z_pt 230 47 = some (5, .getfield 7, [10, 0, 6118]) by decide +kernel) (by decide +kernel) ?_
      refine R_at (pc := 50) ?_
      refine R_pure (pc := 50) (pc' := 51) (st' := [.int f3, .ref 242, .int (f3 + a4), .ref 242]) (show z_pt 230 50 = some (5, .iload_n 3, []) by decide +kernel) rfl (fun _ _ _ => rfl) ?_
      refine R_pure (pc := 51) (pc' := 53) (st' := [.int a4, .int f3, .ref 242, .int (f3 + a4), .ref 242]) (show z_pt 230 51 = some (5, .iload 4, []) by decide +kernel) rfl (fun _ _ _ => rfl) ?_
      refine R_pure (pc := 53) (pc' := 54) (st' := [.int (f3 + a4), .ref 242, .int (f3 + a4), .ref 242]) (show z_pt 230 53 = some (5, .iadd, []) by decide +kernel) rfl (fun _ _ _ => rfl) ?_
      refine R_const (pc := 54) (pc' := 55) (v := 1) (show z_ptc 230 54 = some (55, 1) by decide +kernel) ?_
      refine R_pure (pc := 55) (pc' := 56) (st' := [.int ((f3 + a4) + 1), .ref 242, .int (f3 + a4), .ref 242]) (show z_pt 230 55 = some (5, .iadd, []) by decide +kernel) rfl (fun _ _ _ => rfl) ?_
      obtain ⟨v6, e7, h⟩ := z_bs h
      refine R_ialdR (pc := 56) (a := 242) (n := 331) (show z_pt 230 56 = some (5, .iaload, []) by decide +kernel) (show z_ar 242 0 331 = true by decide +kernel) e7 ?_
      refine R_at (pc := 57) ?_
      obtain ⟨g8, h⟩ := z_ig h
      refine R_iast (pc := 57) (a := 242) (n := 331) (show z_pt 230 57 = some (5, .iastore, []) by decide +kernel) (show z_ar 242 0 331 = true by decide +kernel) g8 ?_
      refine R_at (pc := 58) ?_
      refine R_inc (pc := 58) (pc' := 61) (ls' := [(0, .ref 241), (1, .int f1), (2, .int f2), (3, .int f3), (4, .int (a4 + 1))]) (c := 1) (show z_pt 230 58 = some (5, .iinc 4 1, []) by decide +kernel) (by decide) rfl rfl ?_
      refine R_pure (pc := 61) (pc' := 31) (ls' := [(0, .ref 241), (1, .int f1), (2, .int f2), (3, .int f3), (4, .int (a4 + 1))]) (st' := []) (show z_pt 230 61 = some (5, .goto (-30), [5]) by decide +kernel) rfl (fun _ _ _ => rfl) ?_
      exact ih _ _ _  h
def pm_removes_L21_B (R : z_Mem → Int32 → Option (Int32 × z_Mem))  (f1 : Int32) (f2 : Int32) (K : z_Mem → Int32 → Option (Int32 × z_Mem)) (μ : z_Mem) (a3 : Int32) : Option (Int32 × z_Mem) := if 259 ≤ a3 then K μ a3 else pm_removes_L31 z_fu f1 f2 a3 (fun M10 k9 => R M10 (a3 + 8)) μ f2
def pm_removes_L21 : Nat → Int32 → Int32 → (z_Mem → Int32 → Option (Int32 × z_Mem)) → z_Mem → Int32 → Option (Int32 × z_Mem)
  | 0 => fun _ _ _ _ _ => none
  | n + 1 => fun f1 f2 K μ a3 => pm_removes_L21_B (pm_removes_L21 n f1 f2 K) f1 f2 K μ a3
theorem pm_removes_L21_run  (f1 : Int32) (f2 : Int32) (K : z_Mem → Int32 → Option (Int32 × z_Mem))  (D : Nat) (hD : 1 ≤ D) (hK : ∀ (μ : z_Mem) (a3 : Int32) (r : (Int32 × z_Mem)), K μ a3 = some r → Rn D 230 70 [(0, .ref 241), (1, .int f1), (2, .int f2), (3, .int a3)] [] μ (.inl (some (.int r.1))) r.2) : ∀ (n : Nat) (μ : z_Mem) (a3 : Int32) (r : (Int32 × z_Mem)), pm_removes_L21 n f1 f2 K μ a3 = some r → Rn D 230 21 [(0, .ref 241), (1, .int f1), (2, .int f2), (3, .int a3)] [] μ (.inl (some (.int r.1))) r.2 := by
  intro n
  induction n with
  | zero => intro μ a3 r h; cases h
  | succ n ih =>
    intro μ a3 r h
    have h : pm_removes_L21_B (pm_removes_L21 n f1 f2 K) f1 f2 K μ a3 = some r := h
    unfold pm_removes_L21_B at h
    refine R_pure (pc := 21) (pc' := 22) (st' := [.int a3]) (show z_pt 230 21 = some (5, .iload_n 3, []) by decide +kernel) rfl (fun _ _ _ => rfl) ?_
    refine R_const (pc := 22) (pc' := 25) (v := 259) (show z_ptc 230 22 = some (25, 259) by decide +kernel) ?_
    refine R_icmge (pc := 25) (t := 70) (show z_pt 230 25 = some (5, .if_icmp .ge 45, []) by decide +kernel) (by decide) (fun c4 => ?_) (fun c4 => ?_)
    · rw [if_pos c4] at h
      exact hK _ _  _ h
    · rw [if_neg c4] at h
      refine R_pure (pc := 28) (pc' := 29) (st' := [.int f2]) (show z_pt 230 28 = some (5, .iload_n 2, []) by decide +kernel) rfl (fun _ _ _ => rfl) ?_
      refine R_pure (pc := 29) (pc' := 31) (ls' := [(0, .ref 241), (1, .int f1), (2, .int f2), (3, .int a3), (4, .int f2)]) (st' := []) (show z_pt 230 29 = some (5, .istore 4, []) by decide +kernel) rfl (fun _ _ _ => rfl) ?_
      refine pm_removes_L31_run  _ _ _ _  _ (by omega) ?_ _ _ _ _ h
      intro M10 k9 r h
      refine R_inc (pc := 64) (pc' := 67) (ls' := [(0, .ref 241), (1, .int f1), (2, .int f2), (3, .int (a3 + 8)), (4, .int k9)]) (c := 8) (show z_pt 230 64 = some (5, .iinc 3 8, []) by decide +kernel) (by decide) rfl rfl ?_
      refine R_pure (pc := 67) (pc' := 21) (ls' := [(0, .ref 241), (1, .int f1), (2, .int f2), (3, .int (a3 + 8))]) (st' := []) (show z_pt 230 67 = some (5, .goto (-46), [4]) by decide +kernel) rfl (fun _ _ _ => rfl) ?_
      exact ih _ _ _  h
def pm_removes  (μ : z_Mem) (i1 : Int32) : Option (Int32 × z_Mem) := (pm_placeOf μ i1).bind fun q1 => if q1 = (-1) then (pm_fails μ 1).bind fun q15 => some (q15.1, q15.2) else pm_removes_L21 z_fu i1 q1 (fun M12 k11 => (pm_done (z_u M12 242 2 ((M12 242 2) - 1)) ((z_u M12 242 2 ((M12 242 2) - 1)) 242 2)).bind fun q13 => some (q13.1, q13.2)) μ 235
theorem pm_removes_run  {μ : z_Mem} {i1 : Int32}  {r : (Int32 × z_Mem)} (h : pm_removes μ i1 = some r) : Rn 1 230 0 [(0, .ref 241), (1, .int i1)] [] μ (.inl (some (.int r.1))) r.2 := by
  unfold pm_removes at h
  refine R_pure (pc := 0) (pc' := 1) (st' := [.ref 241]) (show z_pt 230 0 = some (5, .aload_n 0, []) by decide +kernel) rfl (fun _ _ _ => rfl) ?_
  refine R_pure (pc := 1) (pc' := 2) (st' := [.int i1, .ref 241]) (show z_pt 230 1 = some (5, .iload_n 1, []) by decide +kernel) rfl (fun _ _ _ => rfl) ?_
  obtain ⟨q1, e2, h⟩ := z_bs h
  refine R_call (pc := 2) (rr := []) (show z_pt 230 2 = some (5, .invokevirtual 171, [0, 218, 1, 7169, 7171, 60, 1012, 7172]) by decide +kernel) rfl (show z_r2 218 = some (10, 3, true) by decide +kernel) rfl rfl (Or.inr ⟨_, _, rfl, (by decide +kernel)⟩) (pm_placeOf_run  e2) (by omega) ?_
  refine R_at2 (pc := 5) (st := [.int q1]) ?_
  refine R_pure (pc := 5) (pc' := 6) (ls' := [(0, .ref 241), (1, .int i1), (2, .int q1)]) (st' := []) (show z_pt 230 5 = some (5, .istore_n 2, []) by decide +kernel) rfl (fun _ _ _ => rfl) ?_
  refine R_pure (pc := 6) (pc' := 7) (st' := [.int q1]) (show z_pt 230 6 = some (5, .iload_n 2, []) by decide +kernel) rfl (fun _ _ _ => rfl) ?_
  refine R_const (pc := 7) (pc' := 8) (v := (-1)) (show z_ptc 230 7 = some (8, (-1)) by decide +kernel) ?_
  refine R_icmne (pc := 8) (t := 17) (show z_pt 230 8 = some (5, .if_icmp .ne 9, []) by decide +kernel) (by decide) (fun c3 => ?_) (fun c3 => ?_)
  · rw [if_neg c3] at h
    refine R_const (pc := 17) (pc' := 20) (v := 235) (show z_ptc 230 17 = some (20, 235) by decide +kernel) ?_
    refine R_pure (pc := 20) (pc' := 21) (ls' := [(0, .ref 241), (1, .int i1), (2, .int q1), (3, .int 235)]) (st' := []) (show z_pt 230 20 = some (5, .istore_n 3, []) by decide +kernel) rfl (fun _ _ _ => rfl) ?_
    refine pm_removes_L21_run  _ _ _  _ (by omega) ?_ _ _ _ _ h
    intro M12 k11 r h
    refine R_pure (pc := 70) (pc' := 71) (st' := [.ref 241]) (show z_pt 230 70 = some (5, .aload_n 0, []) by decide +kernel) rfl (fun _ _ _ => rfl) ?_
    refine R_getR (pc := 71) (a := 241) (b := 242) (show z_pt 230 71 = some (5, .getfield 7, [10, 0, 6118]) by decide +kernel) (by decide +kernel) ?_
    refine R_at (pc := 74) ?_
    refine R_const (pc := 74) (pc' := 75) (v := 2) (show z_ptc 230 74 = some (75, 2) by decide +kernel) ?_
    refine R_pure (pc := 75) (pc' := 76) (st' := [.int 2, .ref 242, .int 2, .ref 242]) (show z_pt 230 75 = some (5, .dup2, []) by decide +kernel) rfl (fun _ _ _ => rfl) ?_
    refine R_ialdK (pc := 76) (a := 242) (n := 331) (jn := 2) (show z_pt 230 76 = some (5, .iaload, []) by decide +kernel) (show z_ar 242 0 331 = true by decide +kernel) (by decide) (by decide) ?_
    refine R_at (pc := 77) ?_
    refine R_const (pc := 77) (pc' := 78) (v := 1) (show z_ptc 230 77 = some (78, 1) by decide +kernel) ?_
    refine R_pure (pc := 78) (pc' := 79) (st' := [.int ((M12 242 2) - 1), .int 2, .ref 242]) (show z_pt 230 78 = some (5, .isub, []) by decide +kernel) rfl (fun _ _ _ => rfl) ?_
    refine R_iastK (pc := 79) (a := 242) (n := 331) (jn := 2) (show z_pt 230 79 = some (5, .iastore, []) by decide +kernel) (show z_ar 242 0 331 = true by decide +kernel) (by decide) (by decide) ?_
    refine R_at (pc := 80) ?_
    refine R_pure (pc := 80) (pc' := 81) (st' := [.ref 241]) (show z_pt 230 80 = some (5, .aload_n 0, []) by decide +kernel) rfl (fun _ _ _ => rfl) ?_
    refine R_pure (pc := 81) (pc' := 82) (st' := [.ref 241, .ref 241]) (show z_pt 230 81 = some (5, .aload_n 0, []) by decide +kernel) rfl (fun _ _ _ => rfl) ?_
    refine R_getR (pc := 82) (a := 241) (b := 242) (show z_pt 230 82 = some (5, .getfield 7, [10, 0, 6118]) by decide +kernel) (by decide +kernel) ?_
    refine R_at (pc := 85) ?_
    refine R_const (pc := 85) (pc' := 86) (v := 2) (show z_ptc 230 85 = some (86, 2) by decide +kernel) ?_
    refine R_ialdK (pc := 86) (a := 242) (n := 331) (jn := 2) (show z_pt 230 86 = some (5, .iaload, []) by decide +kernel) (show z_ar 242 0 331 = true by decide +kernel) (by decide) (by decide) ?_
    refine R_at (pc := 87) ?_
    obtain ⟨q13, e14, h⟩ := z_bs h
    refine R_call (pc := 87) (rr := []) (show z_pt 230 87 = some (5, .invokevirtual 79, [0, 164, 1, 6199, 6201, 37, 1012, 6202]) by decide +kernel) rfl (show z_r2 164 = some (10, 2, true) by decide +kernel) rfl rfl (Or.inr ⟨_, _, rfl, (by decide +kernel)⟩) (pm_done_run  e14) (by omega) ?_
    refine R_at2 (pc := 90) (st := [.int q13.1]) ?_
    cases h
    exact R_retI (show z_pt 230 90 = some (5, .ireturn, []) by decide +kernel) (by decide +kernel)
  · rw [if_pos c3] at h
    refine R_pure (pc := 11) (pc' := 12) (st' := [.ref 241]) (show z_pt 230 11 = some (5, .aload_n 0, []) by decide +kernel) rfl (fun _ _ _ => rfl) ?_
    refine R_const (pc := 12) (pc' := 13) (v := 1) (show z_ptc 230 12 = some (13, 1) by decide +kernel) ?_
    obtain ⟨q15, e16, h⟩ := z_bs h
    refine R_call (pc := 13) (rr := []) (show z_pt 230 13 = some (5, .invokevirtual 75, [0, 165, 1, 6195, 6197, 36, 1012, 6198]) by decide +kernel) rfl (show z_r2 165 = some (10, 2, true) by decide +kernel) rfl rfl (Or.inr ⟨_, _, rfl, (by decide +kernel)⟩) (pm_fails_run  e16) (by omega) ?_
    refine R_at2 (pc := 16) (st := [.int q15.1]) ?_
    cases h
    exact R_retI (show z_pt 230 16 = some (5, .ireturn, []) by decide +kernel) (by decide +kernel)
def pm_removeStar  (μ : z_Mem) (i1 : Int32) : Option (Int32 × z_Mem) := (pm_begin μ).bind fun q1 => (pm_removes q1 i1).bind fun q3 => (pm_kept q3.2 q3.1).bind fun q5 => some (q5.1, q5.2)
theorem pm_removeStar_run  {μ : z_Mem} {i1 : Int32}  {r : (Int32 × z_Mem)} (h : pm_removeStar μ i1 = some r) : Rn 2 231 0 [(0, .ref 241), (1, .int i1)] [] μ (.inl (some (.int r.1))) r.2 := by
  unfold pm_removeStar at h
  refine R_pure (pc := 0) (pc' := 1) (st' := [.ref 241]) (show z_pt 231 0 = some (2, .aload_n 0, []) by decide +kernel) rfl (fun _ _ _ => rfl) ?_
  obtain ⟨q1, e2, h⟩ := z_bs h
  refine R_call (pc := 1) (rr := []) (show z_pt 231 1 = some (2, .invokevirtual 82, [0, 167, 0, 6181, 6183, 34, 1012, 6184]) by decide +kernel) rfl (show z_r2 167 = some (10, 1, true) by decide +kernel) rfl rfl (Or.inr ⟨_, _, rfl, (by decide +kernel)⟩) (pm_begin_run  e2) (by omega) ?_
  refine R_at2 (pc := 4) (st := []) ?_
  refine R_pure (pc := 4) (pc' := 5) (st' := [.ref 241]) (show z_pt 231 4 = some (2, .aload_n 0, []) by decide +kernel) rfl (fun _ _ _ => rfl) ?_
  refine R_pure (pc := 5) (pc' := 6) (st' := [.ref 241, .ref 241]) (show z_pt 231 5 = some (2, .aload_n 0, []) by decide +kernel) rfl (fun _ _ _ => rfl) ?_
  refine R_pure (pc := 6) (pc' := 7) (st' := [.int i1, .ref 241, .ref 241]) (show z_pt 231 6 = some (2, .iload_n 1, []) by decide +kernel) rfl (fun _ _ _ => rfl) ?_
  obtain ⟨q3, e4, h⟩ := z_bs h
  refine R_call (pc := 7) (rr := [.ref 241]) (show z_pt 231 7 = some (2, .invokevirtual 189, [0, 230, 1, 7216, 7218, 66, 1012, 7219]) by decide +kernel) rfl (show z_r2 230 = some (10, 5, true) by decide +kernel) rfl rfl (Or.inr ⟨_, _, rfl, (by decide +kernel)⟩) (pm_removes_run  e4) (by omega) ?_
  refine R_at2 (pc := 10) (st := [.int q3.1, .ref 241]) ?_
  obtain ⟨q5, e6, h⟩ := z_bs h
  refine R_call (pc := 10) (rr := []) (show z_pt 231 10 = some (2, .invokevirtual 88, [0, 168, 1, 6203, 6205, 38, 1012, 6206]) by decide +kernel) rfl (show z_r2 168 = some (10, 3, true) by decide +kernel) rfl rfl (Or.inr ⟨_, _, rfl, (by decide +kernel)⟩) (pm_kept_run  e6) (by omega) ?_
  refine R_at2 (pc := 13) (st := [.int q5.1]) ?_
  cases h
  exact R_retI (show z_pt 231 13 = some (2, .ireturn, []) by decide +kernel) (by decide +kernel)
def pm_starCount  (μ : z_Mem)  : Option (Int32 × z_Mem) := (pm_done μ (μ 242 2)).bind fun q1 => some (q1.1, q1.2)
theorem pm_starCount_run  {μ : z_Mem}   {r : (Int32 × z_Mem)} (h : pm_starCount μ = some r) : Rn 1 232 0 [(0, .ref 241)] [] μ (.inl (some (.int r.1))) r.2 := by
  unfold pm_starCount at h
  refine R_pure (pc := 0) (pc' := 1) (st' := [.ref 241]) (show z_pt 232 0 = some (1, .aload_n 0, []) by decide +kernel) rfl (fun _ _ _ => rfl) ?_
  refine R_pure (pc := 1) (pc' := 2) (st' := [.ref 241, .ref 241]) (show z_pt 232 1 = some (1, .aload_n 0, []) by decide +kernel) rfl (fun _ _ _ => rfl) ?_
  refine R_getR (pc := 2) (a := 241) (b := 242) (show z_pt 232 2 = some (1, .getfield 7, [10, 0, 6118]) by decide +kernel) (by decide +kernel) ?_
  refine R_at (pc := 5) ?_
  refine R_const (pc := 5) (pc' := 6) (v := 2) (show z_ptc 232 5 = some (6, 2) by decide +kernel) ?_
  refine R_ialdK (pc := 6) (a := 242) (n := 331) (jn := 2) (show z_pt 232 6 = some (1, .iaload, []) by decide +kernel) (show z_ar 242 0 331 = true by decide +kernel) (by decide) (by decide) ?_
  refine R_at (pc := 7) ?_
  obtain ⟨q1, e2, h⟩ := z_bs h
  refine R_call (pc := 7) (rr := []) (show z_pt 232 7 = some (1, .invokevirtual 79, [0, 164, 1, 6199, 6201, 37, 1012, 6202]) by decide +kernel) rfl (show z_r2 164 = some (10, 2, true) by decide +kernel) rfl rfl (Or.inr ⟨_, _, rfl, (by decide +kernel)⟩) (pm_done_run  e2) (by omega) ?_
  refine R_at2 (pc := 10) (st := [.int q1.1]) ?_
  cases h
  exact R_retI (show z_pt 232 10 = some (1, .ireturn, []) by decide +kernel) (by decide +kernel)
def pm_star  (μ : z_Mem) (i1 : Int32) : Option (Int32 × z_Mem) := (pm_in μ i1 0 ((μ 242 2) - 1)).bind fun q1 => if q1 = 0 then (pm_fails μ 1).bind fun q4 => some (q4.1, q4.2) else (z_rd μ 242 331 (235 + i1)).bind fun v6 => (pm_done μ v6).bind fun q8 => some (q8.1, q8.2)
theorem pm_star_run  {μ : z_Mem} {i1 : Int32}  {r : (Int32 × z_Mem)} (h : pm_star μ i1 = some r) : Rn 1 233 0 [(0, .ref 241), (1, .int i1)] [] μ (.inl (some (.int r.1))) r.2 := by
  unfold pm_star at h
  refine R_pure (pc := 0) (pc' := 1) (st' := [.int i1]) (show z_pt 233 0 = some (2, .iload_n 1, []) by decide +kernel) rfl (fun _ _ _ => rfl) ?_
  refine R_const (pc := 1) (pc' := 2) (v := 0) (show z_ptc 233 1 = some (2, 0) by decide +kernel) ?_
  refine R_pure (pc := 2) (pc' := 3) (st' := [.ref 241, .int 0, .int i1]) (show z_pt 233 2 = some (2, .aload_n 0, []) by decide +kernel) rfl (fun _ _ _ => rfl) ?_
  refine R_getR (pc := 3) (a := 241) (b := 242) (show z_pt 233 3 = some (2, .getfield 7, [10, 0, 6118]) by decide +kernel) (by decide +kernel) ?_
  refine R_at (pc := 6) ?_
  refine R_const (pc := 6) (pc' := 7) (v := 2) (show z_ptc 233 6 = some (7, 2) by decide +kernel) ?_
  refine R_ialdK (pc := 7) (a := 242) (n := 331) (jn := 2) (show z_pt 233 7 = some (2, .iaload, []) by decide +kernel) (show z_ar 242 0 331 = true by decide +kernel) (by decide) (by decide) ?_
  refine R_at (pc := 8) ?_
  refine R_const (pc := 8) (pc' := 9) (v := 1) (show z_ptc 233 8 = some (9, 1) by decide +kernel) ?_
  refine R_pure (pc := 9) (pc' := 10) (st' := [.int ((μ 242 2) - 1), .int 0, .int i1]) (show z_pt 233 9 = some (2, .isub, []) by decide +kernel) rfl (fun _ _ _ => rfl) ?_
  obtain ⟨q1, e2, h⟩ := z_bs h
  refine R_call (pc := 10) (rr := []) (show z_pt 233 10 = some (2, .invokestatic 55, [1, 160, 3, 6192, 6193, 0, 1012, 6194]) by decide +kernel) rfl (show z_r2 160 = some (10, 3, true) by decide +kernel) rfl rfl (Or.inl (by decide)) (pm_in_run  e2) (by omega) ?_
  refine R_at2 (pc := 13) (st := [.int q1]) ?_
  refine R_ifeq (pc := 13) (t := 33) (show z_pt 233 13 = some (2, .ifCond .eq 20, []) by decide +kernel) (by decide) (fun c3 => ?_) (fun c3 => ?_)
  · rw [if_pos c3] at h
    refine R_pure (pc := 33) (pc' := 34) (st' := [.ref 241]) (show z_pt 233 33 = some (2, .aload_n 0, []) by decide +kernel) rfl (fun _ _ _ => rfl) ?_
    refine R_const (pc := 34) (pc' := 35) (v := 1) (show z_ptc 233 34 = some (35, 1) by decide +kernel) ?_
    obtain ⟨q4, e5, h⟩ := z_bs h
    refine R_call (pc := 35) (rr := []) (show z_pt 233 35 = some (2, .invokevirtual 75, [0, 165, 1, 6195, 6197, 36, 1012, 6198]) by decide +kernel) rfl (show z_r2 165 = some (10, 2, true) by decide +kernel) rfl rfl (Or.inr ⟨_, _, rfl, (by decide +kernel)⟩) (pm_fails_run  e5) (by omega) ?_
    refine R_at2 (pc := 38) (st := [.int q4.1]) ?_
    cases h
    exact R_retI (show z_pt 233 38 = some (2, .ireturn, []) by decide +kernel) (by decide +kernel)
  · rw [if_neg c3] at h
    refine R_pure (pc := 16) (pc' := 17) (st' := [.ref 241]) (show z_pt 233 16 = some (2, .aload_n 0, []) by decide +kernel) rfl (fun _ _ _ => rfl) ?_
    refine R_pure (pc := 17) (pc' := 18) (st' := [.ref 241, .ref 241]) (show z_pt 233 17 = some (2, .aload_n 0, []) by decide +kernel) rfl (fun _ _ _ => rfl) ?_
    refine R_getR (pc := 18) (a := 241) (b := 242) (show z_pt 233 18 = some (2, .getfield 7, [10, 0, 6118]) by decide +kernel) (by decide +kernel) ?_
    refine R_at (pc := 21) ?_
    refine R_const (pc := 21) (pc' := 24) (v := 235) (show z_ptc 233 21 = some (24, 235) by decide +kernel) ?_
    refine R_pure (pc := 24) (pc' := 25) (st' := [.int i1, .int 235, .ref 242, .ref 241]) (show z_pt 233 24 = some (2, .iload_n 1, []) by decide +kernel) rfl (fun _ _ _ => rfl) ?_
    refine R_pure (pc := 25) (pc' := 26) (st' := [.int (235 + i1), .ref 242, .ref 241]) (show z_pt 233 25 = some (2, .iadd, []) by decide +kernel) rfl (fun _ _ _ => rfl) ?_
    obtain ⟨v6, e7, h⟩ := z_bs h
    refine R_ialdR (pc := 26) (a := 242) (n := 331) (show z_pt 233 26 = some (2, .iaload, []) by decide +kernel) (show z_ar 242 0 331 = true by decide +kernel) e7 ?_
    refine R_at (pc := 27) ?_
    obtain ⟨q8, e9, h⟩ := z_bs h
    refine R_call (pc := 27) (rr := []) (show z_pt 233 27 = some (2, .invokevirtual 79, [0, 164, 1, 6199, 6201, 37, 1012, 6202]) by decide +kernel) rfl (show z_r2 164 = some (10, 2, true) by decide +kernel) rfl rfl (Or.inr ⟨_, _, rfl, (by decide +kernel)⟩) (pm_done_run  e9) (by omega) ?_
    refine R_at2 (pc := 30) (st := [.int q8.1]) ?_
    refine R_pure (pc := 30) (pc' := 38) (show z_pt 233 30 = some (2, .goto 8, []) by decide +kernel) rfl (fun _ _ _ => rfl) ?_
    cases h
    exact R_retI (show z_pt 233 38 = some (2, .ireturn, []) by decide +kernel) (by decide +kernel)
def pm_direction  (μ : z_Mem) (i1 : Int32) : Option (Int32 × z_Mem) := (pm_placeOf μ i1).bind fun q1 => if q1 = (-1) then (pm_fails μ 1).bind fun q8 => some (q8.1, q8.2) else (z_rd μ 242 331 (243 + q1)).bind fun v4 => (pm_done μ v4).bind fun q6 => some (q6.1, q6.2)
theorem pm_direction_run  {μ : z_Mem} {i1 : Int32}  {r : (Int32 × z_Mem)} (h : pm_direction μ i1 = some r) : Rn 1 234 0 [(0, .ref 241), (1, .int i1)] [] μ (.inl (some (.int r.1))) r.2 := by
  unfold pm_direction at h
  refine R_pure (pc := 0) (pc' := 1) (st' := [.ref 241]) (show z_pt 234 0 = some (3, .aload_n 0, []) by decide +kernel) rfl (fun _ _ _ => rfl) ?_
  refine R_pure (pc := 1) (pc' := 2) (st' := [.int i1, .ref 241]) (show z_pt 234 1 = some (3, .iload_n 1, []) by decide +kernel) rfl (fun _ _ _ => rfl) ?_
  obtain ⟨q1, e2, h⟩ := z_bs h
  refine R_call (pc := 2) (rr := []) (show z_pt 234 2 = some (3, .invokevirtual 171, [0, 218, 1, 7169, 7171, 60, 1012, 7172]) by decide +kernel) rfl (show z_r2 218 = some (10, 3, true) by decide +kernel) rfl rfl (Or.inr ⟨_, _, rfl, (by decide +kernel)⟩) (pm_placeOf_run  e2) (by omega) ?_
  refine R_at2 (pc := 5) (st := [.int q1]) ?_
  refine R_pure (pc := 5) (pc' := 6) (ls' := [(0, .ref 241), (1, .int i1), (2, .int q1)]) (st' := []) (show z_pt 234 5 = some (3, .istore_n 2, []) by decide +kernel) rfl (fun _ _ _ => rfl) ?_
  refine R_pure (pc := 6) (pc' := 7) (st' := [.int q1]) (show z_pt 234 6 = some (3, .iload_n 2, []) by decide +kernel) rfl (fun _ _ _ => rfl) ?_
  refine R_const (pc := 7) (pc' := 8) (v := (-1)) (show z_ptc 234 7 = some (8, (-1)) by decide +kernel) ?_
  refine R_icmne (pc := 8) (t := 19) (show z_pt 234 8 = some (3, .if_icmp .ne 11, []) by decide +kernel) (by decide) (fun c3 => ?_) (fun c3 => ?_)
  · rw [if_neg c3] at h
    refine R_pure (pc := 19) (pc' := 20) (st' := [.ref 241]) (show z_pt 234 19 = some (3, .aload_n 0, []) by decide +kernel) rfl (fun _ _ _ => rfl) ?_
    refine R_pure (pc := 20) (pc' := 21) (st' := [.ref 241, .ref 241]) (show z_pt 234 20 = some (3, .aload_n 0, []) by decide +kernel) rfl (fun _ _ _ => rfl) ?_
    refine R_getR (pc := 21) (a := 241) (b := 242) (show z_pt 234 21 = some (3, .getfield 7, [10, 0, 6118]) by decide +kernel) (by decide +kernel) ?_
    refine R_at (pc := 24) ?_
    refine R_const (pc := 24) (pc' := 27) (v := 243) (show z_ptc 234 24 = some (27, 243) by decide +kernel) ?_
    refine R_pure (pc := 27) (pc' := 28) (st' := [.int q1, .int 243, .ref 242, .ref 241]) (show z_pt 234 27 = some (3, .iload_n 2, []) by decide +kernel) rfl (fun _ _ _ => rfl) ?_
    refine R_pure (pc := 28) (pc' := 29) (st' := [.int (243 + q1), .ref 242, .ref 241]) (show z_pt 234 28 = some (3, .iadd, []) by decide +kernel) rfl (fun _ _ _ => rfl) ?_
    obtain ⟨v4, e5, h⟩ := z_bs h
    refine R_ialdR (pc := 29) (a := 242) (n := 331) (show z_pt 234 29 = some (3, .iaload, []) by decide +kernel) (show z_ar 242 0 331 = true by decide +kernel) e5 ?_
    refine R_at (pc := 30) ?_
    obtain ⟨q6, e7, h⟩ := z_bs h
    refine R_call (pc := 30) (rr := []) (show z_pt 234 30 = some (3, .invokevirtual 79, [0, 164, 1, 6199, 6201, 37, 1012, 6202]) by decide +kernel) rfl (show z_r2 164 = some (10, 2, true) by decide +kernel) rfl rfl (Or.inr ⟨_, _, rfl, (by decide +kernel)⟩) (pm_done_run  e7) (by omega) ?_
    refine R_at2 (pc := 33) (st := [.int q6.1]) ?_
    cases h
    exact R_retI (show z_pt 234 33 = some (3, .ireturn, []) by decide +kernel) (by decide +kernel)
  · rw [if_pos c3] at h
    refine R_pure (pc := 11) (pc' := 12) (st' := [.ref 241]) (show z_pt 234 11 = some (3, .aload_n 0, []) by decide +kernel) rfl (fun _ _ _ => rfl) ?_
    refine R_const (pc := 12) (pc' := 13) (v := 1) (show z_ptc 234 12 = some (13, 1) by decide +kernel) ?_
    obtain ⟨q8, e9, h⟩ := z_bs h
    refine R_call (pc := 13) (rr := []) (show z_pt 234 13 = some (3, .invokevirtual 75, [0, 165, 1, 6195, 6197, 36, 1012, 6198]) by decide +kernel) rfl (show z_r2 165 = some (10, 2, true) by decide +kernel) rfl rfl (Or.inr ⟨_, _, rfl, (by decide +kernel)⟩) (pm_fails_run  e9) (by omega) ?_
    refine R_at2 (pc := 16) (st := [.int q8.1]) ?_
    refine R_pure (pc := 16) (pc' := 33) (show z_pt 234 16 = some (3, .goto 17, []) by decide +kernel) rfl (fun _ _ _ => rfl) ?_
    cases h
    exact R_retI (show z_pt 234 33 = some (3, .ireturn, []) by decide +kernel) (by decide +kernel)
def pm_passes_L18_B (R : z_Mem → Int32 → Option (Int32 × z_Mem))  (f1 : Int32) (K : z_Mem → Int32 → Option (Int32 × z_Mem)) (μ : z_Mem) (a2 : Int32) : Option (Int32 × z_Mem) := if (μ 242 2) ≤ a2 then K μ a2 else (z_rd μ 242 331 (243 + a2)).bind fun v5 => (z_rd μ 242 331 (251 + a2)).bind fun v7 => (pm_rest μ (v5 + (f1 * v7)) 3600).bind fun q9 => if z_inb (243 + a2) 331 = true then R (z_u μ 242 (243 + a2).toNatClampNeg q9) (a2 + 1) else none
def pm_passes_L18 : Nat → Int32 → (z_Mem → Int32 → Option (Int32 × z_Mem)) → z_Mem → Int32 → Option (Int32 × z_Mem)
  | 0 => fun _ _ _ _ => none
  | n + 1 => fun f1 K μ a2 => pm_passes_L18_B (pm_passes_L18 n f1 K) f1 K μ a2
theorem pm_passes_L18_run  (f1 : Int32) (K : z_Mem → Int32 → Option (Int32 × z_Mem))  (D : Nat) (hD : 1 ≤ D) (hK : ∀ (μ : z_Mem) (a2 : Int32) (r : (Int32 × z_Mem)), K μ a2 = some r → Rn D 235 73 [(0, .ref 241), (1, .int f1), (2, .int a2)] [] μ (.inl (some (.int r.1))) r.2) : ∀ (n : Nat) (μ : z_Mem) (a2 : Int32) (r : (Int32 × z_Mem)), pm_passes_L18 n f1 K μ a2 = some r → Rn D 235 18 [(0, .ref 241), (1, .int f1), (2, .int a2)] [] μ (.inl (some (.int r.1))) r.2 := by
  intro n
  induction n with
  | zero => intro μ a2 r h; cases h
  | succ n ih =>
    intro μ a2 r h
    have h : pm_passes_L18_B (pm_passes_L18 n f1 K) f1 K μ a2 = some r := h
    unfold pm_passes_L18_B at h
    refine R_pure (pc := 18) (pc' := 19) (st' := [.int a2]) (show z_pt 235 18 = some (3, .iload_n 2, []) by decide +kernel) rfl (fun _ _ _ => rfl) ?_
    refine R_pure (pc := 19) (pc' := 20) (st' := [.ref 241, .int a2]) (show z_pt 235 19 = some (3, .aload_n 0, []) by decide +kernel) rfl (fun _ _ _ => rfl) ?_
    refine R_getR (pc := 20) (a := 241) (b := 242) (show z_pt 235 20 = some (3, .getfield 7, [10, 0, 6118]) by decide +kernel) (by decide +kernel) ?_
    refine R_at (pc := 23) ?_
    refine R_const (pc := 23) (pc' := 24) (v := 2) (show z_ptc 235 23 = some (24, 2) by decide +kernel) ?_
    refine R_ialdK (pc := 24) (a := 242) (n := 331) (jn := 2) (show z_pt 235 24 = some (3, .iaload, []) by decide +kernel) (show z_ar 242 0 331 = true by decide +kernel) (by decide) (by decide) ?_
    refine R_at (pc := 25) ?_
    refine R_icmge (pc := 25) (t := 73) (show z_pt 235 25 = some (3, .if_icmp .ge 48, []) by decide +kernel) (by decide) (fun c4 => ?_) (fun c4 => ?_)
    · rw [if_pos c4] at h
      exact hK _ _  _ h
    · rw [if_neg c4] at h
      refine R_pure (pc := 28) (pc' := 29) (st' := [.ref 241]) (show z_pt 235 28 = some (3, .aload_n 0, []) by decide +kernel) rfl (fun _ _ _ => rfl) ?_
      refine R_getR (pc := 29) (a := 241) (b := 242) (show z_pt 235 29 = some (3, .getfield 7, [10, 0, 6118]) by decide +kernel) (by decide +kernel) ?_
      refine R_at (pc := 32) ?_
      refine R_const (pc := 32) (pc' := 35) (v := 243) (show z_ptc 235 32 = some (35, 243) by decide +kernel) ?_
      refine R_pure (pc := 35) (pc' := 36) (st' := [.int a2, .int 243, .ref 242]) (show z_pt 235 35 = some (3, .iload_n 2, []) by decide +kernel) rfl (fun _ _ _ => rfl) ?_
      refine R_pure (pc := 36) (pc' := 37) (st' := [.int (243 + a2), .ref 242]) (show z_pt 235 36 = some (3, .iadd, []) by decide +kernel) rfl (fun _ _ _ => rfl) ?_
      refine R_pure (pc := 37) (pc' := 38) (st' := [.ref 241, .int (243 + a2), .ref 242]) (show z_pt 235 37 = some (3, .aload_n 0, []) by decide +kernel) rfl (fun _ _ _ => rfl) ?_
      refine R_getR (pc := 38) (a := 241) (b := 242) (show z_pt 235 38 = some (3, .getfield 7, [10, 0, 6118]) by decide +kernel) (by decide +kernel) ?_
      refine R_at (pc := 41) ?_
      refine R_const (pc := 41) (pc' := 44) (v := 243) (show z_ptc 235 41 = some (44, 243) by decide +kernel) ?_
      refine R_pure (pc := 44) (pc' := 45) (st' := [.int a2, .int 243, .ref 242, .int (243 + a2), .ref 242]) (show z_pt 235 44 = some (3, .iload_n 2, []) by decide +kernel) rfl (fun _ _ _ => rfl) ?_
      refine R_pure (pc := 45) (pc' := 46) (st' := [.int (243 + a2), .ref 242, .int (243 + a2), .ref 242]) (show z_pt 235 45 = some (3, .iadd, []) by decide +kernel) rfl (fun _ _ _ => rfl) ?_
      obtain ⟨v5, e6, h⟩ := z_bs h
      refine R_ialdR (pc := 46) (a := 242) (n := 331) (show z_pt 235 46 = some (3, .iaload, []) by decide +kernel) (show z_ar 242 0 331 = true by decide +kernel) e6 ?_
      refine R_at (pc := 47) ?_
      refine R_pure (pc := 47) (pc' := 48) (st' := [.int f1, .int v5, .int (243 + a2), .ref 242]) (show z_pt 235 47 = some (3, .iload_n 1, []) by decide +kernel) rfl (fun _ _ _ => rfl) ?_
      refine R_pure (pc := 48) (pc' := 49) (st' := [.ref 241, .int f1, .int v5, .int (243 + a2), .ref 242]) (show z_pt 235 48 = some (3, .aload_n 0, []) by decide +kernel) rfl (fun _ _ _ => rfl) ?_
      refine R_getR (pc := 49) (a := 241) (b := 242) (show z_pt 235 49 = some (3, .getfield 7, [10, 0, 6118]) by decide +kernel) (by decide +kernel) ?_
      refine R_at (pc := 52) ?_
      refine R_const (pc := 52) (pc' := 55) (v := 251) (show z_ptc 235 52 = some (55, 251) by decide +kernel) ?_
      refine R_pure (pc := 55) (pc' := 56) (st' := [.int a2, .int 251, .ref 242, .int f1, .int v5, .int (243 + a2), .ref 242]) (show z_pt 235 55 = some (3, .iload_n 2, []) by decide +kernel) rfl (fun _ _ _ => rfl) ?_
      refine R_pure (pc := 56) (pc' := 57) (st' := [.int (251 + a2), .ref 242, .int f1, .int v5, .int (243 + a2), .ref 242]) (show z_pt 235 56 = some (3, .iadd, []) by decide +kernel) rfl (fun _ _ _ => rfl) ?_
      obtain ⟨v7, e8, h⟩ := z_bs h
      refine R_ialdR (pc := 57) (a := 242) (n := 331) (show z_pt 235 57 = some (3, .iaload, []) by decide +kernel) (show z_ar 242 0 331 = true by decide +kernel) e8 ?_
      refine R_at (pc := 58) ?_
      refine R_pure (pc := 58) (pc' := 59) (st' := [.int (f1 * v7), .int v5, .int (243 + a2), .ref 242]) (show z_pt 235 58 = some (3, .imul, []) by decide +kernel) rfl (fun _ _ _ => rfl) ?_
      refine R_pure (pc := 59) (pc' := 60) (st' := [.int (v5 + (f1 * v7)), .int (243 + a2), .ref 242]) (show z_pt 235 59 = some (3, .iadd, []) by decide +kernel) rfl (fun _ _ _ => rfl) ?_
      refine R_const (pc := 60) (pc' := 63) (v := 3600) (show z_ptc 235 60 = some (63, 3600) by decide +kernel) ?_
      obtain ⟨q9, e10, h⟩ := z_bs h
      refine R_call (pc := 63) (rr := [.int (243 + a2), .ref 242]) (show z_pt 235 63 = some (3, .invokestatic 159, [1, 163, 2, 7158, 7159, 0, 1012, 7160]) by decide +kernel) rfl (show z_r2 163 = some (10, 2, true) by decide +kernel) rfl rfl (Or.inl (by decide)) (pm_rest_run  e10) (by omega) ?_
      refine R_at2 (pc := 66) (st := [.int q9, .int (243 + a2), .ref 242]) ?_
      obtain ⟨g11, h⟩ := z_ig h
      refine R_iast (pc := 66) (a := 242) (n := 331) (show z_pt 235 66 = some (3, .iastore, []) by decide +kernel) (show z_ar 242 0 331 = true by decide +kernel) g11 ?_
      refine R_at (pc := 67) ?_
      refine R_inc (pc := 67) (pc' := 70) (ls' := [(0, .ref 241), (1, .int f1), (2, .int (a2 + 1))]) (c := 1) (show z_pt 235 67 = some (3, .iinc 2 1, []) by decide +kernel) (by decide) rfl rfl ?_
      refine R_pure (pc := 70) (pc' := 18) (ls' := [(0, .ref 241), (1, .int f1), (2, .int (a2 + 1))]) (st' := []) (show z_pt 235 70 = some (3, .goto (-52), [3]) by decide +kernel) rfl (fun _ _ _ => rfl) ?_
      exact ih _ _ _  h
def pm_passes  (μ : z_Mem) (i1 : Int32) : Option (Int32 × z_Mem) := (pm_in μ i1 1 99).bind fun q1 => if q1 = 0 then (pm_fails μ 1).bind fun q16 => some (q16.1, q16.2) else pm_passes_L18 z_fu i1 (fun M13 k12 => (pm_done (z_u M13 242 5 ((M13 242 5) + i1)) ((z_u M13 242 5 ((M13 242 5) + i1)) 242 5)).bind fun q14 => some (q14.1, q14.2)) μ 0
theorem pm_passes_run  {μ : z_Mem} {i1 : Int32}  {r : (Int32 × z_Mem)} (h : pm_passes μ i1 = some r) : Rn 1 235 0 [(0, .ref 241), (1, .int i1)] [] μ (.inl (some (.int r.1))) r.2 := by
  unfold pm_passes at h
  refine R_pure (pc := 0) (pc' := 1) (st' := [.int i1]) (show z_pt 235 0 = some (3, .iload_n 1, []) by decide +kernel) rfl (fun _ _ _ => rfl) ?_
  refine R_const (pc := 1) (pc' := 2) (v := 1) (show z_ptc 235 1 = some (2, 1) by decide +kernel) ?_
  refine R_const (pc := 2) (pc' := 4) (v := 99) (show z_ptc 235 2 = some (4, 99) by decide +kernel) ?_
  obtain ⟨q1, e2, h⟩ := z_bs h
  refine R_call (pc := 4) (rr := []) (show z_pt 235 4 = some (3, .invokestatic 55, [1, 160, 3, 6192, 6193, 0, 1012, 6194]) by decide +kernel) rfl (show z_r2 160 = some (10, 3, true) by decide +kernel) rfl rfl (Or.inl (by decide)) (pm_in_run  e2) (by omega) ?_
  refine R_at2 (pc := 7) (st := [.int q1]) ?_
  refine R_ifne (pc := 7) (t := 16) (show z_pt 235 7 = some (3, .ifCond .ne 9, []) by decide +kernel) (by decide) (fun c3 => ?_) (fun c3 => ?_)
  · rw [if_neg c3] at h
    refine R_const (pc := 16) (pc' := 17) (v := 0) (show z_ptc 235 16 = some (17, 0) by decide +kernel) ?_
    refine R_pure (pc := 17) (pc' := 18) (ls' := [(0, .ref 241), (1, .int i1), (2, .int 0)]) (st' := []) (show z_pt 235 17 = some (3, .istore_n 2, []) by decide +kernel) rfl (fun _ _ _ => rfl) ?_
    refine pm_passes_L18_run  _ _  _ (by omega) ?_ _ _ _ _ h
    intro M13 k12 r h
    refine R_pure (pc := 73) (pc' := 74) (st' := [.ref 241]) (show z_pt 235 73 = some (3, .aload_n 0, []) by decide +kernel) rfl (fun _ _ _ => rfl) ?_
    refine R_getR (pc := 74) (a := 241) (b := 242) (show z_pt 235 74 = some (3, .getfield 7, [10, 0, 6118]) by decide +kernel) (by decide +kernel) ?_
    refine R_at (pc := 77) ?_
    refine R_const (pc := 77) (pc' := 78) (v := 5) (show z_ptc 235 77 = some (78, 5) by decide +kernel) ?_
    refine R_pure (pc := 78) (pc' := 79) (st' := [.int 5, .ref 242, .int 5, .ref 242]) (show z_pt 235 78 = some (3, .dup2, []) by decide +kernel) rfl (fun _ _ _ => rfl) ?_
    refine R_ialdK (pc := 79) (a := 242) (n := 331) (jn := 5) (show z_pt 235 79 = some (3, .iaload, []) by decide +kernel) (show z_ar 242 0 331 = true by decide +kernel) (by decide) (by decide) ?_
    refine R_at (pc := 80) ?_
    refine R_pure (pc := 80) (pc' := 81) (st' := [.int i1, .int (M13 242 5), .int 5, .ref 242]) (show z_pt 235 80 = some (3, .iload_n 1, []) by decide +kernel) rfl (fun _ _ _ => rfl) ?_
    refine R_pure (pc := 81) (pc' := 82) (st' := [.int ((M13 242 5) + i1), .int 5, .ref 242]) (show z_pt 235 81 = some (3, .iadd, []) by decide +kernel) rfl (fun _ _ _ => rfl) ?_
    refine R_iastK (pc := 82) (a := 242) (n := 331) (jn := 5) (show z_pt 235 82 = some (3, .iastore, []) by decide +kernel) (show z_ar 242 0 331 = true by decide +kernel) (by decide) (by decide) ?_
    refine R_at (pc := 83) ?_
    refine R_pure (pc := 83) (pc' := 84) (st' := [.ref 241]) (show z_pt 235 83 = some (3, .aload_n 0, []) by decide +kernel) rfl (fun _ _ _ => rfl) ?_
    refine R_pure (pc := 84) (pc' := 85) (st' := [.ref 241, .ref 241]) (show z_pt 235 84 = some (3, .aload_n 0, []) by decide +kernel) rfl (fun _ _ _ => rfl) ?_
    refine R_getR (pc := 85) (a := 241) (b := 242) (show z_pt 235 85 = some (3, .getfield 7, [10, 0, 6118]) by decide +kernel) (by decide +kernel) ?_
    refine R_at (pc := 88) ?_
    refine R_const (pc := 88) (pc' := 89) (v := 5) (show z_ptc 235 88 = some (89, 5) by decide +kernel) ?_
    refine R_ialdK (pc := 89) (a := 242) (n := 331) (jn := 5) (show z_pt 235 89 = some (3, .iaload, []) by decide +kernel) (show z_ar 242 0 331 = true by decide +kernel) (by decide) (by decide) ?_
    refine R_at (pc := 90) ?_
    obtain ⟨q14, e15, h⟩ := z_bs h
    refine R_call (pc := 90) (rr := []) (show z_pt 235 90 = some (3, .invokevirtual 79, [0, 164, 1, 6199, 6201, 37, 1012, 6202]) by decide +kernel) rfl (show z_r2 164 = some (10, 2, true) by decide +kernel) rfl rfl (Or.inr ⟨_, _, rfl, (by decide +kernel)⟩) (pm_done_run  e15) (by omega) ?_
    refine R_at2 (pc := 93) (st := [.int q14.1]) ?_
    cases h
    exact R_retI (show z_pt 235 93 = some (3, .ireturn, []) by decide +kernel) (by decide +kernel)
  · rw [if_pos c3] at h
    refine R_pure (pc := 10) (pc' := 11) (st' := [.ref 241]) (show z_pt 235 10 = some (3, .aload_n 0, []) by decide +kernel) rfl (fun _ _ _ => rfl) ?_
    refine R_const (pc := 11) (pc' := 12) (v := 1) (show z_ptc 235 11 = some (12, 1) by decide +kernel) ?_
    obtain ⟨q16, e17, h⟩ := z_bs h
    refine R_call (pc := 12) (rr := []) (show z_pt 235 12 = some (3, .invokevirtual 75, [0, 165, 1, 6195, 6197, 36, 1012, 6198]) by decide +kernel) rfl (show z_r2 165 = some (10, 2, true) by decide +kernel) rfl rfl (Or.inr ⟨_, _, rfl, (by decide +kernel)⟩) (pm_fails_run  e17) (by omega) ?_
    refine R_at2 (pc := 15) (st := [.int q16.1]) ?_
    cases h
    exact R_retI (show z_pt 235 15 = some (3, .ireturn, []) by decide +kernel) (by decide +kernel)
def pm_passHours  (μ : z_Mem) (i1 : Int32) : Option (Int32 × z_Mem) := (pm_begin μ).bind fun q1 => (pm_passes q1 i1).bind fun q3 => (pm_kept q3.2 q3.1).bind fun q5 => some (q5.1, q5.2)
theorem pm_passHours_run  {μ : z_Mem} {i1 : Int32}  {r : (Int32 × z_Mem)} (h : pm_passHours μ i1 = some r) : Rn 2 236 0 [(0, .ref 241), (1, .int i1)] [] μ (.inl (some (.int r.1))) r.2 := by
  unfold pm_passHours at h
  refine R_pure (pc := 0) (pc' := 1) (st' := [.ref 241]) (show z_pt 236 0 = some (2, .aload_n 0, []) by decide +kernel) rfl (fun _ _ _ => rfl) ?_
  obtain ⟨q1, e2, h⟩ := z_bs h
  refine R_call (pc := 1) (rr := []) (show z_pt 236 1 = some (2, .invokevirtual 82, [0, 167, 0, 6181, 6183, 34, 1012, 6184]) by decide +kernel) rfl (show z_r2 167 = some (10, 1, true) by decide +kernel) rfl rfl (Or.inr ⟨_, _, rfl, (by decide +kernel)⟩) (pm_begin_run  e2) (by omega) ?_
  refine R_at2 (pc := 4) (st := []) ?_
  refine R_pure (pc := 4) (pc' := 5) (st' := [.ref 241]) (show z_pt 236 4 = some (2, .aload_n 0, []) by decide +kernel) rfl (fun _ _ _ => rfl) ?_
  refine R_pure (pc := 5) (pc' := 6) (st' := [.ref 241, .ref 241]) (show z_pt 236 5 = some (2, .aload_n 0, []) by decide +kernel) rfl (fun _ _ _ => rfl) ?_
  refine R_pure (pc := 6) (pc' := 7) (st' := [.int i1, .ref 241, .ref 241]) (show z_pt 236 6 = some (2, .iload_n 1, []) by decide +kernel) rfl (fun _ _ _ => rfl) ?_
  obtain ⟨q3, e4, h⟩ := z_bs h
  refine R_call (pc := 7) (rr := [.ref 241]) (show z_pt 236 7 = some (2, .invokevirtual 192, [0, 235, 1, 7236, 7238, 67, 1012, 7239]) by decide +kernel) rfl (show z_r2 235 = some (10, 3, true) by decide +kernel) rfl rfl (Or.inr ⟨_, _, rfl, (by decide +kernel)⟩) (pm_passes_run  e4) (by omega) ?_
  refine R_at2 (pc := 10) (st := [.int q3.1, .ref 241]) ?_
  obtain ⟨q5, e6, h⟩ := z_bs h
  refine R_call (pc := 10) (rr := []) (show z_pt 236 10 = some (2, .invokevirtual 88, [0, 168, 1, 6203, 6205, 38, 1012, 6206]) by decide +kernel) rfl (show z_r2 168 = some (10, 3, true) by decide +kernel) rfl rfl (Or.inr ⟨_, _, rfl, (by decide +kernel)⟩) (pm_kept_run  e6) (by omega) ?_
  refine R_at2 (pc := 13) (st := [.int q5.1]) ?_
  cases h
  exact R_retI (show z_pt 236 13 = some (2, .ireturn, []) by decide +kernel) (by decide +kernel)
def pm_directionAfter  (μ : z_Mem) (i1 : Int32) (i2 : Int32) : Option (Int32 × z_Mem) := (pm_placeOf μ i1).bind fun q1 => if q1 = (-1) then (pm_fails μ 1).bind fun q17 => some (q17.1, q17.2) else (pm_in μ i2 0 99).bind fun q4 => if q4 = 0 then (pm_fails μ 2).bind fun q7 => some (q7.1, q7.2) else (z_rd μ 242 331 (243 + q1)).bind fun v9 => (z_rd μ 242 331 (251 + q1)).bind fun v11 => (pm_rest μ (v9 + (i2 * v11)) 3600).bind fun q13 => (pm_done μ q13).bind fun q15 => some (q15.1, q15.2)
theorem pm_directionAfter_run  {μ : z_Mem} {i1 : Int32} {i2 : Int32}  {r : (Int32 × z_Mem)} (h : pm_directionAfter μ i1 i2 = some r) : Rn 1 237 0 [(0, .ref 241), (1, .int i1), (2, .int i2)] [] μ (.inl (some (.int r.1))) r.2 := by
  unfold pm_directionAfter at h
  refine R_pure (pc := 0) (pc' := 1) (st' := [.ref 241]) (show z_pt 237 0 = some (4, .aload_n 0, []) by decide +kernel) rfl (fun _ _ _ => rfl) ?_
  refine R_pure (pc := 1) (pc' := 2) (st' := [.int i1, .ref 241]) (show z_pt 237 1 = some (4, .iload_n 1, []) by decide +kernel) rfl (fun _ _ _ => rfl) ?_
  obtain ⟨q1, e2, h⟩ := z_bs h
  refine R_call (pc := 2) (rr := []) (show z_pt 237 2 = some (4, .invokevirtual 171, [0, 218, 1, 7169, 7171, 60, 1012, 7172]) by decide +kernel) rfl (show z_r2 218 = some (10, 3, true) by decide +kernel) rfl rfl (Or.inr ⟨_, _, rfl, (by decide +kernel)⟩) (pm_placeOf_run  e2) (by omega) ?_
  refine R_at2 (pc := 5) (st := [.int q1]) ?_
  refine R_pure (pc := 5) (pc' := 6) (ls' := [(0, .ref 241), (1, .int i1), (2, .int i2), (3, .int q1)]) (st' := []) (show z_pt 237 5 = some (4, .istore_n 3, []) by decide +kernel) rfl (fun _ _ _ => rfl) ?_
  refine R_pure (pc := 6) (pc' := 7) (st' := [.int q1]) (show z_pt 237 6 = some (4, .iload_n 3, []) by decide +kernel) rfl (fun _ _ _ => rfl) ?_
  refine R_const (pc := 7) (pc' := 8) (v := (-1)) (show z_ptc 237 7 = some (8, (-1)) by decide +kernel) ?_
  refine R_icmne (pc := 8) (t := 17) (show z_pt 237 8 = some (4, .if_icmp .ne 9, []) by decide +kernel) (by decide) (fun c3 => ?_) (fun c3 => ?_)
  · rw [if_neg c3] at h
    refine R_pure (pc := 17) (pc' := 18) (st' := [.int i2]) (show z_pt 237 17 = some (4, .iload_n 2, []) by decide +kernel) rfl (fun _ _ _ => rfl) ?_
    refine R_const (pc := 18) (pc' := 19) (v := 0) (show z_ptc 237 18 = some (19, 0) by decide +kernel) ?_
    refine R_const (pc := 19) (pc' := 21) (v := 99) (show z_ptc 237 19 = some (21, 99) by decide +kernel) ?_
    obtain ⟨q4, e5, h⟩ := z_bs h
    refine R_call (pc := 21) (rr := []) (show z_pt 237 21 = some (4, .invokestatic 55, [1, 160, 3, 6192, 6193, 0, 1012, 6194]) by decide +kernel) rfl (show z_r2 160 = some (10, 3, true) by decide +kernel) rfl rfl (Or.inl (by decide)) (pm_in_run  e5) (by omega) ?_
    refine R_at2 (pc := 24) (st := [.int q4]) ?_
    refine R_ifeq (pc := 24) (t := 63) (show z_pt 237 24 = some (4, .ifCond .eq 39, []) by decide +kernel) (by decide) (fun c6 => ?_) (fun c6 => ?_)
    · rw [if_pos c6] at h
      refine R_pure (pc := 63) (pc' := 64) (st' := [.ref 241]) (show z_pt 237 63 = some (4, .aload_n 0, []) by decide +kernel) rfl (fun _ _ _ => rfl) ?_
      refine R_const (pc := 64) (pc' := 65) (v := 2) (show z_ptc 237 64 = some (65, 2) by decide +kernel) ?_
      obtain ⟨q7, e8, h⟩ := z_bs h
      refine R_call (pc := 65) (rr := []) (show z_pt 237 65 = some (4, .invokevirtual 75, [0, 165, 1, 6195, 6197, 36, 1012, 6198]) by decide +kernel) rfl (show z_r2 165 = some (10, 2, true) by decide +kernel) rfl rfl (Or.inr ⟨_, _, rfl, (by decide +kernel)⟩) (pm_fails_run  e8) (by omega) ?_
      refine R_at2 (pc := 68) (st := [.int q7.1]) ?_
      cases h
      exact R_retI (show z_pt 237 68 = some (4, .ireturn, []) by decide +kernel) (by decide +kernel)
    · rw [if_neg c6] at h
      refine R_pure (pc := 27) (pc' := 28) (st' := [.ref 241]) (show z_pt 237 27 = some (4, .aload_n 0, []) by decide +kernel) rfl (fun _ _ _ => rfl) ?_
      refine R_pure (pc := 28) (pc' := 29) (st' := [.ref 241, .ref 241]) (show z_pt 237 28 = some (4, .aload_n 0, []) by decide +kernel) rfl (fun _ _ _ => rfl) ?_
      refine R_getR (pc := 29) (a := 241) (b := 242) (show z_pt 237 29 = some (4, .getfield 7, [10, 0, 6118]) by decide +kernel) (by decide +kernel) ?_
      refine R_at (pc := 32) ?_
      refine R_const (pc := 32) (pc' := 35) (v := 243) (show z_ptc 237 32 = some (35, 243) by decide +kernel) ?_
      refine R_pure (pc := 35) (pc' := 36) (st' := [.int q1, .int 243, .ref 242, .ref 241]) (show z_pt 237 35 = some (4, .iload_n 3, []) by decide +kernel) rfl (fun _ _ _ => rfl) ?_
      refine R_pure (pc := 36) (pc' := 37) (st' := [.int (243 + q1), .ref 242, .ref 241]) (show z_pt 237 36 = some (4, .iadd, []) by decide +kernel) rfl (fun _ _ _ => rfl) ?_
      obtain ⟨v9, e10, h⟩ := z_bs h
      refine R_ialdR (pc := 37) (a := 242) (n := 331) (show z_pt 237 37 = some (4, .iaload, []) by decide +kernel) (show z_ar 242 0 331 = true by decide +kernel) e10 ?_
      refine R_at (pc := 38) ?_
      refine R_pure (pc := 38) (pc' := 39) (st' := [.int i2, .int v9, .ref 241]) (show z_pt 237 38 = some (4, .iload_n 2, []) by decide +kernel) rfl (fun _ _ _ => rfl) ?_
      refine R_pure (pc := 39) (pc' := 40) (st' := [.ref 241, .int i2, .int v9, .ref 241]) (show z_pt 237 39 = some (4, .aload_n 0, []) by decide +kernel) rfl (fun _ _ _ => rfl) ?_
      refine R_getR (pc := 40) (a := 241) (b := 242) (show z_pt 237 40 = some (4, .getfield 7, [10, 0, 6118]) by decide +kernel) (by decide +kernel) ?_
      refine R_at (pc := 43) ?_
      refine R_const (pc := 43) (pc' := 46) (v := 251) (show z_ptc 237 43 = some (46, 251) by decide +kernel) ?_
      refine R_pure (pc := 46) (pc' := 47) (st' := [.int q1, .int 251, .ref 242, .int i2, .int v9, .ref 241]) (show z_pt 237 46 = some (4, .iload_n 3, []) by decide +kernel) rfl (fun _ _ _ => rfl) ?_
      refine R_pure (pc := 47) (pc' := 48) (st' := [.int (251 + q1), .ref 242, .int i2, .int v9, .ref 241]) (show z_pt 237 47 = some (4, .iadd, []) by decide +kernel) rfl (fun _ _ _ => rfl) ?_
      obtain ⟨v11, e12, h⟩ := z_bs h
      refine R_ialdR (pc := 48) (a := 242) (n := 331) (show z_pt 237 48 = some (4, .iaload, []) by decide +kernel) (show z_ar 242 0 331 = true by decide +kernel) e12 ?_
      refine R_at (pc := 49) ?_
      refine R_pure (pc := 49) (pc' := 50) (st' := [.int (i2 * v11), .int v9, .ref 241]) (show z_pt 237 49 = some (4, .imul, []) by decide +kernel) rfl (fun _ _ _ => rfl) ?_
      refine R_pure (pc := 50) (pc' := 51) (st' := [.int (v9 + (i2 * v11)), .ref 241]) (show z_pt 237 50 = some (4, .iadd, []) by decide +kernel) rfl (fun _ _ _ => rfl) ?_
      refine R_const (pc := 51) (pc' := 54) (v := 3600) (show z_ptc 237 51 = some (54, 3600) by decide +kernel) ?_
      obtain ⟨q13, e14, h⟩ := z_bs h
      refine R_call (pc := 54) (rr := [.ref 241]) (show z_pt 237 54 = some (4, .invokestatic 159, [1, 163, 2, 7158, 7159, 0, 1012, 7160]) by decide +kernel) rfl (show z_r2 163 = some (10, 2, true) by decide +kernel) rfl rfl (Or.inl (by decide)) (pm_rest_run  e14) (by omega) ?_
      refine R_at2 (pc := 57) (st := [.int q13, .ref 241]) ?_
      obtain ⟨q15, e16, h⟩ := z_bs h
      refine R_call (pc := 57) (rr := []) (show z_pt 237 57 = some (4, .invokevirtual 79, [0, 164, 1, 6199, 6201, 37, 1012, 6202]) by decide +kernel) rfl (show z_r2 164 = some (10, 2, true) by decide +kernel) rfl rfl (Or.inr ⟨_, _, rfl, (by decide +kernel)⟩) (pm_done_run  e16) (by omega) ?_
      refine R_at2 (pc := 60) (st := [.int q15.1]) ?_
      refine R_pure (pc := 60) (pc' := 68) (show z_pt 237 60 = some (4, .goto 8, []) by decide +kernel) rfl (fun _ _ _ => rfl) ?_
      cases h
      exact R_retI (show z_pt 237 68 = some (4, .ireturn, []) by decide +kernel) (by decide +kernel)
  · rw [if_pos c3] at h
    refine R_pure (pc := 11) (pc' := 12) (st' := [.ref 241]) (show z_pt 237 11 = some (4, .aload_n 0, []) by decide +kernel) rfl (fun _ _ _ => rfl) ?_
    refine R_const (pc := 12) (pc' := 13) (v := 1) (show z_ptc 237 12 = some (13, 1) by decide +kernel) ?_
    obtain ⟨q17, e18, h⟩ := z_bs h
    refine R_call (pc := 13) (rr := []) (show z_pt 237 13 = some (4, .invokevirtual 75, [0, 165, 1, 6195, 6197, 36, 1012, 6198]) by decide +kernel) rfl (show z_r2 165 = some (10, 2, true) by decide +kernel) rfl rfl (Or.inr ⟨_, _, rfl, (by decide +kernel)⟩) (pm_fails_run  e18) (by omega) ?_
    refine R_at2 (pc := 16) (st := [.int q17.1]) ?_
    cases h
    exact R_retI (show z_pt 237 16 = some (4, .ireturn, []) by decide +kernel) (by decide +kernel)
def pm_directionAfterAtOnce  (μ : z_Mem) (i1 : Int32) (i2 : Int32) : Option (Int32 × z_Mem) := (pm_directionAfter μ i1 i2).bind fun q1 => some (q1.1, q1.2)
theorem pm_directionAfterAtOnce_run  {μ : z_Mem} {i1 : Int32} {i2 : Int32}  {r : (Int32 × z_Mem)} (h : pm_directionAfterAtOnce μ i1 i2 = some r) : Rn 2 238 0 [(0, .ref 241), (1, .int i1), (2, .int i2)] [] μ (.inl (some (.int r.1))) r.2 := by
  unfold pm_directionAfterAtOnce at h
  refine R_pure (pc := 0) (pc' := 1) (st' := [.ref 241]) (show z_pt 238 0 = some (3, .aload_n 0, []) by decide +kernel) rfl (fun _ _ _ => rfl) ?_
  refine R_pure (pc := 1) (pc' := 2) (st' := [.int i1, .ref 241]) (show z_pt 238 1 = some (3, .iload_n 1, []) by decide +kernel) rfl (fun _ _ _ => rfl) ?_
  refine R_pure (pc := 2) (pc' := 3) (st' := [.int i2, .int i1, .ref 241]) (show z_pt 238 2 = some (3, .iload_n 2, []) by decide +kernel) rfl (fun _ _ _ => rfl) ?_
  obtain ⟨q1, e2, h⟩ := z_bs h
  refine R_call (pc := 3) (rr := []) (show z_pt 238 3 = some (3, .invokevirtual 195, [0, 237, 2, 8008, 8001, 8002, 1012, 8003]) by decide +kernel) rfl (show z_r2 237 = some (10, 4, true) by decide +kernel) rfl rfl (Or.inr ⟨_, _, rfl, (by decide +kernel)⟩) (pm_directionAfter_run  e2) (by omega) ?_
  refine R_at2 (pc := 6) (st := [.int q1.1]) ?_
  cases h
  exact R_retI (show z_pt 238 6 = some (3, .ireturn, []) by decide +kernel) (by decide +kernel)
def pm_nearestStar_L36_B (R : Int32 → Int32 → Option (Int32 × z_Mem))  (μ : z_Mem) (f1 : Int32) (K : Int32 → Int32 → Option (Int32 × z_Mem)) (a2 : Int32) (a3 : Int32) : Option (Int32 × z_Mem) := if (μ 242 2) ≤ a3 then K a2 a3 else (z_rd μ 242 331 (243 + a3)).bind fun v6 => (pm_apart μ v6 f1).bind fun q8 => (z_rd μ 242 331 (243 + a2)).bind fun v10 => (pm_apart μ v10 f1).bind fun q12 => if q12 ≤ q8 then R a2 (a3 + 1) else R a3 (a3 + 1)
def pm_nearestStar_L36 : Nat → z_Mem → Int32 → (Int32 → Int32 → Option (Int32 × z_Mem)) → Int32 → Int32 → Option (Int32 × z_Mem)
  | 0 => fun _ _ _ _ _ => none
  | n + 1 => fun μ f1 K a2 a3 => pm_nearestStar_L36_B (pm_nearestStar_L36 n μ f1 K) μ f1 K a2 a3
theorem pm_nearestStar_L36_run  (μ : z_Mem) (f1 : Int32) (K : Int32 → Int32 → Option (Int32 × z_Mem))  (D : Nat) (hD : 2 ≤ D) (hK : ∀ (a2 a3 : Int32) (r : (Int32 × z_Mem)), K a2 a3 = some r → Rn D 239 89 [(0, .ref 241), (1, .int f1), (2, .int a2), (3, .int a3)] [] μ (.inl (some (.int r.1))) r.2) : ∀ (n : Nat) (a2 : Int32) (a3 : Int32) (r : (Int32 × z_Mem)), pm_nearestStar_L36 n μ f1 K a2 a3 = some r → Rn D 239 36 [(0, .ref 241), (1, .int f1), (2, .int a2), (3, .int a3)] [] μ (.inl (some (.int r.1))) r.2 := by
  intro n
  induction n with
  | zero => intro a2 a3 r h; cases h
  | succ n ih =>
    intro a2 a3 r h
    have h : pm_nearestStar_L36_B (pm_nearestStar_L36 n μ f1 K) μ f1 K a2 a3 = some r := h
    unfold pm_nearestStar_L36_B at h
    refine R_pure (pc := 36) (pc' := 37) (st' := [.int a3]) (show z_pt 239 36 = some (4, .iload_n 3, []) by decide +kernel) rfl (fun _ _ _ => rfl) ?_
    refine R_pure (pc := 37) (pc' := 38) (st' := [.ref 241, .int a3]) (show z_pt 239 37 = some (4, .aload_n 0, []) by decide +kernel) rfl (fun _ _ _ => rfl) ?_
    refine R_getR (pc := 38) (a := 241) (b := 242) (show z_pt 239 38 = some (4, .getfield 7, [10, 0, 6118]) by decide +kernel) (by decide +kernel) ?_
    refine R_at (pc := 41) ?_
    refine R_const (pc := 41) (pc' := 42) (v := 2) (show z_ptc 239 41 = some (42, 2) by decide +kernel) ?_
    refine R_ialdK (pc := 42) (a := 242) (n := 331) (jn := 2) (show z_pt 239 42 = some (4, .iaload, []) by decide +kernel) (show z_ar 242 0 331 = true by decide +kernel) (by decide) (by decide) ?_
    refine R_at (pc := 43) ?_
    refine R_icmge (pc := 43) (t := 89) (show z_pt 239 43 = some (4, .if_icmp .ge 46, []) by decide +kernel) (by decide) (fun c5 => ?_) (fun c5 => ?_)
    · rw [if_pos c5] at h
      exact hK _ _  _ h
    · rw [if_neg c5] at h
      refine R_pure (pc := 46) (pc' := 47) (st' := [.ref 241]) (show z_pt 239 46 = some (4, .aload_n 0, []) by decide +kernel) rfl (fun _ _ _ => rfl) ?_
      refine R_getR (pc := 47) (a := 241) (b := 242) (show z_pt 239 47 = some (4, .getfield 7, [10, 0, 6118]) by decide +kernel) (by decide +kernel) ?_
      refine R_at (pc := 50) ?_
      refine R_const (pc := 50) (pc' := 53) (v := 243) (show z_ptc 239 50 = some (53, 243) by decide +kernel) ?_
      refine R_pure (pc := 53) (pc' := 54) (st' := [.int a3, .int 243, .ref 242]) (show z_pt 239 53 = some (4, .iload_n 3, []) by decide +kernel) rfl (fun _ _ _ => rfl) ?_
      refine R_pure (pc := 54) (pc' := 55) (st' := [.int (243 + a3), .ref 242]) (show z_pt 239 54 = some (4, .iadd, []) by decide +kernel) rfl (fun _ _ _ => rfl) ?_
      obtain ⟨v6, e7, h⟩ := z_bs h
      refine R_ialdR (pc := 55) (a := 242) (n := 331) (show z_pt 239 55 = some (4, .iaload, []) by decide +kernel) (show z_ar 242 0 331 = true by decide +kernel) e7 ?_
      refine R_at (pc := 56) ?_
      refine R_pure (pc := 56) (pc' := 57) (st' := [.int f1, .int v6]) (show z_pt 239 56 = some (4, .iload_n 1, []) by decide +kernel) rfl (fun _ _ _ => rfl) ?_
      obtain ⟨q8, e9, h⟩ := z_bs h
      refine R_call (pc := 57) (rr := []) (show z_pt 239 57 = some (4, .invokestatic 165, [1, 217, 2, 7177, 7178, 0, 1012, 7179]) by decide +kernel) rfl (show z_r2 217 = some (10, 3, true) by decide +kernel) rfl rfl (Or.inl (by decide)) (pm_apart_run  e9) (by omega) ?_
      refine R_at2 (pc := 60) (st := [.int q8]) ?_
      refine R_pure (pc := 60) (pc' := 61) (st' := [.ref 241, .int q8]) (show z_pt 239 60 = some (4, .aload_n 0, []) by decide +kernel) rfl (fun _ _ _ => rfl) ?_
      refine R_getR (pc := 61) (a := 241) (b := 242) (show z_pt 239 61 = some (4, .getfield 7, [10, 0, 6118]) by decide +kernel) (by decide +kernel) ?_
      refine R_at (pc := 64) ?_
      refine R_const (pc := 64) (pc' := 67) (v := 243) (show z_ptc 239 64 = some (67, 243) by decide +kernel) ?_
      refine R_pure (pc := 67) (pc' := 68) (st' := [.int a2, .int 243, .ref 242, .int q8]) (show z_pt 239 67 = some (4, .iload_n 2, []) by decide +kernel) rfl (fun _ _ _ => rfl) ?_
      refine R_pure (pc := 68) (pc' := 69) (st' := [.int (243 + a2), .ref 242, .int q8]) (show z_pt 239 68 = some (4, .iadd, []) by decide +kernel) rfl (fun _ _ _ => rfl) ?_
      obtain ⟨v10, e11, h⟩ := z_bs h
      refine R_ialdR (pc := 69) (a := 242) (n := 331) (show z_pt 239 69 = some (4, .iaload, []) by decide +kernel) (show z_ar 242 0 331 = true by decide +kernel) e11 ?_
      refine R_at (pc := 70) ?_
      refine R_pure (pc := 70) (pc' := 71) (st' := [.int f1, .int v10, .int q8]) (show z_pt 239 70 = some (4, .iload_n 1, []) by decide +kernel) rfl (fun _ _ _ => rfl) ?_
      obtain ⟨q12, e13, h⟩ := z_bs h
      refine R_call (pc := 71) (rr := [.int q8]) (show z_pt 239 71 = some (4, .invokestatic 165, [1, 217, 2, 7177, 7178, 0, 1012, 7179]) by decide +kernel) rfl (show z_r2 217 = some (10, 3, true) by decide +kernel) rfl rfl (Or.inl (by decide)) (pm_apart_run  e13) (by omega) ?_
      refine R_at2 (pc := 74) (st := [.int q12, .int q8]) ?_
      refine R_icmge (pc := 74) (t := 81) (show z_pt 239 74 = some (4, .if_icmp .ge 7, []) by decide +kernel) (by decide) (fun c14 => ?_) (fun c14 => ?_)
      · rw [if_pos c14] at h
        refine R_pure (pc := 81) (pc' := 82) (st' := [.int a2]) (show z_pt 239 81 = some (4, .iload_n 2, []) by decide +kernel) rfl (fun _ _ _ => rfl) ?_
        refine R_pure (pc := 82) (pc' := 83) (ls' := [(0, .ref 241), (1, .int f1), (2, .int a2), (3, .int a3)]) (st' := []) (show z_pt 239 82 = some (4, .istore_n 2, []) by decide +kernel) rfl (fun _ _ _ => rfl) ?_
        refine R_inc (pc := 83) (pc' := 86) (ls' := [(0, .ref 241), (1, .int f1), (2, .int a2), (3, .int (a3 + 1))]) (c := 1) (show z_pt 239 83 = some (4, .iinc 3 1, []) by decide +kernel) (by decide) rfl rfl ?_
        refine R_pure (pc := 86) (pc' := 36) (ls' := [(0, .ref 241), (1, .int f1), (2, .int a2), (3, .int (a3 + 1))]) (st' := []) (show z_pt 239 86 = some (4, .goto (-50), [4]) by decide +kernel) rfl (fun _ _ _ => rfl) ?_
        exact ih _ _ _  h
      · rw [if_neg c14] at h
        refine R_pure (pc := 77) (pc' := 78) (st' := [.int a3]) (show z_pt 239 77 = some (4, .iload_n 3, []) by decide +kernel) rfl (fun _ _ _ => rfl) ?_
        refine R_pure (pc := 78) (pc' := 82) (show z_pt 239 78 = some (4, .goto 4, []) by decide +kernel) rfl (fun _ _ _ => rfl) ?_
        refine R_pure (pc := 82) (pc' := 83) (ls' := [(0, .ref 241), (1, .int f1), (2, .int a3), (3, .int a3)]) (st' := []) (show z_pt 239 82 = some (4, .istore_n 2, []) by decide +kernel) rfl (fun _ _ _ => rfl) ?_
        refine R_inc (pc := 83) (pc' := 86) (ls' := [(0, .ref 241), (1, .int f1), (2, .int a3), (3, .int (a3 + 1))]) (c := 1) (show z_pt 239 83 = some (4, .iinc 3 1, []) by decide +kernel) (by decide) rfl rfl ?_
        refine R_pure (pc := 86) (pc' := 36) (ls' := [(0, .ref 241), (1, .int f1), (2, .int a3), (3, .int (a3 + 1))]) (st' := []) (show z_pt 239 86 = some (4, .goto (-50), [4]) by decide +kernel) rfl (fun _ _ _ => rfl) ?_
        exact ih _ _ _  h
def pm_nearestStar  (μ : z_Mem) (i1 : Int32) : Option (Int32 × z_Mem) := (pm_in μ i1 0 3599).bind fun q1 => if q1 = 0 then (pm_fails μ 1).bind fun q23 => some (q23.1, q23.2) else if (μ 242 2) = 0 then (pm_fails μ 2).bind fun q21 => some (q21.1, q21.2) else pm_nearestStar_L36 z_fu μ i1 (fun k15 k16 => (z_rd μ 242 331 (235 + k15)).bind fun v17 => (pm_done μ v17).bind fun q19 => some (q19.1, q19.2)) 0 1
theorem pm_nearestStar_run  {μ : z_Mem} {i1 : Int32}  {r : (Int32 × z_Mem)} (h : pm_nearestStar μ i1 = some r) : Rn 2 239 0 [(0, .ref 241), (1, .int i1)] [] μ (.inl (some (.int r.1))) r.2 := by
  unfold pm_nearestStar at h
  refine R_pure (pc := 0) (pc' := 1) (st' := [.int i1]) (show z_pt 239 0 = some (4, .iload_n 1, []) by decide +kernel) rfl (fun _ _ _ => rfl) ?_
  refine R_const (pc := 1) (pc' := 2) (v := 0) (show z_ptc 239 1 = some (2, 0) by decide +kernel) ?_
  refine R_const (pc := 2) (pc' := 5) (v := 3599) (show z_ptc 239 2 = some (5, 3599) by decide +kernel) ?_
  obtain ⟨q1, e2, h⟩ := z_bs h
  refine R_call (pc := 5) (rr := []) (show z_pt 239 5 = some (4, .invokestatic 55, [1, 160, 3, 6192, 6193, 0, 1012, 6194]) by decide +kernel) rfl (show z_r2 160 = some (10, 3, true) by decide +kernel) rfl rfl (Or.inl (by decide)) (pm_in_run  e2) (by omega) ?_
  refine R_at2 (pc := 8) (st := [.int q1]) ?_
  refine R_ifne (pc := 8) (t := 17) (show z_pt 239 8 = some (4, .ifCond .ne 9, []) by decide +kernel) (by decide) (fun c3 => ?_) (fun c3 => ?_)
  · rw [if_neg c3] at h
    refine R_pure (pc := 17) (pc' := 18) (st' := [.ref 241]) (show z_pt 239 17 = some (4, .aload_n 0, []) by decide +kernel) rfl (fun _ _ _ => rfl) ?_
    refine R_getR (pc := 18) (a := 241) (b := 242) (show z_pt 239 18 = some (4, .getfield 7, [10, 0, 6118]) by decide +kernel) (by decide +kernel) ?_
    refine R_at (pc := 21) ?_
    refine R_const (pc := 21) (pc' := 22) (v := 2) (show z_ptc 239 21 = some (22, 2) by decide +kernel) ?_
    refine R_ialdK (pc := 22) (a := 242) (n := 331) (jn := 2) (show z_pt 239 22 = some (4, .iaload, []) by decide +kernel) (show z_ar 242 0 331 = true by decide +kernel) (by decide) (by decide) ?_
    refine R_at (pc := 23) ?_
    refine R_ifne (pc := 23) (t := 32) (show z_pt 239 23 = some (4, .ifCond .ne 9, []) by decide +kernel) (by decide) (fun c4 => ?_) (fun c4 => ?_)
    · rw [if_neg c4] at h
      refine R_const (pc := 32) (pc' := 33) (v := 0) (show z_ptc 239 32 = some (33, 0) by decide +kernel) ?_
      refine R_pure (pc := 33) (pc' := 34) (ls' := [(0, .ref 241), (1, .int i1), (2, .int 0)]) (st' := []) (show z_pt 239 33 = some (4, .istore_n 2, []) by decide +kernel) rfl (fun _ _ _ => rfl) ?_
      refine R_const (pc := 34) (pc' := 35) (v := 1) (show z_ptc 239 34 = some (35, 1) by decide +kernel) ?_
      refine R_pure (pc := 35) (pc' := 36) (ls' := [(0, .ref 241), (1, .int i1), (2, .int 0), (3, .int 1)]) (st' := []) (show z_pt 239 35 = some (4, .istore_n 3, []) by decide +kernel) rfl (fun _ _ _ => rfl) ?_
      refine pm_nearestStar_L36_run  _ _ _  _ (by omega) ?_ _ _ _ _ h
      intro k15 k16 r h
      refine R_pure (pc := 89) (pc' := 90) (st' := [.ref 241]) (show z_pt 239 89 = some (4, .aload_n 0, []) by decide +kernel) rfl (fun _ _ _ => rfl) ?_
      refine R_pure (pc := 90) (pc' := 91) (st' := [.ref 241, .ref 241]) (show z_pt 239 90 = some (4, .aload_n 0, []) by decide +kernel) rfl (fun _ _ _ => rfl) ?_
      refine R_getR (pc := 91) (a := 241) (b := 242) (show z_pt 239 91 = some (4, .getfield 7, [10, 0, 6118]) by decide +kernel) (by decide +kernel) ?_
      refine R_at (pc := 94) ?_
      refine R_const (pc := 94) (pc' := 97) (v := 235) (show z_ptc 239 94 = some (97, 235) by decide +kernel) ?_
      refine R_pure (pc := 97) (pc' := 98) (st' := [.int k15, .int 235, .ref 242, .ref 241]) (show z_pt 239 97 = some (4, .iload_n 2, []) by decide +kernel) rfl (fun _ _ _ => rfl) ?_
      refine R_pure (pc := 98) (pc' := 99) (st' := [.int (235 + k15), .ref 242, .ref 241]) (show z_pt 239 98 = some (4, .iadd, []) by decide +kernel) rfl (fun _ _ _ => rfl) ?_
      obtain ⟨v17, e18, h⟩ := z_bs h
      refine R_ialdR (pc := 99) (a := 242) (n := 331) (show z_pt 239 99 = some (4, .iaload, []) by decide +kernel) (show z_ar 242 0 331 = true by decide +kernel) e18 ?_
      refine R_at (pc := 100) ?_
      obtain ⟨q19, e20, h⟩ := z_bs h
      refine R_call (pc := 100) (rr := []) (show z_pt 239 100 = some (4, .invokevirtual 79, [0, 164, 1, 6199, 6201, 37, 1012, 6202]) by decide +kernel) rfl (show z_r2 164 = some (10, 2, true) by decide +kernel) rfl rfl (Or.inr ⟨_, _, rfl, (by decide +kernel)⟩) (pm_done_run  e20) (by omega) ?_
      refine R_at2 (pc := 103) (st := [.int q19.1]) ?_
      cases h
      exact R_retI (show z_pt 239 103 = some (4, .ireturn, []) by decide +kernel) (by decide +kernel)
    · rw [if_pos c4] at h
      refine R_pure (pc := 26) (pc' := 27) (st' := [.ref 241]) (show z_pt 239 26 = some (4, .aload_n 0, []) by decide +kernel) rfl (fun _ _ _ => rfl) ?_
      refine R_const (pc := 27) (pc' := 28) (v := 2) (show z_ptc 239 27 = some (28, 2) by decide +kernel) ?_
      obtain ⟨q21, e22, h⟩ := z_bs h
      refine R_call (pc := 28) (rr := []) (show z_pt 239 28 = some (4, .invokevirtual 75, [0, 165, 1, 6195, 6197, 36, 1012, 6198]) by decide +kernel) rfl (show z_r2 165 = some (10, 2, true) by decide +kernel) rfl rfl (Or.inr ⟨_, _, rfl, (by decide +kernel)⟩) (pm_fails_run  e22) (by omega) ?_
      refine R_at2 (pc := 31) (st := [.int q21.1]) ?_
      cases h
      exact R_retI (show z_pt 239 31 = some (4, .ireturn, []) by decide +kernel) (by decide +kernel)
  · rw [if_pos c3] at h
    refine R_pure (pc := 11) (pc' := 12) (st' := [.ref 241]) (show z_pt 239 11 = some (4, .aload_n 0, []) by decide +kernel) rfl (fun _ _ _ => rfl) ?_
    refine R_const (pc := 12) (pc' := 13) (v := 1) (show z_ptc 239 12 = some (13, 1) by decide +kernel) ?_
    obtain ⟨q23, e24, h⟩ := z_bs h
    refine R_call (pc := 13) (rr := []) (show z_pt 239 13 = some (4, .invokevirtual 75, [0, 165, 1, 6195, 6197, 36, 1012, 6198]) by decide +kernel) rfl (show z_r2 165 = some (10, 2, true) by decide +kernel) rfl rfl (Or.inr ⟨_, _, rfl, (by decide +kernel)⟩) (pm_fails_run  e24) (by omega) ?_
    refine R_at2 (pc := 16) (st := [.int q23.1]) ?_
    cases h
    exact R_retI (show z_pt 239 16 = some (4, .ireturn, []) by decide +kernel) (by decide +kernel)
def pm_isKey  (μ : z_Mem) (i0 : Int32) (i1 : Int32) : Option Int32 := (pm_in μ i0 97 122).bind fun q1 => if q1 = 0 then some 0 else (pm_in μ i1 0 9).bind fun q4 => if q4 = 0 then some 0 else some 1
theorem pm_isKey_run  {μ : z_Mem} {i0 : Int32} {i1 : Int32}  {r : Int32} (h : pm_isKey μ i0 i1 = some r) : Rn 1 240 0 [(0, .int i0), (1, .int i1)] [] μ (.inl (some (.int r))) μ := by
  unfold pm_isKey at h
  refine R_pure (pc := 0) (pc' := 1) (st' := [.int i0]) (show z_pt 240 0 = some (2, .iload_n 0, []) by decide +kernel) rfl (fun _ _ _ => rfl) ?_
  refine R_const (pc := 1) (pc' := 3) (v := 97) (show z_ptc 240 1 = some (3, 97) by decide +kernel) ?_
  refine R_const (pc := 3) (pc' := 5) (v := 122) (show z_ptc 240 3 = some (5, 122) by decide +kernel) ?_
  obtain ⟨q1, e2, h⟩ := z_bs h
  refine R_call (pc := 5) (rr := []) (show z_pt 240 5 = some (2, .invokestatic 55, [1, 160, 3, 6192, 6193, 0, 1012, 6194]) by decide +kernel) rfl (show z_r2 160 = some (10, 3, true) by decide +kernel) rfl rfl (Or.inl (by decide)) (pm_in_run  e2) (by omega) ?_
  refine R_at2 (pc := 8) (st := [.int q1]) ?_
  refine R_ifeq (pc := 8) (t := 25) (show z_pt 240 8 = some (2, .ifCond .eq 17, []) by decide +kernel) (by decide) (fun c3 => ?_) (fun c3 => ?_)
  · rw [if_pos c3] at h
    refine R_const (pc := 25) (pc' := 26) (v := 0) (show z_ptc 240 25 = some (26, 0) by decide +kernel) ?_
    cases h
    exact R_retZ (show z_pt 240 26 = some (2, .ireturn, []) by decide +kernel) (t := .boolean) (by decide +kernel) (by decide)
  · rw [if_neg c3] at h
    refine R_pure (pc := 11) (pc' := 12) (st' := [.int i1]) (show z_pt 240 11 = some (2, .iload_n 1, []) by decide +kernel) rfl (fun _ _ _ => rfl) ?_
    refine R_const (pc := 12) (pc' := 13) (v := 0) (show z_ptc 240 12 = some (13, 0) by decide +kernel) ?_
    refine R_const (pc := 13) (pc' := 15) (v := 9) (show z_ptc 240 13 = some (15, 9) by decide +kernel) ?_
    obtain ⟨q4, e5, h⟩ := z_bs h
    refine R_call (pc := 15) (rr := []) (show z_pt 240 15 = some (2, .invokestatic 55, [1, 160, 3, 6192, 6193, 0, 1012, 6194]) by decide +kernel) rfl (show z_r2 160 = some (10, 3, true) by decide +kernel) rfl rfl (Or.inl (by decide)) (pm_in_run  e5) (by omega) ?_
    refine R_at2 (pc := 18) (st := [.int q4]) ?_
    refine R_ifeq (pc := 18) (t := 25) (show z_pt 240 18 = some (2, .ifCond .eq 7, []) by decide +kernel) (by decide) (fun c6 => ?_) (fun c6 => ?_)
    · rw [if_pos c6] at h
      refine R_const (pc := 25) (pc' := 26) (v := 0) (show z_ptc 240 25 = some (26, 0) by decide +kernel) ?_
      cases h
      exact R_retZ (show z_pt 240 26 = some (2, .ireturn, []) by decide +kernel) (t := .boolean) (by decide +kernel) (by decide)
    · rw [if_neg c6] at h
      refine R_const (pc := 21) (pc' := 22) (v := 1) (show z_ptc 240 21 = some (22, 1) by decide +kernel) ?_
      refine R_pure (pc := 22) (pc' := 26) (show z_pt 240 22 = some (2, .goto 4, []) by decide +kernel) rfl (fun _ _ _ => rfl) ?_
      cases h
      exact R_retZ (show z_pt 240 26 = some (2, .ireturn, []) by decide +kernel) (t := .boolean) (by decide +kernel) (by decide)
end ZP8
