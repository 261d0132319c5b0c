section ZP10
def pm_writesNumber_L21_B (R : z_Mem → Int32 → Option z_Mem)  (f1 : Int32) (K : z_Mem → Int32 → Option z_Mem) (μ : z_Mem) (a2 : Int32) : Option z_Mem := if a2 ≤ 0 then K μ a2 else if a2 = 0 then none else (pm_writes μ (48 + ((f1 / a2) - (f1 / a2) / 10 * 10))).bind fun q4 => R q4 (a2 / 10)
def pm_writesNumber_L21 : Nat → Int32 → (z_Mem → Int32 → Option z_Mem) → z_Mem → Int32 → Option z_Mem
  | 0 => fun _ _ _ _ => none
  | n + 1 => fun f1 K μ a2 => pm_writesNumber_L21_B (pm_writesNumber_L21 n f1 K) f1 K μ a2
theorem pm_writesNumber_L21_run  (f1 : Int32) (K : z_Mem → Int32 → Option z_Mem)  (D : Nat) (hD : 1 ≤ D) (hK : ∀ (μ : z_Mem) (a2 : Int32) (r : z_Mem), K μ a2 = some r → Rn D 253 46 [(0, .ref 241), (1, .int f1), (2, .int a2)] [] μ (.inl none) r) : ∀ (n : Nat) (μ : z_Mem) (a2 : Int32) (r : z_Mem), pm_writesNumber_L21 n f1 K μ a2 = some r → Rn D 253 21 [(0, .ref 241), (1, .int f1), (2, .int a2)] [] μ (.inl none) r := by
  intro n
  induction n with
  | zero => intro μ a2 r h; cases h
  | succ n ih =>
    intro μ a2 r h
    have h : pm_writesNumber_L21_B (pm_writesNumber_L21 n f1 K) f1 K μ a2 = some r := h
    unfold pm_writesNumber_L21_B at h
    refine R_pure (pc := 21) (pc' := 22) (st' := [.int a2]) (show z_pt 253 21 = some (3, .iload_n 2, []) by decide +kernel) rfl (fun _ _ _ => rfl) ?_
    refine R_ifle (pc := 22) (t := 46) (show z_pt 253 22 = some (3, .ifCond .le 24, []) by decide +kernel) (by decide) (fun c2 => ?_) (fun c2 => ?_)
    · rw [if_pos c2] at h
      exact hK _ _  _ h
    · rw [if_neg c2] at h
      refine R_pure (pc := 25) (pc' := 26) (st' := [.ref 241]) (show z_pt 253 25 = some (3, .aload_n 0, []) by decide +kernel) rfl (fun _ _ _ => rfl) ?_
      refine R_const (pc := 26) (pc' := 28) (v := 48) (show z_ptc 253 26 = some (28, 48) by decide +kernel) ?_
      refine R_pure (pc := 28) (pc' := 29) (st' := [.int f1, .int 48, .ref 241]) (show z_pt 253 28 = some (3, .iload_n 1, []) by decide +kernel) rfl (fun _ _ _ => rfl) ?_
      refine R_pure (pc := 29) (pc' := 30) (st' := [.int a2, .int f1, .int 48, .ref 241]) (show z_pt 253 29 = some (3, .iload_n 2, []) by decide +kernel) rfl (fun _ _ _ => rfl) ?_
      obtain ⟨g3, h⟩ := z_ng h
      refine R_div (x := f1) (y := a2) (show z_pt 253 30 = some (3, .idiv, []) by decide +kernel) g3 ?_
      refine R_const (pc := 31) (pc' := 33) (v := 10) (show z_ptc 253 31 = some (33, 10) by decide +kernel) ?_
      refine R_rem (x := (f1 / a2)) (y := 10) (show z_pt 253 33 = some (3, .irem, []) by decide +kernel) (by decide) ?_
      refine R_pure (pc := 34) (pc' := 35) (st' := [.int (48 + ((f1 / a2) - (f1 / a2) / 10 * 10)), .ref 241]) (show z_pt 253 34 = some (3, .iadd, []) by decide +kernel) rfl (fun _ _ _ => rfl) ?_
      obtain ⟨q4, e5, h⟩ := z_bs h
      refine R_call (pc := 35) (rr := []) (show z_pt 253 35 = some (3, .invokevirtual 217, [0, 252, 1, 8069, 8071, 73, 1012, 8072]) by decide +kernel) rfl (show z_r2 252 = some (10, 2, true) by decide +kernel) rfl rfl (Or.inr ⟨_, _, rfl, (by decide +kernel)⟩) (pm_writes_run  e5) (by omega) ?_
      refine R_at2 (pc := 38) (st := []) ?_
      refine R_pure (pc := 38) (pc' := 39) (st' := [.int a2]) (show z_pt 253 38 = some (3, .iload_n 2, []) by decide +kernel) rfl (fun _ _ _ => rfl) ?_
      refine R_const (pc := 39) (pc' := 41) (v := 10) (show z_ptc 253 39 = some (41, 10) by decide +kernel) ?_
      refine R_div (x := a2) (y := 10) (show z_pt 253 41 = some (3, .idiv, []) by decide +kernel) (by decide) ?_
      refine R_pure (pc := 42) (pc' := 43) (ls' := [(0, .ref 241), (1, .int f1), (2, .int (a2 / 10))]) (st' := []) (show z_pt 253 42 = some (3, .istore_n 2, []) by decide +kernel) rfl (fun _ _ _ => rfl) ?_
      refine R_pure (pc := 43) (pc' := 21) (ls' := [(0, .ref 241), (1, .int f1), (2, .int (a2 / 10))]) (st' := []) (show z_pt 253 43 = some (3, .goto (-22), [3]) by decide +kernel) rfl (fun _ _ _ => rfl) ?_
      exact ih _ _ _  h
def pm_writesNumber_L3_B (R : Int32 → Option z_Mem)  (μ : z_Mem) (f1 : Int32) (K : Int32 → Option z_Mem) (a2 : Int32) : Option z_Mem := if a2 ≤ 1 then pm_writesNumber_L21 z_fu f1 (fun M7 k6 => some M7) μ a2 else if a2 ≤ f1 then pm_writesNumber_L21 z_fu f1 (fun M10 k9 => some M10) μ a2 else R (a2 / 10)
def pm_writesNumber_L3 : Nat → z_Mem → Int32 → (Int32 → Option z_Mem) → Int32 → Option z_Mem
  | 0 => fun _ _ _ _ => none
  | n + 1 => fun μ f1 K a2 => pm_writesNumber_L3_B (pm_writesNumber_L3 n μ f1 K) μ f1 K a2
theorem pm_writesNumber_L3_run  (μ : z_Mem) (f1 : Int32) (K : Int32 → Option z_Mem)  (D : Nat) (hD : 1 ≤ D) (hK : ∀ (a2 : Int32) (r : z_Mem), K a2 = some r → Rn D 253 21 [(0, .ref 241), (1, .int f1), (2, .int a2)] [] μ (.inl none) r) : ∀ (n : Nat) (a2 : Int32) (r : z_Mem), pm_writesNumber_L3 n μ f1 K a2 = some r → Rn D 253 3 [(0, .ref 241), (1, .int f1), (2, .int a2)] [] μ (.inl none) r := by
  intro n
  induction n with
  | zero => intro a2 r h; cases h
  | succ n ih =>
    intro a2 r h
    have h : pm_writesNumber_L3_B (pm_writesNumber_L3 n μ f1 K) μ f1 K a2 = some r := h
    unfold pm_writesNumber_L3_B at h
    refine R_pure (pc := 3) (pc' := 4) (st' := [.int a2]) (show z_pt 253 3 = some (3, .iload_n 2, []) by decide +kernel) rfl (fun _ _ _ => rfl) ?_
    refine R_const (pc := 4) (pc' := 5) (v := 1) (show z_ptc 253 4 = some (5, 1) by decide +kernel) ?_
    refine R_icmle (pc := 5) (t := 21) (show z_pt 253 5 = some (3, .if_icmp .le 16, []) by decide +kernel) (by decide) (fun c1 => ?_) (fun c1 => ?_)
    · rw [if_pos c1] at h
      refine pm_writesNumber_L21_run  _ _  _ (by omega) ?_ _ _ _ _ h
      intro M7 k6 r h
      cases h
      exact R_retV (show z_pt 253 46 = some (3, .return_, []) by decide +kernel) (by decide +kernel)
    · rw [if_neg c1] at h
      refine R_pure (pc := 8) (pc' := 9) (st' := [.int f1]) (show z_pt 253 8 = some (3, .iload_n 1, []) by decide +kernel) rfl (fun _ _ _ => rfl) ?_
      refine R_pure (pc := 9) (pc' := 10) (st' := [.int a2, .int f1]) (show z_pt 253 9 = some (3, .iload_n 2, []) by decide +kernel) rfl (fun _ _ _ => rfl) ?_
      refine R_icmge (pc := 10) (t := 21) (show z_pt 253 10 = some (3, .if_icmp .ge 11, []) by decide +kernel) (by decide) (fun c8 => ?_) (fun c8 => ?_)
      · rw [if_pos c8] at h
        refine pm_writesNumber_L21_run  _ _  _ (by omega) ?_ _ _ _ _ h
        intro M10 k9 r h
        cases h
        exact R_retV (show z_pt 253 46 = some (3, .return_, []) by decide +kernel) (by decide +kernel)
      · rw [if_neg c8] at h
        refine R_pure (pc := 13) (pc' := 14) (st' := [.int a2]) (show z_pt 253 13 = some (3, .iload_n 2, []) by decide +kernel) rfl (fun _ _ _ => rfl) ?_
        refine R_const (pc := 14) (pc' := 16) (v := 10) (show z_ptc 253 14 = some (16, 10) by decide +kernel) ?_
        refine R_div (x := a2) (y := 10) (show z_pt 253 16 = some (3, .idiv, []) by decide +kernel) (by decide) ?_
        refine R_pure (pc := 17) (pc' := 18) (ls' := [(0, .ref 241), (1, .int f1), (2, .int (a2 / 10))]) (st' := []) (show z_pt 253 17 = some (3, .istore_n 2, []) by decide +kernel) rfl (fun _ _ _ => rfl) ?_
        refine R_pure (pc := 18) (pc' := 3) (ls' := [(0, .ref 241), (1, .int f1), (2, .int (a2 / 10))]) (st' := []) (show z_pt 253 18 = some (3, .goto (-15), [3]) by decide +kernel) rfl (fun _ _ _ => rfl) ?_
        exact ih _ _  h
def pm_writesNumber  (μ : z_Mem) (i1 : Int32) : Option z_Mem := pm_writesNumber_L3 z_fu μ i1 (fun k11 => if k11 ≤ 0 then some μ else if k11 = 0 then none else (pm_writes μ (48 + ((i1 / k11) - (i1 / k11) / 10 * 10))).bind fun q14 => pm_writesNumber_L21 z_fu i1 (fun M17 k16 => some M17) q14 (k11 / 10)) 1000000
theorem pm_writesNumber_run  {μ : z_Mem} {i1 : Int32}  {r : z_Mem} (h : pm_writesNumber μ i1 = some r) : Rn 1 253 0 [(0, .ref 241), (1, .int i1)] [] μ (.inl none) r := by
  unfold pm_writesNumber at h
  refine R_const (pc := 0) (pc' := 2) (v := 1000000) (show z_ptc 253 0 = some (2, 1000000) by decide +kernel) ?_
  refine R_pure (pc := 2) (pc' := 3) (ls' := [(0, .ref 241), (1, .int i1), (2, .int 1000000)]) (st' := []) (show z_pt 253 2 = some (3, .istore_n 2, []) by decide +kernel) rfl (fun _ _ _ => rfl) ?_
  refine pm_writesNumber_L3_run  _ _ _  _ (by omega) ?_ _ _ _ h
  intro k11 r h
  refine R_pure (pc := 21) (pc' := 22) (st' := [.int k11]) (show z_pt 253 21 = some (3, .iload_n 2, []) by decide +kernel) rfl (fun _ _ _ => rfl) ?_
  refine R_ifle (pc := 22) (t := 46) (show z_pt 253 22 = some (3, .ifCond .le 24, []) by decide +kernel) (by decide) (fun c12 => ?_) (fun c12 => ?_)
  · rw [if_pos c12] at h
    cases h
    exact R_retV (show z_pt 253 46 = some (3, .return_, []) by decide +kernel) (by decide +kernel)
  · rw [if_neg c12] at h
    refine R_pure (pc := 25) (pc' := 26) (st' := [.ref 241]) (show z_pt 253 25 = some (3, .aload_n 0, []) by decide +kernel) rfl (fun _ _ _ => rfl) ?_
    refine R_const (pc := 26) (pc' := 28) (v := 48) (show z_ptc 253 26 = some (28, 48) by decide +kernel) ?_
    refine R_pure (pc := 28) (pc' := 29) (st' := [.int i1, .int 48, .ref 241]) (show z_pt 253 28 = some (3, .iload_n 1, []) by decide +kernel) rfl (fun _ _ _ => rfl) ?_
    refine R_pure (pc := 29) (pc' := 30) (st' := [.int k11, .int i1, .int 48, .ref 241]) (show z_pt 253 29 = some (3, .iload_n 2, []) by decide +kernel) rfl (fun _ _ _ => rfl) ?_
    obtain ⟨g13, h⟩ := z_ng h
    refine R_div (x := i1) (y := k11) (show z_pt 253 30 = some (3, .idiv, []) by decide +kernel) g13 ?_
    refine R_const (pc := 31) (pc' := 33) (v := 10) (show z_ptc 253 31 = some (33, 10) by decide +kernel) ?_
    refine R_rem (x := (i1 / k11)) (y := 10) (show z_pt 253 33 = some (3, .irem, []) by decide +kernel) (by decide) ?_
    refine R_pure (pc := 34) (pc' := 35) (st' := [.int (48 + ((i1 / k11) - (i1 / k11) / 10 * 10)), .ref 241]) (show z_pt 253 34 = some (3, .iadd, []) by decide +kernel) rfl (fun _ _ _ => rfl) ?_
    obtain ⟨q14, e15, h⟩ := z_bs h
    refine R_call (pc := 35) (rr := []) (show z_pt 253 35 = some (3, .invokevirtual 217, [0, 252, 1, 8069, 8071, 73, 1012, 8072]) by decide +kernel) rfl (show z_r2 252 = some (10, 2, true) by decide +kernel) rfl rfl (Or.inr ⟨_, _, rfl, (by decide +kernel)⟩) (pm_writes_run  e15) (by omega) ?_
    refine R_at2 (pc := 38) (st := []) ?_
    refine R_pure (pc := 38) (pc' := 39) (st' := [.int k11]) (show z_pt 253 38 = some (3, .iload_n 2, []) by decide +kernel) rfl (fun _ _ _ => rfl) ?_
    refine R_const (pc := 39) (pc' := 41) (v := 10) (show z_ptc 253 39 = some (41, 10) by decide +kernel) ?_
    refine R_div (x := k11) (y := 10) (show z_pt 253 41 = some (3, .idiv, []) by decide +kernel) (by decide) ?_
    refine R_pure (pc := 42) (pc' := 43) (ls' := [(0, .ref 241), (1, .int i1), (2, .int (k11 / 10))]) (st' := []) (show z_pt 253 42 = some (3, .istore_n 2, []) by decide +kernel) rfl (fun _ _ _ => rfl) ?_
    refine R_pure (pc := 43) (pc' := 21) (ls' := [(0, .ref 241), (1, .int i1), (2, .int (k11 / 10))]) (st' := []) (show z_pt 253 43 = some (3, .goto (-22), [3]) by decide +kernel) rfl (fun _ _ _ => rfl) ?_
    refine pm_writesNumber_L21_run  _ _  _ (by omega) ?_ _ _ _ _ h
    intro M17 k16 r h
    cases h
    exact R_retV (show z_pt 253 46 = some (3, .return_, []) by decide +kernel) (by decide +kernel)
def pm_writeGear_L74_B (R : z_Mem → Int32 → Option (Int32 × z_Mem))  (f1 : Int32) (K : z_Mem → Int32 → Option (Int32 × z_Mem)) (μ : z_Mem) (a2 : Int32) : Option (Int32 × z_Mem) := if (μ 242 0) ≤ a2 then K μ a2 else (pm_isMesh μ f1 a2).bind fun q20 => if q20 = 0 then R μ (a2 + 1) else (pm_writes μ 45).bind fun q23 => (pm_writesNumber q23 a2).bind fun q25 => (pm_writes q25 47).bind fun q27 => (pm_gapOf q27 f1 a2).bind fun q29 => (pm_writesNumber q27 q29).bind fun q31 => R q31 (a2 + 1)
def pm_writeGear_L74 : Nat → Int32 → (z_Mem → Int32 → Option (Int32 × z_Mem)) → z_Mem → Int32 → Option (Int32 × z_Mem)
  | 0 => fun _ _ _ _ => none
  | n + 1 => fun f1 K μ a2 => pm_writeGear_L74_B (pm_writeGear_L74 n f1 K) f1 K μ a2
theorem pm_writeGear_L74_run  (f1 : Int32) (K : z_Mem → Int32 → Option (Int32 × z_Mem))  (D : Nat) (hD : 2 ≤ D) (hK : ∀ (μ : z_Mem) (a2 : Int32) (r : (Int32 × z_Mem)), K μ a2 = some r → Rn D 254 126 [(0, .ref 241), (1, .int f1), (2, .int a2)] [] μ (.inl (some (.int r.1))) r.2) : ∀ (n : Nat) (μ : z_Mem) (a2 : Int32) (r : (Int32 × z_Mem)), pm_writeGear_L74 n f1 K μ a2 = some r → Rn D 254 74 [(0, .ref 241), (1, .int f1), (2, .int a2)] [] μ (.inl (some (.int r.1))) r.2 := by
  intro n
  induction n with
  | zero => intro μ a2 r h; cases h
  | succ n ih =>
    intro μ a2 r h
    have h : pm_writeGear_L74_B (pm_writeGear_L74 n f1 K) f1 K μ a2 = some r := h
    unfold pm_writeGear_L74_B at h
    refine R_pure (pc := 74) (pc' := 75) (st' := [.int a2]) (show z_pt 254 74 = some (3, .iload_n 2, []) by decide +kernel) rfl (fun _ _ _ => rfl) ?_
    refine R_pure (pc := 75) (pc' := 76) (st' := [.ref 241, .int a2]) (show z_pt 254 75 = some (3, .aload_n 0, []) by decide +kernel) rfl (fun _ _ _ => rfl) ?_
    refine R_getR (pc := 76) (a := 241) (b := 242) (show z_pt 254 76 = some (3, .getfield 7, [10, 0, 6118]) by decide +kernel) (by decide +kernel) ?_
    refine R_at (pc := 79) ?_
    refine R_const (pc := 79) (pc' := 80) (v := 0) (show z_ptc 254 79 = some (80, 0) by decide +kernel) ?_
    refine R_ialdK (pc := 80) (a := 242) (n := 331) (jn := 0) (show z_pt 254 80 = some (3, .iaload, []) by decide +kernel) (show z_ar 242 0 331 = true by decide +kernel) (by decide) (by decide) ?_
    refine R_at (pc := 81) ?_
    refine R_icmge (pc := 81) (t := 126) (show z_pt 254 81 = some (3, .if_icmp .ge 45, []) by decide +kernel) (by decide) (fun c19 => ?_) (fun c19 => ?_)
    · rw [if_pos c19] at h
      exact hK _ _  _ h
    · rw [if_neg c19] at h
      refine R_pure (pc := 84) (pc' := 85) (st' := [.ref 241]) (show z_pt 254 84 = some (3, .aload_n 0, []) by decide +kernel) rfl (fun _ _ _ => rfl) ?_
      refine R_pure (pc := 85) (pc' := 86) (st' := [.int f1, .ref 241]) (show z_pt 254 85 = some (3, .iload_n 1, []) by decide +kernel) rfl (fun _ _ _ => rfl) ?_
      refine R_pure (pc := 86) (pc' := 87) (st' := [.int a2, .int f1, .ref 241]) (show z_pt 254 86 = some (3, .iload_n 2, []) by decide +kernel) rfl (fun _ _ _ => rfl) ?_
      obtain ⟨q20, e21, h⟩ := z_bs h
      refine R_call (pc := 87) (rr := []) (show z_pt 254 87 = some (3, .invokevirtual 67, [0, 173, 2, 6231, 6233, 44, 1012, 6234]) by decide +kernel) rfl (show z_r2 173 = some (10, 3, true) by decide +kernel) rfl rfl (Or.inr ⟨_, _, rfl, (by decide +kernel)⟩) (pm_isMesh_run  e21) (by omega) ?_
      refine R_at2 (pc := 90) (st := [.int q20]) ?_
      refine R_ifeq (pc := 90) (t := 120) (show z_pt 254 90 = some (3, .ifCond .eq 30, []) by decide +kernel) (by decide) (fun c22 => ?_) (fun c22 => ?_)
      · rw [if_pos c22] at h
        refine R_inc (pc := 120) (pc' := 123) (ls' := [(0, .ref 241), (1, .int f1), (2, .int (a2 + 1))]) (c := 1) (show z_pt 254 120 = some (3, .iinc 2 1, []) by decide +kernel) (by decide) rfl rfl ?_
        refine R_pure (pc := 123) (pc' := 74) (ls' := [(0, .ref 241), (1, .int f1), (2, .int (a2 + 1))]) (st' := []) (show z_pt 254 123 = some (3, .goto (-49), [3]) by decide +kernel) rfl (fun _ _ _ => rfl) ?_
        exact ih _ _ _  h
      · rw [if_neg c22] at h
        refine R_pure (pc := 93) (pc' := 94) (st' := [.ref 241]) (show z_pt 254 93 = some (3, .aload_n 0, []) by decide +kernel) rfl (fun _ _ _ => rfl) ?_
        refine R_const (pc := 94) (pc' := 96) (v := 45) (show z_ptc 254 94 = some (96, 45) by decide +kernel) ?_
        obtain ⟨q23, e24, h⟩ := z_bs h
        refine R_call (pc := 96) (rr := []) (show z_pt 254 96 = some (3, .invokevirtual 217, [0, 252, 1, 8069, 8071, 73, 1012, 8072]) by decide +kernel) rfl (show z_r2 252 = some (10, 2, true) by decide +kernel) rfl rfl (Or.inr ⟨_, _, rfl, (by decide +kernel)⟩) (pm_writes_run  e24) (by omega) ?_
        refine R_at2 (pc := 99) (st := []) ?_
        refine R_pure (pc := 99) (pc' := 100) (st' := [.ref 241]) (show z_pt 254 99 = some (3, .aload_n 0, []) by decide +kernel) rfl (fun _ _ _ => rfl) ?_
        refine R_pure (pc := 100) (pc' := 101) (st' := [.int a2, .ref 241]) (show z_pt 254 100 = some (3, .iload_n 2, []) by decide +kernel) rfl (fun _ _ _ => rfl) ?_
        obtain ⟨q25, e26, h⟩ := z_bs h
        refine R_call (pc := 101) (rr := []) (show z_pt 254 101 = some (3, .invokevirtual 220, [0, 253, 1, 8064, 8066, 72, 1012, 8067]) by decide +kernel) rfl (show z_r2 253 = some (10, 3, true) by decide +kernel) rfl rfl (Or.inr ⟨_, _, rfl, (by decide +kernel)⟩) (pm_writesNumber_run  e26) (by omega) ?_
        refine R_at2 (pc := 104) (st := []) ?_
        refine R_pure (pc := 104) (pc' := 105) (st' := [.ref 241]) (show z_pt 254 104 = some (3, .aload_n 0, []) by decide +kernel) rfl (fun _ _ _ => rfl) ?_
        refine R_const (pc := 105) (pc' := 107) (v := 47) (show z_ptc 254 105 = some (107, 47) by decide +kernel) ?_
        obtain ⟨q27, e28, h⟩ := z_bs h
        refine R_call (pc := 107) (rr := []) (show z_pt 254 107 = some (3, .invokevirtual 217, [0, 252, 1, 8069, 8071, 73, 1012, 8072]) by decide +kernel) rfl (show z_r2 252 = some (10, 2, true) by decide +kernel) rfl rfl (Or.inr ⟨_, _, rfl, (by decide +kernel)⟩) (pm_writes_run  e28) (by omega) ?_
        refine R_at2 (pc := 110) (st := []) ?_
        refine R_pure (pc := 110) (pc' := 111) (st' := [.ref 241]) (show z_pt 254 110 = some (3, .aload_n 0, []) by decide +kernel) rfl (fun _ _ _ => rfl) ?_
        refine R_pure (pc := 111) (pc' := 112) (st' := [.ref 241, .ref 241]) (show z_pt 254 111 = some (3, .aload_n 0, []) by decide +kernel) rfl (fun _ _ _ => rfl) ?_
        refine R_pure (pc := 112) (pc' := 113) (st' := [.int f1, .ref 241, .ref 241]) (show z_pt 254 112 = some (3, .iload_n 1, []) by decide +kernel) rfl (fun _ _ _ => rfl) ?_
        refine R_pure (pc := 113) (pc' := 114) (st' := [.int a2, .int f1, .ref 241, .ref 241]) (show z_pt 254 113 = some (3, .iload_n 2, []) by decide +kernel) rfl (fun _ _ _ => rfl) ?_
        obtain ⟨q29, e30, h⟩ := z_bs h
        refine R_call (pc := 114) (rr := [.ref 241]) (show z_pt 254 114 = some (3, .invokevirtual 105, [0, 175, 2, 7010, 7012, 47, 1012, 7013]) by decide +kernel) rfl (show z_r2 175 = some (10, 3, true) by decide +kernel) rfl rfl (Or.inr ⟨_, _, rfl, (by decide +kernel)⟩) (pm_gapOf_run  e30) (by omega) ?_
        refine R_at2 (pc := 117) (st := [.int q29, .ref 241]) ?_
        obtain ⟨q31, e32, h⟩ := z_bs h
        refine R_call (pc := 117) (rr := []) (show z_pt 254 117 = some (3, .invokevirtual 220, [0, 253, 1, 8064, 8066, 72, 1012, 8067]) by decide +kernel) rfl (show z_r2 253 = some (10, 3, true) by decide +kernel) rfl rfl (Or.inr ⟨_, _, rfl, (by decide +kernel)⟩) (pm_writesNumber_run  e32) (by omega) ?_
        refine R_at2 (pc := 120) (st := []) ?_
        refine R_inc (pc := 120) (pc' := 123) (ls' := [(0, .ref 241), (1, .int f1), (2, .int (a2 + 1))]) (c := 1) (show z_pt 254 120 = some (3, .iinc 2 1, []) by decide +kernel) (by decide) rfl rfl ?_
        refine R_pure (pc := 123) (pc' := 74) (ls' := [(0, .ref 241), (1, .int f1), (2, .int (a2 + 1))]) (st' := []) (show z_pt 254 123 = some (3, .goto (-49), [3]) by decide +kernel) rfl (fun _ _ _ => rfl) ?_
        exact ih _ _ _  h
def pm_writeGear  (μ : z_Mem) (i1 : Int32) : Option (Int32 × z_Mem) := (pm_isGear μ i1).bind fun q1 => if q1 = 0 then (pm_fails μ 1).bind fun q49 => some (q49.1, q49.2) else (z_rd (z_u μ 241 11 0) 242 331 (7 + i1)).bind fun v4 => (pm_writesNumber (z_u μ 241 11 0) v4).bind fun q6 => (pm_writes q6 64).bind fun q8 => (z_rd q8 242 331 (17 + i1)).bind fun v10 => if 0 ≤ v10 then (z_rd q8 242 331 (17 + i1)).bind fun v13 => (pm_size q8 v13).bind fun q15 => (pm_writesNumber q8 q15).bind fun q17 => pm_writeGear_L74 z_fu i1 (fun M34 k33 => (pm_done M34 (M34 241 11)).bind fun q35 => some (q35.1, q35.2)) q17 0 else (pm_writes q8 45).bind fun q37 => (z_rd q37 242 331 (17 + i1)).bind fun v39 => (pm_size q37 v39).bind fun q41 => (pm_writesNumber q37 q41).bind fun q43 => pm_writeGear_L74 z_fu i1 (fun M46 k45 => (pm_done M46 (M46 241 11)).bind fun q47 => some (q47.1, q47.2)) q43 0
theorem pm_writeGear_run  {μ : z_Mem} {i1 : Int32}  {r : (Int32 × z_Mem)} (h : pm_writeGear μ i1 = some r) : Rn 2 254 0 [(0, .ref 241), (1, .int i1)] [] μ (.inl (some (.int r.1))) r.2 := by
  unfold pm_writeGear at h
  refine R_pure (pc := 0) (pc' := 1) (st' := [.ref 241]) (show z_pt 254 0 = some (3, .aload_n 0, []) by decide +kernel) rfl (fun _ _ _ => rfl) ?_
  refine R_pure (pc := 1) (pc' := 2) (st' := [.int i1, .ref 241]) (show z_pt 254 1 = some (3, .iload_n 1, []) by decide +kernel) rfl (fun _ _ _ => rfl) ?_
  obtain ⟨q1, e2, h⟩ := z_bs h
  refine R_call (pc := 2) (rr := []) (show z_pt 254 2 = some (3, .invokevirtual 59, [0, 169, 1, 6219, 6221, 41, 1012, 6222]) by decide +kernel) rfl (show z_r2 169 = some (10, 2, true) by decide +kernel) rfl rfl (Or.inr ⟨_, _, rfl, (by decide +kernel)⟩) (pm_isGear_run  e2) (by omega) ?_
  refine R_at2 (pc := 5) (st := [.int q1]) ?_
  refine R_ifne (pc := 5) (t := 14) (show z_pt 254 5 = some (3, .ifCond .ne 9, []) by decide +kernel) (by decide) (fun c3 => ?_) (fun c3 => ?_)
  · rw [if_neg c3] at h
    refine R_pure (pc := 14) (pc' := 15) (st' := [.ref 241]) (show z_pt 254 14 = some (3, .aload_n 0, []) by decide +kernel) rfl (fun _ _ _ => rfl) ?_
    refine R_const (pc := 15) (pc' := 16) (v := 0) (show z_ptc 254 15 = some (16, 0) by decide +kernel) ?_
    refine R_putI (pc := 16) (a := 241) (show z_pt 254 16 = some (3, .putfield 213, [10, 11, 6129]) by decide +kernel) (by decide +kernel) ⟨rfl, rfl⟩ ?_
    refine R_at (pc := 19) ?_
    refine R_pure (pc := 19) (pc' := 20) (st' := [.ref 241]) (show z_pt 254 19 = some (3, .aload_n 0, []) by decide +kernel) rfl (fun _ _ _ => rfl) ?_
    refine R_pure (pc := 20) (pc' := 21) (st' := [.ref 241, .ref 241]) (show z_pt 254 20 = some (3, .aload_n 0, []) by decide +kernel) rfl (fun _ _ _ => rfl) ?_
    refine R_getR (pc := 21) (a := 241) (b := 242) (show z_pt 254 21 = some (3, .getfield 7, [10, 0, 6118]) by decide +kernel) (by decide +kernel) ?_
    refine R_at (pc := 24) ?_
    refine R_const (pc := 24) (pc' := 26) (v := 7) (show z_ptc 254 24 = some (26, 7) by decide +kernel) ?_
    refine R_pure (pc := 26) (pc' := 27) (st' := [.int i1, .int 7, .ref 242, .ref 241]) (show z_pt 254 26 = some (3, .iload_n 1, []) by decide +kernel) rfl (fun _ _ _ => rfl) ?_
    refine R_pure (pc := 27) (pc' := 28) (st' := [.int (7 + i1), .ref 242, .ref 241]) (show z_pt 254 27 = some (3, .iadd, []) by decide +kernel) rfl (fun _ _ _ => rfl) ?_
    obtain ⟨v4, e5, h⟩ := z_bs h
    refine R_ialdR (pc := 28) (a := 242) (n := 331) (show z_pt 254 28 = some (3, .iaload, []) by decide +kernel) (show z_ar 242 0 331 = true by decide +kernel) e5 ?_
    refine R_at (pc := 29) ?_
    obtain ⟨q6, e7, h⟩ := z_bs h
    refine R_call (pc := 29) (rr := []) (show z_pt 254 29 = some (3, .invokevirtual 220, [0, 253, 1, 8064, 8066, 72, 1012, 8067]) by decide +kernel) rfl (show z_r2 253 = some (10, 3, true) by decide +kernel) rfl rfl (Or.inr ⟨_, _, rfl, (by decide +kernel)⟩) (pm_writesNumber_run  e7) (by omega) ?_
    refine R_at2 (pc := 32) (st := []) ?_
    refine R_pure (pc := 32) (pc' := 33) (st' := [.ref 241]) (show z_pt 254 32 = some (3, .aload_n 0, []) by decide +kernel) rfl (fun _ _ _ => rfl) ?_
    refine R_const (pc := 33) (pc' := 35) (v := 64) (show z_ptc 254 33 = some (35, 64) by decide +kernel) ?_
    obtain ⟨q8, e9, h⟩ := z_bs h
    refine R_call (pc := 35) (rr := []) (show z_pt 254 35 = some (3, .invokevirtual 217, [0, 252, 1, 8069, 8071, 73, 1012, 8072]) by decide +kernel) rfl (show z_r2 252 = some (10, 2, true) by decide +kernel) rfl rfl (Or.inr ⟨_, _, rfl, (by decide +kernel)⟩) (pm_writes_run  e9) (by omega) ?_
    refine R_at2 (pc := 38) (st := []) ?_
    refine R_pure (pc := 38) (pc' := 39) (st' := [.ref 241]) (show z_pt 254 38 = some (3, .aload_n 0, []) by decide +kernel) rfl (fun _ _ _ => rfl) ?_
    refine R_getR (pc := 39) (a := 241) (b := 242) (show z_pt 254 39 = some (3, .getfield 7, [10, 0, 6118]) by decide +kernel) (by decide +kernel) ?_
    refine R_at (pc := 42) ?_
    refine R_const (pc := 42) (pc' := 44) (v := 17) (show z_ptc 254 42 = some (44, 17) by decide +kernel) ?_
    refine R_pure (pc := 44) (pc' := 45) (st' := [.int i1, .int 17, .ref 242]) (show z_pt 254 44 = some (3, .iload_n 1, []) by decide +kernel) rfl (fun _ _ _ => rfl) ?_
    refine R_pure (pc := 45) (pc' := 46) (st' := [.int (17 + i1), .ref 242]) (show z_pt 254 45 = some (3, .iadd, []) by decide +kernel) rfl (fun _ _ _ => rfl) ?_
    obtain ⟨v10, e11, h⟩ := z_bs h
    refine R_ialdR (pc := 46) (a := 242) (n := 331) (show z_pt 254 46 = some (3, .iaload, []) by decide +kernel) (show z_ar 242 0 331 = true by decide +kernel) e11 ?_
    refine R_at (pc := 47) ?_
    refine R_ifge (pc := 47) (t := 56) (show z_pt 254 47 = some (3, .ifCond .ge 9, []) by decide +kernel) (by decide) (fun c12 => ?_) (fun c12 => ?_)
    · rw [if_pos c12] at h
      refine R_pure (pc := 56) (pc' := 57) (st' := [.ref 241]) (show z_pt 254 56 = some (3, .aload_n 0, []) by decide +kernel) rfl (fun _ _ _ => rfl) ?_
      refine R_pure (pc := 57) (pc' := 58) (st' := [.ref 241, .ref 241]) (show z_pt 254 57 = some (3, .aload_n 0, []) by decide +kernel) rfl (fun _ _ _ => rfl) ?_
      refine R_getR (pc := 58) (a := 241) (b := 242) (show z_pt 254 58 = some (3, .getfield 7, [10, 0, 6118]) by decide +kernel) (by decide +kernel) ?_
      refine R_at (pc := 61) ?_
      refine R_const (pc := 61) (pc' := 63) (v := 17) (show z_ptc 254 61 = some (63, 17) by decide +kernel) ?_
      refine R_pure (pc := 63) (pc' := 64) (st' := [.int i1, .int 17, .ref 242, .ref 241]) (show z_pt 254 63 = some (3, .iload_n 1, []) by decide +kernel) rfl (fun _ _ _ => rfl) ?_
      refine R_pure (pc := 64) (pc' := 65) (st' := [.int (17 + i1), .ref 242, .ref 241]) (show z_pt 254 64 = some (3, .iadd, []) by decide +kernel) rfl (fun _ _ _ => rfl) ?_
      obtain ⟨v13, e14, h⟩ := z_bs h
      refine R_ialdR (pc := 65) (a := 242) (n := 331) (show z_pt 254 65 = some (3, .iaload, []) by decide +kernel) (show z_ar 242 0 331 = true by decide +kernel) e14 ?_
      refine R_at (pc := 66) ?_
      obtain ⟨q15, e16, h⟩ := z_bs h
      refine R_call (pc := 66) (rr := [.ref 241]) (show z_pt 254 66 = some (3, .invokestatic 117, [1, 161, 1, 7026, 7027, 0, 1012, 7028]) by decide +kernel) rfl (show z_r2 161 = some (10, 1, true) by decide +kernel) rfl rfl (Or.inl (by decide)) (pm_size_run  e16) (by omega) ?_
      refine R_at2 (pc := 69) (st := [.int q15, .ref 241]) ?_
      obtain ⟨q17, e18, h⟩ := z_bs h
      refine R_call (pc := 69) (rr := []) (show z_pt 254 69 = some (3, .invokevirtual 220, [0, 253, 1, 8064, 8066, 72, 1012, 8067]) by decide +kernel) rfl (show z_r2 253 = some (10, 3, true) by decide +kernel) rfl rfl (Or.inr ⟨_, _, rfl, (by decide +kernel)⟩) (pm_writesNumber_run  e18) (by omega) ?_
      refine R_at2 (pc := 72) (st := []) ?_
      refine R_const (pc := 72) (pc' := 73) (v := 0) (show z_ptc 254 72 = some (73, 0) by decide +kernel) ?_
      refine R_pure (pc := 73) (pc' := 74) (ls' := [(0, .ref 241), (1, .int i1), (2, .int 0)]) (st' := []) (show z_pt 254 73 = some (3, .istore_n 2, []) by decide +kernel) rfl (fun _ _ _ => rfl) ?_
      refine pm_writeGear_L74_run  _ _  _ (by omega) ?_ _ _ _ _ h
      intro M34 k33 r h
      refine R_pure (pc := 126) (pc' := 127) (st' := [.ref 241]) (show z_pt 254 126 = some (3, .aload_n 0, []) by decide +kernel) rfl (fun _ _ _ => rfl) ?_
      refine R_pure (pc := 127) (pc' := 128) (st' := [.ref 241, .ref 241]) (show z_pt 254 127 = some (3, .aload_n 0, []) by decide +kernel) rfl (fun _ _ _ => rfl) ?_
      refine R_getI (pc := 128) (a := 241) (show z_pt 254 128 = some (3, .getfield 213, [10, 11, 6129]) by decide +kernel) (by decide +kernel) ?_
      refine R_at (pc := 131) ?_
      obtain ⟨q35, e36, h⟩ := z_bs h
      refine R_call (pc := 131) (rr := []) (show z_pt 254 131 = some (3, .invokevirtual 79, [0, 164, 1, 6199, 6201, 37, 1012, 6202]) by decide +kernel) rfl (show z_r2 164 = some (10, 2, true) by decide +kernel) rfl rfl (Or.inr ⟨_, _, rfl, (by decide +kernel)⟩) (pm_done_run  e36) (by omega) ?_
      refine R_at2 (pc := 134) (st := [.int q35.1]) ?_
      cases h
      exact R_retI (show z_pt 254 134 = some (3, .ireturn, []) by decide +kernel) (by decide +kernel)
    · rw [if_neg c12] at h
      refine R_pure (pc := 50) (pc' := 51) (st' := [.ref 241]) (show z_pt 254 50 = some (3, .aload_n 0, []) by decide +kernel) rfl (fun _ _ _ => rfl) ?_
      refine R_const (pc := 51) (pc' := 53) (v := 45) (show z_ptc 254 51 = some (53, 45) by decide +kernel) ?_
      obtain ⟨q37, e38, h⟩ := z_bs h
      refine R_call (pc := 53) (rr := []) (show z_pt 254 53 = some (3, .invokevirtual 217, [0, 252, 1, 8069, 8071, 73, 1012, 8072]) by decide +kernel) rfl (show z_r2 252 = some (10, 2, true) by decide +kernel) rfl rfl (Or.inr ⟨_, _, rfl, (by decide +kernel)⟩) (pm_writes_run  e38) (by omega) ?_
      refine R_at2 (pc := 56) (st := []) ?_
      refine R_pure (pc := 56) (pc' := 57) (st' := [.ref 241]) (show z_pt 254 56 = some (3, .aload_n 0, []) by decide +kernel) rfl (fun _ _ _ => rfl) ?_
      refine R_pure (pc := 57) (pc' := 58) (st' := [.ref 241, .ref 241]) (show z_pt 254 57 = some (3, .aload_n 0, []) by decide +kernel) rfl (fun _ _ _ => rfl) ?_
      refine R_getR (pc := 58) (a := 241) (b := 242) (show z_pt 254 58 = some (3, .getfield 7, [10, 0, 6118]) by decide +kernel) (by decide +kernel) ?_
      refine R_at (pc := 61) ?_
      refine R_const (pc := 61) (pc' := 63) (v := 17) (show z_ptc 254 61 = some (63, 17) by decide +kernel) ?_
      refine R_pure (pc := 63) (pc' := 64) (st' := [.int i1, .int 17, .ref 242, .ref 241]) (show z_pt 254 63 = some (3, .iload_n 1, []) by decide +kernel) rfl (fun _ _ _ => rfl) ?_
      refine R_pure (pc := 64) (pc' := 65) (st' := [.int (17 + i1), .ref 242, .ref 241]) (show z_pt 254 64 = some (3, .iadd, []) by decide +kernel) rfl (fun _ _ _ => rfl) ?_
      obtain ⟨v39, e40, h⟩ := z_bs h
      refine R_ialdR (pc := 65) (a := 242) (n := 331) (show z_pt 254 65 = some (3, .iaload, []) by decide +kernel) (show z_ar 242 0 331 = true by decide +kernel) e40 ?_
      refine R_at (pc := 66) ?_
      obtain ⟨q41, e42, h⟩ := z_bs h
      refine R_call (pc := 66) (rr := [.ref 241]) (show z_pt 254 66 = some (3, .invokestatic 117, [1, 161, 1, 7026, 7027, 0, 1012, 7028]) by decide +kernel) rfl (show z_r2 161 = some (10, 1, true) by decide +kernel) rfl rfl (Or.inl (by decide)) (pm_size_run  e42) (by omega) ?_
      refine R_at2 (pc := 69) (st := [.int q41, .ref 241]) ?_
      obtain ⟨q43, e44, h⟩ := z_bs h
      refine R_call (pc := 69) (rr := []) (show z_pt 254 69 = some (3, .invokevirtual 220, [0, 253, 1, 8064, 8066, 72, 1012, 8067]) by decide +kernel) rfl (show z_r2 253 = some (10, 3, true) by decide +kernel) rfl rfl (Or.inr ⟨_, _, rfl, (by decide +kernel)⟩) (pm_writesNumber_run  e44) (by omega) ?_
      refine R_at2 (pc := 72) (st := []) ?_
      refine R_const (pc := 72) (pc' := 73) (v := 0) (show z_ptc 254 72 = some (73, 0) by decide +kernel) ?_
      refine R_pure (pc := 73) (pc' := 74) (ls' := [(0, .ref 241), (1, .int i1), (2, .int 0)]) (st' := []) (show z_pt 254 73 = some (3, .istore_n 2, []) by decide +kernel) rfl (fun _ _ _ => rfl) ?_
      refine pm_writeGear_L74_run  _ _  _ (by omega) ?_ _ _ _ _ h
      intro M46 k45 r h
      refine R_pure (pc := 126) (pc' := 127) (st' := [.ref 241]) (show z_pt 254 126 = some (3, .aload_n 0, []) by decide +kernel) rfl (fun _ _ _ => rfl) ?_
      refine R_pure (pc := 127) (pc' := 128) (st' := [.ref 241, .ref 241]) (show z_pt 254 127 = some (3, .aload_n 0, []) by decide +kernel) rfl (fun _ _ _ => rfl) ?_
      refine R_getI (pc := 128) (a := 241) (show z_pt 254 128 = some (3, .getfield 213, [10, 11, 6129]) by decide +kernel) (by decide +kernel) ?_
      refine R_at (pc := 131) ?_
      obtain ⟨q47, e48, h⟩ := z_bs h
      refine R_call (pc := 131) (rr := []) (show z_pt 254 131 = some (3, .invokevirtual 79, [0, 164, 1, 6199, 6201, 37, 1012, 6202]) by decide +kernel) rfl (show z_r2 164 = some (10, 2, true) by decide +kernel) rfl rfl (Or.inr ⟨_, _, rfl, (by decide +kernel)⟩) (pm_done_run  e48) (by omega) ?_
      refine R_at2 (pc := 134) (st := [.int q47.1]) ?_
      cases h
      exact R_retI (show z_pt 254 134 = some (3, .ireturn, []) by decide +kernel) (by decide +kernel)
  · rw [if_pos c3] at h
    refine R_pure (pc := 8) (pc' := 9) (st' := [.ref 241]) (show z_pt 254 8 = some (3, .aload_n 0, []) by decide +kernel) rfl (fun _ _ _ => rfl) ?_
    refine R_const (pc := 9) (pc' := 10) (v := 1) (show z_ptc 254 9 = some (10, 1) by decide +kernel) ?_
    obtain ⟨q49, e50, h⟩ := z_bs h
    refine R_call (pc := 10) (rr := []) (show z_pt 254 10 = some (3, .invokevirtual 75, [0, 165, 1, 6195, 6197, 36, 1012, 6198]) by decide +kernel) rfl (show z_r2 165 = some (10, 2, true) by decide +kernel) rfl rfl (Or.inr ⟨_, _, rfl, (by decide +kernel)⟩) (pm_fails_run  e50) (by omega) ?_
    refine R_at2 (pc := 13) (st := [.int q49.1]) ?_
    cases h
    exact R_retI (show z_pt 254 13 = some (3, .ireturn, []) by decide +kernel) (by decide +kernel)
def pm_outputCharacter  (μ : z_Mem) (i1 : Int32) : Option (Int32 × z_Mem) := (pm_in μ i1 0 ((μ 241 11) - 1)).bind fun q1 => if q1 = 0 then if ((z_u μ 241 12 1) 241 12) = 0 then (z_rd (z_u μ 241 12 1) 247 100 i1).bind fun v5 => if vp_nar .char v5 = v5 then some (v5, (z_u μ 241 12 1)) else none else some (0, (z_u μ 241 12 1)) else if ((z_u μ 241 12 0) 241 12) = 0 then (z_rd (z_u μ 241 12 0) 247 100 i1).bind fun v9 => if vp_nar .char v9 = v9 then some (v9, (z_u μ 241 12 0)) else none else some (0, (z_u μ 241 12 0))
theorem pm_outputCharacter_run  {μ : z_Mem} {i1 : Int32}  {r : (Int32 × z_Mem)} (h : pm_outputCharacter μ i1 = some r) : Rn 1 255 0 [(0, .ref 241), (1, .int i1)] [] μ (.inl (some (.int r.1))) r.2 := by
  unfold pm_outputCharacter at h
  refine R_pure (pc := 0) (pc' := 1) (st' := [.ref 241]) (show z_pt 255 0 = some (2, .aload_n 0, []) by decide +kernel) rfl (fun _ _ _ => rfl) ?_
  refine R_pure (pc := 1) (pc' := 2) (st' := [.int i1, .ref 241]) (show z_pt 255 1 = some (2, .iload_n 1, []) by decide +kernel) rfl (fun _ _ _ => rfl) ?_
  refine R_const (pc := 2) (pc' := 3) (v := 0) (show z_ptc 255 2 = some (3, 0) by decide +kernel) ?_
  refine R_pure (pc := 3) (pc' := 4) (st' := [.ref 241, .int 0, .int i1, .ref 241]) (show z_pt 255 3 = some (2, .aload_n 0, []) by decide +kernel) rfl (fun _ _ _ => rfl) ?_
  refine R_getI (pc := 4) (a := 241) (show z_pt 255 4 = some (2, .getfield 213, [10, 11, 6129]) by decide +kernel) (by decide +kernel) ?_
  refine R_at (pc := 7) ?_
  refine R_const (pc := 7) (pc' := 8) (v := 1) (show z_ptc 255 7 = some (8, 1) by decide +kernel) ?_
  refine R_pure (pc := 8) (pc' := 9) (st' := [.int ((μ 241 11) - 1), .int 0, .int i1, .ref 241]) (show z_pt 255 8 = some (2, .isub, []) by decide +kernel) rfl (fun _ _ _ => rfl) ?_
  obtain ⟨q1, e2, h⟩ := z_bs h
  refine R_call (pc := 9) (rr := [.ref 241]) (show z_pt 255 9 = some (2, .invokestatic 55, [1, 160, 3, 6192, 6193, 0, 1012, 6194]) by decide +kernel) rfl (show z_r2 160 = some (10, 3, true) by decide +kernel) rfl rfl (Or.inl (by decide)) (pm_in_run  e2) (by omega) ?_
  refine R_at2 (pc := 12) (st := [.int q1, .ref 241]) ?_
  refine R_ifeq (pc := 12) (t := 19) (show z_pt 255 12 = some (2, .ifCond .eq 7, []) by decide +kernel) (by decide) (fun c3 => ?_) (fun c3 => ?_)
  · rw [if_pos c3] at h
    refine R_const (pc := 19) (pc' := 20) (v := 1) (show z_ptc 255 19 = some (20, 1) by decide +kernel) ?_
    refine R_putI (pc := 20) (a := 241) (show z_pt 255 20 = some (2, .putfield 45, [10, 12, 6130]) by decide +kernel) (by decide +kernel) ⟨rfl, rfl⟩ ?_
    refine R_at (pc := 23) ?_
    refine R_pure (pc := 23) (pc' := 24) (st' := [.ref 241]) (show z_pt 255 23 = some (2, .aload_n 0, []) by decide +kernel) rfl (fun _ _ _ => rfl) ?_
    refine R_getI (pc := 24) (a := 241) (show z_pt 255 24 = some (2, .getfield 45, [10, 12, 6130]) by decide +kernel) (by decide +kernel) ?_
    refine R_at (pc := 27) ?_
    refine R_ifne (pc := 27) (t := 39) (show z_pt 255 27 = some (2, .ifCond .ne 12, []) by decide +kernel) (by decide) (fun c4 => ?_) (fun c4 => ?_)
    · rw [if_neg c4] at h
      refine R_const (pc := 39) (pc' := 40) (v := 0) (show z_ptc 255 39 = some (40, 0) by decide +kernel) ?_
      cases h
      exact R_retZ (show z_pt 255 40 = some (2, .ireturn, []) by decide +kernel) (t := .char) (by decide +kernel) (by decide)
    · rw [if_pos c4] at h
      refine R_pure (pc := 30) (pc' := 31) (st' := [.ref 241]) (show z_pt 255 30 = some (2, .aload_n 0, []) by decide +kernel) rfl (fun _ _ _ => rfl) ?_
      refine R_getR (pc := 31) (a := 241) (b := 247) (show z_pt 255 31 = some (2, .getfield 33, [10, 10, 6128]) by decide +kernel) (by decide +kernel) ?_
      refine R_at (pc := 34) ?_
      refine R_pure (pc := 34) (pc' := 35) (st' := [.int i1, .ref 247]) (show z_pt 255 34 = some (2, .iload_n 1, []) by decide +kernel) rfl (fun _ _ _ => rfl) ?_
      obtain ⟨v5, e6, h⟩ := z_bs h
      refine R_caldR (pc := 35) (a := 247) (n := 100) (show z_pt 255 35 = some (2, .caload, []) by decide +kernel) (show z_ar 247 1 100 = true by decide +kernel) e6 ?_
      refine R_at (pc := 36) ?_
      refine R_pure (pc := 36) (pc' := 40) (show z_pt 255 36 = some (2, .goto 4, []) by decide +kernel) rfl (fun _ _ _ => rfl) ?_
      obtain ⟨g7, h⟩ := z_ig h
      cases h
      exact R_retZ (show z_pt 255 40 = some (2, .ireturn, []) by decide +kernel) (t := .char) (by decide +kernel) (z_nrC g7)
  · rw [if_neg c3] at h
    refine R_const (pc := 15) (pc' := 16) (v := 0) (show z_ptc 255 15 = some (16, 0) by decide +kernel) ?_
    refine R_pure (pc := 16) (pc' := 20) (show z_pt 255 16 = some (2, .goto 4, []) by decide +kernel) rfl (fun _ _ _ => rfl) ?_
    refine R_putI (pc := 20) (a := 241) (show z_pt 255 20 = some (2, .putfield 45, [10, 12, 6130]) by decide +kernel) (by decide +kernel) ⟨rfl, rfl⟩ ?_
    refine R_at (pc := 23) ?_
    refine R_pure (pc := 23) (pc' := 24) (st' := [.ref 241]) (show z_pt 255 23 = some (2, .aload_n 0, []) by decide +kernel) rfl (fun _ _ _ => rfl) ?_
    refine R_getI (pc := 24) (a := 241) (show z_pt 255 24 = some (2, .getfield 45, [10, 12, 6130]) by decide +kernel) (by decide +kernel) ?_
    refine R_at (pc := 27) ?_
    refine R_ifne (pc := 27) (t := 39) (show z_pt 255 27 = some (2, .ifCond .ne 12, []) by decide +kernel) (by decide) (fun c8 => ?_) (fun c8 => ?_)
    · rw [if_neg c8] at h
      refine R_const (pc := 39) (pc' := 40) (v := 0) (show z_ptc 255 39 = some (40, 0) by decide +kernel) ?_
      cases h
      exact R_retZ (show z_pt 255 40 = some (2, .ireturn, []) by decide +kernel) (t := .char) (by decide +kernel) (by decide)
    · rw [if_pos c8] at h
      refine R_pure (pc := 30) (pc' := 31) (st' := [.ref 241]) (show z_pt 255 30 = some (2, .aload_n 0, []) by decide +kernel) rfl (fun _ _ _ => rfl) ?_
      refine R_getR (pc := 31) (a := 241) (b := 247) (show z_pt 255 31 = some (2, .getfield 33, [10, 10, 6128]) by decide +kernel) (by decide +kernel) ?_
      refine R_at (pc := 34) ?_
      refine R_pure (pc := 34) (pc' := 35) (st' := [.int i1, .ref 247]) (show z_pt 255 34 = some (2, .iload_n 1, []) by decide +kernel) rfl (fun _ _ _ => rfl) ?_
      obtain ⟨v9, e10, h⟩ := z_bs h
      refine R_caldR (pc := 35) (a := 247) (n := 100) (show z_pt 255 35 = some (2, .caload, []) by decide +kernel) (show z_ar 247 1 100 = true by decide +kernel) e10 ?_
      refine R_at (pc := 36) ?_
      refine R_pure (pc := 36) (pc' := 40) (show z_pt 255 36 = some (2, .goto 4, []) by decide +kernel) rfl (fun _ _ _ => rfl) ?_
      obtain ⟨g11, h⟩ := z_ig h
      cases h
      exact R_retZ (show z_pt 255 40 = some (2, .ireturn, []) by decide +kernel) (t := .char) (by decide +kernel) (z_nrC g11)
def pm_isConsistent  (μ : z_Mem)  : Option (Int32 × z_Mem) := some (1, (z_u μ 241 12 0))
theorem pm_isConsistent_run  {μ : z_Mem}   {r : (Int32 × z_Mem)} (h : pm_isConsistent μ = some r) : Rn 0 256 0 [(0, .ref 241)] [] μ (.inl (some (.int r.1))) r.2 := by
  unfold pm_isConsistent at h
  refine R_pure (pc := 0) (pc' := 1) (st' := [.ref 241]) (show z_pt 256 0 = some (1, .aload_n 0, []) by decide +kernel) rfl (fun _ _ _ => rfl) ?_
  refine R_const (pc := 1) (pc' := 2) (v := 0) (show z_ptc 256 1 = some (2, 0) by decide +kernel) ?_
  refine R_putI (pc := 2) (a := 241) (show z_pt 256 2 = some (1, .putfield 45, [10, 12, 6130]) by decide +kernel) (by decide +kernel) ⟨rfl, rfl⟩ ?_
  refine R_at (pc := 5) ?_
  refine R_const (pc := 5) (pc' := 6) (v := 1) (show z_ptc 256 5 = some (6, 1) by decide +kernel) ?_
  cases h
  exact R_retZ (show z_pt 256 6 = some (1, .ireturn, []) by decide +kernel) (t := .boolean) (by decide +kernel) (by decide)
def pm_feed  (μ : z_Mem) (i1 : Int32) : Option (Int32 × z_Mem) := if (μ 241 7) = 60 then (pm_fails μ 1).bind fun q5 => some (q5.1, q5.2) else if z_inb (μ 241 7) 60 = true then (pm_done (z_u (z_u μ 246 (μ 241 7).toNatClampNeg (vp_nar .char i1)) 241 7 (((z_u μ 246 (μ 241 7).toNatClampNeg (vp_nar .char i1)) 241 7) + 1)) ((z_u (z_u μ 246 (μ 241 7).toNatClampNeg (vp_nar .char i1)) 241 7 (((z_u μ 246 (μ 241 7).toNatClampNeg (vp_nar .char i1)) 241 7) + 1)) 241 7)).bind fun q3 => some (q3.1, q3.2) else none
theorem pm_feed_run  {μ : z_Mem} {i1 : Int32}  {r : (Int32 × z_Mem)} (h : pm_feed μ i1 = some r) : Rn 1 257 0 [(0, .ref 241), (1, .int i1)] [] μ (.inl (some (.int r.1))) r.2 := by
  unfold pm_feed at h
  refine R_pure (pc := 0) (pc' := 1) (st' := [.ref 241]) (show z_pt 257 0 = some (2, .aload_n 0, []) by decide +kernel) rfl (fun _ _ _ => rfl) ?_
  refine R_getI (pc := 1) (a := 241) (show z_pt 257 1 = some (2, .getfield 223, [10, 7, 6125]) by decide +kernel) (by decide +kernel) ?_
  refine R_at (pc := 4) ?_
  refine R_const (pc := 4) (pc' := 6) (v := 60) (show z_ptc 257 4 = some (6, 60) by decide +kernel) ?_
  refine R_icmne (pc := 6) (t := 15) (show z_pt 257 6 = some (2, .if_icmp .ne 9, []) by decide +kernel) (by decide) (fun c1 => ?_) (fun c1 => ?_)
  · rw [if_neg c1] at h
    refine R_pure (pc := 15) (pc' := 16) (st' := [.ref 241]) (show z_pt 257 15 = some (2, .aload_n 0, []) by decide +kernel) rfl (fun _ _ _ => rfl) ?_
    refine R_getR (pc := 16) (a := 241) (b := 246) (show z_pt 257 16 = some (2, .getfield 22, [10, 6, 6124]) by decide +kernel) (by decide +kernel) ?_
    refine R_at (pc := 19) ?_
    refine R_pure (pc := 19) (pc' := 20) (st' := [.ref 241, .ref 246]) (show z_pt 257 19 = some (2, .aload_n 0, []) by decide +kernel) rfl (fun _ _ _ => rfl) ?_
    refine R_getI (pc := 20) (a := 241) (show z_pt 257 20 = some (2, .getfield 223, [10, 7, 6125]) by decide +kernel) (by decide +kernel) ?_
    refine R_at (pc := 23) ?_
    refine R_pure (pc := 23) (pc' := 24) (st' := [.int i1, .int (μ 241 7), .ref 246]) (show z_pt 257 23 = some (2, .iload_n 1, []) by decide +kernel) rfl (fun _ _ _ => rfl) ?_
    obtain ⟨g2, h⟩ := z_ig h
    refine R_cast (pc := 24) (a := 246) (n := 60) (show z_pt 257 24 = some (2, .castore, []) by decide +kernel) (show z_ar 246 1 60 = true by decide +kernel) g2 ?_
    refine R_at (pc := 25) ?_
    refine R_pure (pc := 25) (pc' := 26) (st' := [.ref 241]) (show z_pt 257 25 = some (2, .aload_n 0, []) by decide +kernel) rfl (fun _ _ _ => rfl) ?_
    refine R_pure (pc := 26) (pc' := 27) (st' := [.ref 241, .ref 241]) (show z_pt 257 26 = some (2, .dup, []) by decide +kernel) rfl (fun _ _ _ => rfl) ?_
    refine R_getI (pc := 27) (a := 241) (show z_pt 257 27 = some (2, .getfield 223, [10, 7, 6125]) by decide +kernel) (by decide +kernel) ?_
    refine R_at (pc := 30) ?_
    refine R_const (pc := 30) (pc' := 31) (v := 1) (show z_ptc 257 30 = some (31, 1) by decide +kernel) ?_
    refine R_pure (pc := 31) (pc' := 32) (st' := [.int (((z_u μ 246 (μ 241 7).toNatClampNeg (vp_nar .char i1)) 241 7) + 1), .ref 241]) (show z_pt 257 31 = some (2, .iadd, []) by decide +kernel) rfl (fun _ _ _ => rfl) ?_
    refine R_putI (pc := 32) (a := 241) (show z_pt 257 32 = some (2, .putfield 223, [10, 7, 6125]) by decide +kernel) (by decide +kernel) ⟨rfl, rfl⟩ ?_
    refine R_at (pc := 35) ?_
    refine R_pure (pc := 35) (pc' := 36) (st' := [.ref 241]) (show z_pt 257 35 = some (2, .aload_n 0, []) by decide +kernel) rfl (fun _ _ _ => rfl) ?_
    refine R_pure (pc := 36) (pc' := 37) (st' := [.ref 241, .ref 241]) (show z_pt 257 36 = some (2, .aload_n 0, []) by decide +kernel) rfl (fun _ _ _ => rfl) ?_
    refine R_getI (pc := 37) (a := 241) (show z_pt 257 37 = some (2, .getfield 223, [10, 7, 6125]) by decide +kernel) (by decide +kernel) ?_
    refine R_at (pc := 40) ?_
    obtain ⟨q3, e4, h⟩ := z_bs h
    refine R_call (pc := 40) (rr := []) (show z_pt 257 40 = some (2, .invokevirtual 79, [0, 164, 1, 6199, 6201, 37, 1012, 6202]) by decide +kernel) rfl (show z_r2 164 = some (10, 2, true) by decide +kernel) rfl rfl (Or.inr ⟨_, _, rfl, (by decide +kernel)⟩) (pm_done_run  e4) (by omega) ?_
    refine R_at2 (pc := 43) (st := [.int q3.1]) ?_
    cases h
    exact R_retI (show z_pt 257 43 = some (2, .ireturn, []) by decide +kernel) (by decide +kernel)
  · rw [if_pos c1] at h
    refine R_pure (pc := 9) (pc' := 10) (st' := [.ref 241]) (show z_pt 257 9 = some (2, .aload_n 0, []) by decide +kernel) rfl (fun _ _ _ => rfl) ?_
    refine R_const (pc := 10) (pc' := 11) (v := 1) (show z_ptc 257 10 = some (11, 1) by decide +kernel) ?_
    obtain ⟨q5, e6, h⟩ := z_bs h
    refine R_call (pc := 11) (rr := []) (show z_pt 257 11 = some (2, .invokevirtual 75, [0, 165, 1, 6195, 6197, 36, 1012, 6198]) by decide +kernel) rfl (show z_r2 165 = some (10, 2, true) by decide +kernel) rfl rfl (Or.inr ⟨_, _, rfl, (by decide +kernel)⟩) (pm_fails_run  e6) (by omega) ?_
    refine R_at2 (pc := 14) (st := [.int q5.1]) ?_
    cases h
    exact R_retI (show z_pt 257 14 = some (2, .ireturn, []) by decide +kernel) (by decide +kernel)
def pm_here  (μ : z_Mem)  : Option Int32 := if (μ 241 7) ≤ (μ 241 15) then some (-1) else (z_rd μ 246 60 (μ 241 15)).bind fun v2 => some v2
theorem pm_here_run  {μ : z_Mem}   {r : Int32} (h : pm_here μ = some r) : Rn 0 258 0 [(0, .ref 241)] [] μ (.inl (some (.int r))) μ := by
  unfold pm_here at h
  refine R_pure (pc := 0) (pc' := 1) (st' := [.ref 241]) (show z_pt 258 0 = some (1, .aload_n 0, []) by decide +kernel) rfl (fun _ _ _ => rfl) ?_
  refine R_getI (pc := 1) (a := 241) (show z_pt 258 1 = some (1, .getfield 226, [10, 15, 6133]) by decide +kernel) (by decide +kernel) ?_
  refine R_at (pc := 4) ?_
  refine R_pure (pc := 4) (pc' := 5) (st' := [.ref 241, .int (μ 241 15)]) (show z_pt 258 4 = some (1, .aload_n 0, []) by decide +kernel) rfl (fun _ _ _ => rfl) ?_
  refine R_getI (pc := 5) (a := 241) (show z_pt 258 5 = some (1, .getfield 223, [10, 7, 6125]) by decide +kernel) (by decide +kernel) ?_
  refine R_at (pc := 8) ?_
  refine R_icmge (pc := 8) (t := 23) (show z_pt 258 8 = some (1, .if_icmp .ge 15, []) by decide +kernel) (by decide) (fun c1 => ?_) (fun c1 => ?_)
  · rw [if_pos c1] at h
    refine R_const (pc := 23) (pc' := 24) (v := (-1)) (show z_ptc 258 23 = some (24, (-1)) by decide +kernel) ?_
    cases h
    exact R_retI (show z_pt 258 24 = some (1, .ireturn, []) by decide +kernel) (by decide +kernel)
  · rw [if_neg c1] at h
    refine R_pure (pc := 11) (pc' := 12) (st' := [.ref 241]) (show z_pt 258 11 = some (1, .aload_n 0, []) by decide +kernel) rfl (fun _ _ _ => rfl) ?_
    refine R_getR (pc := 12) (a := 241) (b := 246) (show z_pt 258 12 = some (1, .getfield 22, [10, 6, 6124]) by decide +kernel) (by decide +kernel) ?_
    refine R_at (pc := 15) ?_
    refine R_pure (pc := 15) (pc' := 16) (st' := [.ref 241, .ref 246]) (show z_pt 258 15 = some (1, .aload_n 0, []) by decide +kernel) rfl (fun _ _ _ => rfl) ?_
    refine R_getI (pc := 16) (a := 241) (show z_pt 258 16 = some (1, .getfield 226, [10, 15, 6133]) by decide +kernel) (by decide +kernel) ?_
    refine R_at (pc := 19) ?_
    obtain ⟨v2, e3, h⟩ := z_bs h
    refine R_caldR (pc := 19) (a := 246) (n := 60) (show z_pt 258 19 = some (1, .caload, []) by decide +kernel) (show z_ar 246 1 60 = true by decide +kernel) e3 ?_
    refine R_at (pc := 20) ?_
    refine R_pure (pc := 20) (pc' := 24) (show z_pt 258 20 = some (1, .goto 4, []) by decide +kernel) rfl (fun _ _ _ => rfl) ?_
    cases h
    exact R_retI (show z_pt 258 24 = some (1, .ireturn, []) by decide +kernel) (by decide +kernel)
def pm_needs  (μ : z_Mem) (i1 : Int32) : Option z_Mem := if (μ 241 16) = 0 then (pm_here μ).bind fun q3 => if q3 = i1 then if ((z_u μ 241 16 0) 241 16) = 0 then some (z_u (z_u μ 241 16 0) 241 15 (((z_u μ 241 16 0) 241 15) + 1)) else some (z_u (z_u μ 241 16 0) 241 15 (((z_u μ 241 16 0) 241 15) + 0)) else if ((z_u μ 241 16 1) 241 16) = 0 then some (z_u (z_u μ 241 16 1) 241 15 (((z_u μ 241 16 1) 241 15) + 1)) else some (z_u (z_u μ 241 16 1) 241 15 (((z_u μ 241 16 1) 241 15) + 0)) else if ((z_u μ 241 16 1) 241 16) = 0 then some (z_u (z_u μ 241 16 1) 241 15 (((z_u μ 241 16 1) 241 15) + 1)) else some (z_u (z_u μ 241 16 1) 241 15 (((z_u μ 241 16 1) 241 15) + 0))
theorem pm_needs_run  {μ : z_Mem} {i1 : Int32}  {r : z_Mem} (h : pm_needs μ i1 = some r) : Rn 1 259 0 [(0, .ref 241), (1, .int i1)] [] μ (.inl none) r := by
  unfold pm_needs at h
  refine R_pure (pc := 0) (pc' := 1) (st' := [.ref 241]) (show z_pt 259 0 = some (2, .aload_n 0, []) by decide +kernel) rfl (fun _ _ _ => rfl) ?_
  refine R_pure (pc := 1) (pc' := 2) (st' := [.ref 241, .ref 241]) (show z_pt 259 1 = some (2, .aload_n 0, []) by decide +kernel) rfl (fun _ _ _ => rfl) ?_
  refine R_getI (pc := 2) (a := 241) (show z_pt 259 2 = some (2, .getfield 229, [10, 16, 6134]) by decide +kernel) (by decide +kernel) ?_
  refine R_at (pc := 5) ?_
  refine R_ifne (pc := 5) (t := 16) (show z_pt 259 5 = some (2, .ifCond .ne 11, []) by decide +kernel) (by decide) (fun c1 => ?_) (fun c1 => ?_)
  · rw [if_neg c1] at h
    refine R_const (pc := 16) (pc' := 17) (v := 1) (show z_ptc 259 16 = some (17, 1) by decide +kernel) ?_
    refine R_pure (pc := 17) (pc' := 21) (show z_pt 259 17 = some (2, .goto 4, []) by decide +kernel) rfl (fun _ _ _ => rfl) ?_
    refine R_putI (pc := 21) (a := 241) (show z_pt 259 21 = some (2, .putfield 229, [10, 16, 6134]) by decide +kernel) (by decide +kernel) (by decide) ?_
    refine R_at (pc := 24) ?_
    refine R_pure (pc := 24) (pc' := 25) (st' := [.ref 241]) (show z_pt 259 24 = some (2, .aload_n 0, []) by decide +kernel) rfl (fun _ _ _ => rfl) ?_
    refine R_pure (pc := 25) (pc' := 26) (st' := [.ref 241, .ref 241]) (show z_pt 259 25 = some (2, .dup, []) by decide +kernel) rfl (fun _ _ _ => rfl) ?_
    refine R_getI (pc := 26) (a := 241) (show z_pt 259 26 = some (2, .getfield 226, [10, 15, 6133]) by decide +kernel) (by decide +kernel) ?_
    refine R_at (pc := 29) ?_
    refine R_pure (pc := 29) (pc' := 30) (st' := [.ref 241, .int ((z_u μ 241 16 1) 241 15), .ref 241]) (show z_pt 259 29 = some (2, .aload_n 0, []) by decide +kernel) rfl (fun _ _ _ => rfl) ?_
    refine R_getI (pc := 30) (a := 241) (show z_pt 259 30 = some (2, .getfield 229, [10, 16, 6134]) by decide +kernel) (by decide +kernel) ?_
    refine R_at (pc := 33) ?_
    refine R_ifeq (pc := 33) (t := 40) (show z_pt 259 33 = some (2, .ifCond .eq 7, []) by decide +kernel) (by decide) (fun c2 => ?_) (fun c2 => ?_)
    · rw [if_pos c2] at h
      refine R_const (pc := 40) (pc' := 41) (v := 1) (show z_ptc 259 40 = some (41, 1) by decide +kernel) ?_
      refine R_pure (pc := 41) (pc' := 42) (st' := [.int (((z_u μ 241 16 1) 241 15) + 1), .ref 241]) (show z_pt 259 41 = some (2, .iadd, []) by decide +kernel) rfl (fun _ _ _ => rfl) ?_
      refine R_putI (pc := 42) (a := 241) (show z_pt 259 42 = some (2, .putfield 226, [10, 15, 6133]) by decide +kernel) (by decide +kernel) ⟨rfl, rfl⟩ ?_
      refine R_at (pc := 45) ?_
      cases h
      exact R_retV (show z_pt 259 45 = some (2, .return_, []) by decide +kernel) (by decide +kernel)
    · rw [if_neg c2] at h
      refine R_const (pc := 36) (pc' := 37) (v := 0) (show z_ptc 259 36 = some (37, 0) by decide +kernel) ?_
      refine R_pure (pc := 37) (pc' := 41) (show z_pt 259 37 = some (2, .goto 4, []) by decide +kernel) rfl (fun _ _ _ => rfl) ?_
      refine R_pure (pc := 41) (pc' := 42) (st' := [.int (((z_u μ 241 16 1) 241 15) + 0), .ref 241]) (show z_pt 259 41 = some (2, .iadd, []) by decide +kernel) rfl (fun _ _ _ => rfl) ?_
      refine R_putI (pc := 42) (a := 241) (show z_pt 259 42 = some (2, .putfield 226, [10, 15, 6133]) by decide +kernel) (by decide +kernel) ⟨rfl, rfl⟩ ?_
      refine R_at (pc := 45) ?_
      cases h
      exact R_retV (show z_pt 259 45 = some (2, .return_, []) by decide +kernel) (by decide +kernel)
  · rw [if_pos c1] at h
    refine R_pure (pc := 8) (pc' := 9) (st' := [.ref 241, .ref 241]) (show z_pt 259 8 = some (2, .aload_n 0, []) by decide +kernel) rfl (fun _ _ _ => rfl) ?_
    obtain ⟨q3, e4, h⟩ := z_bs h
    refine R_call (pc := 9) (rr := [.ref 241]) (show z_pt 259 9 = some (2, .invokevirtual 233, [0, 258, 0, 8093, 8095, 75, 1012, 8096]) by decide +kernel) rfl (show z_r2 258 = some (10, 1, true) by decide +kernel) rfl rfl (Or.inr ⟨_, _, rfl, (by decide +kernel)⟩) (pm_here_run  e4) (by omega) ?_
    refine R_at2 (pc := 12) (st := [.int q3, .ref 241]) ?_
    refine R_pure (pc := 12) (pc' := 13) (st' := [.int i1, .int q3, .ref 241]) (show z_pt 259 12 = some (2, .iload_n 1, []) by decide +kernel) rfl (fun _ _ _ => rfl) ?_
    refine R_icmeq (pc := 13) (t := 20) (show z_pt 259 13 = some (2, .if_icmp .eq 7, []) by decide +kernel) (by decide) (fun c5 => ?_) (fun c5 => ?_)
    · rw [if_pos c5] at h
      refine R_const (pc := 20) (pc' := 21) (v := 0) (show z_ptc 259 20 = some (21, 0) by decide +kernel) ?_
      refine R_putI (pc := 21) (a := 241) (show z_pt 259 21 = some (2, .putfield 229, [10, 16, 6134]) by decide +kernel) (by decide +kernel) (by decide) ?_
      refine R_at (pc := 24) ?_
      refine R_pure (pc := 24) (pc' := 25) (st' := [.ref 241]) (show z_pt 259 24 = some (2, .aload_n 0, []) by decide +kernel) rfl (fun _ _ _ => rfl) ?_
      refine R_pure (pc := 25) (pc' := 26) (st' := [.ref 241, .ref 241]) (show z_pt 259 25 = some (2, .dup, []) by decide +kernel) rfl (fun _ _ _ => rfl) ?_
      refine R_getI (pc := 26) (a := 241) (show z_pt 259 26 = some (2, .getfield 226, [10, 15, 6133]) by decide +kernel) (by decide +kernel) ?_
      refine R_at (pc := 29) ?_
      refine R_pure (pc := 29) (pc' := 30) (st' := [.ref 241, .int ((z_u μ 241 16 0) 241 15), .ref 241]) (show z_pt 259 29 = some (2, .aload_n 0, []) by decide +kernel) rfl (fun _ _ _ => rfl) ?_
      refine R_getI (pc := 30) (a := 241) (show z_pt 259 30 = some (2, .getfield 229, [10, 16, 6134]) by decide +kernel) (by decide +kernel) ?_
      refine R_at (pc := 33) ?_
      refine R_ifeq (pc := 33) (t := 40) (show z_pt 259 33 = some (2, .ifCond .eq 7, []) by decide +kernel) (by decide) (fun c6 => ?_) (fun c6 => ?_)
      · rw [if_pos c6] at h
        refine R_const (pc := 40) (pc' := 41) (v := 1) (show z_ptc 259 40 = some (41, 1) by decide +kernel) ?_
        refine R_pure (pc := 41) (pc' := 42) (st' := [.int (((z_u μ 241 16 0) 241 15) + 1), .ref 241]) (show z_pt 259 41 = some (2, .iadd, []) by decide +kernel) rfl (fun _ _ _ => rfl) ?_
        refine R_putI (pc := 42) (a := 241) (show z_pt 259 42 = some (2, .putfield 226, [10, 15, 6133]) by decide +kernel) (by decide +kernel) ⟨rfl, rfl⟩ ?_
        refine R_at (pc := 45) ?_
        cases h
        exact R_retV (show z_pt 259 45 = some (2, .return_, []) by decide +kernel) (by decide +kernel)
      · rw [if_neg c6] at h
        refine R_const (pc := 36) (pc' := 37) (v := 0) (show z_ptc 259 36 = some (37, 0) by decide +kernel) ?_
        refine R_pure (pc := 37) (pc' := 41) (show z_pt 259 37 = some (2, .goto 4, []) by decide +kernel) rfl (fun _ _ _ => rfl) ?_
        refine R_pure (pc := 41) (pc' := 42) (st' := [.int (((z_u μ 241 16 0) 241 15) + 0), .ref 241]) (show z_pt 259 41 = some (2, .iadd, []) by decide +kernel) rfl (fun _ _ _ => rfl) ?_
        refine R_putI (pc := 42) (a := 241) (show z_pt 259 42 = some (2, .putfield 226, [10, 15, 6133]) by decide +kernel) (by decide +kernel) ⟨rfl, rfl⟩ ?_
        refine R_at (pc := 45) ?_
        cases h
        exact R_retV (show z_pt 259 45 = some (2, .return_, []) by decide +kernel) (by decide +kernel)
    · rw [if_neg c5] at h
      refine R_const (pc := 16) (pc' := 17) (v := 1) (show z_ptc 259 16 = some (17, 1) by decide +kernel) ?_
      refine R_pure (pc := 17) (pc' := 21) (show z_pt 259 17 = some (2, .goto 4, []) by decide +kernel) rfl (fun _ _ _ => rfl) ?_
      refine R_putI (pc := 21) (a := 241) (show z_pt 259 21 = some (2, .putfield 229, [10, 16, 6134]) by decide +kernel) (by decide +kernel) (by decide) ?_
      refine R_at (pc := 24) ?_
      refine R_pure (pc := 24) (pc' := 25) (st' := [.ref 241]) (show z_pt 259 24 = some (2, .aload_n 0, []) by decide +kernel) rfl (fun _ _ _ => rfl) ?_
      refine R_pure (pc := 25) (pc' := 26) (st' := [.ref 241, .ref 241]) (show z_pt 259 25 = some (2, .dup, []) by decide +kernel) rfl (fun _ _ _ => rfl) ?_
      refine R_getI (pc := 26) (a := 241) (show z_pt 259 26 = some (2, .getfield 226, [10, 15, 6133]) by decide +kernel) (by decide +kernel) ?_
      refine R_at (pc := 29) ?_
      refine R_pure (pc := 29) (pc' := 30) (st' := [.ref 241, .int ((z_u μ 241 16 1) 241 15), .ref 241]) (show z_pt 259 29 = some (2, .aload_n 0, []) by decide +kernel) rfl (fun _ _ _ => rfl) ?_
      refine R_getI (pc := 30) (a := 241) (show z_pt 259 30 = some (2, .getfield 229, [10, 16, 6134]) by decide +kernel) (by decide +kernel) ?_
      refine R_at (pc := 33) ?_
      refine R_ifeq (pc := 33) (t := 40) (show z_pt 259 33 = some (2, .ifCond .eq 7, []) by decide +kernel) (by decide) (fun c7 => ?_) (fun c7 => ?_)
      · rw [if_pos c7] at h
        refine R_const (pc := 40) (pc' := 41) (v := 1) (show z_ptc 259 40 = some (41, 1) by decide +kernel) ?_
        refine R_pure (pc := 41) (pc' := 42) (st' := [.int (((z_u μ 241 16 1) 241 15) + 1), .ref 241]) (show z_pt 259 41 = some (2, .iadd, []) by decide +kernel) rfl (fun _ _ _ => rfl) ?_
        refine R_putI (pc := 42) (a := 241) (show z_pt 259 42 = some (2, .putfield 226, [10, 15, 6133]) by decide +kernel) (by decide +kernel) ⟨rfl, rfl⟩ ?_
        refine R_at (pc := 45) ?_
        cases h
        exact R_retV (show z_pt 259 45 = some (2, .return_, []) by decide +kernel) (by decide +kernel)
      · rw [if_neg c7] at h
        refine R_const (pc := 36) (pc' := 37) (v := 0) (show z_ptc 259 36 = some (37, 0) by decide +kernel) ?_
        refine R_pure (pc := 37) (pc' := 41) (show z_pt 259 37 = some (2, .goto 4, []) by decide +kernel) rfl (fun _ _ _ => rfl) ?_
        refine R_pure (pc := 41) (pc' := 42) (st' := [.int (((z_u μ 241 16 1) 241 15) + 0), .ref 241]) (show z_pt 259 41 = some (2, .iadd, []) by decide +kernel) rfl (fun _ _ _ => rfl) ?_
        refine R_putI (pc := 42) (a := 241) (show z_pt 259 42 = some (2, .putfield 226, [10, 15, 6133]) by decide +kernel) (by decide +kernel) ⟨rfl, rfl⟩ ?_
        refine R_at (pc := 45) ?_
        cases h
        exact R_retV (show z_pt 259 45 = some (2, .return_, []) by decide +kernel) (by decide +kernel)
def pm_needsThree  (μ : z_Mem) (i1 : Int32) (i2 : Int32) (i3 : Int32) : Option z_Mem := (pm_needs μ i1).bind fun q1 => (pm_needs q1 i2).bind fun q3 => (pm_needs q3 i3).bind fun q5 => some q5
theorem pm_needsThree_run  {μ : z_Mem} {i1 : Int32} {i2 : Int32} {i3 : Int32}  {r : z_Mem} (h : pm_needsThree μ i1 i2 i3 = some r) : Rn 2 260 0 [(0, .ref 241), (1, .int i1), (2, .int i2), (3, .int i3)] [] μ (.inl none) r := by
  unfold pm_needsThree at h
  refine R_pure (pc := 0) (pc' := 1) (st' := [.ref 241]) (show z_pt 260 0 = some (4, .aload_n 0, []) by decide +kernel) rfl (fun _ _ _ => rfl) ?_
  refine R_pure (pc := 1) (pc' := 2) (st' := [.int i1, .ref 241]) (show z_pt 260 1 = some (4, .iload_n 1, []) by decide +kernel) rfl (fun _ _ _ => rfl) ?_
  obtain ⟨q1, e2, h⟩ := z_bs h
  refine R_call (pc := 2) (rr := []) (show z_pt 260 2 = some (4, .invokevirtual 236, [0, 259, 1, 8101, 8103, 77, 1012, 8104]) by decide +kernel) rfl (show z_r2 259 = some (10, 2, true) by decide +kernel) rfl rfl (Or.inr ⟨_, _, rfl, (by decide +kernel)⟩) (pm_needs_run  e2) (by omega) ?_
  refine R_at2 (pc := 5) (st := []) ?_
  refine R_pure (pc := 5) (pc' := 6) (st' := [.ref 241]) (show z_pt 260 5 = some (4, .aload_n 0, []) by decide +kernel) rfl (fun _ _ _ => rfl) ?_
  refine R_pure (pc := 6) (pc' := 7) (st' := [.int i2, .ref 241]) (show z_pt 260 6 = some (4, .iload_n 2, []) by decide +kernel) rfl (fun _ _ _ => rfl) ?_
  obtain ⟨q3, e4, h⟩ := z_bs h
  refine R_call (pc := 7) (rr := []) (show z_pt 260 7 = some (4, .invokevirtual 236, [0, 259, 1, 8101, 8103, 77, 1012, 8104]) by decide +kernel) rfl (show z_r2 259 = some (10, 2, true) by decide +kernel) rfl rfl (Or.inr ⟨_, _, rfl, (by decide +kernel)⟩) (pm_needs_run  e4) (by omega) ?_
  refine R_at2 (pc := 10) (st := []) ?_
  refine R_pure (pc := 10) (pc' := 11) (st' := [.ref 241]) (show z_pt 260 10 = some (4, .aload_n 0, []) by decide +kernel) rfl (fun _ _ _ => rfl) ?_
  refine R_pure (pc := 11) (pc' := 12) (st' := [.int i3, .ref 241]) (show z_pt 260 11 = some (4, .iload_n 3, []) by decide +kernel) rfl (fun _ _ _ => rfl) ?_
  obtain ⟨q5, e6, h⟩ := z_bs h
  refine R_call (pc := 12) (rr := []) (show z_pt 260 12 = some (4, .invokevirtual 236, [0, 259, 1, 8101, 8103, 77, 1012, 8104]) by decide +kernel) rfl (show z_r2 259 = some (10, 2, true) by decide +kernel) rfl rfl (Or.inr ⟨_, _, rfl, (by decide +kernel)⟩) (pm_needs_run  e6) (by omega) ?_
  refine R_at2 (pc := 15) (st := []) ?_
  cases h
  exact R_retV (show z_pt 260 15 = some (4, .return_, []) by decide +kernel) (by decide +kernel)
def pm_digits_L34_B (R : z_Mem → Int32 → Int32 → Option (Int32 × z_Mem))  (f1 : Int32) (K : z_Mem → Int32 → Int32 → Option (Int32 × z_Mem)) (μ : z_Mem) (a2 : Int32) (a3 : Int32) : Option (Int32 × z_Mem) := if (μ 241 16) = 0 then if f1 ≤ a3 then K μ a2 a3 else (pm_here μ).bind fun q4 => (pm_in μ q4 48 57).bind fun q6 => if q6 = 0 then K μ a2 a3 else (pm_here μ).bind fun q9 => R (z_u μ 241 15 ((μ 241 15) + 1)) (((10 * a2) + q9) - 48) (a3 + 1) else K μ a2 a3
def pm_digits_L34 : Nat → Int32 → (z_Mem → Int32 → Int32 → Option (Int32 × z_Mem)) → z_Mem → Int32 → Int32 → Option (Int32 × z_Mem)
  | 0 => fun _ _ _ _ _ => none
  | n + 1 => fun f1 K μ a2 a3 => pm_digits_L34_B (pm_digits_L34 n f1 K) f1 K μ a2 a3
theorem pm_digits_L34_run  (f1 : Int32) (K : z_Mem → Int32 → Int32 → Option (Int32 × z_Mem))  (D : Nat) (hD : 1 ≤ D) (hK : ∀ (μ : z_Mem) (a2 a3 : Int32) (r : (Int32 × z_Mem)), K μ a2 a3 = some r → Rn D 261 89 [(0, .ref 241), (1, .int f1), (2, .int a2), (3, .int a3)] [] μ (.inl (some (.int r.1))) r.2) : ∀ (n : Nat) (μ : z_Mem) (a2 : Int32) (a3 : Int32) (r : (Int32 × z_Mem)), pm_digits_L34 n f1 K μ a2 a3 = some r → Rn D 261 34 [(0, .ref 241), (1, .int f1), (2, .int a2), (3, .int a3)] [] μ (.inl (some (.int r.1))) r.2 := by
  intro n
  induction n with
  | zero => intro μ a2 a3 r h; cases h
  | succ n ih =>
    intro μ a2 a3 r h
    have h : pm_digits_L34_B (pm_digits_L34 n f1 K) f1 K μ a2 a3 = some r := h
    unfold pm_digits_L34_B at h
    refine R_pure (pc := 34) (pc' := 35) (st' := [.ref 241]) (show z_pt 261 34 = some (4, .aload_n 0, []) by decide +kernel) rfl (fun _ _ _ => rfl) ?_
    refine R_getI (pc := 35) (a := 241) (show z_pt 261 35 = some (4, .getfield 229, [10, 16, 6134]) by decide +kernel) (by decide +kernel) ?_
    refine R_at (pc := 38) ?_
    refine R_ifne (pc := 38) (t := 89) (show z_pt 261 38 = some (4, .ifCond .ne 51, []) by decide +kernel) (by decide) (fun c2 => ?_) (fun c2 => ?_)
    · rw [if_neg c2] at h
      exact hK _ _ _  _ h
    · rw [if_pos c2] at h
      refine R_pure (pc := 41) (pc' := 42) (st' := [.int a3]) (show z_pt 261 41 = some (4, .iload_n 3, []) by decide +kernel) rfl (fun _ _ _ => rfl) ?_
      refine R_pure (pc := 42) (pc' := 43) (st' := [.int f1, .int a3]) (show z_pt 261 42 = some (4, .iload_n 1, []) by decide +kernel) rfl (fun _ _ _ => rfl) ?_
      refine R_icmge (pc := 43) (t := 89) (show z_pt 261 43 = some (4, .if_icmp .ge 46, []) by decide +kernel) (by decide) (fun c3 => ?_) (fun c3 => ?_)
      · rw [if_pos c3] at h
        exact hK _ _ _  _ h
      · rw [if_neg c3] at h
        refine R_pure (pc := 46) (pc' := 47) (st' := [.ref 241]) (show z_pt 261 46 = some (4, .aload_n 0, []) by decide +kernel) rfl (fun _ _ _ => rfl) ?_
        obtain ⟨q4, e5, h⟩ := z_bs h
        refine R_call (pc := 47) (rr := []) (show z_pt 261 47 = some (4, .invokevirtual 233, [0, 258, 0, 8093, 8095, 75, 1012, 8096]) by decide +kernel) rfl (show z_r2 258 = some (10, 1, true) by decide +kernel) rfl rfl (Or.inr ⟨_, _, rfl, (by decide +kernel)⟩) (pm_here_run  e5) (by omega) ?_
        refine R_at2 (pc := 50) (st := [.int q4]) ?_
        refine R_const (pc := 50) (pc' := 52) (v := 48) (show z_ptc 261 50 = some (52, 48) by decide +kernel) ?_
        refine R_const (pc := 52) (pc' := 54) (v := 57) (show z_ptc 261 52 = some (54, 57) by decide +kernel) ?_
        obtain ⟨q6, e7, h⟩ := z_bs h
        refine R_call (pc := 54) (rr := []) (show z_pt 261 54 = some (4, .invokestatic 55, [1, 160, 3, 6192, 6193, 0, 1012, 6194]) by decide +kernel) rfl (show z_r2 160 = some (10, 3, true) by decide +kernel) rfl rfl (Or.inl (by decide)) (pm_in_run  e7) (by omega) ?_
        refine R_at2 (pc := 57) (st := [.int q6]) ?_
        refine R_ifeq (pc := 57) (t := 89) (show z_pt 261 57 = some (4, .ifCond .eq 32, []) by decide +kernel) (by decide) (fun c8 => ?_) (fun c8 => ?_)
        · rw [if_pos c8] at h
          exact hK _ _ _  _ h
        · rw [if_neg c8] at h
          refine R_const (pc := 60) (pc' := 62) (v := 10) (show z_ptc 261 60 = some (62, 10) by decide +kernel) ?_
          refine R_pure (pc := 62) (pc' := 63) (st' := [.int a2, .int 10]) (show z_pt 261 62 = some (4, .iload_n 2, []) by decide +kernel) rfl (fun _ _ _ => rfl) ?_
          refine R_pure (pc := 63) (pc' := 64) (st' := [.int (10 * a2)]) (show z_pt 261 63 = some (4, .imul, []) by decide +kernel) rfl (fun _ _ _ => rfl) ?_
          refine R_pure (pc := 64) (pc' := 65) (st' := [.ref 241, .int (10 * a2)]) (show z_pt 261 64 = some (4, .aload_n 0, []) by decide +kernel) rfl (fun _ _ _ => rfl) ?_
          obtain ⟨q9, e10, h⟩ := z_bs h
          refine R_call (pc := 65) (rr := [.int (10 * a2)]) (show z_pt 261 65 = some (4, .invokevirtual 233, [0, 258, 0, 8093, 8095, 75, 1012, 8096]) by decide +kernel) rfl (show z_r2 258 = some (10, 1, true) by decide +kernel) rfl rfl (Or.inr ⟨_, _, rfl, (by decide +kernel)⟩) (pm_here_run  e10) (by omega) ?_
          refine R_at2 (pc := 68) (st := [.int q9, .int (10 * a2)]) ?_
          refine R_pure (pc := 68) (pc' := 69) (st' := [.int ((10 * a2) + q9)]) (show z_pt 261 68 = some (4, .iadd, []) by decide +kernel) rfl (fun _ _ _ => rfl) ?_
          refine R_const (pc := 69) (pc' := 71) (v := 48) (show z_ptc 261 69 = some (71, 48) by decide +kernel) ?_
          refine R_pure (pc := 71) (pc' := 72) (st' := [.int (((10 * a2) + q9) - 48)]) (show z_pt 261 71 = some (4, .isub, []) by decide +kernel) rfl (fun _ _ _ => rfl) ?_
          refine R_pure (pc := 72) (pc' := 73) (ls' := [(0, .ref 241), (1, .int f1), (2, .int (((10 * a2) + q9) - 48)), (3, .int a3)]) (st' := []) (show z_pt 261 72 = some (4, .istore_n 2, []) by decide +kernel) rfl (fun _ _ _ => rfl) ?_
          refine R_pure (pc := 73) (pc' := 74) (st' := [.ref 241]) (show z_pt 261 73 = some (4, .aload_n 0, []) by decide +kernel) rfl (fun _ _ _ => rfl) ?_
          refine R_pure (pc := 74) (pc' := 75) (st' := [.ref 241, .ref 241]) (show z_pt 261 74 = some (4, .dup, []) by decide +kernel) rfl (fun _ _ _ => rfl) ?_
          refine R_getI (pc := 75) (a := 241) (show z_pt 261 75 = some (4, .getfield 226, [10, 15, 6133]) by decide +kernel) (by decide +kernel) ?_
          refine R_at (pc := 78) ?_
          refine R_const (pc := 78) (pc' := 79) (v := 1) (show z_ptc 261 78 = some (79, 1) by decide +kernel) ?_
          refine R_pure (pc := 79) (pc' := 80) (st' := [.int ((μ 241 15) + 1), .ref 241]) (show z_pt 261 79 = some (4, .iadd, []) by decide +kernel) rfl (fun _ _ _ => rfl) ?_
          refine R_putI (pc := 80) (a := 241) (show z_pt 261 80 = some (4, .putfield 226, [10, 15, 6133]) by decide +kernel) (by decide +kernel) ⟨rfl, rfl⟩ ?_
          refine R_at (pc := 83) ?_
          refine R_inc (pc := 83) (pc' := 86) (ls' := [(0, .ref 241), (1, .int f1), (2, .int (((10 * a2) + q9) - 48)), (3, .int (a3 + 1))]) (c := 1) (show z_pt 261 83 = some (4, .iinc 3 1, []) by decide +kernel) (by decide) rfl rfl ?_
          refine R_pure (pc := 86) (pc' := 34) (ls' := [(0, .ref 241), (1, .int f1), (2, .int (((10 * a2) + q9) - 48)), (3, .int (a3 + 1))]) (st' := []) (show z_pt 261 86 = some (4, .goto (-52), [4]) by decide +kernel) rfl (fun _ _ _ => rfl) ?_
          exact ih _ _ _ _  h
def pm_digits  (μ : z_Mem) (i1 : Int32) : Option (Int32 × z_Mem) := if (μ 241 16) = 0 then (pm_here μ).bind fun q14 => (pm_in μ q14 48 57).bind fun q16 => if q16 = 0 then pm_digits_L34 z_fu i1 (fun M24 k22 k23 => some (k22, M24)) (z_u μ 241 16 1) 0 0 else pm_digits_L34 z_fu i1 (fun M21 k19 k20 => some (k19, M21)) (z_u μ 241 16 0) 0 0 else pm_digits_L34 z_fu i1 (fun M13 k11 k12 => some (k11, M13)) (z_u μ 241 16 1) 0 0
theorem pm_digits_run  {μ : z_Mem} {i1 : Int32}  {r : (Int32 × z_Mem)} (h : pm_digits μ i1 = some r) : Rn 1 261 0 [(0, .ref 241), (1, .int i1)] [] μ (.inl (some (.int r.1))) r.2 := by
  unfold pm_digits at h
  refine R_pure (pc := 0) (pc' := 1) (st' := [.ref 241]) (show z_pt 261 0 = some (4, .aload_n 0, []) by decide +kernel) rfl (fun _ _ _ => rfl) ?_
  refine R_pure (pc := 1) (pc' := 2) (st' := [.ref 241, .ref 241]) (show z_pt 261 1 = some (4, .aload_n 0, []) by decide +kernel) rfl (fun _ _ _ => rfl) ?_
  refine R_getI (pc := 2) (a := 241) (show z_pt 261 2 = some (4, .getfield 229, [10, 16, 6134]) by decide +kernel) (by decide +kernel) ?_
  refine R_at (pc := 5) ?_
  refine R_ifne (pc := 5) (t := 22) (show z_pt 261 5 = some (4, .ifCond .ne 17, []) by decide +kernel) (by decide) (fun c1 => ?_) (fun c1 => ?_)
  · rw [if_neg c1] at h
    refine R_const (pc := 22) (pc' := 23) (v := 1) (show z_ptc 261 22 = some (23, 1) by decide +kernel) ?_
    refine R_pure (pc := 23) (pc' := 27) (show z_pt 261 23 = some (4, .goto 4, []) by decide +kernel) rfl (fun _ _ _ => rfl) ?_
    refine R_putI (pc := 27) (a := 241) (show z_pt 261 27 = some (4, .putfield 229, [10, 16, 6134]) by decide +kernel) (by decide +kernel) (by decide) ?_
    refine R_at (pc := 30) ?_
    refine R_const (pc := 30) (pc' := 31) (v := 0) (show z_ptc 261 30 = some (31, 0) by decide +kernel) ?_
    refine R_pure (pc := 31) (pc' := 32) (ls' := [(0, .ref 241), (1, .int i1), (2, .int 0)]) (st' := []) (show z_pt 261 31 = some (4, .istore_n 2, []) by decide +kernel) rfl (fun _ _ _ => rfl) ?_
    refine R_const (pc := 32) (pc' := 33) (v := 0) (show z_ptc 261 32 = some (33, 0) by decide +kernel) ?_
    refine R_pure (pc := 33) (pc' := 34) (ls' := [(0, .ref 241), (1, .int i1), (2, .int 0), (3, .int 0)]) (st' := []) (show z_pt 261 33 = some (4, .istore_n 3, []) by decide +kernel) rfl (fun _ _ _ => rfl) ?_
    refine pm_digits_L34_run  _ _  _ (by omega) ?_ _ _ _ _ _ h
    intro M13 k11 k12 r h
    refine R_pure (pc := 89) (pc' := 90) (st' := [.int k11]) (show z_pt 261 89 = some (4, .iload_n 2, []) by decide +kernel) rfl (fun _ _ _ => rfl) ?_
    cases h
    exact R_retI (show z_pt 261 90 = some (4, .ireturn, []) by decide +kernel) (by decide +kernel)
  · rw [if_pos c1] at h
    refine R_pure (pc := 8) (pc' := 9) (st' := [.ref 241, .ref 241]) (show z_pt 261 8 = some (4, .aload_n 0, []) by decide +kernel) rfl (fun _ _ _ => rfl) ?_
    obtain ⟨q14, e15, h⟩ := z_bs h
    refine R_call (pc := 9) (rr := [.ref 241]) (show z_pt 261 9 = some (4, .invokevirtual 233, [0, 258, 0, 8093, 8095, 75, 1012, 8096]) by decide +kernel) rfl (show z_r2 258 = some (10, 1, true) by decide +kernel) rfl rfl (Or.inr ⟨_, _, rfl, (by decide +kernel)⟩) (pm_here_run  e15) (by omega) ?_
    refine R_at2 (pc := 12) (st := [.int q14, .ref 241]) ?_
    refine R_const (pc := 12) (pc' := 14) (v := 48) (show z_ptc 261 12 = some (14, 48) by decide +kernel) ?_
    refine R_const (pc := 14) (pc' := 16) (v := 57) (show z_ptc 261 14 = some (16, 57) by decide +kernel) ?_
    obtain ⟨q16, e17, h⟩ := z_bs h
    refine R_call (pc := 16) (rr := [.ref 241]) (show z_pt 261 16 = some (4, .invokestatic 55, [1, 160, 3, 6192, 6193, 0, 1012, 6194]) by decide +kernel) rfl (show z_r2 160 = some (10, 3, true) by decide +kernel) rfl rfl (Or.inl (by decide)) (pm_in_run  e17) (by omega) ?_
    refine R_at2 (pc := 19) (st := [.int q16, .ref 241]) ?_
    refine R_ifne (pc := 19) (t := 26) (show z_pt 261 19 = some (4, .ifCond .ne 7, []) by decide +kernel) (by decide) (fun c18 => ?_) (fun c18 => ?_)
    · rw [if_neg c18] at h
      refine R_const (pc := 26) (pc' := 27) (v := 0) (show z_ptc 261 26 = some (27, 0) by decide +kernel) ?_
      refine R_putI (pc := 27) (a := 241) (show z_pt 261 27 = some (4, .putfield 229, [10, 16, 6134]) by decide +kernel) (by decide +kernel) (by decide) ?_
      refine R_at (pc := 30) ?_
      refine R_const (pc := 30) (pc' := 31) (v := 0) (show z_ptc 261 30 = some (31, 0) by decide +kernel) ?_
      refine R_pure (pc := 31) (pc' := 32) (ls' := [(0, .ref 241), (1, .int i1), (2, .int 0)]) (st' := []) (show z_pt 261 31 = some (4, .istore_n 2, []) by decide +kernel) rfl (fun _ _ _ => rfl) ?_
      refine R_const (pc := 32) (pc' := 33) (v := 0) (show z_ptc 261 32 = some (33, 0) by decide +kernel) ?_
      refine R_pure (pc := 33) (pc' := 34) (ls' := [(0, .ref 241), (1, .int i1), (2, .int 0), (3, .int 0)]) (st' := []) (show z_pt 261 33 = some (4, .istore_n 3, []) by decide +kernel) rfl (fun _ _ _ => rfl) ?_
      refine pm_digits_L34_run  _ _  _ (by omega) ?_ _ _ _ _ _ h
      intro M21 k19 k20 r h
      refine R_pure (pc := 89) (pc' := 90) (st' := [.int k19]) (show z_pt 261 89 = some (4, .iload_n 2, []) by decide +kernel) rfl (fun _ _ _ => rfl) ?_
      cases h
      exact R_retI (show z_pt 261 90 = some (4, .ireturn, []) by decide +kernel) (by decide +kernel)
    · rw [if_pos c18] at h
      refine R_const (pc := 22) (pc' := 23) (v := 1) (show z_ptc 261 22 = some (23, 1) by decide +kernel) ?_
      refine R_pure (pc := 23) (pc' := 27) (show z_pt 261 23 = some (4, .goto 4, []) by decide +kernel) rfl (fun _ _ _ => rfl) ?_
      refine R_putI (pc := 27) (a := 241) (show z_pt 261 27 = some (4, .putfield 229, [10, 16, 6134]) by decide +kernel) (by decide +kernel) (by decide) ?_
      refine R_at (pc := 30) ?_
      refine R_const (pc := 30) (pc' := 31) (v := 0) (show z_ptc 261 30 = some (31, 0) by decide +kernel) ?_
      refine R_pure (pc := 31) (pc' := 32) (ls' := [(0, .ref 241), (1, .int i1), (2, .int 0)]) (st' := []) (show z_pt 261 31 = some (4, .istore_n 2, []) by decide +kernel) rfl (fun _ _ _ => rfl) ?_
      refine R_const (pc := 32) (pc' := 33) (v := 0) (show z_ptc 261 32 = some (33, 0) by decide +kernel) ?_
      refine R_pure (pc := 33) (pc' := 34) (ls' := [(0, .ref 241), (1, .int i1), (2, .int 0), (3, .int 0)]) (st' := []) (show z_pt 261 33 = some (4, .istore_n 3, []) by decide +kernel) rfl (fun _ _ _ => rfl) ?_
      refine pm_digits_L34_run  _ _  _ (by omega) ?_ _ _ _ _ _ h
      intro M24 k22 k23 r h
      refine R_pure (pc := 89) (pc' := 90) (st' := [.int k22]) (show z_pt 261 89 = some (4, .iload_n 2, []) by decide +kernel) rfl (fun _ _ _ => rfl) ?_
      cases h
      exact R_retI (show z_pt 261 90 = some (4, .ireturn, []) by decide +kernel) (by decide +kernel)
def pm_digitsAfter  (μ : z_Mem) (i1 : Int32) (i2 : Int32) : Option (Int32 × z_Mem) := (pm_needs μ i1).bind fun q1 => (pm_digits q1 i2).bind fun q3 => some (q3.1, q3.2)
theorem pm_digitsAfter_run  {μ : z_Mem} {i1 : Int32} {i2 : Int32}  {r : (Int32 × z_Mem)} (h : pm_digitsAfter μ i1 i2 = some r) : Rn 2 262 0 [(0, .ref 241), (1, .int i1), (2, .int i2)] [] μ (.inl (some (.int r.1))) r.2 := by
  unfold pm_digitsAfter at h
  refine R_pure (pc := 0) (pc' := 1) (st' := [.ref 241]) (show z_pt 262 0 = some (3, .aload_n 0, []) by decide +kernel) rfl (fun _ _ _ => rfl) ?_
  refine R_pure (pc := 1) (pc' := 2) (st' := [.int i1, .ref 241]) (show z_pt 262 1 = some (3, .iload_n 1, []) by decide +kernel) rfl (fun _ _ _ => rfl) ?_
  obtain ⟨q1, e2, h⟩ := z_bs h
  refine R_call (pc := 2) (rr := []) (show z_pt 262 2 = some (3, .invokevirtual 236, [0, 259, 1, 8101, 8103, 77, 1012, 8104]) by decide +kernel) rfl (show z_r2 259 = some (10, 2, true) by decide +kernel) rfl rfl (Or.inr ⟨_, _, rfl, (by decide +kernel)⟩) (pm_needs_run  e2) (by omega) ?_
  refine R_at2 (pc := 5) (st := []) ?_
  refine R_pure (pc := 5) (pc' := 6) (st' := [.ref 241]) (show z_pt 262 5 = some (3, .aload_n 0, []) by decide +kernel) rfl (fun _ _ _ => rfl) ?_
  refine R_pure (pc := 6) (pc' := 7) (st' := [.int i2, .ref 241]) (show z_pt 262 6 = some (3, .iload_n 2, []) by decide +kernel) rfl (fun _ _ _ => rfl) ?_
  obtain ⟨q3, e4, h⟩ := z_bs h
  refine R_call (pc := 7) (rr := []) (show z_pt 262 7 = some (3, .invokevirtual 239, [0, 261, 1, 8109, 8111, 79, 1012, 8112]) by decide +kernel) rfl (show z_r2 261 = some (10, 4, true) by decide +kernel) rfl rfl (Or.inr ⟨_, _, rfl, (by decide +kernel)⟩) (pm_digits_run  e4) (by omega) ?_
  refine R_at2 (pc := 10) (st := [.int q3.1]) ?_
  cases h
  exact R_retI (show z_pt 262 10 = some (3, .ireturn, []) by decide +kernel) (by decide +kernel)
def pm_parsesTurn  (μ : z_Mem) (i1 : Int32) : Option z_Mem := (pm_needsThree μ 117 114 110).bind fun q1 => (pm_digitsAfter q1 32 1).bind fun q3 => if z_inb (i1 + 1) 240 = true then if ((z_u q3.2 250 (i1 + 1).toNatClampNeg q3.1) 241 16) = 0 then (pm_here (z_u q3.2 250 (i1 + 1).toNatClampNeg q3.1)).bind fun q12 => if q12 = 45 then (pm_digitsAfter (z_u q3.2 250 (i1 + 1).toNatClampNeg q3.1) 45 2).bind fun q21 => if z_inb (i1 + 2) 240 = true then some (z_u q21.2 250 (i1 + 2).toNatClampNeg (-q21.1)) else none else (pm_digitsAfter (z_u q3.2 250 (i1 + 1).toNatClampNeg q3.1) 43 2).bind fun q16 => if z_inb (i1 + 2) 240 = true then some (z_u q16.2 250 (i1 + 2).toNatClampNeg q16.1) else none else (pm_digitsAfter (z_u q3.2 250 (i1 + 1).toNatClampNeg q3.1) 43 2).bind fun q8 => if z_inb (i1 + 2) 240 = true then some (z_u q8.2 250 (i1 + 2).toNatClampNeg q8.1) else none else none
theorem pm_parsesTurn_run  {μ : z_Mem} {i1 : Int32}  {r : z_Mem} (h : pm_parsesTurn μ i1 = some r) : Rn 3 263 0 [(0, .ref 241), (1, .int i1)] [] μ (.inl none) r := by
  unfold pm_parsesTurn at h
  refine R_pure (pc := 0) (pc' := 1) (st' := [.ref 241]) (show z_pt 263 0 = some (4, .aload_n 0, []) by decide +kernel) rfl (fun _ _ _ => rfl) ?_
  refine R_const (pc := 1) (pc' := 3) (v := 117) (show z_ptc 263 1 = some (3, 117) by decide +kernel) ?_
  refine R_const (pc := 3) (pc' := 5) (v := 114) (show z_ptc 263 3 = some (5, 114) by decide +kernel) ?_
  refine R_const (pc := 5) (pc' := 7) (v := 110) (show z_ptc 263 5 = some (7, 110) by decide +kernel) ?_
  obtain ⟨q1, e2, h⟩ := z_bs h
  refine R_call (pc := 7) (rr := []) (show z_pt 263 7 = some (4, .invokevirtual 242, [0, 260, 3, 8097, 8099, 76, 1012, 8100]) by decide +kernel) rfl (show z_r2 260 = some (10, 4, true) by decide +kernel) rfl rfl (Or.inr ⟨_, _, rfl, (by decide +kernel)⟩) (pm_needsThree_run  e2) (by omega) ?_
  refine R_at2 (pc := 10) (st := []) ?_
  refine R_pure (pc := 10) (pc' := 11) (st' := [.ref 241]) (show z_pt 263 10 = some (4, .aload_n 0, []) by decide +kernel) rfl (fun _ _ _ => rfl) ?_
  refine R_getR (pc := 11) (a := 241) (b := 250) (show z_pt 263 11 = some (4, .getfield 42, [10, 17, 6135]) by decide +kernel) (by decide +kernel) ?_
  refine R_at (pc := 14) ?_
  refine R_pure (pc := 14) (pc' := 15) (st' := [.int i1, .ref 250]) (show z_pt 263 14 = some (4, .iload_n 1, []) by decide +kernel) rfl (fun _ _ _ => rfl) ?_
  refine R_const (pc := 15) (pc' := 16) (v := 1) (show z_ptc 263 15 = some (16, 1) by decide +kernel) ?_
  refine R_pure (pc := 16) (pc' := 17) (st' := [.int (i1 + 1), .ref 250]) (show z_pt 263 16 = some (4, .iadd, []) by decide +kernel) rfl (fun _ _ _ => rfl) ?_
  refine R_pure (pc := 17) (pc' := 18) (st' := [.ref 241, .int (i1 + 1), .ref 250]) (show z_pt 263 17 = some (4, .aload_n 0, []) by decide +kernel) rfl (fun _ _ _ => rfl) ?_
  refine R_const (pc := 18) (pc' := 20) (v := 32) (show z_ptc 263 18 = some (20, 32) by decide +kernel) ?_
  refine R_const (pc := 20) (pc' := 21) (v := 1) (show z_ptc 263 20 = some (21, 1) by decide +kernel) ?_
  obtain ⟨q3, e4, h⟩ := z_bs h
  refine R_call (pc := 21) (rr := [.int (i1 + 1), .ref 250]) (show z_pt 263 21 = some (4, .invokevirtual 246, [0, 262, 2, 8105, 8107, 78, 1012, 8108]) by decide +kernel) rfl (show z_r2 262 = some (10, 3, true) by decide +kernel) rfl rfl (Or.inr ⟨_, _, rfl, (by decide +kernel)⟩) (pm_digitsAfter_run  e4) (by omega) ?_
  refine R_at2 (pc := 24) (st := [.int q3.1, .int (i1 + 1), .ref 250]) ?_
  obtain ⟨g5, h⟩ := z_ig h
  refine R_iast (pc := 24) (a := 250) (n := 240) (show z_pt 263 24 = some (4, .iastore, []) by decide +kernel) (show z_ar 250 0 240 = true by decide +kernel) g5 ?_
  refine R_at (pc := 25) ?_
  refine R_pure (pc := 25) (pc' := 26) (st' := [.ref 241]) (show z_pt 263 25 = some (4, .aload_n 0, []) by decide +kernel) rfl (fun _ _ _ => rfl) ?_
  refine R_getI (pc := 26) (a := 241) (show z_pt 263 26 = some (4, .getfield 229, [10, 16, 6134]) by decide +kernel) (by decide +kernel) ?_
  refine R_at (pc := 29) ?_
  refine R_ifne (pc := 29) (t := 45) (show z_pt 263 29 = some (4, .ifCond .ne 16, []) by decide +kernel) (by decide) (fun c6 => ?_) (fun c6 => ?_)
  · rw [if_neg c6] at h
    refine R_const (pc := 45) (pc' := 46) (v := 0) (show z_ptc 263 45 = some (46, 0) by decide +kernel) ?_
    refine R_pure (pc := 46) (pc' := 47) (ls' := [(0, .ref 241), (1, .int i1), (2, .int 0)]) (st' := []) (show z_pt 263 46 = some (4, .istore_n 2, []) by decide +kernel) rfl (fun _ _ _ => rfl) ?_
    refine R_pure (pc := 47) (pc' := 48) (st' := [.ref 241]) (show z_pt 263 47 = some (4, .aload_n 0, []) by decide +kernel) rfl (fun _ _ _ => rfl) ?_
    refine R_pure (pc := 48) (pc' := 49) (st' := [.int 0, .ref 241]) (show z_pt 263 48 = some (4, .iload_n 2, []) by decide +kernel) rfl (fun _ _ _ => rfl) ?_
    refine R_ifeq (pc := 49) (t := 57) (show z_pt 263 49 = some (4, .ifCond .eq 8, []) by decide +kernel) (by decide) (fun c7 => ?_) (fun c7 => ?_)
    · skip
      refine R_const (pc := 57) (pc' := 59) (v := 43) (show z_ptc 263 57 = some (59, 43) by decide +kernel) ?_
      refine R_const (pc := 59) (pc' := 60) (v := 2) (show z_ptc 263 59 = some (60, 2) by decide +kernel) ?_
      obtain ⟨q8, e9, h⟩ := z_bs h
      refine R_call (pc := 60) (rr := []) (show z_pt 263 60 = some (4, .invokevirtual 246, [0, 262, 2, 8105, 8107, 78, 1012, 8108]) by decide +kernel) rfl (show z_r2 262 = some (10, 3, true) by decide +kernel) rfl rfl (Or.inr ⟨_, _, rfl, (by decide +kernel)⟩) (pm_digitsAfter_run  e9) (by omega) ?_
      refine R_at2 (pc := 63) (st := [.int q8.1]) ?_
      refine R_pure (pc := 63) (pc' := 64) (ls' := [(0, .ref 241), (1, .int i1), (2, .int 0), (3, .int q8.1)]) (st' := []) (show z_pt 263 63 = some (4, .istore_n 3, []) by decide +kernel) rfl (fun _ _ _ => rfl) ?_
      refine R_pure (pc := 64) (pc' := 65) (st' := [.ref 241]) (show z_pt 263 64 = some (4, .aload_n 0, []) by decide +kernel) rfl (fun _ _ _ => rfl) ?_
      refine R_getR (pc := 65) (a := 241) (b := 250) (show z_pt 263 65 = some (4, .getfield 42, [10, 17, 6135]) by decide +kernel) (by decide +kernel) ?_
      refine R_at (pc := 68) ?_
      refine R_pure (pc := 68) (pc' := 69) (st' := [.int i1, .ref 250]) (show z_pt 263 68 = some (4, .iload_n 1, []) by decide +kernel) rfl (fun _ _ _ => rfl) ?_
      refine R_const (pc := 69) (pc' := 70) (v := 2) (show z_ptc 263 69 = some (70, 2) by decide +kernel) ?_
      refine R_pure (pc := 70) (pc' := 71) (st' := [.int (i1 + 2), .ref 250]) (show z_pt 263 70 = some (4, .iadd, []) by decide +kernel) rfl (fun _ _ _ => rfl) ?_
      refine R_pure (pc := 71) (pc' := 72) (st' := [.int 0, .int (i1 + 2), .ref 250]) (show z_pt 263 71 = some (4, .iload_n 2, []) by decide +kernel) rfl (fun _ _ _ => rfl) ?_
      refine R_ifeq (pc := 72) (t := 80) (show z_pt 263 72 = some (4, .ifCond .eq 8, []) by decide +kernel) (by decide) (fun c10 => ?_) (fun c10 => ?_)
      · skip
        refine R_pure (pc := 80) (pc' := 81) (st' := [.int q8.1, .int (i1 + 2), .ref 250]) (show z_pt 263 80 = some (4, .iload_n 3, []) by decide +kernel) rfl (fun _ _ _ => rfl) ?_
        obtain ⟨g11, h⟩ := z_ig h
        refine R_iast (pc := 81) (a := 250) (n := 240) (show z_pt 263 81 = some (4, .iastore, []) by decide +kernel) (show z_ar 250 0 240 = true by decide +kernel) g11 ?_
        refine R_at (pc := 82) ?_
        cases h
        exact R_retV (show z_pt 263 82 = some (4, .return_, []) by decide +kernel) (by decide +kernel)
      · exact absurd c10 (by decide)
    · exact absurd c7 (by decide)
  · rw [if_pos c6] at h
    refine R_pure (pc := 32) (pc' := 33) (st' := [.ref 241]) (show z_pt 263 32 = some (4, .aload_n 0, []) by decide +kernel) rfl (fun _ _ _ => rfl) ?_
    obtain ⟨q12, e13, h⟩ := z_bs h
    refine R_call (pc := 33) (rr := []) (show z_pt 263 33 = some (4, .invokevirtual 233, [0, 258, 0, 8093, 8095, 75, 1012, 8096]) by decide +kernel) rfl (show z_r2 258 = some (10, 1, true) by decide +kernel) rfl rfl (Or.inr ⟨_, _, rfl, (by decide +kernel)⟩) (pm_here_run  e13) (by omega) ?_
    refine R_at2 (pc := 36) (st := [.int q12]) ?_
    refine R_const (pc := 36) (pc' := 38) (v := 45) (show z_ptc 263 36 = some (38, 45) by decide +kernel) ?_
    refine R_icmne (pc := 38) (t := 45) (show z_pt 263 38 = some (4, .if_icmp .ne 7, []) by decide +kernel) (by decide) (fun c14 => ?_) (fun c14 => ?_)
    · rw [if_neg c14] at h
      refine R_const (pc := 45) (pc' := 46) (v := 0) (show z_ptc 263 45 = some (46, 0) by decide +kernel) ?_
      refine R_pure (pc := 46) (pc' := 47) (ls' := [(0, .ref 241), (1, .int i1), (2, .int 0)]) (st' := []) (show z_pt 263 46 = some (4, .istore_n 2, []) by decide +kernel) rfl (fun _ _ _ => rfl) ?_
      refine R_pure (pc := 47) (pc' := 48) (st' := [.ref 241]) (show z_pt 263 47 = some (4, .aload_n 0, []) by decide +kernel) rfl (fun _ _ _ => rfl) ?_
      refine R_pure (pc := 48) (pc' := 49) (st' := [.int 0, .ref 241]) (show z_pt 263 48 = some (4, .iload_n 2, []) by decide +kernel) rfl (fun _ _ _ => rfl) ?_
      refine R_ifeq (pc := 49) (t := 57) (show z_pt 263 49 = some (4, .ifCond .eq 8, []) by decide +kernel) (by decide) (fun c15 => ?_) (fun c15 => ?_)
      · skip
        refine R_const (pc := 57) (pc' := 59) (v := 43) (show z_ptc 263 57 = some (59, 43) by decide +kernel) ?_
        refine R_const (pc := 59) (pc' := 60) (v := 2) (show z_ptc 263 59 = some (60, 2) by decide +kernel) ?_
        obtain ⟨q16, e17, h⟩ := z_bs h
        refine R_call (pc := 60) (rr := []) (show z_pt 263 60 = some (4, .invokevirtual 246, [0, 262, 2, 8105, 8107, 78, 1012, 8108]) by decide +kernel) rfl (show z_r2 262 = some (10, 3, true) by decide +kernel) rfl rfl (Or.inr ⟨_, _, rfl, (by decide +kernel)⟩) (pm_digitsAfter_run  e17) (by omega) ?_
        refine R_at2 (pc := 63) (st := [.int q16.1]) ?_
        refine R_pure (pc := 63) (pc' := 64) (ls' := [(0, .ref 241), (1, .int i1), (2, .int 0), (3, .int q16.1)]) (st' := []) (show z_pt 263 63 = some (4, .istore_n 3, []) by decide +kernel) rfl (fun _ _ _ => rfl) ?_
        refine R_pure (pc := 64) (pc' := 65) (st' := [.ref 241]) (show z_pt 263 64 = some (4, .aload_n 0, []) by decide +kernel) rfl (fun _ _ _ => rfl) ?_
        refine R_getR (pc := 65) (a := 241) (b := 250) (show z_pt 263 65 = some (4, .getfield 42, [10, 17, 6135]) by decide +kernel) (by decide +kernel) ?_
        refine R_at (pc := 68) ?_
        refine R_pure (pc := 68) (pc' := 69) (st' := [.int i1, .ref 250]) (show z_pt 263 68 = some (4, .iload_n 1, []) by decide +kernel) rfl (fun _ _ _ => rfl) ?_
        refine R_const (pc := 69) (pc' := 70) (v := 2) (show z_ptc 263 69 = some (70, 2) by decide +kernel) ?_
        refine R_pure (pc := 70) (pc' := 71) (st' := [.int (i1 + 2), .ref 250]) (show z_pt 263 70 = some (4, .iadd, []) by decide +kernel) rfl (fun _ _ _ => rfl) ?_
        refine R_pure (pc := 71) (pc' := 72) (st' := [.int 0, .int (i1 + 2), .ref 250]) (show z_pt 263 71 = some (4, .iload_n 2, []) by decide +kernel) rfl (fun _ _ _ => rfl) ?_
        refine R_ifeq (pc := 72) (t := 80) (show z_pt 263 72 = some (4, .ifCond .eq 8, []) by decide +kernel) (by decide) (fun c18 => ?_) (fun c18 => ?_)
        · skip
          refine R_pure (pc := 80) (pc' := 81) (st' := [.int q16.1, .int (i1 + 2), .ref 250]) (show z_pt 263 80 = some (4, .iload_n 3, []) by decide +kernel) rfl (fun _ _ _ => rfl) ?_
          obtain ⟨g19, h⟩ := z_ig h
          refine R_iast (pc := 81) (a := 250) (n := 240) (show z_pt 263 81 = some (4, .iastore, []) by decide +kernel) (show z_ar 250 0 240 = true by decide +kernel) g19 ?_
          refine R_at (pc := 82) ?_
          cases h
          exact R_retV (show z_pt 263 82 = some (4, .return_, []) by decide +kernel) (by decide +kernel)
        · exact absurd c18 (by decide)
      · exact absurd c15 (by decide)
    · rw [if_pos c14] at h
      refine R_const (pc := 41) (pc' := 42) (v := 1) (show z_ptc 263 41 = some (42, 1) by decide +kernel) ?_
      refine R_pure (pc := 42) (pc' := 46) (show z_pt 263 42 = some (4, .goto 4, []) by decide +kernel) rfl (fun _ _ _ => rfl) ?_
      refine R_pure (pc := 46) (pc' := 47) (ls' := [(0, .ref 241), (1, .int i1), (2, .int 1)]) (st' := []) (show z_pt 263 46 = some (4, .istore_n 2, []) by decide +kernel) rfl (fun _ _ _ => rfl) ?_
      refine R_pure (pc := 47) (pc' := 48) (st' := [.ref 241]) (show z_pt 263 47 = some (4, .aload_n 0, []) by decide +kernel) rfl (fun _ _ _ => rfl) ?_
      refine R_pure (pc := 48) (pc' := 49) (st' := [.int 1, .ref 241]) (show z_pt 263 48 = some (4, .iload_n 2, []) by decide +kernel) rfl (fun _ _ _ => rfl) ?_
      refine R_ifeq (pc := 49) (t := 57) (show z_pt 263 49 = some (4, .ifCond .eq 8, []) by decide +kernel) (by decide) (fun c20 => ?_) (fun c20 => ?_)
      · exact absurd c20 (by decide)
      · skip
        refine R_const (pc := 52) (pc' := 54) (v := 45) (show z_ptc 263 52 = some (54, 45) by decide +kernel) ?_
        refine R_pure (pc := 54) (pc' := 59) (show z_pt 263 54 = some (4, .goto 5, []) by decide +kernel) rfl (fun _ _ _ => rfl) ?_
        refine R_const (pc := 59) (pc' := 60) (v := 2) (show z_ptc 263 59 = some (60, 2) by decide +kernel) ?_
        obtain ⟨q21, e22, h⟩ := z_bs h
        refine R_call (pc := 60) (rr := []) (show z_pt 263 60 = some (4, .invokevirtual 246, [0, 262, 2, 8105, 8107, 78, 1012, 8108]) by decide +kernel) rfl (show z_r2 262 = some (10, 3, true) by decide +kernel) rfl rfl (Or.inr ⟨_, _, rfl, (by decide +kernel)⟩) (pm_digitsAfter_run  e22) (by omega) ?_
        refine R_at2 (pc := 63) (st := [.int q21.1]) ?_
        refine R_pure (pc := 63) (pc' := 64) (ls' := [(0, .ref 241), (1, .int i1), (2, .int 1), (3, .int q21.1)]) (st' := []) (show z_pt 263 63 = some (4, .istore_n 3, []) by decide +kernel) rfl (fun _ _ _ => rfl) ?_
        refine R_pure (pc := 64) (pc' := 65) (st' := [.ref 241]) (show z_pt 263 64 = some (4, .aload_n 0, []) by decide +kernel) rfl (fun _ _ _ => rfl) ?_
        refine R_getR (pc := 65) (a := 241) (b := 250) (show z_pt 263 65 = some (4, .getfield 42, [10, 17, 6135]) by decide +kernel) (by decide +kernel) ?_
        refine R_at (pc := 68) ?_
        refine R_pure (pc := 68) (pc' := 69) (st' := [.int i1, .ref 250]) (show z_pt 263 68 = some (4, .iload_n 1, []) by decide +kernel) rfl (fun _ _ _ => rfl) ?_
        refine R_const (pc := 69) (pc' := 70) (v := 2) (show z_ptc 263 69 = some (70, 2) by decide +kernel) ?_
        refine R_pure (pc := 70) (pc' := 71) (st' := [.int (i1 + 2), .ref 250]) (show z_pt 263 70 = some (4, .iadd, []) by decide +kernel) rfl (fun _ _ _ => rfl) ?_
        refine R_pure (pc := 71) (pc' := 72) (st' := [.int 1, .int (i1 + 2), .ref 250]) (show z_pt 263 71 = some (4, .iload_n 2, []) by decide +kernel) rfl (fun _ _ _ => rfl) ?_
        refine R_ifeq (pc := 72) (t := 80) (show z_pt 263 72 = some (4, .ifCond .eq 8, []) by decide +kernel) (by decide) (fun c23 => ?_) (fun c23 => ?_)
        · exact absurd c23 (by decide)
        · skip
          refine R_pure (pc := 75) (pc' := 76) (st' := [.int q21.1, .int (i1 + 2), .ref 250]) (show z_pt 263 75 = some (4, .iload_n 3, []) by decide +kernel) rfl (fun _ _ _ => rfl) ?_
          refine R_pure (pc := 76) (pc' := 77) (st' := [.int (-q21.1), .int (i1 + 2), .ref 250]) (show z_pt 263 76 = some (4, .ineg, []) by decide +kernel) rfl (fun _ _ _ => rfl) ?_
          refine R_pure (pc := 77) (pc' := 81) (show z_pt 263 77 = some (4, .goto 4, []) by decide +kernel) rfl (fun _ _ _ => rfl) ?_
          obtain ⟨g24, h⟩ := z_ig h
          refine R_iast (pc := 81) (a := 250) (n := 240) (show z_pt 263 81 = some (4, .iastore, []) by decide +kernel) (show z_ar 250 0 240 = true by decide +kernel) g24 ?_
          refine R_at (pc := 82) ?_
          cases h
          exact R_retV (show z_pt 263 82 = some (4, .return_, []) by decide +kernel) (by decide +kernel)
def pm_parsesNote  (μ : z_Mem) (i1 : Int32) : Option z_Mem := (pm_needsThree μ 111 116 101).bind fun q1 => (pm_needs q1 32).bind fun q3 => if (q3 241 16) = 0 then (pm_here q3).bind fun q16 => (pm_in q3 q16 97 122).bind fun q18 => if q18 = 0 then (pm_here (z_u q3 241 16 1)).bind fun q31 => if z_inb (i1 + 1) 240 = true then if ((z_u (z_u q3 241 16 1) 250 (i1 + 1).toNatClampNeg q31) 241 16) = 0 then (pm_digits (z_u (z_u (z_u q3 241 16 1) 250 (i1 + 1).toNatClampNeg q31) 241 15 (((z_u (z_u q3 241 16 1) 250 (i1 + 1).toNatClampNeg q31) 241 15) + 1)) 1).bind fun q35 => if z_inb (i1 + 2) 240 = true then some (z_u q35.2 250 (i1 + 2).toNatClampNeg q35.1) else none else (pm_digits (z_u (z_u (z_u q3 241 16 1) 250 (i1 + 1).toNatClampNeg q31) 241 15 (((z_u (z_u q3 241 16 1) 250 (i1 + 1).toNatClampNeg q31) 241 15) + 0)) 1).bind fun q38 => if z_inb (i1 + 2) 240 = true then some (z_u q38.2 250 (i1 + 2).toNatClampNeg q38.1) else none else none else (pm_here (z_u q3 241 16 0)).bind fun q21 => if z_inb (i1 + 1) 240 = true then if ((z_u (z_u q3 241 16 0) 250 (i1 + 1).toNatClampNeg q21) 241 16) = 0 then (pm_digits (z_u (z_u (z_u q3 241 16 0) 250 (i1 + 1).toNatClampNeg q21) 241 15 (((z_u (z_u q3 241 16 0) 250 (i1 + 1).toNatClampNeg q21) 241 15) + 1)) 1).bind fun q25 => if z_inb (i1 + 2) 240 = true then some (z_u q25.2 250 (i1 + 2).toNatClampNeg q25.1) else none else (pm_digits (z_u (z_u (z_u q3 241 16 0) 250 (i1 + 1).toNatClampNeg q21) 241 15 (((z_u (z_u q3 241 16 0) 250 (i1 + 1).toNatClampNeg q21) 241 15) + 0)) 1).bind fun q28 => if z_inb (i1 + 2) 240 = true then some (z_u q28.2 250 (i1 + 2).toNatClampNeg q28.1) else none else none else (pm_here (z_u q3 241 16 1)).bind fun q6 => if z_inb (i1 + 1) 240 = true then if ((z_u (z_u q3 241 16 1) 250 (i1 + 1).toNatClampNeg q6) 241 16) = 0 then (pm_digits (z_u (z_u (z_u q3 241 16 1) 250 (i1 + 1).toNatClampNeg q6) 241 15 (((z_u (z_u q3 241 16 1) 250 (i1 + 1).toNatClampNeg q6) 241 15) + 1)) 1).bind fun q10 => if z_inb (i1 + 2) 240 = true then some (z_u q10.2 250 (i1 + 2).toNatClampNeg q10.1) else none else (pm_digits (z_u (z_u (z_u q3 241 16 1) 250 (i1 + 1).toNatClampNeg q6) 241 15 (((z_u (z_u q3 241 16 1) 250 (i1 + 1).toNatClampNeg q6) 241 15) + 0)) 1).bind fun q13 => if z_inb (i1 + 2) 240 = true then some (z_u q13.2 250 (i1 + 2).toNatClampNeg q13.1) else none else none
theorem pm_parsesNote_run  {μ : z_Mem} {i1 : Int32}  {r : z_Mem} (h : pm_parsesNote μ i1 = some r) : Rn 3 264 0 [(0, .ref 241), (1, .int i1)] [] μ (.inl none) r := by
  unfold pm_parsesNote at h
  refine R_pure (pc := 0) (pc' := 1) (st' := [.ref 241]) (show z_pt 264 0 = some (2, .aload_n 0, []) by decide +kernel) rfl (fun _ _ _ => rfl) ?_
  refine R_const (pc := 1) (pc' := 3) (v := 111) (show z_ptc 264 1 = some (3, 111) by decide +kernel) ?_
  refine R_const (pc := 3) (pc' := 5) (v := 116) (show z_ptc 264 3 = some (5, 116) by decide +kernel) ?_
  refine R_const (pc := 5) (pc' := 7) (v := 101) (show z_ptc 264 5 = some (7, 101) by decide +kernel) ?_
  obtain ⟨q1, e2, h⟩ := z_bs h
  refine R_call (pc := 7) (rr := []) (show z_pt 264 7 = some (2, .invokevirtual 242, [0, 260, 3, 8097, 8099, 76, 1012, 8100]) by decide +kernel) rfl (show z_r2 260 = some (10, 4, true) by decide +kernel) rfl rfl (Or.inr ⟨_, _, rfl, (by decide +kernel)⟩) (pm_needsThree_run  e2) (by omega) ?_
  refine R_at2 (pc := 10) (st := []) ?_
  refine R_pure (pc := 10) (pc' := 11) (st' := [.ref 241]) (show z_pt 264 10 = some (2, .aload_n 0, []) by decide +kernel) rfl (fun _ _ _ => rfl) ?_
  refine R_const (pc := 11) (pc' := 13) (v := 32) (show z_ptc 264 11 = some (13, 32) by decide +kernel) ?_
  obtain ⟨q3, e4, h⟩ := z_bs h
  refine R_call (pc := 13) (rr := []) (show z_pt 264 13 = some (2, .invokevirtual 236, [0, 259, 1, 8101, 8103, 77, 1012, 8104]) by decide +kernel) rfl (show z_r2 259 = some (10, 2, true) by decide +kernel) rfl rfl (Or.inr ⟨_, _, rfl, (by decide +kernel)⟩) (pm_needs_run  e4) (by omega) ?_
  refine R_at2 (pc := 16) (st := []) ?_
  refine R_pure (pc := 16) (pc' := 17) (st' := [.ref 241]) (show z_pt 264 16 = some (2, .aload_n 0, []) by decide +kernel) rfl (fun _ _ _ => rfl) ?_
  refine R_pure (pc := 17) (pc' := 18) (st' := [.ref 241, .ref 241]) (show z_pt 264 17 = some (2, .aload_n 0, []) by decide +kernel) rfl (fun _ _ _ => rfl) ?_
  refine R_getI (pc := 18) (a := 241) (show z_pt 264 18 = some (2, .getfield 229, [10, 16, 6134]) by decide +kernel) (by decide +kernel) ?_
  refine R_at (pc := 21) ?_
  refine R_ifne (pc := 21) (t := 38) (show z_pt 264 21 = some (2, .ifCond .ne 17, []) by decide +kernel) (by decide) (fun c5 => ?_) (fun c5 => ?_)
  · rw [if_neg c5] at h
    refine R_const (pc := 38) (pc' := 39) (v := 1) (show z_ptc 264 38 = some (39, 1) by decide +kernel) ?_
    refine R_pure (pc := 39) (pc' := 43) (show z_pt 264 39 = some (2, .goto 4, []) by decide +kernel) rfl (fun _ _ _ => rfl) ?_
    refine R_putI (pc := 43) (a := 241) (show z_pt 264 43 = some (2, .putfield 229, [10, 16, 6134]) by decide +kernel) (by decide +kernel) (by decide) ?_
    refine R_at (pc := 46) ?_
    refine R_pure (pc := 46) (pc' := 47) (st' := [.ref 241]) (show z_pt 264 46 = some (2, .aload_n 0, []) by decide +kernel) rfl (fun _ _ _ => rfl) ?_
    refine R_getR (pc := 47) (a := 241) (b := 250) (show z_pt 264 47 = some (2, .getfield 42, [10, 17, 6135]) by decide +kernel) (by decide +kernel) ?_
    refine R_at (pc := 50) ?_
    refine R_pure (pc := 50) (pc' := 51) (st' := [.int i1, .ref 250]) (show z_pt 264 50 = some (2, .iload_n 1, []) by decide +kernel) rfl (fun _ _ _ => rfl) ?_
    refine R_const (pc := 51) (pc' := 52) (v := 1) (show z_ptc 264 51 = some (52, 1) by decide +kernel) ?_
    refine R_pure (pc := 52) (pc' := 53) (st' := [.int (i1 + 1), .ref 250]) (show z_pt 264 52 = some (2, .iadd, []) by decide +kernel) rfl (fun _ _ _ => rfl) ?_
    refine R_pure (pc := 53) (pc' := 54) (st' := [.ref 241, .int (i1 + 1), .ref 250]) (show z_pt 264 53 = some (2, .aload_n 0, []) by decide +kernel) rfl (fun _ _ _ => rfl) ?_
    obtain ⟨q6, e7, h⟩ := z_bs h
    refine R_call (pc := 54) (rr := [.int (i1 + 1), .ref 250]) (show z_pt 264 54 = some (2, .invokevirtual 233, [0, 258, 0, 8093, 8095, 75, 1012, 8096]) by decide +kernel) rfl (show z_r2 258 = some (10, 1, true) by decide +kernel) rfl rfl (Or.inr ⟨_, _, rfl, (by decide +kernel)⟩) (pm_here_run  e7) (by omega) ?_
    refine R_at2 (pc := 57) (st := [.int q6, .int (i1 + 1), .ref 250]) ?_
    obtain ⟨g8, h⟩ := z_ig h
    refine R_iast (pc := 57) (a := 250) (n := 240) (show z_pt 264 57 = some (2, .iastore, []) by decide +kernel) (show z_ar 250 0 240 = true by decide +kernel) g8 ?_
    refine R_at (pc := 58) ?_
    refine R_pure (pc := 58) (pc' := 59) (st' := [.ref 241]) (show z_pt 264 58 = some (2, .aload_n 0, []) by decide +kernel) rfl (fun _ _ _ => rfl) ?_
    refine R_pure (pc := 59) (pc' := 60) (st' := [.ref 241, .ref 241]) (show z_pt 264 59 = some (2, .dup, []) by decide +kernel) rfl (fun _ _ _ => rfl) ?_
    refine R_getI (pc := 60) (a := 241) (show z_pt 264 60 = some (2, .getfield 226, [10, 15, 6133]) by decide +kernel) (by decide +kernel) ?_
    refine R_at (pc := 63) ?_
    refine R_pure (pc := 63) (pc' := 64) (st' := [.ref 241, .int ((z_u (z_u q3 241 16 1) 250 (i1 + 1).toNatClampNeg q6) 241 15), .ref 241]) (show z_pt 264 63 = some (2, .aload_n 0, []) by decide +kernel) rfl (fun _ _ _ => rfl) ?_
    refine R_getI (pc := 64) (a := 241) (show z_pt 264 64 = some (2, .getfield 229, [10, 16, 6134]) by decide +kernel) (by decide +kernel) ?_
    refine R_at (pc := 67) ?_
    refine R_ifeq (pc := 67) (t := 74) (show z_pt 264 67 = some (2, .ifCond .eq 7, []) by decide +kernel) (by decide) (fun c9 => ?_) (fun c9 => ?_)
    · rw [if_pos c9] at h
      refine R_const (pc := 74) (pc' := 75) (v := 1) (show z_ptc 264 74 = some (75, 1) by decide +kernel) ?_
      refine R_pure (pc := 75) (pc' := 76) (st' := [.int (((z_u (z_u q3 241 16 1) 250 (i1 + 1).toNatClampNeg q6) 241 15) + 1), .ref 241]) (show z_pt 264 75 = some (2, .iadd, []) by decide +kernel) rfl (fun _ _ _ => rfl) ?_
      refine R_putI (pc := 76) (a := 241) (show z_pt 264 76 = some (2, .putfield 226, [10, 15, 6133]) by decide +kernel) (by decide +kernel) ⟨rfl, rfl⟩ ?_
      refine R_at (pc := 79) ?_
      refine R_pure (pc := 79) (pc' := 80) (st' := [.ref 241]) (show z_pt 264 79 = some (2, .aload_n 0, []) by decide +kernel) rfl (fun _ _ _ => rfl) ?_
      refine R_getR (pc := 80) (a := 241) (b := 250) (show z_pt 264 80 = some (2, .getfield 42, [10, 17, 6135]) by decide +kernel) (by decide +kernel) ?_
      refine R_at (pc := 83) ?_
      refine R_pure (pc := 83) (pc' := 84) (st' := [.int i1, .ref 250]) (show z_pt 264 83 = some (2, .iload_n 1, []) by decide +kernel) rfl (fun _ _ _ => rfl) ?_
      refine R_const (pc := 84) (pc' := 85) (v := 2) (show z_ptc 264 84 = some (85, 2) by decide +kernel) ?_
      refine R_pure (pc := 85) (pc' := 86) (st' := [.int (i1 + 2), .ref 250]) (show z_pt 264 85 = some (2, .iadd, []) by decide +kernel) rfl (fun _ _ _ => rfl) ?_
      refine R_pure (pc := 86) (pc' := 87) (st' := [.ref 241, .int (i1 + 2), .ref 250]) (show z_pt 264 86 = some (2, .aload_n 0, []) by decide +kernel) rfl (fun _ _ _ => rfl) ?_
      refine R_const (pc := 87) (pc' := 88) (v := 1) (show z_ptc 264 87 = some (88, 1) by decide +kernel) ?_
      obtain ⟨q10, e11, h⟩ := z_bs h
      refine R_call (pc := 88) (rr := [.int (i1 + 2), .ref 250]) (show z_pt 264 88 = some (2, .invokevirtual 239, [0, 261, 1, 8109, 8111, 79, 1012, 8112]) by decide +kernel) rfl (show z_r2 261 = some (10, 4, true) by decide +kernel) rfl rfl (Or.inr ⟨_, _, rfl, (by decide +kernel)⟩) (pm_digits_run  e11) (by omega) ?_
      refine R_at2 (pc := 91) (st := [.int q10.1, .int (i1 + 2), .ref 250]) ?_
      obtain ⟨g12, h⟩ := z_ig h
      refine R_iast (pc := 91) (a := 250) (n := 240) (show z_pt 264 91 = some (2, .iastore, []) by decide +kernel) (show z_ar 250 0 240 = true by decide +kernel) g12 ?_
      refine R_at (pc := 92) ?_
      cases h
      exact R_retV (show z_pt 264 92 = some (2, .return_, []) by decide +kernel) (by decide +kernel)
    · rw [if_neg c9] at h
      refine R_const (pc := 70) (pc' := 71) (v := 0) (show z_ptc 264 70 = some (71, 0) by decide +kernel) ?_
      refine R_pure (pc := 71) (pc' := 75) (show z_pt 264 71 = some (2, .goto 4, []) by decide +kernel) rfl (fun _ _ _ => rfl) ?_
      refine R_pure (pc := 75) (pc' := 76) (st' := [.int (((z_u (z_u q3 241 16 1) 250 (i1 + 1).toNatClampNeg q6) 241 15) + 0), .ref 241]) (show z_pt 264 75 = some (2, .iadd, []) by decide +kernel) rfl (fun _ _ _ => rfl) ?_
      refine R_putI (pc := 76) (a := 241) (show z_pt 264 76 = some (2, .putfield 226, [10, 15, 6133]) by decide +kernel) (by decide +kernel) ⟨rfl, rfl⟩ ?_
      refine R_at (pc := 79) ?_
      refine R_pure (pc := 79) (pc' := 80) (st' := [.ref 241]) (show z_pt 264 79 = some (2, .aload_n 0, []) by decide +kernel) rfl (fun _ _ _ => rfl) ?_
      refine R_getR (pc := 80) (a := 241) (b := 250) (show z_pt 264 80 = some (2, .getfield 42, [10, 17, 6135]) by decide +kernel) (by decide +kernel) ?_
      refine R_at (pc := 83) ?_
      refine R_pure (pc := 83) (pc' := 84) (st' := [.int i1, .ref 250]) (show z_pt 264 83 = some (2, .iload_n 1, []) by decide +kernel) rfl (fun _ _ _ => rfl) ?_
      refine R_const (pc := 84) (pc' := 85) (v := 2) (show z_ptc 264 84 = some (85, 2) by decide +kernel) ?_
      refine R_pure (pc := 85) (pc' := 86) (st' := [.int (i1 + 2), .ref 250]) (show z_pt 264 85 = some (2, .iadd, []) by decide +kernel) rfl (fun _ _ _ => rfl) ?_
      refine R_pure (pc := 86) (pc' := 87) (st' := [.ref 241, .int (i1 + 2), .ref 250]) (show z_pt 264 86 = some (2, .aload_n 0, []) by decide +kernel) rfl (fun _ _ _ => rfl) ?_
      refine R_const (pc := 87) (pc' := 88) (v := 1) (show z_ptc 264 87 = some (88, 1) by decide +kernel) ?_
      obtain ⟨q13, e14, h⟩ := z_bs h
      refine R_call (pc := 88) (rr := [.int (i1 + 2), .ref 250]) (show z_pt 264 88 = some (2, .invokevirtual 239, [0, 261, 1, 8109, 8111, 79, 1012, 8112]) by decide +kernel) rfl (show z_r2 261 = some (10, 4, true) by decide +kernel) rfl rfl (Or.inr ⟨_, _, rfl, (by decide +kernel)⟩) (pm_digits_run  e14) (by omega) ?_
      refine R_at2 (pc := 91) (st := [.int q13.1, .int (i1 + 2), .ref 250]) ?_
      obtain ⟨g15, h⟩ := z_ig h
      refine R_iast (pc := 91) (a := 250) (n := 240) (show z_pt 264 91 = some (2, .iastore, []) by decide +kernel) (show z_ar 250 0 240 = true by decide +kernel) g15 ?_
      refine R_at (pc := 92) ?_
      cases h
      exact R_retV (show z_pt 264 92 = some (2, .return_, []) by decide +kernel) (by decide +kernel)
  · rw [if_pos c5] at h
    refine R_pure (pc := 24) (pc' := 25) (st' := [.ref 241, .ref 241]) (show z_pt 264 24 = some (2, .aload_n 0, []) by decide +kernel) rfl (fun _ _ _ => rfl) ?_
    obtain ⟨q16, e17, h⟩ := z_bs h
    refine R_call (pc := 25) (rr := [.ref 241]) (show z_pt 264 25 = some (2, .invokevirtual 233, [0, 258, 0, 8093, 8095, 75, 1012, 8096]) by decide +kernel) rfl (show z_r2 258 = some (10, 1, true) by decide +kernel) rfl rfl (Or.inr ⟨_, _, rfl, (by decide +kernel)⟩) (pm_here_run  e17) (by omega) ?_
    refine R_at2 (pc := 28) (st := [.int q16, .ref 241]) ?_
    refine R_const (pc := 28) (pc' := 30) (v := 97) (show z_ptc 264 28 = some (30, 97) by decide +kernel) ?_
    refine R_const (pc := 30) (pc' := 32) (v := 122) (show z_ptc 264 30 = some (32, 122) by decide +kernel) ?_
    obtain ⟨q18, e19, h⟩ := z_bs h
    refine R_call (pc := 32) (rr := [.ref 241]) (show z_pt 264 32 = some (2, .invokestatic 55, [1, 160, 3, 6192, 6193, 0, 1012, 6194]) by decide +kernel) rfl (show z_r2 160 = some (10, 3, true) by decide +kernel) rfl rfl (Or.inl (by decide)) (pm_in_run  e19) (by omega) ?_
    refine R_at2 (pc := 35) (st := [.int q18, .ref 241]) ?_
    refine R_ifne (pc := 35) (t := 42) (show z_pt 264 35 = some (2, .ifCond .ne 7, []) by decide +kernel) (by decide) (fun c20 => ?_) (fun c20 => ?_)
    · rw [if_neg c20] at h
      refine R_const (pc := 42) (pc' := 43) (v := 0) (show z_ptc 264 42 = some (43, 0) by decide +kernel) ?_
      refine R_putI (pc := 43) (a := 241) (show z_pt 264 43 = some (2, .putfield 229, [10, 16, 6134]) by decide +kernel) (by decide +kernel) (by decide) ?_
      refine R_at (pc := 46) ?_
      refine R_pure (pc := 46) (pc' := 47) (st' := [.ref 241]) (show z_pt 264 46 = some (2, .aload_n 0, []) by decide +kernel) rfl (fun _ _ _ => rfl) ?_
      refine R_getR (pc := 47) (a := 241) (b := 250) (show z_pt 264 47 = some (2, .getfield 42, [10, 17, 6135]) by decide +kernel) (by decide +kernel) ?_
      refine R_at (pc := 50) ?_
      refine R_pure (pc := 50) (pc' := 51) (st' := [.int i1, .ref 250]) (show z_pt 264 50 = some (2, .iload_n 1, []) by decide +kernel) rfl (fun _ _ _ => rfl) ?_
      refine R_const (pc := 51) (pc' := 52) (v := 1) (show z_ptc 264 51 = some (52, 1) by decide +kernel) ?_
      refine R_pure (pc := 52) (pc' := 53) (st' := [.int (i1 + 1), .ref 250]) (show z_pt 264 52 = some (2, .iadd, []) by decide +kernel) rfl (fun _ _ _ => rfl) ?_
      refine R_pure (pc := 53) (pc' := 54) (st' := [.ref 241, .int (i1 + 1), .ref 250]) (show z_pt 264 53 = some (2, .aload_n 0, []) by decide +kernel) rfl (fun _ _ _ => rfl) ?_
      obtain ⟨q21, e22, h⟩ := z_bs h
      refine R_call (pc := 54) (rr := [.int (i1 + 1), .ref 250]) (show z_pt 264 54 = some (2, .invokevirtual 233, [0, 258, 0, 8093, 8095, 75, 1012, 8096]) by decide +kernel) rfl (show z_r2 258 = some (10, 1, true) by decide +kernel) rfl rfl (Or.inr ⟨_, _, rfl, (by decide +kernel)⟩) (pm_here_run  e22) (by omega) ?_
      refine R_at2 (pc := 57) (st := [.int q21, .int (i1 + 1), .ref 250]) ?_
      obtain ⟨g23, h⟩ := z_ig h
      refine R_iast (pc := 57) (a := 250) (n := 240) (show z_pt 264 57 = some (2, .iastore, []) by decide +kernel) (show z_ar 250 0 240 = true by decide +kernel) g23 ?_
      refine R_at (pc := 58) ?_
      refine R_pure (pc := 58) (pc' := 59) (st' := [.ref 241]) (show z_pt 264 58 = some (2, .aload_n 0, []) by decide +kernel) rfl (fun _ _ _ => rfl) ?_
      refine R_pure (pc := 59) (pc' := 60) (st' := [.ref 241, .ref 241]) (show z_pt 264 59 = some (2, .dup, []) by decide +kernel) rfl (fun _ _ _ => rfl) ?_
      refine R_getI (pc := 60) (a := 241) (show z_pt 264 60 = some (2, .getfield 226, [10, 15, 6133]) by decide +kernel) (by decide +kernel) ?_
      refine R_at (pc := 63) ?_
      refine R_pure (pc := 63) (pc' := 64) (st' := [.ref 241, .int ((z_u (z_u q3 241 16 0) 250 (i1 + 1).toNatClampNeg q21) 241 15), .ref 241]) (show z_pt 264 63 = some (2, .aload_n 0, []) by decide +kernel) rfl (fun _ _ _ => rfl) ?_
      refine R_getI (pc := 64) (a := 241) (show z_pt 264 64 = some (2, .getfield 229, [10, 16, 6134]) by decide +kernel) (by decide +kernel) ?_
      refine R_at (pc := 67) ?_
      refine R_ifeq (pc := 67) (t := 74) (show z_pt 264 67 = some (2, .ifCond .eq 7, []) by decide +kernel) (by decide) (fun c24 => ?_) (fun c24 => ?_)
      · rw [if_pos c24] at h
        refine R_const (pc := 74) (pc' := 75) (v := 1) (show z_ptc 264 74 = some (75, 1) by decide +kernel) ?_
        refine R_pure (pc := 75) (pc' := 76) (st' := [.int (((z_u (z_u q3 241 16 0) 250 (i1 + 1).toNatClampNeg q21) 241 15) + 1), .ref 241]) (show z_pt 264 75 = some (2, .iadd, []) by decide +kernel) rfl (fun _ _ _ => rfl) ?_
        refine R_putI (pc := 76) (a := 241) (show z_pt 264 76 = some (2, .putfield 226, [10, 15, 6133]) by decide +kernel) (by decide +kernel) ⟨rfl, rfl⟩ ?_
        refine R_at (pc := 79) ?_
        refine R_pure (pc := 79) (pc' := 80) (st' := [.ref 241]) (show z_pt 264 79 = some (2, .aload_n 0, []) by decide +kernel) rfl (fun _ _ _ => rfl) ?_
        refine R_getR (pc := 80) (a := 241) (b := 250) (show z_pt 264 80 = some (2, .getfield 42, [10, 17, 6135]) by decide +kernel) (by decide +kernel) ?_
        refine R_at (pc := 83) ?_
        refine R_pure (pc := 83) (pc' := 84) (st' := [.int i1, .ref 250]) (show z_pt 264 83 = some (2, .iload_n 1, []) by decide +kernel) rfl (fun _ _ _ => rfl) ?_
        refine R_const (pc := 84) (pc' := 85) (v := 2) (show z_ptc 264 84 = some (85, 2) by decide +kernel) ?_
        refine R_pure (pc := 85) (pc' := 86) (st' := [.int (i1 + 2), .ref 250]) (show z_pt 264 85 = some (2, .iadd, []) by decide +kernel) rfl (fun _ _ _ => rfl) ?_
        refine R_pure (pc := 86) (pc' := 87) (st' := [.ref 241, .int (i1 + 2), .ref 250]) (show z_pt 264 86 = some (2, .aload_n 0, []) by decide +kernel) rfl (fun _ _ _ => rfl) ?_
        refine R_const (pc := 87) (pc' := 88) (v := 1) (show z_ptc 264 87 = some (88, 1) by decide +kernel) ?_
        obtain ⟨q25, e26, h⟩ := z_bs h
        refine R_call (pc := 88) (rr := [.int (i1 + 2), .ref 250]) (show z_pt 264 88 = some (2, .invokevirtual 239, [0, 261, 1, 8109, 8111, 79, 1012, 8112]) by decide +kernel) rfl (show z_r2 261 = some (10, 4, true) by decide +kernel) rfl rfl (Or.inr ⟨_, _, rfl, (by decide +kernel)⟩) (pm_digits_run  e26) (by omega) ?_
        refine R_at2 (pc := 91) (st := [.int q25.1, .int (i1 + 2), .ref 250]) ?_
        obtain ⟨g27, h⟩ := z_ig h
        refine R_iast (pc := 91) (a := 250) (n := 240) (show z_pt 264 91 = some (2, .iastore, []) by decide +kernel) (show z_ar 250 0 240 = true by decide +kernel) g27 ?_
        refine R_at (pc := 92) ?_
        cases h
        exact R_retV (show z_pt 264 92 = some (2, .return_, []) by decide +kernel) (by decide +kernel)
      · rw [if_neg c24] at h
        refine R_const (pc := 70) (pc' := 71) (v := 0) (show z_ptc 264 70 = some (71, 0) by decide +kernel) ?_
        refine R_pure (pc := 71) (pc' := 75) (show z_pt 264 71 = some (2, .goto 4, []) by decide +kernel) rfl (fun _ _ _ => rfl) ?_
        refine R_pure (pc := 75) (pc' := 76) (st' := [.int (((z_u (z_u q3 241 16 0) 250 (i1 + 1).toNatClampNeg q21) 241 15) + 0), .ref 241]) (show z_pt 264 75 = some (2, .iadd, []) by decide +kernel) rfl (fun _ _ _ => rfl) ?_
        refine R_putI (pc := 76) (a := 241) (show z_pt 264 76 = some (2, .putfield 226, [10, 15, 6133]) by decide +kernel) (by decide +kernel) ⟨rfl, rfl⟩ ?_
        refine R_at (pc := 79) ?_
        refine R_pure (pc := 79) (pc' := 80) (st' := [.ref 241]) (show z_pt 264 79 = some (2, .aload_n 0, []) by decide +kernel) rfl (fun _ _ _ => rfl) ?_
        refine R_getR (pc := 80) (a := 241) (b := 250) (show z_pt 264 80 = some (2, .getfield 42, [10, 17, 6135]) by decide +kernel) (by decide +kernel) ?_
        refine R_at (pc := 83) ?_
        refine R_pure (pc := 83) (pc' := 84) (st' := [.int i1, .ref 250]) (show z_pt 264 83 = some (2, .iload_n 1, []) by decide +kernel) rfl (fun _ _ _ => rfl) ?_
        refine R_const (pc := 84) (pc' := 85) (v := 2) (show z_ptc 264 84 = some (85, 2) by decide +kernel) ?_
        refine R_pure (pc := 85) (pc' := 86) (st' := [.int (i1 + 2), .ref 250]) (show z_pt 264 85 = some (2, .iadd, []) by decide +kernel) rfl (fun _ _ _ => rfl) ?_
        refine R_pure (pc := 86) (pc' := 87) (st' := [.ref 241, .int (i1 + 2), .ref 250]) (show z_pt 264 86 = some (2, .aload_n 0, []) by decide +kernel) rfl (fun _ _ _ => rfl) ?_
        refine R_const (pc := 87) (pc' := 88) (v := 1) (show z_ptc 264 87 = some (88, 1) by decide +kernel) ?_
        obtain ⟨q28, e29, h⟩ := z_bs h
        refine R_call (pc := 88) (rr := [.int (i1 + 2), .ref 250]) (show z_pt 264 88 = some (2, .invokevirtual 239, [0, 261, 1, 8109, 8111, 79, 1012, 8112]) by decide +kernel) rfl (show z_r2 261 = some (10, 4, true) by decide +kernel) rfl rfl (Or.inr ⟨_, _, rfl, (by decide +kernel)⟩) (pm_digits_run  e29) (by omega) ?_
        refine R_at2 (pc := 91) (st := [.int q28.1, .int (i1 + 2), .ref 250]) ?_
        obtain ⟨g30, h⟩ := z_ig h
        refine R_iast (pc := 91) (a := 250) (n := 240) (show z_pt 264 91 = some (2, .iastore, []) by decide +kernel) (show z_ar 250 0 240 = true by decide +kernel) g30 ?_
        refine R_at (pc := 92) ?_
        cases h
        exact R_retV (show z_pt 264 92 = some (2, .return_, []) by decide +kernel) (by decide +kernel)
    · rw [if_pos c20] at h
      refine R_const (pc := 38) (pc' := 39) (v := 1) (show z_ptc 264 38 = some (39, 1) by decide +kernel) ?_
      refine R_pure (pc := 39) (pc' := 43) (show z_pt 264 39 = some (2, .goto 4, []) by decide +kernel) rfl (fun _ _ _ => rfl) ?_
      refine R_putI (pc := 43) (a := 241) (show z_pt 264 43 = some (2, .putfield 229, [10, 16, 6134]) by decide +kernel) (by decide +kernel) (by decide) ?_
      refine R_at (pc := 46) ?_
      refine R_pure (pc := 46) (pc' := 47) (st' := [.ref 241]) (show z_pt 264 46 = some (2, .aload_n 0, []) by decide +kernel) rfl (fun _ _ _ => rfl) ?_
      refine R_getR (pc := 47) (a := 241) (b := 250) (show z_pt 264 47 = some (2, .getfield 42, [10, 17, 6135]) by decide +kernel) (by decide +kernel) ?_
      refine R_at (pc := 50) ?_
      refine R_pure (pc := 50) (pc' := 51) (st' := [.int i1, .ref 250]) (show z_pt 264 50 = some (2, .iload_n 1, []) by decide +kernel) rfl (fun _ _ _ => rfl) ?_
      refine R_const (pc := 51) (pc' := 52) (v := 1) (show z_ptc 264 51 = some (52, 1) by decide +kernel) ?_
      refine R_pure (pc := 52) (pc' := 53) (st' := [.int (i1 + 1), .ref 250]) (show z_pt 264 52 = some (2, .iadd, []) by decide +kernel) rfl (fun _ _ _ => rfl) ?_
      refine R_pure (pc := 53) (pc' := 54) (st' := [.ref 241, .int (i1 + 1), .ref 250]) (show z_pt 264 53 = some (2, .aload_n 0, []) by decide +kernel) rfl (fun _ _ _ => rfl) ?_
      obtain ⟨q31, e32, h⟩ := z_bs h
      refine R_call (pc := 54) (rr := [.int (i1 + 1), .ref 250]) (show z_pt 264 54 = some (2, .invokevirtual 233, [0, 258, 0, 8093, 8095, 75, 1012, 8096]) by decide +kernel) rfl (show z_r2 258 = some (10, 1, true) by decide +kernel) rfl rfl (Or.inr ⟨_, _, rfl, (by decide +kernel)⟩) (pm_here_run  e32) (by omega) ?_
      refine R_at2 (pc := 57) (st := [.int q31, .int (i1 + 1), .ref 250]) ?_
      obtain ⟨g33, h⟩ := z_ig h
      refine R_iast (pc := 57) (a := 250) (n := 240) (show z_pt 264 57 = some (2, .iastore, []) by decide +kernel) (show z_ar 250 0 240 = true by decide +kernel) g33 ?_
      refine R_at (pc := 58) ?_
      refine R_pure (pc := 58) (pc' := 59) (st' := [.ref 241]) (show z_pt 264 58 = some (2, .aload_n 0, []) by decide +kernel) rfl (fun _ _ _ => rfl) ?_
      refine R_pure (pc := 59) (pc' := 60) (st' := [.ref 241, .ref 241]) (show z_pt 264 59 = some (2, .dup, []) by decide +kernel) rfl (fun _ _ _ => rfl) ?_
      refine R_getI (pc := 60) (a := 241) (show z_pt 264 60 = some (2, .getfield 226, [10, 15, 6133]) by decide +kernel) (by decide +kernel) ?_
      refine R_at (pc := 63) ?_
      refine R_pure (pc := 63) (pc' := 64) (st' := [.ref 241, .int ((z_u (z_u q3 241 16 1) 250 (i1 + 1).toNatClampNeg q31) 241 15), .ref 241]) (show z_pt 264 63 = some (2, .aload_n 0, []) by decide +kernel) rfl (fun _ _ _ => rfl) ?_
      refine R_getI (pc := 64) (a := 241) (show z_pt 264 64 = some (2, .getfield 229, [10, 16, 6134]) by decide +kernel) (by decide +kernel) ?_
      refine R_at (pc := 67) ?_
      refine R_ifeq (pc := 67) (t := 74) (show z_pt 264 67 = some (2, .ifCond .eq 7, []) by decide +kernel) (by decide) (fun c34 => ?_) (fun c34 => ?_)
      · rw [if_pos c34] at h
        refine R_const (pc := 74) (pc' := 75) (v := 1) (show z_ptc 264 74 = some (75, 1) by decide +kernel) ?_
        refine R_pure (pc := 75) (pc' := 76) (st' := [.int (((z_u (z_u q3 241 16 1) 250 (i1 + 1).toNatClampNeg q31) 241 15) + 1), .ref 241]) (show z_pt 264 75 = some (2, .iadd, []) by decide +kernel) rfl (fun _ _ _ => rfl) ?_
        refine R_putI (pc := 76) (a := 241) (show z_pt 264 76 = some (2, .putfield 226, [10, 15, 6133]) by decide +kernel) (by decide +kernel) ⟨rfl, rfl⟩ ?_
        refine R_at (pc := 79) ?_
        refine R_pure (pc := 79) (pc' := 80) (st' := [.ref 241]) (show z_pt 264 79 = some (2, .aload_n 0, []) by decide +kernel) rfl (fun _ _ _ => rfl) ?_
        refine R_getR (pc := 80) (a := 241) (b := 250) (show z_pt 264 80 = some (2, .getfield 42, [10, 17, 6135]) by decide +kernel) (by decide +kernel) ?_
        refine R_at (pc := 83) ?_
        refine R_pure (pc := 83) (pc' := 84) (st' := [.int i1, .ref 250]) (show z_pt 264 83 = some (2, .iload_n 1, []) by decide +kernel) rfl (fun _ _ _ => rfl) ?_
        refine R_const (pc := 84) (pc' := 85) (v := 2) (show z_ptc 264 84 = some (85, 2) by decide +kernel) ?_
        refine R_pure (pc := 85) (pc' := 86) (st' := [.int (i1 + 2), .ref 250]) (show z_pt 264 85 = some (2, .iadd, []) by decide +kernel) rfl (fun _ _ _ => rfl) ?_
        refine R_pure (pc := 86) (pc' := 87) (st' := [.ref 241, .int (i1 + 2), .ref 250]) (show z_pt 264 86 = some (2, .aload_n 0, []) by decide +kernel) rfl (fun _ _ _ => rfl) ?_
        refine R_const (pc := 87) (pc' := 88) (v := 1) (show z_ptc 264 87 = some (88, 1) by decide +kernel) ?_
        obtain ⟨q35, e36, h⟩ := z_bs h
        refine R_call (pc := 88) (rr := [.int (i1 + 2), .ref 250]) (show z_pt 264 88 = some (2, .invokevirtual 239, [0, 261, 1, 8109, 8111, 79, 1012, 8112]) by decide +kernel) rfl (show z_r2 261 = some (10, 4, true) by decide +kernel) rfl rfl (Or.inr ⟨_, _, rfl, (by decide +kernel)⟩) (pm_digits_run  e36) (by omega) ?_
        refine R_at2 (pc := 91) (st := [.int q35.1, .int (i1 + 2), .ref 250]) ?_
        obtain ⟨g37, h⟩ := z_ig h
        refine R_iast (pc := 91) (a := 250) (n := 240) (show z_pt 264 91 = some (2, .iastore, []) by decide +kernel) (show z_ar 250 0 240 = true by decide +kernel) g37 ?_
        refine R_at (pc := 92) ?_
        cases h
        exact R_retV (show z_pt 264 92 = some (2, .return_, []) by decide +kernel) (by decide +kernel)
      · rw [if_neg c34] at h
        refine R_const (pc := 70) (pc' := 71) (v := 0) (show z_ptc 264 70 = some (71, 0) by decide +kernel) ?_
        refine R_pure (pc := 71) (pc' := 75) (show z_pt 264 71 = some (2, .goto 4, []) by decide +kernel) rfl (fun _ _ _ => rfl) ?_
        refine R_pure (pc := 75) (pc' := 76) (st' := [.int (((z_u (z_u q3 241 16 1) 250 (i1 + 1).toNatClampNeg q31) 241 15) + 0), .ref 241]) (show z_pt 264 75 = some (2, .iadd, []) by decide +kernel) rfl (fun _ _ _ => rfl) ?_
        refine R_putI (pc := 76) (a := 241) (show z_pt 264 76 = some (2, .putfield 226, [10, 15, 6133]) by decide +kernel) (by decide +kernel) ⟨rfl, rfl⟩ ?_
        refine R_at (pc := 79) ?_
        refine R_pure (pc := 79) (pc' := 80) (st' := [.ref 241]) (show z_pt 264 79 = some (2, .aload_n 0, []) by decide +kernel) rfl (fun _ _ _ => rfl) ?_
        refine R_getR (pc := 80) (a := 241) (b := 250) (show z_pt 264 80 = some (2, .getfield 42, [10, 17, 6135]) by decide +kernel) (by decide +kernel) ?_
        refine R_at (pc := 83) ?_
        refine R_pure (pc := 83) (pc' := 84) (st' := [.int i1, .ref 250]) (show z_pt 264 83 = some (2, .iload_n 1, []) by decide +kernel) rfl (fun _ _ _ => rfl) ?_
        refine R_const (pc := 84) (pc' := 85) (v := 2) (show z_ptc 264 84 = some (85, 2) by decide +kernel) ?_
        refine R_pure (pc := 85) (pc' := 86) (st' := [.int (i1 + 2), .ref 250]) (show z_pt 264 85 = some (2, .iadd, []) by decide +kernel) rfl (fun _ _ _ => rfl) ?_
        refine R_pure (pc := 86) (pc' := 87) (st' := [.ref 241, .int (i1 + 2), .ref 250]) (show z_pt 264 86 = some (2, .aload_n 0, []) by decide +kernel) rfl (fun _ _ _ => rfl) ?_
        refine R_const (pc := 87) (pc' := 88) (v := 1) (show z_ptc 264 87 = some (88, 1) by decide +kernel) ?_
        obtain ⟨q38, e39, h⟩ := z_bs h
        refine R_call (pc := 88) (rr := [.int (i1 + 2), .ref 250]) (show z_pt 264 88 = some (2, .invokevirtual 239, [0, 261, 1, 8109, 8111, 79, 1012, 8112]) by decide +kernel) rfl (show z_r2 261 = some (10, 4, true) by decide +kernel) rfl rfl (Or.inr ⟨_, _, rfl, (by decide +kernel)⟩) (pm_digits_run  e39) (by omega) ?_
        refine R_at2 (pc := 91) (st := [.int q38.1, .int (i1 + 2), .ref 250]) ?_
        obtain ⟨g40, h⟩ := z_ig h
        refine R_iast (pc := 91) (a := 250) (n := 240) (show z_pt 264 91 = some (2, .iastore, []) by decide +kernel) (show z_ar 250 0 240 = true by decide +kernel) g40 ?_
        refine R_at (pc := 92) ?_
        cases h
        exact R_retV (show z_pt 264 92 = some (2, .return_, []) by decide +kernel) (by decide +kernel)
end ZP10
