/-! The law's own methods and its arms: where class and reference agree, the law goes on. -/
section ZARMS
/-- a char out of an int -/
def z_toC (x : Int32) : Int32 := (x.toUInt32 % 65536).toInt32
def z_PE (μ1 : z_Mem) (a1 : Nat → Int64) (q1 : Nat → UInt64) : z_LP := fun m x y => m = μ1 ∧ x = a1 ∧ y = q1
/-- the answer of the class and that of the reference, with its number of the exception -/
def z_agI (es : List Nat) (r : Int32 ⊕ Nat) (b t : Int32) : Prop := match r with
  | .inl v => t = 0 ∧ v = b
  | .inr E => ∃ n, es[n]? = some E ∧ t = Int32.ofNat (n + 1)
def z_agD (es : List Nat) (r : UInt64 ⊕ Nat) (b : UInt64) (t : Int32) : Prop := match r with
  | .inl v => t = 0 ∧ v = b
  | .inr E => ∃ n, es[n]? = some E ∧ t = Int32.ofNat (n + 1)
def z_agF (es : List Nat) (r : UInt32 ⊕ Nat) (b : UInt32) (t : Int32) : Prop := match r with
  | .inl v => t = 0 ∧ v = b
  | .inr E => ∃ n, es[n]? = some E ∧ t = Int32.ofNat (n + 1)
theorem z_lc {x y : Int64} (h : x = y) : z_cmp0 .eq (lg_cmp x y) = true := by
  subst h
  unfold z_cmp0 lg_cmp
  simp
section Rows
variable {sc : Nat × (Nat → Int32)} {D k pc nL J : Nat} {ls : z_Ls} {st : List Value} {μ μ1 : z_Mem} {a a1 : Nat → Int64} {q q1 : Nat → UInt64} {o : z_R} {P : z_LP} {i : Instr} {ax : List Nat}
theorem L_f2d {x : UInt32} (hp : z_pt k pc = some (nL, .f2d, ax)) (hn : z_n64 (FP.f2d x) = true) (kk : Rl sc D k (pc + 1) ls (.double (FP.f2d x) :: st) μ a q o P J) : Rl sc D k pc ls (.float x :: st) μ a q o P J :=
  L_pure hp rfl (fun d hp => by
    show (if FP.f2d x &&& 0x7fffffffffffffff ≤ 0x7ff0000000000000 then _ else _) = _
    rw [if_pos (of_decide_eq_true hn)]) kk
theorem L_callF {k2 n c2 nl2 J2 : Nat} {as rr : List Value} {D2 : Nat} {v : Option Value} {x1 x2 x3 x4 x5 : Nat} (hp : z_pt k pc = some (nL, i, [5, k2, n, x1, x2, x3, x4, x5])) (hk : z_kd i [5, k2, n, x1, x2, x3, x4, x5] = 3) (h2 : z_r3 k2 = some (c2, nl2, true)) (ha : z_args 5 n st = some (as, rr)) (hb : (Nat.ble (lg_sl as).length nl2 && Nat.ble (z_cat rr) 8) = true) (hr : Rl sc D2 k2 0 (lv_args 0 as) [] μ a q (.inl v) (z_PE μ1 a1 q1) J2) (hd : D2 + 1 ≤ D) (kk : Rl sc D k (pc + 3) ls (v.toList ++ rr) μ1 a1 q1 o P J) : Rl sc D k pc ls st μ a q o P (J2 + J) :=
  L_callE hp hk h2 ha hb hr hd (fun m x y h => by obtain ⟨e1, e2, e3⟩ := h; subst e1; subst e2; subst e3; exact kk)
end Rows

theorem pL_addGear {sc : Nat × (Nat → Int32)} {μ μ1 : z_Mem} {a : Nat → Int64} {q : Nat → UInt64} {c1 : Int32} {r : Int32 ⊕ Nat} {b : Int32} {t : Int32} (h1 : pG_addGear μ c1 = some (r, μ1)) (hag : z_agI [1, 2] r b t) : ∃ (a1 : Nat → Int64) (q1 : Nat → UInt64), (t = 0 → a1 0 = Int32.toInt64 b) ∧ Rl sc 8 274 0 [(0, .ref 0), (1, .int c1), (2, .ref 251)] [] μ a q (.inl (some (.int t))) (z_PE μ1 a1 q1) 1 := by
  cases r with
  | inl v =>
    obtain ⟨ht, hv⟩ := hag
    subst ht
    subst hv
    refine ⟨vp_updL a 0 (Int32.toInt64 v), q, fun _ => rfl, ?_⟩
    refine L_pure (pc := 0) (pc' := 1) (st' := [.ref 251]) (show z_pt 274 0 = some (4, .aload_n 2, []) by decide +kernel) rfl (fun _ _ => rfl) ?_
    refine L_const (pc := 1) (pc' := 2) (v := 0) (show z_ptc 274 1 = some (2, 0) by decide +kernel) ?_
    refine L_pure (pc := 2) (pc' := 3) (st' := [.ref 0, .int 0, .ref 251]) (show z_pt 274 2 = some (4, .aload_n 0, []) by decide +kernel) rfl (fun _ _ => rfl) ?_
    refine L_pure (pc := 3) (pc' := 4) (st' := [.int c1, .ref 0, .int 0, .ref 251]) (show z_pt 274 3 = some (4, .iload_n 1, []) by decide +kernel) rfl (fun _ _ => rfl) ?_
    refine L_call (pc := 4) (rr := [.int 0, .ref 251]) (show z_pt 274 4 = some (4, .invokevirtual 7, [0, 77, 1, 2223, 2224, 2225, 1001, 2226]) by decide +kernel) rfl (show z_r2 77 = some (9, 2, true) by decide +kernel) rfl rfl (Or.inr ⟨_, _, rfl, (show z_ci 0 9 = true by decide +kernel)⟩) (pG_addGear_run h1) (by omega) ?_
    refine L_pure (pc := 7) (pc' := 8) (st' := [.long (Int32.toInt64 v), .int 0, .ref 251]) (show z_pt 274 7 = some (4, .i2l, []) by decide +kernel) rfl (fun _ _ => rfl) ?_
    refine L_last (pc := 8) (show z_pt 274 8 = some (4, .lastore, []) by decide +kernel) ?_
    refine L_pure (pc := 9) (pc' := 18) (show z_pt 274 9 = some (4, .goto 9, []) by decide +kernel) rfl (fun _ _ => rfl) ?_
    refine L_const (pc := 18) (pc' := 19) (v := 0) (show z_ptc 274 18 = some (19, 0) by decide +kernel) ?_
    exact L_retI (show z_pt 274 19 = some (4, .ireturn, []) by decide +kernel) (by decide +kernel) ⟨rfl, rfl, rfl⟩
  | inr E =>
    obtain ⟨n, hn, rfl⟩ := hag
    match n, hn with
    | 0, hn =>
      obtain rfl : 1 = E := Option.some.inj hn
      refine ⟨a, q, fun h => absurd h (by decide), ?_⟩
      refine L_pure (pc := 0) (pc' := 1) (st' := [.ref 251]) (show z_pt 274 0 = some (4, .aload_n 2, []) by decide +kernel) rfl (fun _ _ => rfl) ?_
      refine L_const (pc := 1) (pc' := 2) (v := 0) (show z_ptc 274 1 = some (2, 0) by decide +kernel) ?_
      refine L_pure (pc := 2) (pc' := 3) (st' := [.ref 0, .int 0, .ref 251]) (show z_pt 274 2 = some (4, .aload_n 0, []) by decide +kernel) rfl (fun _ _ => rfl) ?_
      refine L_pure (pc := 3) (pc' := 4) (st' := [.int c1, .ref 0, .int 0, .ref 251]) (show z_pt 274 3 = some (4, .iload_n 1, []) by decide +kernel) rfl (fun _ _ => rfl) ?_
      refine L_callX (pc := 4) (rr := [.int 0, .ref 251]) (h := 13) (x := 3) (show z_pt 274 4 = some (4, .invokevirtual 7, [0, 77, 1, 2223, 2224, 2225, 1001, 2226]) by decide +kernel) rfl (show z_r2 77 = some (9, 2, true) by decide +kernel) rfl rfl (Or.inr ⟨_, _, rfl, (show z_ci 0 9 = true by decide +kernel)⟩) (pG_addGear_run h1) (by decide) (show z_hx 274 4 1 = some (13, 3) by decide +kernel) (by omega) rfl ?_
      refine L_const (pc := 13) (pc' := 14) (v := 1) (show z_ptc 274 13 = some (14, 1) by decide +kernel) ?_
      exact L_retI (show z_pt 274 14 = some (4, .ireturn, []) by decide +kernel) (by decide +kernel) ⟨rfl, rfl, rfl⟩
    | 1, hn =>
      obtain rfl : 2 = E := Option.some.inj hn
      refine ⟨a, q, fun h => absurd h (by decide), ?_⟩
      refine L_pure (pc := 0) (pc' := 1) (st' := [.ref 251]) (show z_pt 274 0 = some (4, .aload_n 2, []) by decide +kernel) rfl (fun _ _ => rfl) ?_
      refine L_const (pc := 1) (pc' := 2) (v := 0) (show z_ptc 274 1 = some (2, 0) by decide +kernel) ?_
      refine L_pure (pc := 2) (pc' := 3) (st' := [.ref 0, .int 0, .ref 251]) (show z_pt 274 2 = some (4, .aload_n 0, []) by decide +kernel) rfl (fun _ _ => rfl) ?_
      refine L_pure (pc := 3) (pc' := 4) (st' := [.int c1, .ref 0, .int 0, .ref 251]) (show z_pt 274 3 = some (4, .iload_n 1, []) by decide +kernel) rfl (fun _ _ => rfl) ?_
      refine L_callX (pc := 4) (rr := [.int 0, .ref 251]) (h := 16) (x := 3) (show z_pt 274 4 = some (4, .invokevirtual 7, [0, 77, 1, 2223, 2224, 2225, 1001, 2226]) by decide +kernel) rfl (show z_r2 77 = some (9, 2, true) by decide +kernel) rfl rfl (Or.inr ⟨_, _, rfl, (show z_ci 0 9 = true by decide +kernel)⟩) (pG_addGear_run h1) (by decide) (show z_hx 274 4 2 = some (16, 3) by decide +kernel) (by omega) rfl ?_
      refine L_const (pc := 16) (pc' := 17) (v := 2) (show z_ptc 274 16 = some (17, 2) by decide +kernel) ?_
      exact L_retI (show z_pt 274 17 = some (4, .ireturn, []) by decide +kernel) (by decide +kernel) ⟨rfl, rfl, rfl⟩
    | n + 2, hn => cases hn
theorem pL_mesh {sc : Nat × (Nat → Int32)} {μ μ1 : z_Mem} {a : Nat → Int64} {q : Nat → UInt64} {c1 c2 c3 : Int32} {r : Int32 ⊕ Nat} {b : Int32} {t : Int32} (h1 : pG_mesh μ c1 c2 c3 = some (r, μ1)) (hag : z_agI [0, 1, 2] r b t) : ∃ (a1 : Nat → Int64) (q1 : Nat → UInt64), (t = 0 → a1 0 = Int32.toInt64 b) ∧ Rl sc 17 275 0 [(0, .ref 0), (1, .int c1), (2, .int c2), (3, .int c3), (4, .ref 251)] [] μ a q (.inl (some (.int t))) (z_PE μ1 a1 q1) 1 := by
  cases r with
  | inl v =>
    obtain ⟨ht, hv⟩ := hag
    subst ht
    subst hv
    refine ⟨vp_updL a 0 (Int32.toInt64 v), q, fun _ => rfl, ?_⟩
    refine L_pure (pc := 0) (pc' := 2) (st' := [.ref 251]) (show z_pt 275 0 = some (6, .aload 4, []) by decide +kernel) rfl (fun _ _ => rfl) ?_
    refine L_const (pc := 2) (pc' := 3) (v := 0) (show z_ptc 275 2 = some (3, 0) by decide +kernel) ?_
    refine L_pure (pc := 3) (pc' := 4) (st' := [.ref 0, .int 0, .ref 251]) (show z_pt 275 3 = some (6, .aload_n 0, []) by decide +kernel) rfl (fun _ _ => rfl) ?_
    refine L_pure (pc := 4) (pc' := 5) (st' := [.int c1, .ref 0, .int 0, .ref 251]) (show z_pt 275 4 = some (6, .iload_n 1, []) by decide +kernel) rfl (fun _ _ => rfl) ?_
    refine L_pure (pc := 5) (pc' := 6) (st' := [.int c2, .int c1, .ref 0, .int 0, .ref 251]) (show z_pt 275 5 = some (6, .iload_n 2, []) by decide +kernel) rfl (fun _ _ => rfl) ?_
    refine L_pure (pc := 6) (pc' := 7) (st' := [.int c3, .int c2, .int c1, .ref 0, .int 0, .ref 251]) (show z_pt 275 6 = some (6, .iload_n 3, []) by decide +kernel) rfl (fun _ _ => rfl) ?_
    refine L_call (pc := 7) (rr := [.int 0, .ref 251]) (show z_pt 275 7 = some (6, .invokevirtual 17, [0, 78, 3, 3161, 3162, 3163, 1001, 3164]) by decide +kernel) rfl (show z_r2 78 = some (9, 4, true) by decide +kernel) rfl rfl (Or.inr ⟨_, _, rfl, (show z_ci 0 9 = true by decide +kernel)⟩) (pG_mesh_run h1) (by omega) ?_
    refine L_pure (pc := 10) (pc' := 11) (st' := [.long (Int32.toInt64 v), .int 0, .ref 251]) (show z_pt 275 10 = some (6, .i2l, []) by decide +kernel) rfl (fun _ _ => rfl) ?_
    refine L_last (pc := 11) (show z_pt 275 11 = some (6, .lastore, []) by decide +kernel) ?_
    refine L_pure (pc := 12) (pc' := 27) (show z_pt 275 12 = some (6, .goto 15, []) by decide +kernel) rfl (fun _ _ => rfl) ?_
    refine L_const (pc := 27) (pc' := 28) (v := 0) (show z_ptc 275 27 = some (28, 0) by decide +kernel) ?_
    exact L_retI (show z_pt 275 28 = some (6, .ireturn, []) by decide +kernel) (by decide +kernel) ⟨rfl, rfl, rfl⟩
  | inr E =>
    obtain ⟨n, hn, rfl⟩ := hag
    match n, hn with
    | 0, hn =>
      obtain rfl : 0 = E := Option.some.inj hn
      refine ⟨a, q, fun h => absurd h (by decide), ?_⟩
      refine L_pure (pc := 0) (pc' := 2) (st' := [.ref 251]) (show z_pt 275 0 = some (6, .aload 4, []) by decide +kernel) rfl (fun _ _ => rfl) ?_
      refine L_const (pc := 2) (pc' := 3) (v := 0) (show z_ptc 275 2 = some (3, 0) by decide +kernel) ?_
      refine L_pure (pc := 3) (pc' := 4) (st' := [.ref 0, .int 0, .ref 251]) (show z_pt 275 3 = some (6, .aload_n 0, []) by decide +kernel) rfl (fun _ _ => rfl) ?_
      refine L_pure (pc := 4) (pc' := 5) (st' := [.int c1, .ref 0, .int 0, .ref 251]) (show z_pt 275 4 = some (6, .iload_n 1, []) by decide +kernel) rfl (fun _ _ => rfl) ?_
      refine L_pure (pc := 5) (pc' := 6) (st' := [.int c2, .int c1, .ref 0, .int 0, .ref 251]) (show z_pt 275 5 = some (6, .iload_n 2, []) by decide +kernel) rfl (fun _ _ => rfl) ?_
      refine L_pure (pc := 6) (pc' := 7) (st' := [.int c3, .int c2, .int c1, .ref 0, .int 0, .ref 251]) (show z_pt 275 6 = some (6, .iload_n 3, []) by decide +kernel) rfl (fun _ _ => rfl) ?_
      refine L_callX (pc := 7) (rr := [.int 0, .ref 251]) (h := 17) (x := 5) (show z_pt 275 7 = some (6, .invokevirtual 17, [0, 78, 3, 3161, 3162, 3163, 1001, 3164]) by decide +kernel) rfl (show z_r2 78 = some (9, 4, true) by decide +kernel) rfl rfl (Or.inr ⟨_, _, rfl, (show z_ci 0 9 = true by decide +kernel)⟩) (pG_mesh_run h1) (by decide) (show z_hx 275 7 0 = some (17, 5) by decide +kernel) (by omega) rfl ?_
      refine L_const (pc := 17) (pc' := 18) (v := 1) (show z_ptc 275 17 = some (18, 1) by decide +kernel) ?_
      exact L_retI (show z_pt 275 18 = some (6, .ireturn, []) by decide +kernel) (by decide +kernel) ⟨rfl, rfl, rfl⟩
    | 1, hn =>
      obtain rfl : 1 = E := Option.some.inj hn
      refine ⟨a, q, fun h => absurd h (by decide), ?_⟩
      refine L_pure (pc := 0) (pc' := 2) (st' := [.ref 251]) (show z_pt 275 0 = some (6, .aload 4, []) by decide +kernel) rfl (fun _ _ => rfl) ?_
      refine L_const (pc := 2) (pc' := 3) (v := 0) (show z_ptc 275 2 = some (3, 0) by decide +kernel) ?_
      refine L_pure (pc := 3) (pc' := 4) (st' := [.ref 0, .int 0, .ref 251]) (show z_pt 275 3 = some (6, .aload_n 0, []) by decide +kernel) rfl (fun _ _ => rfl) ?_
      refine L_pure (pc := 4) (pc' := 5) (st' := [.int c1, .ref 0, .int 0, .ref 251]) (show z_pt 275 4 = some (6, .iload_n 1, []) by decide +kernel) rfl (fun _ _ => rfl) ?_
      refine L_pure (pc := 5) (pc' := 6) (st' := [.int c2, .int c1, .ref 0, .int 0, .ref 251]) (show z_pt 275 5 = some (6, .iload_n 2, []) by decide +kernel) rfl (fun _ _ => rfl) ?_
      refine L_pure (pc := 6) (pc' := 7) (st' := [.int c3, .int c2, .int c1, .ref 0, .int 0, .ref 251]) (show z_pt 275 6 = some (6, .iload_n 3, []) by decide +kernel) rfl (fun _ _ => rfl) ?_
      refine L_callX (pc := 7) (rr := [.int 0, .ref 251]) (h := 21) (x := 5) (show z_pt 275 7 = some (6, .invokevirtual 17, [0, 78, 3, 3161, 3162, 3163, 1001, 3164]) by decide +kernel) rfl (show z_r2 78 = some (9, 4, true) by decide +kernel) rfl rfl (Or.inr ⟨_, _, rfl, (show z_ci 0 9 = true by decide +kernel)⟩) (pG_mesh_run h1) (by decide) (show z_hx 275 7 1 = some (21, 5) by decide +kernel) (by omega) rfl ?_
      refine L_const (pc := 21) (pc' := 22) (v := 2) (show z_ptc 275 21 = some (22, 2) by decide +kernel) ?_
      exact L_retI (show z_pt 275 22 = some (6, .ireturn, []) by decide +kernel) (by decide +kernel) ⟨rfl, rfl, rfl⟩
    | 2, hn =>
      obtain rfl : 2 = E := Option.some.inj hn
      refine ⟨a, q, fun h => absurd h (by decide), ?_⟩
      refine L_pure (pc := 0) (pc' := 2) (st' := [.ref 251]) (show z_pt 275 0 = some (6, .aload 4, []) by decide +kernel) rfl (fun _ _ => rfl) ?_
      refine L_const (pc := 2) (pc' := 3) (v := 0) (show z_ptc 275 2 = some (3, 0) by decide +kernel) ?_
      refine L_pure (pc := 3) (pc' := 4) (st' := [.ref 0, .int 0, .ref 251]) (show z_pt 275 3 = some (6, .aload_n 0, []) by decide +kernel) rfl (fun _ _ => rfl) ?_
      refine L_pure (pc := 4) (pc' := 5) (st' := [.int c1, .ref 0, .int 0, .ref 251]) (show z_pt 275 4 = some (6, .iload_n 1, []) by decide +kernel) rfl (fun _ _ => rfl) ?_
      refine L_pure (pc := 5) (pc' := 6) (st' := [.int c2, .int c1, .ref 0, .int 0, .ref 251]) (show z_pt 275 5 = some (6, .iload_n 2, []) by decide +kernel) rfl (fun _ _ => rfl) ?_
      refine L_pure (pc := 6) (pc' := 7) (st' := [.int c3, .int c2, .int c1, .ref 0, .int 0, .ref 251]) (show z_pt 275 6 = some (6, .iload_n 3, []) by decide +kernel) rfl (fun _ _ => rfl) ?_
      refine L_callX (pc := 7) (rr := [.int 0, .ref 251]) (h := 25) (x := 5) (show z_pt 275 7 = some (6, .invokevirtual 17, [0, 78, 3, 3161, 3162, 3163, 1001, 3164]) by decide +kernel) rfl (show z_r2 78 = some (9, 4, true) by decide +kernel) rfl rfl (Or.inr ⟨_, _, rfl, (show z_ci 0 9 = true by decide +kernel)⟩) (pG_mesh_run h1) (by decide) (show z_hx 275 7 2 = some (25, 5) by decide +kernel) (by omega) rfl ?_
      refine L_const (pc := 25) (pc' := 26) (v := 3) (show z_ptc 275 25 = some (26, 3) by decide +kernel) ?_
      exact L_retI (show z_pt 275 26 = some (6, .ireturn, []) by decide +kernel) (by decide +kernel) ⟨rfl, rfl, rfl⟩
    | n + 3, hn => cases hn
theorem pL_part {sc : Nat × (Nat → Int32)} {μ μ1 : z_Mem} {a : Nat → Int64} {q : Nat → UInt64} {c1 c2 : Int32} {r : Int32 ⊕ Nat} {b : Int32} {t : Int32} (h1 : pG_part μ c1 c2 = some (r, μ1)) (hag : z_agI [0, 3] r b t) : ∃ (a1 : Nat → Int64) (q1 : Nat → UInt64), (t = 0 → a1 0 = Int32.toInt64 b) ∧ Rl sc 8 276 0 [(0, .ref 0), (1, .int c1), (2, .int c2), (3, .ref 251)] [] μ a q (.inl (some (.int t))) (z_PE μ1 a1 q1) 1 := by
  cases r with
  | inl v =>
    obtain ⟨ht, hv⟩ := hag
    subst ht
    subst hv
    refine ⟨vp_updL a 0 (Int32.toInt64 v), q, fun _ => rfl, ?_⟩
    refine L_pure (pc := 0) (pc' := 1) (st' := [.ref 251]) (show z_pt 276 0 = some (5, .aload_n 3, []) by decide +kernel) rfl (fun _ _ => rfl) ?_
    refine L_const (pc := 1) (pc' := 2) (v := 0) (show z_ptc 276 1 = some (2, 0) by decide +kernel) ?_
    refine L_pure (pc := 2) (pc' := 3) (st' := [.ref 0, .int 0, .ref 251]) (show z_pt 276 2 = some (5, .aload_n 0, []) by decide +kernel) rfl (fun _ _ => rfl) ?_
    refine L_pure (pc := 3) (pc' := 4) (st' := [.int c1, .ref 0, .int 0, .ref 251]) (show z_pt 276 3 = some (5, .iload_n 1, []) by decide +kernel) rfl (fun _ _ => rfl) ?_
    refine L_pure (pc := 4) (pc' := 5) (st' := [.int c2, .int c1, .ref 0, .int 0, .ref 251]) (show z_pt 276 4 = some (5, .iload_n 2, []) by decide +kernel) rfl (fun _ _ => rfl) ?_
    refine L_call (pc := 5) (rr := [.int 0, .ref 251]) (show z_pt 276 5 = some (5, .invokevirtual 23, [0, 79, 2, 3179, 3180, 3181, 1001, 3182]) by decide +kernel) rfl (show z_r2 79 = some (9, 3, true) by decide +kernel) rfl rfl (Or.inr ⟨_, _, rfl, (show z_ci 0 9 = true by decide +kernel)⟩) (pG_part_run h1) (by omega) ?_
    refine L_pure (pc := 8) (pc' := 9) (st' := [.long (Int32.toInt64 v), .int 0, .ref 251]) (show z_pt 276 8 = some (5, .i2l, []) by decide +kernel) rfl (fun _ _ => rfl) ?_
    refine L_last (pc := 9) (show z_pt 276 9 = some (5, .lastore, []) by decide +kernel) ?_
    refine L_pure (pc := 10) (pc' := 21) (show z_pt 276 10 = some (5, .goto 11, []) by decide +kernel) rfl (fun _ _ => rfl) ?_
    refine L_const (pc := 21) (pc' := 22) (v := 0) (show z_ptc 276 21 = some (22, 0) by decide +kernel) ?_
    exact L_retI (show z_pt 276 22 = some (5, .ireturn, []) by decide +kernel) (by decide +kernel) ⟨rfl, rfl, rfl⟩
  | inr E =>
    obtain ⟨n, hn, rfl⟩ := hag
    match n, hn with
    | 0, hn =>
      obtain rfl : 0 = E := Option.some.inj hn
      refine ⟨a, q, fun h => absurd h (by decide), ?_⟩
      refine L_pure (pc := 0) (pc' := 1) (st' := [.ref 251]) (show z_pt 276 0 = some (5, .aload_n 3, []) by decide +kernel) rfl (fun _ _ => rfl) ?_
      refine L_const (pc := 1) (pc' := 2) (v := 0) (show z_ptc 276 1 = some (2, 0) by decide +kernel) ?_
      refine L_pure (pc := 2) (pc' := 3) (st' := [.ref 0, .int 0, .ref 251]) (show z_pt 276 2 = some (5, .aload_n 0, []) by decide +kernel) rfl (fun _ _ => rfl) ?_
      refine L_pure (pc := 3) (pc' := 4) (st' := [.int c1, .ref 0, .int 0, .ref 251]) (show z_pt 276 3 = some (5, .iload_n 1, []) by decide +kernel) rfl (fun _ _ => rfl) ?_
      refine L_pure (pc := 4) (pc' := 5) (st' := [.int c2, .int c1, .ref 0, .int 0, .ref 251]) (show z_pt 276 4 = some (5, .iload_n 2, []) by decide +kernel) rfl (fun _ _ => rfl) ?_
      refine L_callX (pc := 5) (rr := [.int 0, .ref 251]) (h := 15) (x := 4) (show z_pt 276 5 = some (5, .invokevirtual 23, [0, 79, 2, 3179, 3180, 3181, 1001, 3182]) by decide +kernel) rfl (show z_r2 79 = some (9, 3, true) by decide +kernel) rfl rfl (Or.inr ⟨_, _, rfl, (show z_ci 0 9 = true by decide +kernel)⟩) (pG_part_run h1) (by decide) (show z_hx 276 5 0 = some (15, 4) by decide +kernel) (by omega) rfl ?_
      refine L_const (pc := 15) (pc' := 16) (v := 1) (show z_ptc 276 15 = some (16, 1) by decide +kernel) ?_
      exact L_retI (show z_pt 276 16 = some (5, .ireturn, []) by decide +kernel) (by decide +kernel) ⟨rfl, rfl, rfl⟩
    | 1, hn =>
      obtain rfl : 3 = E := Option.some.inj hn
      refine ⟨a, q, fun h => absurd h (by decide), ?_⟩
      refine L_pure (pc := 0) (pc' := 1) (st' := [.ref 251]) (show z_pt 276 0 = some (5, .aload_n 3, []) by decide +kernel) rfl (fun _ _ => rfl) ?_
      refine L_const (pc := 1) (pc' := 2) (v := 0) (show z_ptc 276 1 = some (2, 0) by decide +kernel) ?_
      refine L_pure (pc := 2) (pc' := 3) (st' := [.ref 0, .int 0, .ref 251]) (show z_pt 276 2 = some (5, .aload_n 0, []) by decide +kernel) rfl (fun _ _ => rfl) ?_
      refine L_pure (pc := 3) (pc' := 4) (st' := [.int c1, .ref 0, .int 0, .ref 251]) (show z_pt 276 3 = some (5, .iload_n 1, []) by decide +kernel) rfl (fun _ _ => rfl) ?_
      refine L_pure (pc := 4) (pc' := 5) (st' := [.int c2, .int c1, .ref 0, .int 0, .ref 251]) (show z_pt 276 4 = some (5, .iload_n 2, []) by decide +kernel) rfl (fun _ _ => rfl) ?_
      refine L_callX (pc := 5) (rr := [.int 0, .ref 251]) (h := 19) (x := 4) (show z_pt 276 5 = some (5, .invokevirtual 23, [0, 79, 2, 3179, 3180, 3181, 1001, 3182]) by decide +kernel) rfl (show z_r2 79 = some (9, 3, true) by decide +kernel) rfl rfl (Or.inr ⟨_, _, rfl, (show z_ci 0 9 = true by decide +kernel)⟩) (pG_part_run h1) (by decide) (show z_hx 276 5 3 = some (19, 4) by decide +kernel) (by omega) rfl ?_
      refine L_const (pc := 19) (pc' := 20) (v := 2) (show z_ptc 276 19 = some (20, 2) by decide +kernel) ?_
      exact L_retI (show z_pt 276 20 = some (5, .ireturn, []) by decide +kernel) (by decide +kernel) ⟨rfl, rfl, rfl⟩
    | n + 2, hn => cases hn
theorem pL_turn {sc : Nat × (Nat → Int32)} {μ μ1 : z_Mem} {a : Nat → Int64} {q : Nat → UInt64} {c1 c2 : Int32} {r : Int32 ⊕ Nat} {b : Int32} {t : Int32} (h1 : pG_turn μ c1 c2 = some (r, μ1)) (hag : z_agI [0, 1] r b t) : ∃ (a1 : Nat → Int64) (q1 : Nat → UInt64), (t = 0 → a1 0 = Int32.toInt64 b) ∧ Rl sc 18 277 0 [(0, .ref 0), (1, .int c1), (2, .int c2), (3, .ref 251)] [] μ a q (.inl (some (.int t))) (z_PE μ1 a1 q1) 1 := by
  cases r with
  | inl v =>
    obtain ⟨ht, hv⟩ := hag
    subst ht
    subst hv
    refine ⟨vp_updL a 0 (Int32.toInt64 v), q, fun _ => rfl, ?_⟩
    refine L_pure (pc := 0) (pc' := 1) (st' := [.ref 251]) (show z_pt 277 0 = some (5, .aload_n 3, []) by decide +kernel) rfl (fun _ _ => rfl) ?_
    refine L_const (pc := 1) (pc' := 2) (v := 0) (show z_ptc 277 1 = some (2, 0) by decide +kernel) ?_
    refine L_pure (pc := 2) (pc' := 3) (st' := [.ref 0, .int 0, .ref 251]) (show z_pt 277 2 = some (5, .aload_n 0, []) by decide +kernel) rfl (fun _ _ => rfl) ?_
    refine L_pure (pc := 3) (pc' := 4) (st' := [.int c1, .ref 0, .int 0, .ref 251]) (show z_pt 277 3 = some (5, .iload_n 1, []) by decide +kernel) rfl (fun _ _ => rfl) ?_
    refine L_pure (pc := 4) (pc' := 5) (st' := [.int c2, .int c1, .ref 0, .int 0, .ref 251]) (show z_pt 277 4 = some (5, .iload_n 2, []) by decide +kernel) rfl (fun _ _ => rfl) ?_
    refine L_call (pc := 5) (rr := [.int 0, .ref 251]) (show z_pt 277 5 = some (5, .invokevirtual 29, [0, 80, 2, 3195, 3196, 3197, 1001, 3198]) by decide +kernel) rfl (show z_r2 80 = some (9, 3, true) by decide +kernel) rfl rfl (Or.inr ⟨_, _, rfl, (show z_ci 0 9 = true by decide +kernel)⟩) (pG_turn_run h1) (by omega) ?_
    refine L_pure (pc := 8) (pc' := 9) (st' := [.long (Int32.toInt64 v), .int 0, .ref 251]) (show z_pt 277 8 = some (5, .i2l, []) by decide +kernel) rfl (fun _ _ => rfl) ?_
    refine L_last (pc := 9) (show z_pt 277 9 = some (5, .lastore, []) by decide +kernel) ?_
    refine L_pure (pc := 10) (pc' := 21) (show z_pt 277 10 = some (5, .goto 11, []) by decide +kernel) rfl (fun _ _ => rfl) ?_
    refine L_const (pc := 21) (pc' := 22) (v := 0) (show z_ptc 277 21 = some (22, 0) by decide +kernel) ?_
    exact L_retI (show z_pt 277 22 = some (5, .ireturn, []) by decide +kernel) (by decide +kernel) ⟨rfl, rfl, rfl⟩
  | inr E =>
    obtain ⟨n, hn, rfl⟩ := hag
    match n, hn with
    | 0, hn =>
      obtain rfl : 0 = E := Option.some.inj hn
      refine ⟨a, q, fun h => absurd h (by decide), ?_⟩
      refine L_pure (pc := 0) (pc' := 1) (st' := [.ref 251]) (show z_pt 277 0 = some (5, .aload_n 3, []) by decide +kernel) rfl (fun _ _ => rfl) ?_
      refine L_const (pc := 1) (pc' := 2) (v := 0) (show z_ptc 277 1 = some (2, 0) by decide +kernel) ?_
      refine L_pure (pc := 2) (pc' := 3) (st' := [.ref 0, .int 0, .ref 251]) (show z_pt 277 2 = some (5, .aload_n 0, []) by decide +kernel) rfl (fun _ _ => rfl) ?_
      refine L_pure (pc := 3) (pc' := 4) (st' := [.int c1, .ref 0, .int 0, .ref 251]) (show z_pt 277 3 = some (5, .iload_n 1, []) by decide +kernel) rfl (fun _ _ => rfl) ?_
      refine L_pure (pc := 4) (pc' := 5) (st' := [.int c2, .int c1, .ref 0, .int 0, .ref 251]) (show z_pt 277 4 = some (5, .iload_n 2, []) by decide +kernel) rfl (fun _ _ => rfl) ?_
      refine L_callX (pc := 5) (rr := [.int 0, .ref 251]) (h := 15) (x := 4) (show z_pt 277 5 = some (5, .invokevirtual 29, [0, 80, 2, 3195, 3196, 3197, 1001, 3198]) by decide +kernel) rfl (show z_r2 80 = some (9, 3, true) by decide +kernel) rfl rfl (Or.inr ⟨_, _, rfl, (show z_ci 0 9 = true by decide +kernel)⟩) (pG_turn_run h1) (by decide) (show z_hx 277 5 0 = some (15, 4) by decide +kernel) (by omega) rfl ?_
      refine L_const (pc := 15) (pc' := 16) (v := 1) (show z_ptc 277 15 = some (16, 1) by decide +kernel) ?_
      exact L_retI (show z_pt 277 16 = some (5, .ireturn, []) by decide +kernel) (by decide +kernel) ⟨rfl, rfl, rfl⟩
    | 1, hn =>
      obtain rfl : 1 = E := Option.some.inj hn
      refine ⟨a, q, fun h => absurd h (by decide), ?_⟩
      refine L_pure (pc := 0) (pc' := 1) (st' := [.ref 251]) (show z_pt 277 0 = some (5, .aload_n 3, []) by decide +kernel) rfl (fun _ _ => rfl) ?_
      refine L_const (pc := 1) (pc' := 2) (v := 0) (show z_ptc 277 1 = some (2, 0) by decide +kernel) ?_
      refine L_pure (pc := 2) (pc' := 3) (st' := [.ref 0, .int 0, .ref 251]) (show z_pt 277 2 = some (5, .aload_n 0, []) by decide +kernel) rfl (fun _ _ => rfl) ?_
      refine L_pure (pc := 3) (pc' := 4) (st' := [.int c1, .ref 0, .int 0, .ref 251]) (show z_pt 277 3 = some (5, .iload_n 1, []) by decide +kernel) rfl (fun _ _ => rfl) ?_
      refine L_pure (pc := 4) (pc' := 5) (st' := [.int c2, .int c1, .ref 0, .int 0, .ref 251]) (show z_pt 277 4 = some (5, .iload_n 2, []) by decide +kernel) rfl (fun _ _ => rfl) ?_
      refine L_callX (pc := 5) (rr := [.int 0, .ref 251]) (h := 19) (x := 4) (show z_pt 277 5 = some (5, .invokevirtual 29, [0, 80, 2, 3195, 3196, 3197, 1001, 3198]) by decide +kernel) rfl (show z_r2 80 = some (9, 3, true) by decide +kernel) rfl rfl (Or.inr ⟨_, _, rfl, (show z_ci 0 9 = true by decide +kernel)⟩) (pG_turn_run h1) (by decide) (show z_hx 277 5 1 = some (19, 4) by decide +kernel) (by omega) rfl ?_
      refine L_const (pc := 19) (pc' := 20) (v := 2) (show z_ptc 277 19 = some (20, 2) by decide +kernel) ?_
      exact L_retI (show z_pt 277 20 = some (5, .ireturn, []) by decide +kernel) (by decide +kernel) ⟨rfl, rfl, rfl⟩
    | n + 2, hn => cases hn
theorem pL_teeth {sc : Nat × (Nat → Int32)} {μ : z_Mem} {a : Nat → Int64} {q : Nat → UInt64} {c1 : Int32} {r : Int32 ⊕ Nat} {b : Int32} {t : Int32} (h1 : pG_teeth μ c1 = some r) (hag : z_agI [0] r b t) : ∃ (a1 : Nat → Int64) (q1 : Nat → UInt64), (t = 0 → a1 0 = Int32.toInt64 b) ∧ Rl sc 8 278 0 [(0, .ref 0), (1, .int c1), (2, .ref 251)] [] μ a q (.inl (some (.int t))) (z_PE μ a1 q1) 1 := by
  cases r with
  | inl v =>
    obtain ⟨ht, hv⟩ := hag
    subst ht
    subst hv
    refine ⟨vp_updL a 0 (Int32.toInt64 v), q, fun _ => rfl, ?_⟩
    refine L_pure (pc := 0) (pc' := 1) (st' := [.ref 251]) (show z_pt 278 0 = some (4, .aload_n 2, []) by decide +kernel) rfl (fun _ _ => rfl) ?_
    refine L_const (pc := 1) (pc' := 2) (v := 0) (show z_ptc 278 1 = some (2, 0) by decide +kernel) ?_
    refine L_pure (pc := 2) (pc' := 3) (st' := [.ref 0, .int 0, .ref 251]) (show z_pt 278 2 = some (4, .aload_n 0, []) by decide +kernel) rfl (fun _ _ => rfl) ?_
    refine L_pure (pc := 3) (pc' := 4) (st' := [.int c1, .ref 0, .int 0, .ref 251]) (show z_pt 278 3 = some (4, .iload_n 1, []) by decide +kernel) rfl (fun _ _ => rfl) ?_
    refine L_call (pc := 4) (rr := [.int 0, .ref 251]) (show z_pt 278 4 = some (4, .invokevirtual 32, [0, 82, 1, 3207, 3208, 3209, 1001, 3210]) by decide +kernel) rfl (show z_r2 82 = some (9, 2, true) by decide +kernel) rfl rfl (Or.inr ⟨_, _, rfl, (show z_ci 0 9 = true by decide +kernel)⟩) (pG_teeth_run h1) (by omega) ?_
    refine L_pure (pc := 7) (pc' := 8) (st' := [.long (Int32.toInt64 v), .int 0, .ref 251]) (show z_pt 278 7 = some (4, .i2l, []) by decide +kernel) rfl (fun _ _ => rfl) ?_
    refine L_last (pc := 8) (show z_pt 278 8 = some (4, .lastore, []) by decide +kernel) ?_
    refine L_pure (pc := 9) (pc' := 15) (show z_pt 278 9 = some (4, .goto 6, []) by decide +kernel) rfl (fun _ _ => rfl) ?_
    refine L_const (pc := 15) (pc' := 16) (v := 0) (show z_ptc 278 15 = some (16, 0) by decide +kernel) ?_
    exact L_retI (show z_pt 278 16 = some (4, .ireturn, []) by decide +kernel) (by decide +kernel) ⟨rfl, rfl, rfl⟩
  | inr E =>
    obtain ⟨n, hn, rfl⟩ := hag
    match n, hn with
    | 0, hn =>
      obtain rfl : 0 = E := Option.some.inj hn
      refine ⟨a, q, fun h => absurd h (by decide), ?_⟩
      refine L_pure (pc := 0) (pc' := 1) (st' := [.ref 251]) (show z_pt 278 0 = some (4, .aload_n 2, []) by decide +kernel) rfl (fun _ _ => rfl) ?_
      refine L_const (pc := 1) (pc' := 2) (v := 0) (show z_ptc 278 1 = some (2, 0) by decide +kernel) ?_
      refine L_pure (pc := 2) (pc' := 3) (st' := [.ref 0, .int 0, .ref 251]) (show z_pt 278 2 = some (4, .aload_n 0, []) by decide +kernel) rfl (fun _ _ => rfl) ?_
      refine L_pure (pc := 3) (pc' := 4) (st' := [.int c1, .ref 0, .int 0, .ref 251]) (show z_pt 278 3 = some (4, .iload_n 1, []) by decide +kernel) rfl (fun _ _ => rfl) ?_
      refine L_callX (pc := 4) (rr := [.int 0, .ref 251]) (h := 13) (x := 3) (show z_pt 278 4 = some (4, .invokevirtual 32, [0, 82, 1, 3207, 3208, 3209, 1001, 3210]) by decide +kernel) rfl (show z_r2 82 = some (9, 2, true) by decide +kernel) rfl rfl (Or.inr ⟨_, _, rfl, (show z_ci 0 9 = true by decide +kernel)⟩) (pG_teeth_run h1) (by decide) (show z_hx 278 4 0 = some (13, 3) by decide +kernel) (by omega) rfl ?_
      refine L_const (pc := 13) (pc' := 14) (v := 1) (show z_ptc 278 13 = some (14, 1) by decide +kernel) ?_
      exact L_retI (show z_pt 278 14 = some (4, .ireturn, []) by decide +kernel) (by decide +kernel) ⟨rfl, rfl, rfl⟩
    | n + 1, hn => cases hn
theorem pL_position {sc : Nat × (Nat → Int32)} {μ : z_Mem} {a : Nat → Int64} {q : Nat → UInt64} {c1 : Int32} {r : Int32 ⊕ Nat} {b : Int32} {t : Int32} (h1 : pG_position μ c1 = some r) (hag : z_agI [0] r b t) : ∃ (a1 : Nat → Int64) (q1 : Nat → UInt64), (t = 0 → a1 0 = Int32.toInt64 b) ∧ Rl sc 8 279 0 [(0, .ref 0), (1, .int c1), (2, .ref 251)] [] μ a q (.inl (some (.int t))) (z_PE μ a1 q1) 1 := by
  cases r with
  | inl v =>
    obtain ⟨ht, hv⟩ := hag
    subst ht
    subst hv
    refine ⟨vp_updL a 0 (Int32.toInt64 v), q, fun _ => rfl, ?_⟩
    refine L_pure (pc := 0) (pc' := 1) (st' := [.ref 251]) (show z_pt 279 0 = some (4, .aload_n 2, []) by decide +kernel) rfl (fun _ _ => rfl) ?_
    refine L_const (pc := 1) (pc' := 2) (v := 0) (show z_ptc 279 1 = some (2, 0) by decide +kernel) ?_
    refine L_pure (pc := 2) (pc' := 3) (st' := [.ref 0, .int 0, .ref 251]) (show z_pt 279 2 = some (4, .aload_n 0, []) by decide +kernel) rfl (fun _ _ => rfl) ?_
    refine L_pure (pc := 3) (pc' := 4) (st' := [.int c1, .ref 0, .int 0, .ref 251]) (show z_pt 279 3 = some (4, .iload_n 1, []) by decide +kernel) rfl (fun _ _ => rfl) ?_
    refine L_call (pc := 4) (rr := [.int 0, .ref 251]) (show z_pt 279 4 = some (4, .invokevirtual 35, [0, 83, 1, 3218, 3219, 3220, 1001, 3221]) by decide +kernel) rfl (show z_r2 83 = some (9, 2, true) by decide +kernel) rfl rfl (Or.inr ⟨_, _, rfl, (show z_ci 0 9 = true by decide +kernel)⟩) (pG_position_run h1) (by omega) ?_
    refine L_pure (pc := 7) (pc' := 8) (st' := [.long (Int32.toInt64 v), .int 0, .ref 251]) (show z_pt 279 7 = some (4, .i2l, []) by decide +kernel) rfl (fun _ _ => rfl) ?_
    refine L_last (pc := 8) (show z_pt 279 8 = some (4, .lastore, []) by decide +kernel) ?_
    refine L_pure (pc := 9) (pc' := 15) (show z_pt 279 9 = some (4, .goto 6, []) by decide +kernel) rfl (fun _ _ => rfl) ?_
    refine L_const (pc := 15) (pc' := 16) (v := 0) (show z_ptc 279 15 = some (16, 0) by decide +kernel) ?_
    exact L_retI (show z_pt 279 16 = some (4, .ireturn, []) by decide +kernel) (by decide +kernel) ⟨rfl, rfl, rfl⟩
  | inr E =>
    obtain ⟨n, hn, rfl⟩ := hag
    match n, hn with
    | 0, hn =>
      obtain rfl : 0 = E := Option.some.inj hn
      refine ⟨a, q, fun h => absurd h (by decide), ?_⟩
      refine L_pure (pc := 0) (pc' := 1) (st' := [.ref 251]) (show z_pt 279 0 = some (4, .aload_n 2, []) by decide +kernel) rfl (fun _ _ => rfl) ?_
      refine L_const (pc := 1) (pc' := 2) (v := 0) (show z_ptc 279 1 = some (2, 0) by decide +kernel) ?_
      refine L_pure (pc := 2) (pc' := 3) (st' := [.ref 0, .int 0, .ref 251]) (show z_pt 279 2 = some (4, .aload_n 0, []) by decide +kernel) rfl (fun _ _ => rfl) ?_
      refine L_pure (pc := 3) (pc' := 4) (st' := [.int c1, .ref 0, .int 0, .ref 251]) (show z_pt 279 3 = some (4, .iload_n 1, []) by decide +kernel) rfl (fun _ _ => rfl) ?_
      refine L_callX (pc := 4) (rr := [.int 0, .ref 251]) (h := 13) (x := 3) (show z_pt 279 4 = some (4, .invokevirtual 35, [0, 83, 1, 3218, 3219, 3220, 1001, 3221]) by decide +kernel) rfl (show z_r2 83 = some (9, 2, true) by decide +kernel) rfl rfl (Or.inr ⟨_, _, rfl, (show z_ci 0 9 = true by decide +kernel)⟩) (pG_position_run h1) (by decide) (show z_hx 279 4 0 = some (13, 3) by decide +kernel) (by omega) rfl ?_
      refine L_const (pc := 13) (pc' := 14) (v := 1) (show z_ptc 279 13 = some (14, 1) by decide +kernel) ?_
      exact L_retI (show z_pt 279 14 = some (4, .ireturn, []) by decide +kernel) (by decide +kernel) ⟨rfl, rfl, rfl⟩
    | n + 1, hn => cases hn
theorem pL_doMesh {sc : Nat × (Nat → Int32)} {μ : z_Mem} {a : Nat → Int64} {q : Nat → UInt64} {c1 c2 : Int32} {r : Int32 ⊕ Nat} {b : Int32} {t : Int32} (h1 : pG_doMesh μ c1 c2 = some r) (hag : z_agI [0] r b t) : ∃ (a1 : Nat → Int64) (q1 : Nat → UInt64), (t = 0 → a1 0 = (if b = 0 then Int64.ofNat 0 else Int64.ofNat 1)) ∧ Rl sc 8 280 0 [(0, .ref 0), (1, .int c1), (2, .int c2), (3, .ref 251)] [] μ a q (.inl (some (.int t))) (z_PE μ a1 q1) 1 := by
  cases r with
  | inl v =>
    obtain ⟨ht, hv⟩ := hag
    subst ht
    subst hv
    by_cases hb0 : v = 0
    · refine ⟨vp_updL a 0 (Int64.ofNat 0), q, fun _ => (by rw [if_pos hb0]; rfl), ?_⟩
      refine L_pure (pc := 0) (pc' := 1) (st' := [.ref 251]) (show z_pt 280 0 = some (5, .aload_n 3, []) by decide +kernel) rfl (fun _ _ => rfl) ?_
      refine L_const (pc := 1) (pc' := 2) (v := 0) (show z_ptc 280 1 = some (2, 0) by decide +kernel) ?_
      refine L_pure (pc := 2) (pc' := 3) (st' := [.ref 0, .int 0, .ref 251]) (show z_pt 280 2 = some (5, .aload_n 0, []) by decide +kernel) rfl (fun _ _ => rfl) ?_
      refine L_pure (pc := 3) (pc' := 4) (st' := [.int c1, .ref 0, .int 0, .ref 251]) (show z_pt 280 3 = some (5, .iload_n 1, []) by decide +kernel) rfl (fun _ _ => rfl) ?_
      refine L_pure (pc := 4) (pc' := 5) (st' := [.int c2, .int c1, .ref 0, .int 0, .ref 251]) (show z_pt 280 4 = some (5, .iload_n 2, []) by decide +kernel) rfl (fun _ _ => rfl) ?_
      refine L_call (pc := 5) (rr := [.int 0, .ref 251]) (show z_pt 280 5 = some (5, .invokevirtual 38, [0, 85, 2, 3225, 3226, 3227, 1001, 3228]) by decide +kernel) rfl (show z_r2 85 = some (9, 3, true) by decide +kernel) rfl rfl (Or.inr ⟨_, _, rfl, (show z_ci 0 9 = true by decide +kernel)⟩) (pG_doMesh_run h1) (by omega) ?_
      refine L_ifT (pc := 8) (t := 15) (show z_pt 280 8 = some (5, .ifCond .eq 7, []) by decide +kernel) (by decide) (decide_eq_true hb0) ?_
      refine L_pure (pc := 15) (pc' := 16) (st' := [.long (Int64.ofNat 0), .int 0, .ref 251]) (show z_pt 280 15 = some (5, .lconst 0, []) by decide +kernel) rfl (fun _ _ => rfl) ?_
      refine L_last (pc := 16) (show z_pt 280 16 = some (5, .lastore, []) by decide +kernel) ?_
      refine L_pure (pc := 17) (pc' := 24) (show z_pt 280 17 = some (5, .goto 7, []) by decide +kernel) rfl (fun _ _ => rfl) ?_
      refine L_const (pc := 24) (pc' := 25) (v := 0) (show z_ptc 280 24 = some (25, 0) by decide +kernel) ?_
      exact L_retI (show z_pt 280 25 = some (5, .ireturn, []) by decide +kernel) (by decide +kernel) ⟨rfl, rfl, rfl⟩
    · refine ⟨vp_updL a 0 (Int64.ofNat 1), q, fun _ => (by rw [if_neg hb0]; rfl), ?_⟩
      refine L_pure (pc := 0) (pc' := 1) (st' := [.ref 251]) (show z_pt 280 0 = some (5, .aload_n 3, []) by decide +kernel) rfl (fun _ _ => rfl) ?_
      refine L_const (pc := 1) (pc' := 2) (v := 0) (show z_ptc 280 1 = some (2, 0) by decide +kernel) ?_
      refine L_pure (pc := 2) (pc' := 3) (st' := [.ref 0, .int 0, .ref 251]) (show z_pt 280 2 = some (5, .aload_n 0, []) by decide +kernel) rfl (fun _ _ => rfl) ?_
      refine L_pure (pc := 3) (pc' := 4) (st' := [.int c1, .ref 0, .int 0, .ref 251]) (show z_pt 280 3 = some (5, .iload_n 1, []) by decide +kernel) rfl (fun _ _ => rfl) ?_
      refine L_pure (pc := 4) (pc' := 5) (st' := [.int c2, .int c1, .ref 0, .int 0, .ref 251]) (show z_pt 280 4 = some (5, .iload_n 2, []) by decide +kernel) rfl (fun _ _ => rfl) ?_
      refine L_call (pc := 5) (rr := [.int 0, .ref 251]) (show z_pt 280 5 = some (5, .invokevirtual 38, [0, 85, 2, 3225, 3226, 3227, 1001, 3228]) by decide +kernel) rfl (show z_r2 85 = some (9, 3, true) by decide +kernel) rfl rfl (Or.inr ⟨_, _, rfl, (show z_ci 0 9 = true by decide +kernel)⟩) (pG_doMesh_run h1) (by omega) ?_
      refine L_ifF (pc := 8) (t := 15) (show z_pt 280 8 = some (5, .ifCond .eq 7, []) by decide +kernel) (by decide) (decide_eq_false hb0) ?_
      refine L_pure (pc := 11) (pc' := 12) (st' := [.long (Int64.ofNat 1), .int 0, .ref 251]) (show z_pt 280 11 = some (5, .lconst 1, []) by decide +kernel) rfl (fun _ _ => rfl) ?_
      refine L_pure (pc := 12) (pc' := 16) (show z_pt 280 12 = some (5, .goto 4, []) by decide +kernel) rfl (fun _ _ => rfl) ?_
      refine L_last (pc := 16) (show z_pt 280 16 = some (5, .lastore, []) by decide +kernel) ?_
      refine L_pure (pc := 17) (pc' := 24) (show z_pt 280 17 = some (5, .goto 7, []) by decide +kernel) rfl (fun _ _ => rfl) ?_
      refine L_const (pc := 24) (pc' := 25) (v := 0) (show z_ptc 280 24 = some (25, 0) by decide +kernel) ?_
      exact L_retI (show z_pt 280 25 = some (5, .ireturn, []) by decide +kernel) (by decide +kernel) ⟨rfl, rfl, rfl⟩
  | inr E =>
    obtain ⟨n, hn, rfl⟩ := hag
    match n, hn with
    | 0, hn =>
      obtain rfl : 0 = E := Option.some.inj hn
      refine ⟨a, q, fun h => absurd h (by decide), ?_⟩
      refine L_pure (pc := 0) (pc' := 1) (st' := [.ref 251]) (show z_pt 280 0 = some (5, .aload_n 3, []) by decide +kernel) rfl (fun _ _ => rfl) ?_
      refine L_const (pc := 1) (pc' := 2) (v := 0) (show z_ptc 280 1 = some (2, 0) by decide +kernel) ?_
      refine L_pure (pc := 2) (pc' := 3) (st' := [.ref 0, .int 0, .ref 251]) (show z_pt 280 2 = some (5, .aload_n 0, []) by decide +kernel) rfl (fun _ _ => rfl) ?_
      refine L_pure (pc := 3) (pc' := 4) (st' := [.int c1, .ref 0, .int 0, .ref 251]) (show z_pt 280 3 = some (5, .iload_n 1, []) by decide +kernel) rfl (fun _ _ => rfl) ?_
      refine L_pure (pc := 4) (pc' := 5) (st' := [.int c2, .int c1, .ref 0, .int 0, .ref 251]) (show z_pt 280 4 = some (5, .iload_n 2, []) by decide +kernel) rfl (fun _ _ => rfl) ?_
      refine L_callX (pc := 5) (rr := [.int 0, .ref 251]) (h := 22) (x := 4) (show z_pt 280 5 = some (5, .invokevirtual 38, [0, 85, 2, 3225, 3226, 3227, 1001, 3228]) by decide +kernel) rfl (show z_r2 85 = some (9, 3, true) by decide +kernel) rfl rfl (Or.inr ⟨_, _, rfl, (show z_ci 0 9 = true by decide +kernel)⟩) (pG_doMesh_run h1) (by decide) (show z_hx 280 5 0 = some (22, 4) by decide +kernel) (by omega) rfl ?_
      refine L_const (pc := 22) (pc' := 23) (v := 1) (show z_ptc 280 22 = some (23, 1) by decide +kernel) ?_
      exact L_retI (show z_pt 280 23 = some (5, .ireturn, []) by decide +kernel) (by decide +kernel) ⟨rfl, rfl, rfl⟩
    | n + 1, hn => cases hn
theorem pL_slack {sc : Nat × (Nat → Int32)} {μ : z_Mem} {a : Nat → Int64} {q : Nat → UInt64} {c1 c2 : Int32} {r : Int32 ⊕ Nat} {b : Int32} {t : Int32} (h1 : pG_slack μ c1 c2 = some r) (hag : z_agI [0, 3] r b t) : ∃ (a1 : Nat → Int64) (q1 : Nat → UInt64), (t = 0 → a1 0 = Int32.toInt64 b) ∧ Rl sc 9 281 0 [(0, .ref 0), (1, .int c1), (2, .int c2), (3, .ref 251)] [] μ a q (.inl (some (.int t))) (z_PE μ a1 q1) 1 := by
  cases r with
  | inl v =>
    obtain ⟨ht, hv⟩ := hag
    subst ht
    subst hv
    refine ⟨vp_updL a 0 (Int32.toInt64 v), q, fun _ => rfl, ?_⟩
    refine L_pure (pc := 0) (pc' := 1) (st' := [.ref 251]) (show z_pt 281 0 = some (5, .aload_n 3, []) by decide +kernel) rfl (fun _ _ => rfl) ?_
    refine L_const (pc := 1) (pc' := 2) (v := 0) (show z_ptc 281 1 = some (2, 0) by decide +kernel) ?_
    refine L_pure (pc := 2) (pc' := 3) (st' := [.ref 0, .int 0, .ref 251]) (show z_pt 281 2 = some (5, .aload_n 0, []) by decide +kernel) rfl (fun _ _ => rfl) ?_
    refine L_pure (pc := 3) (pc' := 4) (st' := [.int c1, .ref 0, .int 0, .ref 251]) (show z_pt 281 3 = some (5, .iload_n 1, []) by decide +kernel) rfl (fun _ _ => rfl) ?_
    refine L_pure (pc := 4) (pc' := 5) (st' := [.int c2, .int c1, .ref 0, .int 0, .ref 251]) (show z_pt 281 4 = some (5, .iload_n 2, []) by decide +kernel) rfl (fun _ _ => rfl) ?_
    refine L_call (pc := 5) (rr := [.int 0, .ref 251]) (show z_pt 281 5 = some (5, .invokevirtual 42, [0, 86, 2, 3232, 3233, 3234, 1001, 3235]) by decide +kernel) rfl (show z_r2 86 = some (9, 3, true) by decide +kernel) rfl rfl (Or.inr ⟨_, _, rfl, (show z_ci 0 9 = true by decide +kernel)⟩) (pG_slack_run h1) (by omega) ?_
    refine L_pure (pc := 8) (pc' := 9) (st' := [.long (Int32.toInt64 v), .int 0, .ref 251]) (show z_pt 281 8 = some (5, .i2l, []) by decide +kernel) rfl (fun _ _ => rfl) ?_
    refine L_last (pc := 9) (show z_pt 281 9 = some (5, .lastore, []) by decide +kernel) ?_
    refine L_pure (pc := 10) (pc' := 21) (show z_pt 281 10 = some (5, .goto 11, []) by decide +kernel) rfl (fun _ _ => rfl) ?_
    refine L_const (pc := 21) (pc' := 22) (v := 0) (show z_ptc 281 21 = some (22, 0) by decide +kernel) ?_
    exact L_retI (show z_pt 281 22 = some (5, .ireturn, []) by decide +kernel) (by decide +kernel) ⟨rfl, rfl, rfl⟩
  | inr E =>
    obtain ⟨n, hn, rfl⟩ := hag
    match n, hn with
    | 0, hn =>
      obtain rfl : 0 = E := Option.some.inj hn
      refine ⟨a, q, fun h => absurd h (by decide), ?_⟩
      refine L_pure (pc := 0) (pc' := 1) (st' := [.ref 251]) (show z_pt 281 0 = some (5, .aload_n 3, []) by decide +kernel) rfl (fun _ _ => rfl) ?_
      refine L_const (pc := 1) (pc' := 2) (v := 0) (show z_ptc 281 1 = some (2, 0) by decide +kernel) ?_
      refine L_pure (pc := 2) (pc' := 3) (st' := [.ref 0, .int 0, .ref 251]) (show z_pt 281 2 = some (5, .aload_n 0, []) by decide +kernel) rfl (fun _ _ => rfl) ?_
      refine L_pure (pc := 3) (pc' := 4) (st' := [.int c1, .ref 0, .int 0, .ref 251]) (show z_pt 281 3 = some (5, .iload_n 1, []) by decide +kernel) rfl (fun _ _ => rfl) ?_
      refine L_pure (pc := 4) (pc' := 5) (st' := [.int c2, .int c1, .ref 0, .int 0, .ref 251]) (show z_pt 281 4 = some (5, .iload_n 2, []) by decide +kernel) rfl (fun _ _ => rfl) ?_
      refine L_callX (pc := 5) (rr := [.int 0, .ref 251]) (h := 15) (x := 4) (show z_pt 281 5 = some (5, .invokevirtual 42, [0, 86, 2, 3232, 3233, 3234, 1001, 3235]) by decide +kernel) rfl (show z_r2 86 = some (9, 3, true) by decide +kernel) rfl rfl (Or.inr ⟨_, _, rfl, (show z_ci 0 9 = true by decide +kernel)⟩) (pG_slack_run h1) (by decide) (show z_hx 281 5 0 = some (15, 4) by decide +kernel) (by omega) rfl ?_
      refine L_const (pc := 15) (pc' := 16) (v := 1) (show z_ptc 281 15 = some (16, 1) by decide +kernel) ?_
      exact L_retI (show z_pt 281 16 = some (5, .ireturn, []) by decide +kernel) (by decide +kernel) ⟨rfl, rfl, rfl⟩
    | 1, hn =>
      obtain rfl : 3 = E := Option.some.inj hn
      refine ⟨a, q, fun h => absurd h (by decide), ?_⟩
      refine L_pure (pc := 0) (pc' := 1) (st' := [.ref 251]) (show z_pt 281 0 = some (5, .aload_n 3, []) by decide +kernel) rfl (fun _ _ => rfl) ?_
      refine L_const (pc := 1) (pc' := 2) (v := 0) (show z_ptc 281 1 = some (2, 0) by decide +kernel) ?_
      refine L_pure (pc := 2) (pc' := 3) (st' := [.ref 0, .int 0, .ref 251]) (show z_pt 281 2 = some (5, .aload_n 0, []) by decide +kernel) rfl (fun _ _ => rfl) ?_
      refine L_pure (pc := 3) (pc' := 4) (st' := [.int c1, .ref 0, .int 0, .ref 251]) (show z_pt 281 3 = some (5, .iload_n 1, []) by decide +kernel) rfl (fun _ _ => rfl) ?_
      refine L_pure (pc := 4) (pc' := 5) (st' := [.int c2, .int c1, .ref 0, .int 0, .ref 251]) (show z_pt 281 4 = some (5, .iload_n 2, []) by decide +kernel) rfl (fun _ _ => rfl) ?_
      refine L_callX (pc := 5) (rr := [.int 0, .ref 251]) (h := 19) (x := 4) (show z_pt 281 5 = some (5, .invokevirtual 42, [0, 86, 2, 3232, 3233, 3234, 1001, 3235]) by decide +kernel) rfl (show z_r2 86 = some (9, 3, true) by decide +kernel) rfl rfl (Or.inr ⟨_, _, rfl, (show z_ci 0 9 = true by decide +kernel)⟩) (pG_slack_run h1) (by decide) (show z_hx 281 5 3 = some (19, 4) by decide +kernel) (by omega) rfl ?_
      refine L_const (pc := 19) (pc' := 20) (v := 2) (show z_ptc 281 19 = some (20, 2) by decide +kernel) ?_
      exact L_retI (show z_pt 281 20 = some (5, .ireturn, []) by decide +kernel) (by decide +kernel) ⟨rfl, rfl, rfl⟩
    | n + 2, hn => cases hn
theorem pL_gap {sc : Nat × (Nat → Int32)} {μ : z_Mem} {a : Nat → Int64} {q : Nat → UInt64} {c1 c2 : Int32} {r : Int32 ⊕ Nat} {b : Int32} {t : Int32} (h1 : pG_gap μ c1 c2 = some r) (hag : z_agI [0, 3] r b t) : ∃ (a1 : Nat → Int64) (q1 : Nat → UInt64), (t = 0 → a1 0 = Int32.toInt64 b) ∧ Rl sc 9 282 0 [(0, .ref 0), (1, .int c1), (2, .int c2), (3, .ref 251)] [] μ a q (.inl (some (.int t))) (z_PE μ a1 q1) 1 := by
  cases r with
  | inl v =>
    obtain ⟨ht, hv⟩ := hag
    subst ht
    subst hv
    refine ⟨vp_updL a 0 (Int32.toInt64 v), q, fun _ => rfl, ?_⟩
    refine L_pure (pc := 0) (pc' := 1) (st' := [.ref 251]) (show z_pt 282 0 = some (5, .aload_n 3, []) by decide +kernel) rfl (fun _ _ => rfl) ?_
    refine L_const (pc := 1) (pc' := 2) (v := 0) (show z_ptc 282 1 = some (2, 0) by decide +kernel) ?_
    refine L_pure (pc := 2) (pc' := 3) (st' := [.ref 0, .int 0, .ref 251]) (show z_pt 282 2 = some (5, .aload_n 0, []) by decide +kernel) rfl (fun _ _ => rfl) ?_
    refine L_pure (pc := 3) (pc' := 4) (st' := [.int c1, .ref 0, .int 0, .ref 251]) (show z_pt 282 3 = some (5, .iload_n 1, []) by decide +kernel) rfl (fun _ _ => rfl) ?_
    refine L_pure (pc := 4) (pc' := 5) (st' := [.int c2, .int c1, .ref 0, .int 0, .ref 251]) (show z_pt 282 4 = some (5, .iload_n 2, []) by decide +kernel) rfl (fun _ _ => rfl) ?_
    refine L_call (pc := 5) (rr := [.int 0, .ref 251]) (show z_pt 282 5 = some (5, .invokevirtual 45, [0, 87, 2, 4003, 4004, 4005, 1001, 4006]) by decide +kernel) rfl (show z_r2 87 = some (9, 3, true) by decide +kernel) rfl rfl (Or.inr ⟨_, _, rfl, (show z_ci 0 9 = true by decide +kernel)⟩) (pG_gap_run h1) (by omega) ?_
    refine L_pure (pc := 8) (pc' := 9) (st' := [.long (Int32.toInt64 v), .int 0, .ref 251]) (show z_pt 282 8 = some (5, .i2l, []) by decide +kernel) rfl (fun _ _ => rfl) ?_
    refine L_last (pc := 9) (show z_pt 282 9 = some (5, .lastore, []) by decide +kernel) ?_
    refine L_pure (pc := 10) (pc' := 21) (show z_pt 282 10 = some (5, .goto 11, []) by decide +kernel) rfl (fun _ _ => rfl) ?_
    refine L_const (pc := 21) (pc' := 22) (v := 0) (show z_ptc 282 21 = some (22, 0) by decide +kernel) ?_
    exact L_retI (show z_pt 282 22 = some (5, .ireturn, []) by decide +kernel) (by decide +kernel) ⟨rfl, rfl, rfl⟩
  | inr E =>
    obtain ⟨n, hn, rfl⟩ := hag
    match n, hn with
    | 0, hn =>
      obtain rfl : 0 = E := Option.some.inj hn
      refine ⟨a, q, fun h => absurd h (by decide), ?_⟩
      refine L_pure (pc := 0) (pc' := 1) (st' := [.ref 251]) (show z_pt 282 0 = some (5, .aload_n 3, []) by decide +kernel) rfl (fun _ _ => rfl) ?_
      refine L_const (pc := 1) (pc' := 2) (v := 0) (show z_ptc 282 1 = some (2, 0) by decide +kernel) ?_
      refine L_pure (pc := 2) (pc' := 3) (st' := [.ref 0, .int 0, .ref 251]) (show z_pt 282 2 = some (5, .aload_n 0, []) by decide +kernel) rfl (fun _ _ => rfl) ?_
      refine L_pure (pc := 3) (pc' := 4) (st' := [.int c1, .ref 0, .int 0, .ref 251]) (show z_pt 282 3 = some (5, .iload_n 1, []) by decide +kernel) rfl (fun _ _ => rfl) ?_
      refine L_pure (pc := 4) (pc' := 5) (st' := [.int c2, .int c1, .ref 0, .int 0, .ref 251]) (show z_pt 282 4 = some (5, .iload_n 2, []) by decide +kernel) rfl (fun _ _ => rfl) ?_
      refine L_callX (pc := 5) (rr := [.int 0, .ref 251]) (h := 15) (x := 4) (show z_pt 282 5 = some (5, .invokevirtual 45, [0, 87, 2, 4003, 4004, 4005, 1001, 4006]) by decide +kernel) rfl (show z_r2 87 = some (9, 3, true) by decide +kernel) rfl rfl (Or.inr ⟨_, _, rfl, (show z_ci 0 9 = true by decide +kernel)⟩) (pG_gap_run h1) (by decide) (show z_hx 282 5 0 = some (15, 4) by decide +kernel) (by omega) rfl ?_
      refine L_const (pc := 15) (pc' := 16) (v := 1) (show z_ptc 282 15 = some (16, 1) by decide +kernel) ?_
      exact L_retI (show z_pt 282 16 = some (5, .ireturn, []) by decide +kernel) (by decide +kernel) ⟨rfl, rfl, rfl⟩
    | 1, hn =>
      obtain rfl : 3 = E := Option.some.inj hn
      refine ⟨a, q, fun h => absurd h (by decide), ?_⟩
      refine L_pure (pc := 0) (pc' := 1) (st' := [.ref 251]) (show z_pt 282 0 = some (5, .aload_n 3, []) by decide +kernel) rfl (fun _ _ => rfl) ?_
      refine L_const (pc := 1) (pc' := 2) (v := 0) (show z_ptc 282 1 = some (2, 0) by decide +kernel) ?_
      refine L_pure (pc := 2) (pc' := 3) (st' := [.ref 0, .int 0, .ref 251]) (show z_pt 282 2 = some (5, .aload_n 0, []) by decide +kernel) rfl (fun _ _ => rfl) ?_
      refine L_pure (pc := 3) (pc' := 4) (st' := [.int c1, .ref 0, .int 0, .ref 251]) (show z_pt 282 3 = some (5, .iload_n 1, []) by decide +kernel) rfl (fun _ _ => rfl) ?_
      refine L_pure (pc := 4) (pc' := 5) (st' := [.int c2, .int c1, .ref 0, .int 0, .ref 251]) (show z_pt 282 4 = some (5, .iload_n 2, []) by decide +kernel) rfl (fun _ _ => rfl) ?_
      refine L_callX (pc := 5) (rr := [.int 0, .ref 251]) (h := 19) (x := 4) (show z_pt 282 5 = some (5, .invokevirtual 45, [0, 87, 2, 4003, 4004, 4005, 1001, 4006]) by decide +kernel) rfl (show z_r2 87 = some (9, 3, true) by decide +kernel) rfl rfl (Or.inr ⟨_, _, rfl, (show z_ci 0 9 = true by decide +kernel)⟩) (pG_gap_run h1) (by decide) (show z_hx 282 5 3 = some (19, 4) by decide +kernel) (by omega) rfl ?_
      refine L_const (pc := 19) (pc' := 20) (v := 2) (show z_ptc 282 19 = some (20, 2) by decide +kernel) ?_
      exact L_retI (show z_pt 282 20 = some (5, .ireturn, []) by decide +kernel) (by decide +kernel) ⟨rfl, rfl, rfl⟩
    | n + 2, hn => cases hn
theorem pL_areConnected {sc : Nat × (Nat → Int32)} {μ μ1 : z_Mem} {a : Nat → Int64} {q : Nat → UInt64} {c1 c2 : Int32} {r : Int32 ⊕ Nat} {b : Int32} {t : Int32} (h1 : pG_areConnected μ c1 c2 = some (r, μ1)) (hag : z_agI [0] r b t) : ∃ (a1 : Nat → Int64) (q1 : Nat → UInt64), (t = 0 → a1 0 = (if b = 0 then Int64.ofNat 0 else Int64.ofNat 1)) ∧ Rl sc 16 283 0 [(0, .ref 0), (1, .int c1), (2, .int c2), (3, .ref 251)] [] μ a q (.inl (some (.int t))) (z_PE μ1 a1 q1) 1 := by
  cases r with
  | inl v =>
    obtain ⟨ht, hv⟩ := hag
    subst ht
    subst hv
    by_cases hb0 : v = 0
    · refine ⟨vp_updL a 0 (Int64.ofNat 0), q, fun _ => (by rw [if_pos hb0]; rfl), ?_⟩
      refine L_pure (pc := 0) (pc' := 1) (st' := [.ref 251]) (show z_pt 283 0 = some (5, .aload_n 3, []) by decide +kernel) rfl (fun _ _ => rfl) ?_
      refine L_const (pc := 1) (pc' := 2) (v := 0) (show z_ptc 283 1 = some (2, 0) by decide +kernel) ?_
      refine L_pure (pc := 2) (pc' := 3) (st' := [.ref 0, .int 0, .ref 251]) (show z_pt 283 2 = some (5, .aload_n 0, []) by decide +kernel) rfl (fun _ _ => rfl) ?_
      refine L_pure (pc := 3) (pc' := 4) (st' := [.int c1, .ref 0, .int 0, .ref 251]) (show z_pt 283 3 = some (5, .iload_n 1, []) by decide +kernel) rfl (fun _ _ => rfl) ?_
      refine L_pure (pc := 4) (pc' := 5) (st' := [.int c2, .int c1, .ref 0, .int 0, .ref 251]) (show z_pt 283 4 = some (5, .iload_n 2, []) by decide +kernel) rfl (fun _ _ => rfl) ?_
      refine L_call (pc := 5) (rr := [.int 0, .ref 251]) (show z_pt 283 5 = some (5, .invokevirtual 48, [0, 88, 2, 4010, 4011, 4012, 1001, 4013]) by decide +kernel) rfl (show z_r2 88 = some (9, 3, true) by decide +kernel) rfl rfl (Or.inr ⟨_, _, rfl, (show z_ci 0 9 = true by decide +kernel)⟩) (pG_areConnected_run h1) (by omega) ?_
      refine L_ifT (pc := 8) (t := 15) (show z_pt 283 8 = some (5, .ifCond .eq 7, []) by decide +kernel) (by decide) (decide_eq_true hb0) ?_
      refine L_pure (pc := 15) (pc' := 16) (st' := [.long (Int64.ofNat 0), .int 0, .ref 251]) (show z_pt 283 15 = some (5, .lconst 0, []) by decide +kernel) rfl (fun _ _ => rfl) ?_
      refine L_last (pc := 16) (show z_pt 283 16 = some (5, .lastore, []) by decide +kernel) ?_
      refine L_pure (pc := 17) (pc' := 24) (show z_pt 283 17 = some (5, .goto 7, []) by decide +kernel) rfl (fun _ _ => rfl) ?_
      refine L_const (pc := 24) (pc' := 25) (v := 0) (show z_ptc 283 24 = some (25, 0) by decide +kernel) ?_
      exact L_retI (show z_pt 283 25 = some (5, .ireturn, []) by decide +kernel) (by decide +kernel) ⟨rfl, rfl, rfl⟩
    · refine ⟨vp_updL a 0 (Int64.ofNat 1), q, fun _ => (by rw [if_neg hb0]; rfl), ?_⟩
      refine L_pure (pc := 0) (pc' := 1) (st' := [.ref 251]) (show z_pt 283 0 = some (5, .aload_n 3, []) by decide +kernel) rfl (fun _ _ => rfl) ?_
      refine L_const (pc := 1) (pc' := 2) (v := 0) (show z_ptc 283 1 = some (2, 0) by decide +kernel) ?_
      refine L_pure (pc := 2) (pc' := 3) (st' := [.ref 0, .int 0, .ref 251]) (show z_pt 283 2 = some (5, .aload_n 0, []) by decide +kernel) rfl (fun _ _ => rfl) ?_
      refine L_pure (pc := 3) (pc' := 4) (st' := [.int c1, .ref 0, .int 0, .ref 251]) (show z_pt 283 3 = some (5, .iload_n 1, []) by decide +kernel) rfl (fun _ _ => rfl) ?_
      refine L_pure (pc := 4) (pc' := 5) (st' := [.int c2, .int c1, .ref 0, .int 0, .ref 251]) (show z_pt 283 4 = some (5, .iload_n 2, []) by decide +kernel) rfl (fun _ _ => rfl) ?_
      refine L_call (pc := 5) (rr := [.int 0, .ref 251]) (show z_pt 283 5 = some (5, .invokevirtual 48, [0, 88, 2, 4010, 4011, 4012, 1001, 4013]) by decide +kernel) rfl (show z_r2 88 = some (9, 3, true) by decide +kernel) rfl rfl (Or.inr ⟨_, _, rfl, (show z_ci 0 9 = true by decide +kernel)⟩) (pG_areConnected_run h1) (by omega) ?_
      refine L_ifF (pc := 8) (t := 15) (show z_pt 283 8 = some (5, .ifCond .eq 7, []) by decide +kernel) (by decide) (decide_eq_false hb0) ?_
      refine L_pure (pc := 11) (pc' := 12) (st' := [.long (Int64.ofNat 1), .int 0, .ref 251]) (show z_pt 283 11 = some (5, .lconst 1, []) by decide +kernel) rfl (fun _ _ => rfl) ?_
      refine L_pure (pc := 12) (pc' := 16) (show z_pt 283 12 = some (5, .goto 4, []) by decide +kernel) rfl (fun _ _ => rfl) ?_
      refine L_last (pc := 16) (show z_pt 283 16 = some (5, .lastore, []) by decide +kernel) ?_
      refine L_pure (pc := 17) (pc' := 24) (show z_pt 283 17 = some (5, .goto 7, []) by decide +kernel) rfl (fun _ _ => rfl) ?_
      refine L_const (pc := 24) (pc' := 25) (v := 0) (show z_ptc 283 24 = some (25, 0) by decide +kernel) ?_
      exact L_retI (show z_pt 283 25 = some (5, .ireturn, []) by decide +kernel) (by decide +kernel) ⟨rfl, rfl, rfl⟩
  | inr E =>
    obtain ⟨n, hn, rfl⟩ := hag
    match n, hn with
    | 0, hn =>
      obtain rfl : 0 = E := Option.some.inj hn
      refine ⟨a, q, fun h => absurd h (by decide), ?_⟩
      refine L_pure (pc := 0) (pc' := 1) (st' := [.ref 251]) (show z_pt 283 0 = some (5, .aload_n 3, []) by decide +kernel) rfl (fun _ _ => rfl) ?_
      refine L_const (pc := 1) (pc' := 2) (v := 0) (show z_ptc 283 1 = some (2, 0) by decide +kernel) ?_
      refine L_pure (pc := 2) (pc' := 3) (st' := [.ref 0, .int 0, .ref 251]) (show z_pt 283 2 = some (5, .aload_n 0, []) by decide +kernel) rfl (fun _ _ => rfl) ?_
      refine L_pure (pc := 3) (pc' := 4) (st' := [.int c1, .ref 0, .int 0, .ref 251]) (show z_pt 283 3 = some (5, .iload_n 1, []) by decide +kernel) rfl (fun _ _ => rfl) ?_
      refine L_pure (pc := 4) (pc' := 5) (st' := [.int c2, .int c1, .ref 0, .int 0, .ref 251]) (show z_pt 283 4 = some (5, .iload_n 2, []) by decide +kernel) rfl (fun _ _ => rfl) ?_
      refine L_callX (pc := 5) (rr := [.int 0, .ref 251]) (h := 22) (x := 4) (show z_pt 283 5 = some (5, .invokevirtual 48, [0, 88, 2, 4010, 4011, 4012, 1001, 4013]) by decide +kernel) rfl (show z_r2 88 = some (9, 3, true) by decide +kernel) rfl rfl (Or.inr ⟨_, _, rfl, (show z_ci 0 9 = true by decide +kernel)⟩) (pG_areConnected_run h1) (by decide) (show z_hx 283 5 0 = some (22, 4) by decide +kernel) (by omega) rfl ?_
      refine L_const (pc := 22) (pc' := 23) (v := 1) (show z_ptc 283 22 = some (23, 1) by decide +kernel) ?_
      exact L_retI (show z_pt 283 23 = some (5, .ireturn, []) by decide +kernel) (by decide +kernel) ⟨rfl, rfl, rfl⟩
    | n + 1, hn => cases hn
theorem pL_trainSize {sc : Nat × (Nat → Int32)} {μ μ1 : z_Mem} {a : Nat → Int64} {q : Nat → UInt64} {c1 : Int32} {r : Int32 ⊕ Nat} {b : Int32} {t : Int32} (h1 : pG_trainSize μ c1 = some (r, μ1)) (hag : z_agI [0] r b t) : ∃ (a1 : Nat → Int64) (q1 : Nat → UInt64), (t = 0 → a1 0 = Int32.toInt64 b) ∧ Rl sc 16 284 0 [(0, .ref 0), (1, .int c1), (2, .ref 251)] [] μ a q (.inl (some (.int t))) (z_PE μ1 a1 q1) 1 := by
  cases r with
  | inl v =>
    obtain ⟨ht, hv⟩ := hag
    subst ht
    subst hv
    refine ⟨vp_updL a 0 (Int32.toInt64 v), q, fun _ => rfl, ?_⟩
    refine L_pure (pc := 0) (pc' := 1) (st' := [.ref 251]) (show z_pt 284 0 = some (4, .aload_n 2, []) by decide +kernel) rfl (fun _ _ => rfl) ?_
    refine L_const (pc := 1) (pc' := 2) (v := 0) (show z_ptc 284 1 = some (2, 0) by decide +kernel) ?_
    refine L_pure (pc := 2) (pc' := 3) (st' := [.ref 0, .int 0, .ref 251]) (show z_pt 284 2 = some (4, .aload_n 0, []) by decide +kernel) rfl (fun _ _ => rfl) ?_
    refine L_pure (pc := 3) (pc' := 4) (st' := [.int c1, .ref 0, .int 0, .ref 251]) (show z_pt 284 3 = some (4, .iload_n 1, []) by decide +kernel) rfl (fun _ _ => rfl) ?_
    refine L_call (pc := 4) (rr := [.int 0, .ref 251]) (show z_pt 284 4 = some (4, .invokevirtual 51, [0, 89, 1, 4017, 4018, 4019, 1001, 4020]) by decide +kernel) rfl (show z_r2 89 = some (9, 2, true) by decide +kernel) rfl rfl (Or.inr ⟨_, _, rfl, (show z_ci 0 9 = true by decide +kernel)⟩) (pG_trainSize_run h1) (by omega) ?_
    refine L_pure (pc := 7) (pc' := 8) (st' := [.long (Int32.toInt64 v), .int 0, .ref 251]) (show z_pt 284 7 = some (4, .i2l, []) by decide +kernel) rfl (fun _ _ => rfl) ?_
    refine L_last (pc := 8) (show z_pt 284 8 = some (4, .lastore, []) by decide +kernel) ?_
    refine L_pure (pc := 9) (pc' := 15) (show z_pt 284 9 = some (4, .goto 6, []) by decide +kernel) rfl (fun _ _ => rfl) ?_
    refine L_const (pc := 15) (pc' := 16) (v := 0) (show z_ptc 284 15 = some (16, 0) by decide +kernel) ?_
    exact L_retI (show z_pt 284 16 = some (4, .ireturn, []) by decide +kernel) (by decide +kernel) ⟨rfl, rfl, rfl⟩
  | inr E =>
    obtain ⟨n, hn, rfl⟩ := hag
    match n, hn with
    | 0, hn =>
      obtain rfl : 0 = E := Option.some.inj hn
      refine ⟨a, q, fun h => absurd h (by decide), ?_⟩
      refine L_pure (pc := 0) (pc' := 1) (st' := [.ref 251]) (show z_pt 284 0 = some (4, .aload_n 2, []) by decide +kernel) rfl (fun _ _ => rfl) ?_
      refine L_const (pc := 1) (pc' := 2) (v := 0) (show z_ptc 284 1 = some (2, 0) by decide +kernel) ?_
      refine L_pure (pc := 2) (pc' := 3) (st' := [.ref 0, .int 0, .ref 251]) (show z_pt 284 2 = some (4, .aload_n 0, []) by decide +kernel) rfl (fun _ _ => rfl) ?_
      refine L_pure (pc := 3) (pc' := 4) (st' := [.int c1, .ref 0, .int 0, .ref 251]) (show z_pt 284 3 = some (4, .iload_n 1, []) by decide +kernel) rfl (fun _ _ => rfl) ?_
      refine L_callX (pc := 4) (rr := [.int 0, .ref 251]) (h := 13) (x := 3) (show z_pt 284 4 = some (4, .invokevirtual 51, [0, 89, 1, 4017, 4018, 4019, 1001, 4020]) by decide +kernel) rfl (show z_r2 89 = some (9, 2, true) by decide +kernel) rfl rfl (Or.inr ⟨_, _, rfl, (show z_ci 0 9 = true by decide +kernel)⟩) (pG_trainSize_run h1) (by decide) (show z_hx 284 4 0 = some (13, 3) by decide +kernel) (by omega) rfl ?_
      refine L_const (pc := 13) (pc' := 14) (v := 1) (show z_ptc 284 13 = some (14, 1) by decide +kernel) ?_
      exact L_retI (show z_pt 284 14 = some (4, .ireturn, []) by decide +kernel) (by decide +kernel) ⟨rfl, rfl, rfl⟩
    | n + 1, hn => cases hn
theorem pL_ratioNumerator {sc : Nat × (Nat → Int32)} {μ μ1 : z_Mem} {a : Nat → Int64} {q : Nat → UInt64} {c1 c2 : Int32} {r : Int32 ⊕ Nat} {b : Int32} {t : Int32} (h1 : pG_ratioNumerator μ c1 c2 = some (r, μ1)) (hag : z_agI [0, 3] r b t) : ∃ (a1 : Nat → Int64) (q1 : Nat → UInt64), (t = 0 → a1 0 = Int32.toInt64 b) ∧ Rl sc 17 285 0 [(0, .ref 0), (1, .int c1), (2, .int c2), (3, .ref 251)] [] μ a q (.inl (some (.int t))) (z_PE μ1 a1 q1) 1 := by
  cases r with
  | inl v =>
    obtain ⟨ht, hv⟩ := hag
    subst ht
    subst hv
    refine ⟨vp_updL a 0 (Int32.toInt64 v), q, fun _ => rfl, ?_⟩
    refine L_pure (pc := 0) (pc' := 1) (st' := [.ref 251]) (show z_pt 285 0 = some (5, .aload_n 3, []) by decide +kernel) rfl (fun _ _ => rfl) ?_
    refine L_const (pc := 1) (pc' := 2) (v := 0) (show z_ptc 285 1 = some (2, 0) by decide +kernel) ?_
    refine L_pure (pc := 2) (pc' := 3) (st' := [.ref 0, .int 0, .ref 251]) (show z_pt 285 2 = some (5, .aload_n 0, []) by decide +kernel) rfl (fun _ _ => rfl) ?_
    refine L_pure (pc := 3) (pc' := 4) (st' := [.int c1, .ref 0, .int 0, .ref 251]) (show z_pt 285 3 = some (5, .iload_n 1, []) by decide +kernel) rfl (fun _ _ => rfl) ?_
    refine L_pure (pc := 4) (pc' := 5) (st' := [.int c2, .int c1, .ref 0, .int 0, .ref 251]) (show z_pt 285 4 = some (5, .iload_n 2, []) by decide +kernel) rfl (fun _ _ => rfl) ?_
    refine L_call (pc := 5) (rr := [.int 0, .ref 251]) (show z_pt 285 5 = some (5, .invokevirtual 54, [0, 93, 2, 4028, 4029, 4030, 1001, 4031]) by decide +kernel) rfl (show z_r2 93 = some (9, 3, true) by decide +kernel) rfl rfl (Or.inr ⟨_, _, rfl, (show z_ci 0 9 = true by decide +kernel)⟩) (pG_ratioNumerator_run h1) (by omega) ?_
    refine L_pure (pc := 8) (pc' := 9) (st' := [.long (Int32.toInt64 v), .int 0, .ref 251]) (show z_pt 285 8 = some (5, .i2l, []) by decide +kernel) rfl (fun _ _ => rfl) ?_
    refine L_last (pc := 9) (show z_pt 285 9 = some (5, .lastore, []) by decide +kernel) ?_
    refine L_pure (pc := 10) (pc' := 21) (show z_pt 285 10 = some (5, .goto 11, []) by decide +kernel) rfl (fun _ _ => rfl) ?_
    refine L_const (pc := 21) (pc' := 22) (v := 0) (show z_ptc 285 21 = some (22, 0) by decide +kernel) ?_
    exact L_retI (show z_pt 285 22 = some (5, .ireturn, []) by decide +kernel) (by decide +kernel) ⟨rfl, rfl, rfl⟩
  | inr E =>
    obtain ⟨n, hn, rfl⟩ := hag
    match n, hn with
    | 0, hn =>
      obtain rfl : 0 = E := Option.some.inj hn
      refine ⟨a, q, fun h => absurd h (by decide), ?_⟩
      refine L_pure (pc := 0) (pc' := 1) (st' := [.ref 251]) (show z_pt 285 0 = some (5, .aload_n 3, []) by decide +kernel) rfl (fun _ _ => rfl) ?_
      refine L_const (pc := 1) (pc' := 2) (v := 0) (show z_ptc 285 1 = some (2, 0) by decide +kernel) ?_
      refine L_pure (pc := 2) (pc' := 3) (st' := [.ref 0, .int 0, .ref 251]) (show z_pt 285 2 = some (5, .aload_n 0, []) by decide +kernel) rfl (fun _ _ => rfl) ?_
      refine L_pure (pc := 3) (pc' := 4) (st' := [.int c1, .ref 0, .int 0, .ref 251]) (show z_pt 285 3 = some (5, .iload_n 1, []) by decide +kernel) rfl (fun _ _ => rfl) ?_
      refine L_pure (pc := 4) (pc' := 5) (st' := [.int c2, .int c1, .ref 0, .int 0, .ref 251]) (show z_pt 285 4 = some (5, .iload_n 2, []) by decide +kernel) rfl (fun _ _ => rfl) ?_
      refine L_callX (pc := 5) (rr := [.int 0, .ref 251]) (h := 15) (x := 4) (show z_pt 285 5 = some (5, .invokevirtual 54, [0, 93, 2, 4028, 4029, 4030, 1001, 4031]) by decide +kernel) rfl (show z_r2 93 = some (9, 3, true) by decide +kernel) rfl rfl (Or.inr ⟨_, _, rfl, (show z_ci 0 9 = true by decide +kernel)⟩) (pG_ratioNumerator_run h1) (by decide) (show z_hx 285 5 0 = some (15, 4) by decide +kernel) (by omega) rfl ?_
      refine L_const (pc := 15) (pc' := 16) (v := 1) (show z_ptc 285 15 = some (16, 1) by decide +kernel) ?_
      exact L_retI (show z_pt 285 16 = some (5, .ireturn, []) by decide +kernel) (by decide +kernel) ⟨rfl, rfl, rfl⟩
    | 1, hn =>
      obtain rfl : 3 = E := Option.some.inj hn
      refine ⟨a, q, fun h => absurd h (by decide), ?_⟩
      refine L_pure (pc := 0) (pc' := 1) (st' := [.ref 251]) (show z_pt 285 0 = some (5, .aload_n 3, []) by decide +kernel) rfl (fun _ _ => rfl) ?_
      refine L_const (pc := 1) (pc' := 2) (v := 0) (show z_ptc 285 1 = some (2, 0) by decide +kernel) ?_
      refine L_pure (pc := 2) (pc' := 3) (st' := [.ref 0, .int 0, .ref 251]) (show z_pt 285 2 = some (5, .aload_n 0, []) by decide +kernel) rfl (fun _ _ => rfl) ?_
      refine L_pure (pc := 3) (pc' := 4) (st' := [.int c1, .ref 0, .int 0, .ref 251]) (show z_pt 285 3 = some (5, .iload_n 1, []) by decide +kernel) rfl (fun _ _ => rfl) ?_
      refine L_pure (pc := 4) (pc' := 5) (st' := [.int c2, .int c1, .ref 0, .int 0, .ref 251]) (show z_pt 285 4 = some (5, .iload_n 2, []) by decide +kernel) rfl (fun _ _ => rfl) ?_
      refine L_callX (pc := 5) (rr := [.int 0, .ref 251]) (h := 19) (x := 4) (show z_pt 285 5 = some (5, .invokevirtual 54, [0, 93, 2, 4028, 4029, 4030, 1001, 4031]) by decide +kernel) rfl (show z_r2 93 = some (9, 3, true) by decide +kernel) rfl rfl (Or.inr ⟨_, _, rfl, (show z_ci 0 9 = true by decide +kernel)⟩) (pG_ratioNumerator_run h1) (by decide) (show z_hx 285 5 3 = some (19, 4) by decide +kernel) (by omega) rfl ?_
      refine L_const (pc := 19) (pc' := 20) (v := 2) (show z_ptc 285 19 = some (20, 2) by decide +kernel) ?_
      exact L_retI (show z_pt 285 20 = some (5, .ireturn, []) by decide +kernel) (by decide +kernel) ⟨rfl, rfl, rfl⟩
    | n + 2, hn => cases hn
theorem pL_ratioDenominator {sc : Nat × (Nat → Int32)} {μ μ1 : z_Mem} {a : Nat → Int64} {q : Nat → UInt64} {c1 c2 : Int32} {r : Int32 ⊕ Nat} {b : Int32} {t : Int32} (h1 : pG_ratioDenominator μ c1 c2 = some (r, μ1)) (hag : z_agI [0, 3] r b t) : ∃ (a1 : Nat → Int64) (q1 : Nat → UInt64), (t = 0 → a1 0 = Int32.toInt64 b) ∧ Rl sc 17 286 0 [(0, .ref 0), (1, .int c1), (2, .int c2), (3, .ref 251)] [] μ a q (.inl (some (.int t))) (z_PE μ1 a1 q1) 1 := by
  cases r with
  | inl v =>
    obtain ⟨ht, hv⟩ := hag
    subst ht
    subst hv
    refine ⟨vp_updL a 0 (Int32.toInt64 v), q, fun _ => rfl, ?_⟩
    refine L_pure (pc := 0) (pc' := 1) (st' := [.ref 251]) (show z_pt 286 0 = some (5, .aload_n 3, []) by decide +kernel) rfl (fun _ _ => rfl) ?_
    refine L_const (pc := 1) (pc' := 2) (v := 0) (show z_ptc 286 1 = some (2, 0) by decide +kernel) ?_
    refine L_pure (pc := 2) (pc' := 3) (st' := [.ref 0, .int 0, .ref 251]) (show z_pt 286 2 = some (5, .aload_n 0, []) by decide +kernel) rfl (fun _ _ => rfl) ?_
    refine L_pure (pc := 3) (pc' := 4) (st' := [.int c1, .ref 0, .int 0, .ref 251]) (show z_pt 286 3 = some (5, .iload_n 1, []) by decide +kernel) rfl (fun _ _ => rfl) ?_
    refine L_pure (pc := 4) (pc' := 5) (st' := [.int c2, .int c1, .ref 0, .int 0, .ref 251]) (show z_pt 286 4 = some (5, .iload_n 2, []) by decide +kernel) rfl (fun _ _ => rfl) ?_
    refine L_call (pc := 5) (rr := [.int 0, .ref 251]) (show z_pt 286 5 = some (5, .invokevirtual 57, [0, 94, 2, 4040, 4041, 4042, 1001, 4043]) by decide +kernel) rfl (show z_r2 94 = some (9, 3, true) by decide +kernel) rfl rfl (Or.inr ⟨_, _, rfl, (show z_ci 0 9 = true by decide +kernel)⟩) (pG_ratioDenominator_run h1) (by omega) ?_
    refine L_pure (pc := 8) (pc' := 9) (st' := [.long (Int32.toInt64 v), .int 0, .ref 251]) (show z_pt 286 8 = some (5, .i2l, []) by decide +kernel) rfl (fun _ _ => rfl) ?_
    refine L_last (pc := 9) (show z_pt 286 9 = some (5, .lastore, []) by decide +kernel) ?_
    refine L_pure (pc := 10) (pc' := 21) (show z_pt 286 10 = some (5, .goto 11, []) by decide +kernel) rfl (fun _ _ => rfl) ?_
    refine L_const (pc := 21) (pc' := 22) (v := 0) (show z_ptc 286 21 = some (22, 0) by decide +kernel) ?_
    exact L_retI (show z_pt 286 22 = some (5, .ireturn, []) by decide +kernel) (by decide +kernel) ⟨rfl, rfl, rfl⟩
  | inr E =>
    obtain ⟨n, hn, rfl⟩ := hag
    match n, hn with
    | 0, hn =>
      obtain rfl : 0 = E := Option.some.inj hn
      refine ⟨a, q, fun h => absurd h (by decide), ?_⟩
      refine L_pure (pc := 0) (pc' := 1) (st' := [.ref 251]) (show z_pt 286 0 = some (5, .aload_n 3, []) by decide +kernel) rfl (fun _ _ => rfl) ?_
      refine L_const (pc := 1) (pc' := 2) (v := 0) (show z_ptc 286 1 = some (2, 0) by decide +kernel) ?_
      refine L_pure (pc := 2) (pc' := 3) (st' := [.ref 0, .int 0, .ref 251]) (show z_pt 286 2 = some (5, .aload_n 0, []) by decide +kernel) rfl (fun _ _ => rfl) ?_
      refine L_pure (pc := 3) (pc' := 4) (st' := [.int c1, .ref 0, .int 0, .ref 251]) (show z_pt 286 3 = some (5, .iload_n 1, []) by decide +kernel) rfl (fun _ _ => rfl) ?_
      refine L_pure (pc := 4) (pc' := 5) (st' := [.int c2, .int c1, .ref 0, .int 0, .ref 251]) (show z_pt 286 4 = some (5, .iload_n 2, []) by decide +kernel) rfl (fun _ _ => rfl) ?_
      refine L_callX (pc := 5) (rr := [.int 0, .ref 251]) (h := 15) (x := 4) (show z_pt 286 5 = some (5, .invokevirtual 57, [0, 94, 2, 4040, 4041, 4042, 1001, 4043]) by decide +kernel) rfl (show z_r2 94 = some (9, 3, true) by decide +kernel) rfl rfl (Or.inr ⟨_, _, rfl, (show z_ci 0 9 = true by decide +kernel)⟩) (pG_ratioDenominator_run h1) (by decide) (show z_hx 286 5 0 = some (15, 4) by decide +kernel) (by omega) rfl ?_
      refine L_const (pc := 15) (pc' := 16) (v := 1) (show z_ptc 286 15 = some (16, 1) by decide +kernel) ?_
      exact L_retI (show z_pt 286 16 = some (5, .ireturn, []) by decide +kernel) (by decide +kernel) ⟨rfl, rfl, rfl⟩
    | 1, hn =>
      obtain rfl : 3 = E := Option.some.inj hn
      refine ⟨a, q, fun h => absurd h (by decide), ?_⟩
      refine L_pure (pc := 0) (pc' := 1) (st' := [.ref 251]) (show z_pt 286 0 = some (5, .aload_n 3, []) by decide +kernel) rfl (fun _ _ => rfl) ?_
      refine L_const (pc := 1) (pc' := 2) (v := 0) (show z_ptc 286 1 = some (2, 0) by decide +kernel) ?_
      refine L_pure (pc := 2) (pc' := 3) (st' := [.ref 0, .int 0, .ref 251]) (show z_pt 286 2 = some (5, .aload_n 0, []) by decide +kernel) rfl (fun _ _ => rfl) ?_
      refine L_pure (pc := 3) (pc' := 4) (st' := [.int c1, .ref 0, .int 0, .ref 251]) (show z_pt 286 3 = some (5, .iload_n 1, []) by decide +kernel) rfl (fun _ _ => rfl) ?_
      refine L_pure (pc := 4) (pc' := 5) (st' := [.int c2, .int c1, .ref 0, .int 0, .ref 251]) (show z_pt 286 4 = some (5, .iload_n 2, []) by decide +kernel) rfl (fun _ _ => rfl) ?_
      refine L_callX (pc := 5) (rr := [.int 0, .ref 251]) (h := 19) (x := 4) (show z_pt 286 5 = some (5, .invokevirtual 57, [0, 94, 2, 4040, 4041, 4042, 1001, 4043]) by decide +kernel) rfl (show z_r2 94 = some (9, 3, true) by decide +kernel) rfl rfl (Or.inr ⟨_, _, rfl, (show z_ci 0 9 = true by decide +kernel)⟩) (pG_ratioDenominator_run h1) (by decide) (show z_hx 286 5 3 = some (19, 4) by decide +kernel) (by omega) rfl ?_
      refine L_const (pc := 19) (pc' := 20) (v := 2) (show z_ptc 286 19 = some (20, 2) by decide +kernel) ?_
      exact L_retI (show z_pt 286 20 = some (5, .ireturn, []) by decide +kernel) (by decide +kernel) ⟨rfl, rfl, rfl⟩
    | n + 2, hn => cases hn
theorem pL_ratioNumeratorByChain {sc : Nat × (Nat → Int32)} {μ μ1 : z_Mem} {a : Nat → Int64} {q : Nat → UInt64} {c1 c2 : Int32} {r : Int32 ⊕ Nat} {b : Int32} {t : Int32} (h1 : pG_ratioNumeratorByChain μ c1 c2 = some (r, μ1)) (hag : z_agI [0, 3] r b t) : ∃ (a1 : Nat → Int64) (q1 : Nat → UInt64), (t = 0 → a1 0 = Int32.toInt64 b) ∧ Rl sc 17 287 0 [(0, .ref 0), (1, .int c1), (2, .int c2), (3, .ref 251)] [] μ a q (.inl (some (.int t))) (z_PE μ1 a1 q1) 1 := by
  cases r with
  | inl v =>
    obtain ⟨ht, hv⟩ := hag
    subst ht
    subst hv
    refine ⟨vp_updL a 0 (Int32.toInt64 v), q, fun _ => rfl, ?_⟩
    refine L_pure (pc := 0) (pc' := 1) (st' := [.ref 251]) (show z_pt 287 0 = some (5, .aload_n 3, []) by decide +kernel) rfl (fun _ _ => rfl) ?_
    refine L_const (pc := 1) (pc' := 2) (v := 0) (show z_ptc 287 1 = some (2, 0) by decide +kernel) ?_
    refine L_pure (pc := 2) (pc' := 3) (st' := [.ref 0, .int 0, .ref 251]) (show z_pt 287 2 = some (5, .aload_n 0, []) by decide +kernel) rfl (fun _ _ => rfl) ?_
    refine L_pure (pc := 3) (pc' := 4) (st' := [.int c1, .ref 0, .int 0, .ref 251]) (show z_pt 287 3 = some (5, .iload_n 1, []) by decide +kernel) rfl (fun _ _ => rfl) ?_
    refine L_pure (pc := 4) (pc' := 5) (st' := [.int c2, .int c1, .ref 0, .int 0, .ref 251]) (show z_pt 287 4 = some (5, .iload_n 2, []) by decide +kernel) rfl (fun _ _ => rfl) ?_
    refine L_call (pc := 5) (rr := [.int 0, .ref 251]) (show z_pt 287 5 = some (5, .invokevirtual 60, [0, 95, 2, 4051, 4052, 4053, 1001, 4054]) by decide +kernel) rfl (show z_r2 95 = some (9, 3, true) by decide +kernel) rfl rfl (Or.inr ⟨_, _, rfl, (show z_ci 0 9 = true by decide +kernel)⟩) (pG_ratioNumeratorByChain_run h1) (by omega) ?_
    refine L_pure (pc := 8) (pc' := 9) (st' := [.long (Int32.toInt64 v), .int 0, .ref 251]) (show z_pt 287 8 = some (5, .i2l, []) by decide +kernel) rfl (fun _ _ => rfl) ?_
    refine L_last (pc := 9) (show z_pt 287 9 = some (5, .lastore, []) by decide +kernel) ?_
    refine L_pure (pc := 10) (pc' := 21) (show z_pt 287 10 = some (5, .goto 11, []) by decide +kernel) rfl (fun _ _ => rfl) ?_
    refine L_const (pc := 21) (pc' := 22) (v := 0) (show z_ptc 287 21 = some (22, 0) by decide +kernel) ?_
    exact L_retI (show z_pt 287 22 = some (5, .ireturn, []) by decide +kernel) (by decide +kernel) ⟨rfl, rfl, rfl⟩
  | inr E =>
    obtain ⟨n, hn, rfl⟩ := hag
    match n, hn with
    | 0, hn =>
      obtain rfl : 0 = E := Option.some.inj hn
      refine ⟨a, q, fun h => absurd h (by decide), ?_⟩
      refine L_pure (pc := 0) (pc' := 1) (st' := [.ref 251]) (show z_pt 287 0 = some (5, .aload_n 3, []) by decide +kernel) rfl (fun _ _ => rfl) ?_
      refine L_const (pc := 1) (pc' := 2) (v := 0) (show z_ptc 287 1 = some (2, 0) by decide +kernel) ?_
      refine L_pure (pc := 2) (pc' := 3) (st' := [.ref 0, .int 0, .ref 251]) (show z_pt 287 2 = some (5, .aload_n 0, []) by decide +kernel) rfl (fun _ _ => rfl) ?_
      refine L_pure (pc := 3) (pc' := 4) (st' := [.int c1, .ref 0, .int 0, .ref 251]) (show z_pt 287 3 = some (5, .iload_n 1, []) by decide +kernel) rfl (fun _ _ => rfl) ?_
      refine L_pure (pc := 4) (pc' := 5) (st' := [.int c2, .int c1, .ref 0, .int 0, .ref 251]) (show z_pt 287 4 = some (5, .iload_n 2, []) by decide +kernel) rfl (fun _ _ => rfl) ?_
      refine L_callX (pc := 5) (rr := [.int 0, .ref 251]) (h := 15) (x := 4) (show z_pt 287 5 = some (5, .invokevirtual 60, [0, 95, 2, 4051, 4052, 4053, 1001, 4054]) by decide +kernel) rfl (show z_r2 95 = some (9, 3, true) by decide +kernel) rfl rfl (Or.inr ⟨_, _, rfl, (show z_ci 0 9 = true by decide +kernel)⟩) (pG_ratioNumeratorByChain_run h1) (by decide) (show z_hx 287 5 0 = some (15, 4) by decide +kernel) (by omega) rfl ?_
      refine L_const (pc := 15) (pc' := 16) (v := 1) (show z_ptc 287 15 = some (16, 1) by decide +kernel) ?_
      exact L_retI (show z_pt 287 16 = some (5, .ireturn, []) by decide +kernel) (by decide +kernel) ⟨rfl, rfl, rfl⟩
    | 1, hn =>
      obtain rfl : 3 = E := Option.some.inj hn
      refine ⟨a, q, fun h => absurd h (by decide), ?_⟩
      refine L_pure (pc := 0) (pc' := 1) (st' := [.ref 251]) (show z_pt 287 0 = some (5, .aload_n 3, []) by decide +kernel) rfl (fun _ _ => rfl) ?_
      refine L_const (pc := 1) (pc' := 2) (v := 0) (show z_ptc 287 1 = some (2, 0) by decide +kernel) ?_
      refine L_pure (pc := 2) (pc' := 3) (st' := [.ref 0, .int 0, .ref 251]) (show z_pt 287 2 = some (5, .aload_n 0, []) by decide +kernel) rfl (fun _ _ => rfl) ?_
      refine L_pure (pc := 3) (pc' := 4) (st' := [.int c1, .ref 0, .int 0, .ref 251]) (show z_pt 287 3 = some (5, .iload_n 1, []) by decide +kernel) rfl (fun _ _ => rfl) ?_
      refine L_pure (pc := 4) (pc' := 5) (st' := [.int c2, .int c1, .ref 0, .int 0, .ref 251]) (show z_pt 287 4 = some (5, .iload_n 2, []) by decide +kernel) rfl (fun _ _ => rfl) ?_
      refine L_callX (pc := 5) (rr := [.int 0, .ref 251]) (h := 19) (x := 4) (show z_pt 287 5 = some (5, .invokevirtual 60, [0, 95, 2, 4051, 4052, 4053, 1001, 4054]) by decide +kernel) rfl (show z_r2 95 = some (9, 3, true) by decide +kernel) rfl rfl (Or.inr ⟨_, _, rfl, (show z_ci 0 9 = true by decide +kernel)⟩) (pG_ratioNumeratorByChain_run h1) (by decide) (show z_hx 287 5 3 = some (19, 4) by decide +kernel) (by omega) rfl ?_
      refine L_const (pc := 19) (pc' := 20) (v := 2) (show z_ptc 287 19 = some (20, 2) by decide +kernel) ?_
      exact L_retI (show z_pt 287 20 = some (5, .ireturn, []) by decide +kernel) (by decide +kernel) ⟨rfl, rfl, rfl⟩
    | n + 2, hn => cases hn
theorem pL_freePlay {sc : Nat × (Nat → Int32)} {μ μ1 : z_Mem} {a : Nat → Int64} {q : Nat → UInt64} {c1 c2 : Int32} {r : Int32 ⊕ Nat} {b : Int32} {t : Int32} (h1 : pG_freePlay μ c1 c2 = some (r, μ1)) (hag : z_agI [0, 3] r b t) : ∃ (a1 : Nat → Int64) (q1 : Nat → UInt64), (t = 0 → a1 0 = Int32.toInt64 b) ∧ Rl sc 17 288 0 [(0, .ref 0), (1, .int c1), (2, .int c2), (3, .ref 251)] [] μ a q (.inl (some (.int t))) (z_PE μ1 a1 q1) 1 := by
  cases r with
  | inl v =>
    obtain ⟨ht, hv⟩ := hag
    subst ht
    subst hv
    refine ⟨vp_updL a 0 (Int32.toInt64 v), q, fun _ => rfl, ?_⟩
    refine L_pure (pc := 0) (pc' := 1) (st' := [.ref 251]) (show z_pt 288 0 = some (5, .aload_n 3, []) by decide +kernel) rfl (fun _ _ => rfl) ?_
    refine L_const (pc := 1) (pc' := 2) (v := 0) (show z_ptc 288 1 = some (2, 0) by decide +kernel) ?_
    refine L_pure (pc := 2) (pc' := 3) (st' := [.ref 0, .int 0, .ref 251]) (show z_pt 288 2 = some (5, .aload_n 0, []) by decide +kernel) rfl (fun _ _ => rfl) ?_
    refine L_pure (pc := 3) (pc' := 4) (st' := [.int c1, .ref 0, .int 0, .ref 251]) (show z_pt 288 3 = some (5, .iload_n 1, []) by decide +kernel) rfl (fun _ _ => rfl) ?_
    refine L_pure (pc := 4) (pc' := 5) (st' := [.int c2, .int c1, .ref 0, .int 0, .ref 251]) (show z_pt 288 4 = some (5, .iload_n 2, []) by decide +kernel) rfl (fun _ _ => rfl) ?_
    refine L_call (pc := 5) (rr := [.int 0, .ref 251]) (show z_pt 288 5 = some (5, .invokevirtual 63, [0, 96, 2, 4059, 4060, 4061, 1001, 4062]) by decide +kernel) rfl (show z_r2 96 = some (9, 3, true) by decide +kernel) rfl rfl (Or.inr ⟨_, _, rfl, (show z_ci 0 9 = true by decide +kernel)⟩) (pG_freePlay_run h1) (by omega) ?_
    refine L_pure (pc := 8) (pc' := 9) (st' := [.long (Int32.toInt64 v), .int 0, .ref 251]) (show z_pt 288 8 = some (5, .i2l, []) by decide +kernel) rfl (fun _ _ => rfl) ?_
    refine L_last (pc := 9) (show z_pt 288 9 = some (5, .lastore, []) by decide +kernel) ?_
    refine L_pure (pc := 10) (pc' := 21) (show z_pt 288 10 = some (5, .goto 11, []) by decide +kernel) rfl (fun _ _ => rfl) ?_
    refine L_const (pc := 21) (pc' := 22) (v := 0) (show z_ptc 288 21 = some (22, 0) by decide +kernel) ?_
    exact L_retI (show z_pt 288 22 = some (5, .ireturn, []) by decide +kernel) (by decide +kernel) ⟨rfl, rfl, rfl⟩
  | inr E =>
    obtain ⟨n, hn, rfl⟩ := hag
    match n, hn with
    | 0, hn =>
      obtain rfl : 0 = E := Option.some.inj hn
      refine ⟨a, q, fun h => absurd h (by decide), ?_⟩
      refine L_pure (pc := 0) (pc' := 1) (st' := [.ref 251]) (show z_pt 288 0 = some (5, .aload_n 3, []) by decide +kernel) rfl (fun _ _ => rfl) ?_
      refine L_const (pc := 1) (pc' := 2) (v := 0) (show z_ptc 288 1 = some (2, 0) by decide +kernel) ?_
      refine L_pure (pc := 2) (pc' := 3) (st' := [.ref 0, .int 0, .ref 251]) (show z_pt 288 2 = some (5, .aload_n 0, []) by decide +kernel) rfl (fun _ _ => rfl) ?_
      refine L_pure (pc := 3) (pc' := 4) (st' := [.int c1, .ref 0, .int 0, .ref 251]) (show z_pt 288 3 = some (5, .iload_n 1, []) by decide +kernel) rfl (fun _ _ => rfl) ?_
      refine L_pure (pc := 4) (pc' := 5) (st' := [.int c2, .int c1, .ref 0, .int 0, .ref 251]) (show z_pt 288 4 = some (5, .iload_n 2, []) by decide +kernel) rfl (fun _ _ => rfl) ?_
      refine L_callX (pc := 5) (rr := [.int 0, .ref 251]) (h := 15) (x := 4) (show z_pt 288 5 = some (5, .invokevirtual 63, [0, 96, 2, 4059, 4060, 4061, 1001, 4062]) by decide +kernel) rfl (show z_r2 96 = some (9, 3, true) by decide +kernel) rfl rfl (Or.inr ⟨_, _, rfl, (show z_ci 0 9 = true by decide +kernel)⟩) (pG_freePlay_run h1) (by decide) (show z_hx 288 5 0 = some (15, 4) by decide +kernel) (by omega) rfl ?_
      refine L_const (pc := 15) (pc' := 16) (v := 1) (show z_ptc 288 15 = some (16, 1) by decide +kernel) ?_
      exact L_retI (show z_pt 288 16 = some (5, .ireturn, []) by decide +kernel) (by decide +kernel) ⟨rfl, rfl, rfl⟩
    | 1, hn =>
      obtain rfl : 3 = E := Option.some.inj hn
      refine ⟨a, q, fun h => absurd h (by decide), ?_⟩
      refine L_pure (pc := 0) (pc' := 1) (st' := [.ref 251]) (show z_pt 288 0 = some (5, .aload_n 3, []) by decide +kernel) rfl (fun _ _ => rfl) ?_
      refine L_const (pc := 1) (pc' := 2) (v := 0) (show z_ptc 288 1 = some (2, 0) by decide +kernel) ?_
      refine L_pure (pc := 2) (pc' := 3) (st' := [.ref 0, .int 0, .ref 251]) (show z_pt 288 2 = some (5, .aload_n 0, []) by decide +kernel) rfl (fun _ _ => rfl) ?_
      refine L_pure (pc := 3) (pc' := 4) (st' := [.int c1, .ref 0, .int 0, .ref 251]) (show z_pt 288 3 = some (5, .iload_n 1, []) by decide +kernel) rfl (fun _ _ => rfl) ?_
      refine L_pure (pc := 4) (pc' := 5) (st' := [.int c2, .int c1, .ref 0, .int 0, .ref 251]) (show z_pt 288 4 = some (5, .iload_n 2, []) by decide +kernel) rfl (fun _ _ => rfl) ?_
      refine L_callX (pc := 5) (rr := [.int 0, .ref 251]) (h := 19) (x := 4) (show z_pt 288 5 = some (5, .invokevirtual 63, [0, 96, 2, 4059, 4060, 4061, 1001, 4062]) by decide +kernel) rfl (show z_r2 96 = some (9, 3, true) by decide +kernel) rfl rfl (Or.inr ⟨_, _, rfl, (show z_ci 0 9 = true by decide +kernel)⟩) (pG_freePlay_run h1) (by decide) (show z_hx 288 5 3 = some (19, 4) by decide +kernel) (by omega) rfl ?_
      refine L_const (pc := 19) (pc' := 20) (v := 2) (show z_ptc 288 19 = some (20, 2) by decide +kernel) ?_
      exact L_retI (show z_pt 288 20 = some (5, .ireturn, []) by decide +kernel) (by decide +kernel) ⟨rfl, rfl, rfl⟩
    | n + 2, hn => cases hn
theorem pL_freePlayByTurning {sc : Nat × (Nat → Int32)} {μ μ1 : z_Mem} {a : Nat → Int64} {q : Nat → UInt64} {c1 c2 : Int32} {r : Int32 ⊕ Nat} {b : Int32} {t : Int32} (h1 : pG_freePlayByTurning μ c1 c2 = some (r, μ1)) (hag : z_agI [0, 3] r b t) : ∃ (a1 : Nat → Int64) (q1 : Nat → UInt64), (t = 0 → a1 0 = Int32.toInt64 b) ∧ Rl sc 18 289 0 [(0, .ref 0), (1, .int c1), (2, .int c2), (3, .ref 251)] [] μ a q (.inl (some (.int t))) (z_PE μ1 a1 q1) 1 := by
  cases r with
  | inl v =>
    obtain ⟨ht, hv⟩ := hag
    subst ht
    subst hv
    refine ⟨vp_updL a 0 (Int32.toInt64 v), q, fun _ => rfl, ?_⟩
    refine L_pure (pc := 0) (pc' := 1) (st' := [.ref 251]) (show z_pt 289 0 = some (5, .aload_n 3, []) by decide +kernel) rfl (fun _ _ => rfl) ?_
    refine L_const (pc := 1) (pc' := 2) (v := 0) (show z_ptc 289 1 = some (2, 0) by decide +kernel) ?_
    refine L_pure (pc := 2) (pc' := 3) (st' := [.ref 0, .int 0, .ref 251]) (show z_pt 289 2 = some (5, .aload_n 0, []) by decide +kernel) rfl (fun _ _ => rfl) ?_
    refine L_pure (pc := 3) (pc' := 4) (st' := [.int c1, .ref 0, .int 0, .ref 251]) (show z_pt 289 3 = some (5, .iload_n 1, []) by decide +kernel) rfl (fun _ _ => rfl) ?_
    refine L_pure (pc := 4) (pc' := 5) (st' := [.int c2, .int c1, .ref 0, .int 0, .ref 251]) (show z_pt 289 4 = some (5, .iload_n 2, []) by decide +kernel) rfl (fun _ _ => rfl) ?_
    refine L_call (pc := 5) (rr := [.int 0, .ref 251]) (show z_pt 289 5 = some (5, .invokevirtual 66, [0, 97, 2, 4067, 4068, 4069, 1001, 4070]) by decide +kernel) rfl (show z_r2 97 = some (9, 3, true) by decide +kernel) rfl rfl (Or.inr ⟨_, _, rfl, (show z_ci 0 9 = true by decide +kernel)⟩) (pG_freePlayByTurning_run h1) (by omega) ?_
    refine L_pure (pc := 8) (pc' := 9) (st' := [.long (Int32.toInt64 v), .int 0, .ref 251]) (show z_pt 289 8 = some (5, .i2l, []) by decide +kernel) rfl (fun _ _ => rfl) ?_
    refine L_last (pc := 9) (show z_pt 289 9 = some (5, .lastore, []) by decide +kernel) ?_
    refine L_pure (pc := 10) (pc' := 21) (show z_pt 289 10 = some (5, .goto 11, []) by decide +kernel) rfl (fun _ _ => rfl) ?_
    refine L_const (pc := 21) (pc' := 22) (v := 0) (show z_ptc 289 21 = some (22, 0) by decide +kernel) ?_
    exact L_retI (show z_pt 289 22 = some (5, .ireturn, []) by decide +kernel) (by decide +kernel) ⟨rfl, rfl, rfl⟩
  | inr E =>
    obtain ⟨n, hn, rfl⟩ := hag
    match n, hn with
    | 0, hn =>
      obtain rfl : 0 = E := Option.some.inj hn
      refine ⟨a, q, fun h => absurd h (by decide), ?_⟩
      refine L_pure (pc := 0) (pc' := 1) (st' := [.ref 251]) (show z_pt 289 0 = some (5, .aload_n 3, []) by decide +kernel) rfl (fun _ _ => rfl) ?_
      refine L_const (pc := 1) (pc' := 2) (v := 0) (show z_ptc 289 1 = some (2, 0) by decide +kernel) ?_
      refine L_pure (pc := 2) (pc' := 3) (st' := [.ref 0, .int 0, .ref 251]) (show z_pt 289 2 = some (5, .aload_n 0, []) by decide +kernel) rfl (fun _ _ => rfl) ?_
      refine L_pure (pc := 3) (pc' := 4) (st' := [.int c1, .ref 0, .int 0, .ref 251]) (show z_pt 289 3 = some (5, .iload_n 1, []) by decide +kernel) rfl (fun _ _ => rfl) ?_
      refine L_pure (pc := 4) (pc' := 5) (st' := [.int c2, .int c1, .ref 0, .int 0, .ref 251]) (show z_pt 289 4 = some (5, .iload_n 2, []) by decide +kernel) rfl (fun _ _ => rfl) ?_
      refine L_callX (pc := 5) (rr := [.int 0, .ref 251]) (h := 15) (x := 4) (show z_pt 289 5 = some (5, .invokevirtual 66, [0, 97, 2, 4067, 4068, 4069, 1001, 4070]) by decide +kernel) rfl (show z_r2 97 = some (9, 3, true) by decide +kernel) rfl rfl (Or.inr ⟨_, _, rfl, (show z_ci 0 9 = true by decide +kernel)⟩) (pG_freePlayByTurning_run h1) (by decide) (show z_hx 289 5 0 = some (15, 4) by decide +kernel) (by omega) rfl ?_
      refine L_const (pc := 15) (pc' := 16) (v := 1) (show z_ptc 289 15 = some (16, 1) by decide +kernel) ?_
      exact L_retI (show z_pt 289 16 = some (5, .ireturn, []) by decide +kernel) (by decide +kernel) ⟨rfl, rfl, rfl⟩
    | 1, hn =>
      obtain rfl : 3 = E := Option.some.inj hn
      refine ⟨a, q, fun h => absurd h (by decide), ?_⟩
      refine L_pure (pc := 0) (pc' := 1) (st' := [.ref 251]) (show z_pt 289 0 = some (5, .aload_n 3, []) by decide +kernel) rfl (fun _ _ => rfl) ?_
      refine L_const (pc := 1) (pc' := 2) (v := 0) (show z_ptc 289 1 = some (2, 0) by decide +kernel) ?_
      refine L_pure (pc := 2) (pc' := 3) (st' := [.ref 0, .int 0, .ref 251]) (show z_pt 289 2 = some (5, .aload_n 0, []) by decide +kernel) rfl (fun _ _ => rfl) ?_
      refine L_pure (pc := 3) (pc' := 4) (st' := [.int c1, .ref 0, .int 0, .ref 251]) (show z_pt 289 3 = some (5, .iload_n 1, []) by decide +kernel) rfl (fun _ _ => rfl) ?_
      refine L_pure (pc := 4) (pc' := 5) (st' := [.int c2, .int c1, .ref 0, .int 0, .ref 251]) (show z_pt 289 4 = some (5, .iload_n 2, []) by decide +kernel) rfl (fun _ _ => rfl) ?_
      refine L_callX (pc := 5) (rr := [.int 0, .ref 251]) (h := 19) (x := 4) (show z_pt 289 5 = some (5, .invokevirtual 66, [0, 97, 2, 4067, 4068, 4069, 1001, 4070]) by decide +kernel) rfl (show z_r2 97 = some (9, 3, true) by decide +kernel) rfl rfl (Or.inr ⟨_, _, rfl, (show z_ci 0 9 = true by decide +kernel)⟩) (pG_freePlayByTurning_run h1) (by decide) (show z_hx 289 5 3 = some (19, 4) by decide +kernel) (by omega) rfl ?_
      refine L_const (pc := 19) (pc' := 20) (v := 2) (show z_ptc 289 19 = some (20, 2) by decide +kernel) ?_
      exact L_retI (show z_pt 289 20 = some (5, .ireturn, []) by decide +kernel) (by decide +kernel) ⟨rfl, rfl, rfl⟩
    | n + 2, hn => cases hn
theorem pL_addWheel {sc : Nat × (Nat → Int32)} {μ μ1 : z_Mem} {a : Nat → Int64} {q : Nat → UInt64} {c1 c2 : Int32} {r : Int32 ⊕ Nat} {b : Int32} {t : Int32} (h1 : pG_addWheel μ c1 c2 = some (r, μ1)) (hag : z_agI [0, 1, 2] r b t) : ∃ (a1 : Nat → Int64) (q1 : Nat → UInt64), (t = 0 → a1 0 = Int32.toInt64 b) ∧ Rl sc 8 290 0 [(0, .ref 0), (1, .int c1), (2, .int c2), (3, .ref 251)] [] μ a q (.inl (some (.int t))) (z_PE μ1 a1 q1) 1 := by
  cases r with
  | inl v =>
    obtain ⟨ht, hv⟩ := hag
    subst ht
    subst hv
    refine ⟨vp_updL a 0 (Int32.toInt64 v), q, fun _ => rfl, ?_⟩
    refine L_pure (pc := 0) (pc' := 1) (st' := [.ref 251]) (show z_pt 290 0 = some (5, .aload_n 3, []) by decide +kernel) rfl (fun _ _ => rfl) ?_
    refine L_const (pc := 1) (pc' := 2) (v := 0) (show z_ptc 290 1 = some (2, 0) by decide +kernel) ?_
    refine L_pure (pc := 2) (pc' := 3) (st' := [.ref 0, .int 0, .ref 251]) (show z_pt 290 2 = some (5, .aload_n 0, []) by decide +kernel) rfl (fun _ _ => rfl) ?_
    refine L_pure (pc := 3) (pc' := 4) (st' := [.int c1, .ref 0, .int 0, .ref 251]) (show z_pt 290 3 = some (5, .iload_n 1, []) by decide +kernel) rfl (fun _ _ => rfl) ?_
    refine L_pure (pc := 4) (pc' := 5) (st' := [.int c2, .int c1, .ref 0, .int 0, .ref 251]) (show z_pt 290 4 = some (5, .iload_n 2, []) by decide +kernel) rfl (fun _ _ => rfl) ?_
    refine L_call (pc := 5) (rr := [.int 0, .ref 251]) (show z_pt 290 5 = some (5, .invokevirtual 69, [0, 98, 2, 4075, 4076, 4077, 1001, 4078]) by decide +kernel) rfl (show z_r2 98 = some (9, 3, true) by decide +kernel) rfl rfl (Or.inr ⟨_, _, rfl, (show z_ci 0 9 = true by decide +kernel)⟩) (pG_addWheel_run h1) (by omega) ?_
    refine L_pure (pc := 8) (pc' := 9) (st' := [.long (Int32.toInt64 v), .int 0, .ref 251]) (show z_pt 290 8 = some (5, .i2l, []) by decide +kernel) rfl (fun _ _ => rfl) ?_
    refine L_last (pc := 9) (show z_pt 290 9 = some (5, .lastore, []) by decide +kernel) ?_
    refine L_pure (pc := 10) (pc' := 25) (show z_pt 290 10 = some (5, .goto 15, []) by decide +kernel) rfl (fun _ _ => rfl) ?_
    refine L_const (pc := 25) (pc' := 26) (v := 0) (show z_ptc 290 25 = some (26, 0) by decide +kernel) ?_
    exact L_retI (show z_pt 290 26 = some (5, .ireturn, []) by decide +kernel) (by decide +kernel) ⟨rfl, rfl, rfl⟩
  | inr E =>
    obtain ⟨n, hn, rfl⟩ := hag
    match n, hn with
    | 0, hn =>
      obtain rfl : 0 = E := Option.some.inj hn
      refine ⟨a, q, fun h => absurd h (by decide), ?_⟩
      refine L_pure (pc := 0) (pc' := 1) (st' := [.ref 251]) (show z_pt 290 0 = some (5, .aload_n 3, []) by decide +kernel) rfl (fun _ _ => rfl) ?_
      refine L_const (pc := 1) (pc' := 2) (v := 0) (show z_ptc 290 1 = some (2, 0) by decide +kernel) ?_
      refine L_pure (pc := 2) (pc' := 3) (st' := [.ref 0, .int 0, .ref 251]) (show z_pt 290 2 = some (5, .aload_n 0, []) by decide +kernel) rfl (fun _ _ => rfl) ?_
      refine L_pure (pc := 3) (pc' := 4) (st' := [.int c1, .ref 0, .int 0, .ref 251]) (show z_pt 290 3 = some (5, .iload_n 1, []) by decide +kernel) rfl (fun _ _ => rfl) ?_
      refine L_pure (pc := 4) (pc' := 5) (st' := [.int c2, .int c1, .ref 0, .int 0, .ref 251]) (show z_pt 290 4 = some (5, .iload_n 2, []) by decide +kernel) rfl (fun _ _ => rfl) ?_
      refine L_callX (pc := 5) (rr := [.int 0, .ref 251]) (h := 15) (x := 4) (show z_pt 290 5 = some (5, .invokevirtual 69, [0, 98, 2, 4075, 4076, 4077, 1001, 4078]) by decide +kernel) rfl (show z_r2 98 = some (9, 3, true) by decide +kernel) rfl rfl (Or.inr ⟨_, _, rfl, (show z_ci 0 9 = true by decide +kernel)⟩) (pG_addWheel_run h1) (by decide) (show z_hx 290 5 0 = some (15, 4) by decide +kernel) (by omega) rfl ?_
      refine L_const (pc := 15) (pc' := 16) (v := 1) (show z_ptc 290 15 = some (16, 1) by decide +kernel) ?_
      exact L_retI (show z_pt 290 16 = some (5, .ireturn, []) by decide +kernel) (by decide +kernel) ⟨rfl, rfl, rfl⟩
    | 1, hn =>
      obtain rfl : 1 = E := Option.some.inj hn
      refine ⟨a, q, fun h => absurd h (by decide), ?_⟩
      refine L_pure (pc := 0) (pc' := 1) (st' := [.ref 251]) (show z_pt 290 0 = some (5, .aload_n 3, []) by decide +kernel) rfl (fun _ _ => rfl) ?_
      refine L_const (pc := 1) (pc' := 2) (v := 0) (show z_ptc 290 1 = some (2, 0) by decide +kernel) ?_
      refine L_pure (pc := 2) (pc' := 3) (st' := [.ref 0, .int 0, .ref 251]) (show z_pt 290 2 = some (5, .aload_n 0, []) by decide +kernel) rfl (fun _ _ => rfl) ?_
      refine L_pure (pc := 3) (pc' := 4) (st' := [.int c1, .ref 0, .int 0, .ref 251]) (show z_pt 290 3 = some (5, .iload_n 1, []) by decide +kernel) rfl (fun _ _ => rfl) ?_
      refine L_pure (pc := 4) (pc' := 5) (st' := [.int c2, .int c1, .ref 0, .int 0, .ref 251]) (show z_pt 290 4 = some (5, .iload_n 2, []) by decide +kernel) rfl (fun _ _ => rfl) ?_
      refine L_callX (pc := 5) (rr := [.int 0, .ref 251]) (h := 19) (x := 4) (show z_pt 290 5 = some (5, .invokevirtual 69, [0, 98, 2, 4075, 4076, 4077, 1001, 4078]) by decide +kernel) rfl (show z_r2 98 = some (9, 3, true) by decide +kernel) rfl rfl (Or.inr ⟨_, _, rfl, (show z_ci 0 9 = true by decide +kernel)⟩) (pG_addWheel_run h1) (by decide) (show z_hx 290 5 1 = some (19, 4) by decide +kernel) (by omega) rfl ?_
      refine L_const (pc := 19) (pc' := 20) (v := 2) (show z_ptc 290 19 = some (20, 2) by decide +kernel) ?_
      exact L_retI (show z_pt 290 20 = some (5, .ireturn, []) by decide +kernel) (by decide +kernel) ⟨rfl, rfl, rfl⟩
    | 2, hn =>
      obtain rfl : 2 = E := Option.some.inj hn
      refine ⟨a, q, fun h => absurd h (by decide), ?_⟩
      refine L_pure (pc := 0) (pc' := 1) (st' := [.ref 251]) (show z_pt 290 0 = some (5, .aload_n 3, []) by decide +kernel) rfl (fun _ _ => rfl) ?_
      refine L_const (pc := 1) (pc' := 2) (v := 0) (show z_ptc 290 1 = some (2, 0) by decide +kernel) ?_
      refine L_pure (pc := 2) (pc' := 3) (st' := [.ref 0, .int 0, .ref 251]) (show z_pt 290 2 = some (5, .aload_n 0, []) by decide +kernel) rfl (fun _ _ => rfl) ?_
      refine L_pure (pc := 3) (pc' := 4) (st' := [.int c1, .ref 0, .int 0, .ref 251]) (show z_pt 290 3 = some (5, .iload_n 1, []) by decide +kernel) rfl (fun _ _ => rfl) ?_
      refine L_pure (pc := 4) (pc' := 5) (st' := [.int c2, .int c1, .ref 0, .int 0, .ref 251]) (show z_pt 290 4 = some (5, .iload_n 2, []) by decide +kernel) rfl (fun _ _ => rfl) ?_
      refine L_callX (pc := 5) (rr := [.int 0, .ref 251]) (h := 23) (x := 4) (show z_pt 290 5 = some (5, .invokevirtual 69, [0, 98, 2, 4075, 4076, 4077, 1001, 4078]) by decide +kernel) rfl (show z_r2 98 = some (9, 3, true) by decide +kernel) rfl rfl (Or.inr ⟨_, _, rfl, (show z_ci 0 9 = true by decide +kernel)⟩) (pG_addWheel_run h1) (by decide) (show z_hx 290 5 2 = some (23, 4) by decide +kernel) (by omega) rfl ?_
      refine L_const (pc := 23) (pc' := 24) (v := 3) (show z_ptc 290 23 = some (24, 3) by decide +kernel) ?_
      exact L_retI (show z_pt 290 24 = some (5, .ireturn, []) by decide +kernel) (by decide +kernel) ⟨rfl, rfl, rfl⟩
    | n + 3, hn => cases hn
theorem pL_gearOf {sc : Nat × (Nat → Int32)} {μ : z_Mem} {a : Nat → Int64} {q : Nat → UInt64} {c1 : Int32} {r : Int32 ⊕ Nat} {b : Int32} {t : Int32} (h1 : pG_gearOf μ c1 = some r) (hag : z_agI [0] r b t) : ∃ (a1 : Nat → Int64) (q1 : Nat → UInt64), (t = 0 → a1 0 = Int32.toInt64 b) ∧ Rl sc 8 291 0 [(0, .ref 0), (1, .int c1), (2, .ref 251)] [] μ a q (.inl (some (.int t))) (z_PE μ a1 q1) 1 := by
  cases r with
  | inl v =>
    obtain ⟨ht, hv⟩ := hag
    subst ht
    subst hv
    refine ⟨vp_updL a 0 (Int32.toInt64 v), q, fun _ => rfl, ?_⟩
    refine L_pure (pc := 0) (pc' := 1) (st' := [.ref 251]) (show z_pt 291 0 = some (4, .aload_n 2, []) by decide +kernel) rfl (fun _ _ => rfl) ?_
    refine L_const (pc := 1) (pc' := 2) (v := 0) (show z_ptc 291 1 = some (2, 0) by decide +kernel) ?_
    refine L_pure (pc := 2) (pc' := 3) (st' := [.ref 0, .int 0, .ref 251]) (show z_pt 291 2 = some (4, .aload_n 0, []) by decide +kernel) rfl (fun _ _ => rfl) ?_
    refine L_pure (pc := 3) (pc' := 4) (st' := [.int c1, .ref 0, .int 0, .ref 251]) (show z_pt 291 3 = some (4, .iload_n 1, []) by decide +kernel) rfl (fun _ _ => rfl) ?_
    refine L_call (pc := 4) (rr := [.int 0, .ref 251]) (show z_pt 291 4 = some (4, .invokevirtual 72, [0, 100, 1, 4090, 4091, 4092, 1001, 4093]) by decide +kernel) rfl (show z_r2 100 = some (9, 2, true) by decide +kernel) rfl rfl (Or.inr ⟨_, _, rfl, (show z_ci 0 9 = true by decide +kernel)⟩) (pG_gearOf_run h1) (by omega) ?_
    refine L_pure (pc := 7) (pc' := 8) (st' := [.long (Int32.toInt64 v), .int 0, .ref 251]) (show z_pt 291 7 = some (4, .i2l, []) by decide +kernel) rfl (fun _ _ => rfl) ?_
    refine L_last (pc := 8) (show z_pt 291 8 = some (4, .lastore, []) by decide +kernel) ?_
    refine L_pure (pc := 9) (pc' := 15) (show z_pt 291 9 = some (4, .goto 6, []) by decide +kernel) rfl (fun _ _ => rfl) ?_
    refine L_const (pc := 15) (pc' := 16) (v := 0) (show z_ptc 291 15 = some (16, 0) by decide +kernel) ?_
    exact L_retI (show z_pt 291 16 = some (4, .ireturn, []) by decide +kernel) (by decide +kernel) ⟨rfl, rfl, rfl⟩
  | inr E =>
    obtain ⟨n, hn, rfl⟩ := hag
    match n, hn with
    | 0, hn =>
      obtain rfl : 0 = E := Option.some.inj hn
      refine ⟨a, q, fun h => absurd h (by decide), ?_⟩
      refine L_pure (pc := 0) (pc' := 1) (st' := [.ref 251]) (show z_pt 291 0 = some (4, .aload_n 2, []) by decide +kernel) rfl (fun _ _ => rfl) ?_
      refine L_const (pc := 1) (pc' := 2) (v := 0) (show z_ptc 291 1 = some (2, 0) by decide +kernel) ?_
      refine L_pure (pc := 2) (pc' := 3) (st' := [.ref 0, .int 0, .ref 251]) (show z_pt 291 2 = some (4, .aload_n 0, []) by decide +kernel) rfl (fun _ _ => rfl) ?_
      refine L_pure (pc := 3) (pc' := 4) (st' := [.int c1, .ref 0, .int 0, .ref 251]) (show z_pt 291 3 = some (4, .iload_n 1, []) by decide +kernel) rfl (fun _ _ => rfl) ?_
      refine L_callX (pc := 4) (rr := [.int 0, .ref 251]) (h := 13) (x := 3) (show z_pt 291 4 = some (4, .invokevirtual 72, [0, 100, 1, 4090, 4091, 4092, 1001, 4093]) by decide +kernel) rfl (show z_r2 100 = some (9, 2, true) by decide +kernel) rfl rfl (Or.inr ⟨_, _, rfl, (show z_ci 0 9 = true by decide +kernel)⟩) (pG_gearOf_run h1) (by decide) (show z_hx 291 4 0 = some (13, 3) by decide +kernel) (by omega) rfl ?_
      refine L_const (pc := 13) (pc' := 14) (v := 1) (show z_ptc 291 13 = some (14, 1) by decide +kernel) ?_
      exact L_retI (show z_pt 291 14 = some (4, .ireturn, []) by decide +kernel) (by decide +kernel) ⟨rfl, rfl, rfl⟩
    | n + 1, hn => cases hn
theorem pL_spokeDirection {sc : Nat × (Nat → Int32)} {μ : z_Mem} {a : Nat → Int64} {q : Nat → UInt64} {c1 c2 : Int32} {r : Int32 ⊕ Nat} {b : Int32} {t : Int32} (h1 : pG_spokeDirection μ c1 c2 = some r) (hag : z_agI [0, 1] r b t) : ∃ (a1 : Nat → Int64) (q1 : Nat → UInt64), (t = 0 → a1 0 = Int32.toInt64 b) ∧ Rl sc 8 292 0 [(0, .ref 0), (1, .int c1), (2, .int c2), (3, .ref 251)] [] μ a q (.inl (some (.int t))) (z_PE μ a1 q1) 1 := by
  cases r with
  | inl v =>
    obtain ⟨ht, hv⟩ := hag
    subst ht
    subst hv
    refine ⟨vp_updL a 0 (Int32.toInt64 v), q, fun _ => rfl, ?_⟩
    refine L_pure (pc := 0) (pc' := 1) (st' := [.ref 251]) (show z_pt 292 0 = some (5, .aload_n 3, []) by decide +kernel) rfl (fun _ _ => rfl) ?_
    refine L_const (pc := 1) (pc' := 2) (v := 0) (show z_ptc 292 1 = some (2, 0) by decide +kernel) ?_
    refine L_pure (pc := 2) (pc' := 3) (st' := [.ref 0, .int 0, .ref 251]) (show z_pt 292 2 = some (5, .aload_n 0, []) by decide +kernel) rfl (fun _ _ => rfl) ?_
    refine L_pure (pc := 3) (pc' := 4) (st' := [.int c1, .ref 0, .int 0, .ref 251]) (show z_pt 292 3 = some (5, .iload_n 1, []) by decide +kernel) rfl (fun _ _ => rfl) ?_
    refine L_pure (pc := 4) (pc' := 5) (st' := [.int c2, .int c1, .ref 0, .int 0, .ref 251]) (show z_pt 292 4 = some (5, .iload_n 2, []) by decide +kernel) rfl (fun _ _ => rfl) ?_
    refine L_call (pc := 5) (rr := [.int 0, .ref 251]) (show z_pt 292 5 = some (5, .invokevirtual 75, [0, 101, 2, 4105, 4106, 4107, 1001, 4108]) by decide +kernel) rfl (show z_r2 101 = some (9, 3, true) by decide +kernel) rfl rfl (Or.inr ⟨_, _, rfl, (show z_ci 0 9 = true by decide +kernel)⟩) (pG_spokeDirection_run h1) (by omega) ?_
    refine L_pure (pc := 8) (pc' := 9) (st' := [.long (Int32.toInt64 v), .int 0, .ref 251]) (show z_pt 292 8 = some (5, .i2l, []) by decide +kernel) rfl (fun _ _ => rfl) ?_
    refine L_last (pc := 9) (show z_pt 292 9 = some (5, .lastore, []) by decide +kernel) ?_
    refine L_pure (pc := 10) (pc' := 21) (show z_pt 292 10 = some (5, .goto 11, []) by decide +kernel) rfl (fun _ _ => rfl) ?_
    refine L_const (pc := 21) (pc' := 22) (v := 0) (show z_ptc 292 21 = some (22, 0) by decide +kernel) ?_
    exact L_retI (show z_pt 292 22 = some (5, .ireturn, []) by decide +kernel) (by decide +kernel) ⟨rfl, rfl, rfl⟩
  | inr E =>
    obtain ⟨n, hn, rfl⟩ := hag
    match n, hn with
    | 0, hn =>
      obtain rfl : 0 = E := Option.some.inj hn
      refine ⟨a, q, fun h => absurd h (by decide), ?_⟩
      refine L_pure (pc := 0) (pc' := 1) (st' := [.ref 251]) (show z_pt 292 0 = some (5, .aload_n 3, []) by decide +kernel) rfl (fun _ _ => rfl) ?_
      refine L_const (pc := 1) (pc' := 2) (v := 0) (show z_ptc 292 1 = some (2, 0) by decide +kernel) ?_
      refine L_pure (pc := 2) (pc' := 3) (st' := [.ref 0, .int 0, .ref 251]) (show z_pt 292 2 = some (5, .aload_n 0, []) by decide +kernel) rfl (fun _ _ => rfl) ?_
      refine L_pure (pc := 3) (pc' := 4) (st' := [.int c1, .ref 0, .int 0, .ref 251]) (show z_pt 292 3 = some (5, .iload_n 1, []) by decide +kernel) rfl (fun _ _ => rfl) ?_
      refine L_pure (pc := 4) (pc' := 5) (st' := [.int c2, .int c1, .ref 0, .int 0, .ref 251]) (show z_pt 292 4 = some (5, .iload_n 2, []) by decide +kernel) rfl (fun _ _ => rfl) ?_
      refine L_callX (pc := 5) (rr := [.int 0, .ref 251]) (h := 15) (x := 4) (show z_pt 292 5 = some (5, .invokevirtual 75, [0, 101, 2, 4105, 4106, 4107, 1001, 4108]) by decide +kernel) rfl (show z_r2 101 = some (9, 3, true) by decide +kernel) rfl rfl (Or.inr ⟨_, _, rfl, (show z_ci 0 9 = true by decide +kernel)⟩) (pG_spokeDirection_run h1) (by decide) (show z_hx 292 5 0 = some (15, 4) by decide +kernel) (by omega) rfl ?_
      refine L_const (pc := 15) (pc' := 16) (v := 1) (show z_ptc 292 15 = some (16, 1) by decide +kernel) ?_
      exact L_retI (show z_pt 292 16 = some (5, .ireturn, []) by decide +kernel) (by decide +kernel) ⟨rfl, rfl, rfl⟩
    | 1, hn =>
      obtain rfl : 1 = E := Option.some.inj hn
      refine ⟨a, q, fun h => absurd h (by decide), ?_⟩
      refine L_pure (pc := 0) (pc' := 1) (st' := [.ref 251]) (show z_pt 292 0 = some (5, .aload_n 3, []) by decide +kernel) rfl (fun _ _ => rfl) ?_
      refine L_const (pc := 1) (pc' := 2) (v := 0) (show z_ptc 292 1 = some (2, 0) by decide +kernel) ?_
      refine L_pure (pc := 2) (pc' := 3) (st' := [.ref 0, .int 0, .ref 251]) (show z_pt 292 2 = some (5, .aload_n 0, []) by decide +kernel) rfl (fun _ _ => rfl) ?_
      refine L_pure (pc := 3) (pc' := 4) (st' := [.int c1, .ref 0, .int 0, .ref 251]) (show z_pt 292 3 = some (5, .iload_n 1, []) by decide +kernel) rfl (fun _ _ => rfl) ?_
      refine L_pure (pc := 4) (pc' := 5) (st' := [.int c2, .int c1, .ref 0, .int 0, .ref 251]) (show z_pt 292 4 = some (5, .iload_n 2, []) by decide +kernel) rfl (fun _ _ => rfl) ?_
      refine L_callX (pc := 5) (rr := [.int 0, .ref 251]) (h := 19) (x := 4) (show z_pt 292 5 = some (5, .invokevirtual 75, [0, 101, 2, 4105, 4106, 4107, 1001, 4108]) by decide +kernel) rfl (show z_r2 101 = some (9, 3, true) by decide +kernel) rfl rfl (Or.inr ⟨_, _, rfl, (show z_ci 0 9 = true by decide +kernel)⟩) (pG_spokeDirection_run h1) (by decide) (show z_hx 292 5 1 = some (19, 4) by decide +kernel) (by omega) rfl ?_
      refine L_const (pc := 19) (pc' := 20) (v := 2) (show z_ptc 292 19 = some (20, 2) by decide +kernel) ?_
      exact L_retI (show z_pt 292 20 = some (5, .ireturn, []) by decide +kernel) (by decide +kernel) ⟨rfl, rfl, rfl⟩
    | n + 2, hn => cases hn
theorem pL_nearestSpoke {sc : Nat × (Nat → Int32)} {μ : z_Mem} {a : Nat → Int64} {q : Nat → UInt64} {c1 c2 : Int32} {r : Int32 ⊕ Nat} {b : Int32} {t : Int32} (h1 : pG_nearestSpoke μ c1 c2 = some r) (hag : z_agI [0, 3] r b t) : ∃ (a1 : Nat → Int64) (q1 : Nat → UInt64), (t = 0 → a1 0 = Int32.toInt64 b) ∧ Rl sc 8 293 0 [(0, .ref 0), (1, .int c1), (2, .int c2), (3, .ref 251)] [] μ a q (.inl (some (.int t))) (z_PE μ a1 q1) 1 := by
  cases r with
  | inl v =>
    obtain ⟨ht, hv⟩ := hag
    subst ht
    subst hv
    refine ⟨vp_updL a 0 (Int32.toInt64 v), q, fun _ => rfl, ?_⟩
    refine L_pure (pc := 0) (pc' := 1) (st' := [.ref 251]) (show z_pt 293 0 = some (5, .aload_n 3, []) by decide +kernel) rfl (fun _ _ => rfl) ?_
    refine L_const (pc := 1) (pc' := 2) (v := 0) (show z_ptc 293 1 = some (2, 0) by decide +kernel) ?_
    refine L_pure (pc := 2) (pc' := 3) (st' := [.ref 0, .int 0, .ref 251]) (show z_pt 293 2 = some (5, .aload_n 0, []) by decide +kernel) rfl (fun _ _ => rfl) ?_
    refine L_pure (pc := 3) (pc' := 4) (st' := [.int c1, .ref 0, .int 0, .ref 251]) (show z_pt 293 3 = some (5, .iload_n 1, []) by decide +kernel) rfl (fun _ _ => rfl) ?_
    refine L_pure (pc := 4) (pc' := 5) (st' := [.int c2, .int c1, .ref 0, .int 0, .ref 251]) (show z_pt 293 4 = some (5, .iload_n 2, []) by decide +kernel) rfl (fun _ _ => rfl) ?_
    refine L_call (pc := 5) (rr := [.int 0, .ref 251]) (show z_pt 293 5 = some (5, .invokevirtual 78, [0, 102, 2, 4119, 4120, 4121, 1001, 4122]) by decide +kernel) rfl (show z_r2 102 = some (9, 3, true) by decide +kernel) rfl rfl (Or.inr ⟨_, _, rfl, (show z_ci 0 9 = true by decide +kernel)⟩) (pG_nearestSpoke_run h1) (by omega) ?_
    refine L_pure (pc := 8) (pc' := 9) (st' := [.long (Int32.toInt64 v), .int 0, .ref 251]) (show z_pt 293 8 = some (5, .i2l, []) by decide +kernel) rfl (fun _ _ => rfl) ?_
    refine L_last (pc := 9) (show z_pt 293 9 = some (5, .lastore, []) by decide +kernel) ?_
    refine L_pure (pc := 10) (pc' := 21) (show z_pt 293 10 = some (5, .goto 11, []) by decide +kernel) rfl (fun _ _ => rfl) ?_
    refine L_const (pc := 21) (pc' := 22) (v := 0) (show z_ptc 293 21 = some (22, 0) by decide +kernel) ?_
    exact L_retI (show z_pt 293 22 = some (5, .ireturn, []) by decide +kernel) (by decide +kernel) ⟨rfl, rfl, rfl⟩
  | inr E =>
    obtain ⟨n, hn, rfl⟩ := hag
    match n, hn with
    | 0, hn =>
      obtain rfl : 0 = E := Option.some.inj hn
      refine ⟨a, q, fun h => absurd h (by decide), ?_⟩
      refine L_pure (pc := 0) (pc' := 1) (st' := [.ref 251]) (show z_pt 293 0 = some (5, .aload_n 3, []) by decide +kernel) rfl (fun _ _ => rfl) ?_
      refine L_const (pc := 1) (pc' := 2) (v := 0) (show z_ptc 293 1 = some (2, 0) by decide +kernel) ?_
      refine L_pure (pc := 2) (pc' := 3) (st' := [.ref 0, .int 0, .ref 251]) (show z_pt 293 2 = some (5, .aload_n 0, []) by decide +kernel) rfl (fun _ _ => rfl) ?_
      refine L_pure (pc := 3) (pc' := 4) (st' := [.int c1, .ref 0, .int 0, .ref 251]) (show z_pt 293 3 = some (5, .iload_n 1, []) by decide +kernel) rfl (fun _ _ => rfl) ?_
      refine L_pure (pc := 4) (pc' := 5) (st' := [.int c2, .int c1, .ref 0, .int 0, .ref 251]) (show z_pt 293 4 = some (5, .iload_n 2, []) by decide +kernel) rfl (fun _ _ => rfl) ?_
      refine L_callX (pc := 5) (rr := [.int 0, .ref 251]) (h := 15) (x := 4) (show z_pt 293 5 = some (5, .invokevirtual 78, [0, 102, 2, 4119, 4120, 4121, 1001, 4122]) by decide +kernel) rfl (show z_r2 102 = some (9, 3, true) by decide +kernel) rfl rfl (Or.inr ⟨_, _, rfl, (show z_ci 0 9 = true by decide +kernel)⟩) (pG_nearestSpoke_run h1) (by decide) (show z_hx 293 5 0 = some (15, 4) by decide +kernel) (by omega) rfl ?_
      refine L_const (pc := 15) (pc' := 16) (v := 1) (show z_ptc 293 15 = some (16, 1) by decide +kernel) ?_
      exact L_retI (show z_pt 293 16 = some (5, .ireturn, []) by decide +kernel) (by decide +kernel) ⟨rfl, rfl, rfl⟩
    | 1, hn =>
      obtain rfl : 3 = E := Option.some.inj hn
      refine ⟨a, q, fun h => absurd h (by decide), ?_⟩
      refine L_pure (pc := 0) (pc' := 1) (st' := [.ref 251]) (show z_pt 293 0 = some (5, .aload_n 3, []) by decide +kernel) rfl (fun _ _ => rfl) ?_
      refine L_const (pc := 1) (pc' := 2) (v := 0) (show z_ptc 293 1 = some (2, 0) by decide +kernel) ?_
      refine L_pure (pc := 2) (pc' := 3) (st' := [.ref 0, .int 0, .ref 251]) (show z_pt 293 2 = some (5, .aload_n 0, []) by decide +kernel) rfl (fun _ _ => rfl) ?_
      refine L_pure (pc := 3) (pc' := 4) (st' := [.int c1, .ref 0, .int 0, .ref 251]) (show z_pt 293 3 = some (5, .iload_n 1, []) by decide +kernel) rfl (fun _ _ => rfl) ?_
      refine L_pure (pc := 4) (pc' := 5) (st' := [.int c2, .int c1, .ref 0, .int 0, .ref 251]) (show z_pt 293 4 = some (5, .iload_n 2, []) by decide +kernel) rfl (fun _ _ => rfl) ?_
      refine L_callX (pc := 5) (rr := [.int 0, .ref 251]) (h := 19) (x := 4) (show z_pt 293 5 = some (5, .invokevirtual 78, [0, 102, 2, 4119, 4120, 4121, 1001, 4122]) by decide +kernel) rfl (show z_r2 102 = some (9, 3, true) by decide +kernel) rfl rfl (Or.inr ⟨_, _, rfl, (show z_ci 0 9 = true by decide +kernel)⟩) (pG_nearestSpoke_run h1) (by decide) (show z_hx 293 5 3 = some (19, 4) by decide +kernel) (by omega) rfl ?_
      refine L_const (pc := 19) (pc' := 20) (v := 2) (show z_ptc 293 19 = some (20, 2) by decide +kernel) ?_
      exact L_retI (show z_pt 293 20 = some (5, .ireturn, []) by decide +kernel) (by decide +kernel) ⟨rfl, rfl, rfl⟩
    | n + 2, hn => cases hn
theorem pL_distanceToStar {sc : Nat × (Nat → Int32)} {μ : z_Mem} {a : Nat → Int64} {q : Nat → UInt64} {c1 c2 : Int32} {r : Int32 ⊕ Nat} {b : Int32} {t : Int32} (h1 : pG_distanceToStar μ c1 c2 = some r) (hag : z_agI [0, 3] r b t) : ∃ (a1 : Nat → Int64) (q1 : Nat → UInt64), (t = 0 → a1 0 = Int32.toInt64 b) ∧ Rl sc 8 294 0 [(0, .ref 0), (1, .int c1), (2, .int c2), (3, .ref 251)] [] μ a q (.inl (some (.int t))) (z_PE μ a1 q1) 1 := by
  cases r with
  | inl v =>
    obtain ⟨ht, hv⟩ := hag
    subst ht
    subst hv
    refine ⟨vp_updL a 0 (Int32.toInt64 v), q, fun _ => rfl, ?_⟩
    refine L_pure (pc := 0) (pc' := 1) (st' := [.ref 251]) (show z_pt 294 0 = some (5, .aload_n 3, []) by decide +kernel) rfl (fun _ _ => rfl) ?_
    refine L_const (pc := 1) (pc' := 2) (v := 0) (show z_ptc 294 1 = some (2, 0) by decide +kernel) ?_
    refine L_pure (pc := 2) (pc' := 3) (st' := [.ref 0, .int 0, .ref 251]) (show z_pt 294 2 = some (5, .aload_n 0, []) by decide +kernel) rfl (fun _ _ => rfl) ?_
    refine L_pure (pc := 3) (pc' := 4) (st' := [.int c1, .ref 0, .int 0, .ref 251]) (show z_pt 294 3 = some (5, .iload_n 1, []) by decide +kernel) rfl (fun _ _ => rfl) ?_
    refine L_pure (pc := 4) (pc' := 5) (st' := [.int c2, .int c1, .ref 0, .int 0, .ref 251]) (show z_pt 294 4 = some (5, .iload_n 2, []) by decide +kernel) rfl (fun _ _ => rfl) ?_
    refine L_call (pc := 5) (rr := [.int 0, .ref 251]) (show z_pt 294 5 = some (5, .invokevirtual 81, [0, 103, 2, 4144, 4145, 4146, 1001, 4147]) by decide +kernel) rfl (show z_r2 103 = some (9, 3, true) by decide +kernel) rfl rfl (Or.inr ⟨_, _, rfl, (show z_ci 0 9 = true by decide +kernel)⟩) (pG_distanceToStar_run h1) (by omega) ?_
    refine L_pure (pc := 8) (pc' := 9) (st' := [.long (Int32.toInt64 v), .int 0, .ref 251]) (show z_pt 294 8 = some (5, .i2l, []) by decide +kernel) rfl (fun _ _ => rfl) ?_
    refine L_last (pc := 9) (show z_pt 294 9 = some (5, .lastore, []) by decide +kernel) ?_
    refine L_pure (pc := 10) (pc' := 21) (show z_pt 294 10 = some (5, .goto 11, []) by decide +kernel) rfl (fun _ _ => rfl) ?_
    refine L_const (pc := 21) (pc' := 22) (v := 0) (show z_ptc 294 21 = some (22, 0) by decide +kernel) ?_
    exact L_retI (show z_pt 294 22 = some (5, .ireturn, []) by decide +kernel) (by decide +kernel) ⟨rfl, rfl, rfl⟩
  | inr E =>
    obtain ⟨n, hn, rfl⟩ := hag
    match n, hn with
    | 0, hn =>
      obtain rfl : 0 = E := Option.some.inj hn
      refine ⟨a, q, fun h => absurd h (by decide), ?_⟩
      refine L_pure (pc := 0) (pc' := 1) (st' := [.ref 251]) (show z_pt 294 0 = some (5, .aload_n 3, []) by decide +kernel) rfl (fun _ _ => rfl) ?_
      refine L_const (pc := 1) (pc' := 2) (v := 0) (show z_ptc 294 1 = some (2, 0) by decide +kernel) ?_
      refine L_pure (pc := 2) (pc' := 3) (st' := [.ref 0, .int 0, .ref 251]) (show z_pt 294 2 = some (5, .aload_n 0, []) by decide +kernel) rfl (fun _ _ => rfl) ?_
      refine L_pure (pc := 3) (pc' := 4) (st' := [.int c1, .ref 0, .int 0, .ref 251]) (show z_pt 294 3 = some (5, .iload_n 1, []) by decide +kernel) rfl (fun _ _ => rfl) ?_
      refine L_pure (pc := 4) (pc' := 5) (st' := [.int c2, .int c1, .ref 0, .int 0, .ref 251]) (show z_pt 294 4 = some (5, .iload_n 2, []) by decide +kernel) rfl (fun _ _ => rfl) ?_
      refine L_callX (pc := 5) (rr := [.int 0, .ref 251]) (h := 15) (x := 4) (show z_pt 294 5 = some (5, .invokevirtual 81, [0, 103, 2, 4144, 4145, 4146, 1001, 4147]) by decide +kernel) rfl (show z_r2 103 = some (9, 3, true) by decide +kernel) rfl rfl (Or.inr ⟨_, _, rfl, (show z_ci 0 9 = true by decide +kernel)⟩) (pG_distanceToStar_run h1) (by decide) (show z_hx 294 5 0 = some (15, 4) by decide +kernel) (by omega) rfl ?_
      refine L_const (pc := 15) (pc' := 16) (v := 1) (show z_ptc 294 15 = some (16, 1) by decide +kernel) ?_
      exact L_retI (show z_pt 294 16 = some (5, .ireturn, []) by decide +kernel) (by decide +kernel) ⟨rfl, rfl, rfl⟩
    | 1, hn =>
      obtain rfl : 3 = E := Option.some.inj hn
      refine ⟨a, q, fun h => absurd h (by decide), ?_⟩
      refine L_pure (pc := 0) (pc' := 1) (st' := [.ref 251]) (show z_pt 294 0 = some (5, .aload_n 3, []) by decide +kernel) rfl (fun _ _ => rfl) ?_
      refine L_const (pc := 1) (pc' := 2) (v := 0) (show z_ptc 294 1 = some (2, 0) by decide +kernel) ?_
      refine L_pure (pc := 2) (pc' := 3) (st' := [.ref 0, .int 0, .ref 251]) (show z_pt 294 2 = some (5, .aload_n 0, []) by decide +kernel) rfl (fun _ _ => rfl) ?_
      refine L_pure (pc := 3) (pc' := 4) (st' := [.int c1, .ref 0, .int 0, .ref 251]) (show z_pt 294 3 = some (5, .iload_n 1, []) by decide +kernel) rfl (fun _ _ => rfl) ?_
      refine L_pure (pc := 4) (pc' := 5) (st' := [.int c2, .int c1, .ref 0, .int 0, .ref 251]) (show z_pt 294 4 = some (5, .iload_n 2, []) by decide +kernel) rfl (fun _ _ => rfl) ?_
      refine L_callX (pc := 5) (rr := [.int 0, .ref 251]) (h := 19) (x := 4) (show z_pt 294 5 = some (5, .invokevirtual 81, [0, 103, 2, 4144, 4145, 4146, 1001, 4147]) by decide +kernel) rfl (show z_r2 103 = some (9, 3, true) by decide +kernel) rfl rfl (Or.inr ⟨_, _, rfl, (show z_ci 0 9 = true by decide +kernel)⟩) (pG_distanceToStar_run h1) (by decide) (show z_hx 294 5 3 = some (19, 4) by decide +kernel) (by omega) rfl ?_
      refine L_const (pc := 19) (pc' := 20) (v := 2) (show z_ptc 294 19 = some (20, 2) by decide +kernel) ?_
      exact L_retI (show z_pt 294 20 = some (5, .ireturn, []) by decide +kernel) (by decide +kernel) ⟨rfl, rfl, rfl⟩
    | n + 2, hn => cases hn
theorem pL_teethToFollow {sc : Nat × (Nat → Int32)} {μ : z_Mem} {a : Nat → Int64} {q : Nat → UInt64} {c1 c2 : Int32} {r : Int32 ⊕ Nat} {b : Int32} {t : Int32} (h1 : pG_teethToFollow μ c1 c2 = some r) (hag : z_agI [0, 3] r b t) : ∃ (a1 : Nat → Int64) (q1 : Nat → UInt64), (t = 0 → a1 0 = Int32.toInt64 b) ∧ Rl sc 8 295 0 [(0, .ref 0), (1, .int c1), (2, .int c2), (3, .ref 251)] [] μ a q (.inl (some (.int t))) (z_PE μ a1 q1) 1 := by
  cases r with
  | inl v =>
    obtain ⟨ht, hv⟩ := hag
    subst ht
    subst hv
    refine ⟨vp_updL a 0 (Int32.toInt64 v), q, fun _ => rfl, ?_⟩
    refine L_pure (pc := 0) (pc' := 1) (st' := [.ref 251]) (show z_pt 295 0 = some (5, .aload_n 3, []) by decide +kernel) rfl (fun _ _ => rfl) ?_
    refine L_const (pc := 1) (pc' := 2) (v := 0) (show z_ptc 295 1 = some (2, 0) by decide +kernel) ?_
    refine L_pure (pc := 2) (pc' := 3) (st' := [.ref 0, .int 0, .ref 251]) (show z_pt 295 2 = some (5, .aload_n 0, []) by decide +kernel) rfl (fun _ _ => rfl) ?_
    refine L_pure (pc := 3) (pc' := 4) (st' := [.int c1, .ref 0, .int 0, .ref 251]) (show z_pt 295 3 = some (5, .iload_n 1, []) by decide +kernel) rfl (fun _ _ => rfl) ?_
    refine L_pure (pc := 4) (pc' := 5) (st' := [.int c2, .int c1, .ref 0, .int 0, .ref 251]) (show z_pt 295 4 = some (5, .iload_n 2, []) by decide +kernel) rfl (fun _ _ => rfl) ?_
    refine L_call (pc := 5) (rr := [.int 0, .ref 251]) (show z_pt 295 5 = some (5, .invokevirtual 84, [0, 104, 2, 4156, 4157, 4158, 1001, 4159]) by decide +kernel) rfl (show z_r2 104 = some (9, 3, true) by decide +kernel) rfl rfl (Or.inr ⟨_, _, rfl, (show z_ci 0 9 = true by decide +kernel)⟩) (pG_teethToFollow_run h1) (by omega) ?_
    refine L_pure (pc := 8) (pc' := 9) (st' := [.long (Int32.toInt64 v), .int 0, .ref 251]) (show z_pt 295 8 = some (5, .i2l, []) by decide +kernel) rfl (fun _ _ => rfl) ?_
    refine L_last (pc := 9) (show z_pt 295 9 = some (5, .lastore, []) by decide +kernel) ?_
    refine L_pure (pc := 10) (pc' := 21) (show z_pt 295 10 = some (5, .goto 11, []) by decide +kernel) rfl (fun _ _ => rfl) ?_
    refine L_const (pc := 21) (pc' := 22) (v := 0) (show z_ptc 295 21 = some (22, 0) by decide +kernel) ?_
    exact L_retI (show z_pt 295 22 = some (5, .ireturn, []) by decide +kernel) (by decide +kernel) ⟨rfl, rfl, rfl⟩
  | inr E =>
    obtain ⟨n, hn, rfl⟩ := hag
    match n, hn with
    | 0, hn =>
      obtain rfl : 0 = E := Option.some.inj hn
      refine ⟨a, q, fun h => absurd h (by decide), ?_⟩
      refine L_pure (pc := 0) (pc' := 1) (st' := [.ref 251]) (show z_pt 295 0 = some (5, .aload_n 3, []) by decide +kernel) rfl (fun _ _ => rfl) ?_
      refine L_const (pc := 1) (pc' := 2) (v := 0) (show z_ptc 295 1 = some (2, 0) by decide +kernel) ?_
      refine L_pure (pc := 2) (pc' := 3) (st' := [.ref 0, .int 0, .ref 251]) (show z_pt 295 2 = some (5, .aload_n 0, []) by decide +kernel) rfl (fun _ _ => rfl) ?_
      refine L_pure (pc := 3) (pc' := 4) (st' := [.int c1, .ref 0, .int 0, .ref 251]) (show z_pt 295 3 = some (5, .iload_n 1, []) by decide +kernel) rfl (fun _ _ => rfl) ?_
      refine L_pure (pc := 4) (pc' := 5) (st' := [.int c2, .int c1, .ref 0, .int 0, .ref 251]) (show z_pt 295 4 = some (5, .iload_n 2, []) by decide +kernel) rfl (fun _ _ => rfl) ?_
      refine L_callX (pc := 5) (rr := [.int 0, .ref 251]) (h := 15) (x := 4) (show z_pt 295 5 = some (5, .invokevirtual 84, [0, 104, 2, 4156, 4157, 4158, 1001, 4159]) by decide +kernel) rfl (show z_r2 104 = some (9, 3, true) by decide +kernel) rfl rfl (Or.inr ⟨_, _, rfl, (show z_ci 0 9 = true by decide +kernel)⟩) (pG_teethToFollow_run h1) (by decide) (show z_hx 295 5 0 = some (15, 4) by decide +kernel) (by omega) rfl ?_
      refine L_const (pc := 15) (pc' := 16) (v := 1) (show z_ptc 295 15 = some (16, 1) by decide +kernel) ?_
      exact L_retI (show z_pt 295 16 = some (5, .ireturn, []) by decide +kernel) (by decide +kernel) ⟨rfl, rfl, rfl⟩
    | 1, hn =>
      obtain rfl : 3 = E := Option.some.inj hn
      refine ⟨a, q, fun h => absurd h (by decide), ?_⟩
      refine L_pure (pc := 0) (pc' := 1) (st' := [.ref 251]) (show z_pt 295 0 = some (5, .aload_n 3, []) by decide +kernel) rfl (fun _ _ => rfl) ?_
      refine L_const (pc := 1) (pc' := 2) (v := 0) (show z_ptc 295 1 = some (2, 0) by decide +kernel) ?_
      refine L_pure (pc := 2) (pc' := 3) (st' := [.ref 0, .int 0, .ref 251]) (show z_pt 295 2 = some (5, .aload_n 0, []) by decide +kernel) rfl (fun _ _ => rfl) ?_
      refine L_pure (pc := 3) (pc' := 4) (st' := [.int c1, .ref 0, .int 0, .ref 251]) (show z_pt 295 3 = some (5, .iload_n 1, []) by decide +kernel) rfl (fun _ _ => rfl) ?_
      refine L_pure (pc := 4) (pc' := 5) (st' := [.int c2, .int c1, .ref 0, .int 0, .ref 251]) (show z_pt 295 4 = some (5, .iload_n 2, []) by decide +kernel) rfl (fun _ _ => rfl) ?_
      refine L_callX (pc := 5) (rr := [.int 0, .ref 251]) (h := 19) (x := 4) (show z_pt 295 5 = some (5, .invokevirtual 84, [0, 104, 2, 4156, 4157, 4158, 1001, 4159]) by decide +kernel) rfl (show z_r2 104 = some (9, 3, true) by decide +kernel) rfl rfl (Or.inr ⟨_, _, rfl, (show z_ci 0 9 = true by decide +kernel)⟩) (pG_teethToFollow_run h1) (by decide) (show z_hx 295 5 3 = some (19, 4) by decide +kernel) (by omega) rfl ?_
      refine L_const (pc := 19) (pc' := 20) (v := 2) (show z_ptc 295 19 = some (20, 2) by decide +kernel) ?_
      exact L_retI (show z_pt 295 20 = some (5, .ireturn, []) by decide +kernel) (by decide +kernel) ⟨rfl, rfl, rfl⟩
    | n + 2, hn => cases hn
theorem pL_follow {sc : Nat × (Nat → Int32)} {μ μ1 : z_Mem} {a : Nat → Int64} {q : Nat → UInt64} {c1 c2 : Int32} {r : Int32 ⊕ Nat} {b : Int32} {t : Int32} (h1 : pG_follow μ c1 c2 = some (r, μ1)) (hag : z_agI [0, 3] r b t) : ∃ (a1 : Nat → Int64) (q1 : Nat → UInt64), (t = 0 → a1 0 = Int32.toInt64 b) ∧ Rl sc 18 296 0 [(0, .ref 0), (1, .int c1), (2, .int c2), (3, .ref 251)] [] μ a q (.inl (some (.int t))) (z_PE μ1 a1 q1) 1 := by
  cases r with
  | inl v =>
    obtain ⟨ht, hv⟩ := hag
    subst ht
    subst hv
    refine ⟨vp_updL a 0 (Int32.toInt64 v), q, fun _ => rfl, ?_⟩
    refine L_pure (pc := 0) (pc' := 1) (st' := [.ref 251]) (show z_pt 296 0 = some (5, .aload_n 3, []) by decide +kernel) rfl (fun _ _ => rfl) ?_
    refine L_const (pc := 1) (pc' := 2) (v := 0) (show z_ptc 296 1 = some (2, 0) by decide +kernel) ?_
    refine L_pure (pc := 2) (pc' := 3) (st' := [.ref 0, .int 0, .ref 251]) (show z_pt 296 2 = some (5, .aload_n 0, []) by decide +kernel) rfl (fun _ _ => rfl) ?_
    refine L_pure (pc := 3) (pc' := 4) (st' := [.int c1, .ref 0, .int 0, .ref 251]) (show z_pt 296 3 = some (5, .iload_n 1, []) by decide +kernel) rfl (fun _ _ => rfl) ?_
    refine L_pure (pc := 4) (pc' := 5) (st' := [.int c2, .int c1, .ref 0, .int 0, .ref 251]) (show z_pt 296 4 = some (5, .iload_n 2, []) by decide +kernel) rfl (fun _ _ => rfl) ?_
    refine L_call (pc := 5) (rr := [.int 0, .ref 251]) (show z_pt 296 5 = some (5, .invokevirtual 87, [0, 105, 2, 4168, 4169, 4170, 1001, 4171]) by decide +kernel) rfl (show z_r2 105 = some (9, 3, true) by decide +kernel) rfl rfl (Or.inr ⟨_, _, rfl, (show z_ci 0 9 = true by decide +kernel)⟩) (pG_follow_run h1) (by omega) ?_
    refine L_pure (pc := 8) (pc' := 9) (st' := [.long (Int32.toInt64 v), .int 0, .ref 251]) (show z_pt 296 8 = some (5, .i2l, []) by decide +kernel) rfl (fun _ _ => rfl) ?_
    refine L_last (pc := 9) (show z_pt 296 9 = some (5, .lastore, []) by decide +kernel) ?_
    refine L_pure (pc := 10) (pc' := 21) (show z_pt 296 10 = some (5, .goto 11, []) by decide +kernel) rfl (fun _ _ => rfl) ?_
    refine L_const (pc := 21) (pc' := 22) (v := 0) (show z_ptc 296 21 = some (22, 0) by decide +kernel) ?_
    exact L_retI (show z_pt 296 22 = some (5, .ireturn, []) by decide +kernel) (by decide +kernel) ⟨rfl, rfl, rfl⟩
  | inr E =>
    obtain ⟨n, hn, rfl⟩ := hag
    match n, hn with
    | 0, hn =>
      obtain rfl : 0 = E := Option.some.inj hn
      refine ⟨a, q, fun h => absurd h (by decide), ?_⟩
      refine L_pure (pc := 0) (pc' := 1) (st' := [.ref 251]) (show z_pt 296 0 = some (5, .aload_n 3, []) by decide +kernel) rfl (fun _ _ => rfl) ?_
      refine L_const (pc := 1) (pc' := 2) (v := 0) (show z_ptc 296 1 = some (2, 0) by decide +kernel) ?_
      refine L_pure (pc := 2) (pc' := 3) (st' := [.ref 0, .int 0, .ref 251]) (show z_pt 296 2 = some (5, .aload_n 0, []) by decide +kernel) rfl (fun _ _ => rfl) ?_
      refine L_pure (pc := 3) (pc' := 4) (st' := [.int c1, .ref 0, .int 0, .ref 251]) (show z_pt 296 3 = some (5, .iload_n 1, []) by decide +kernel) rfl (fun _ _ => rfl) ?_
      refine L_pure (pc := 4) (pc' := 5) (st' := [.int c2, .int c1, .ref 0, .int 0, .ref 251]) (show z_pt 296 4 = some (5, .iload_n 2, []) by decide +kernel) rfl (fun _ _ => rfl) ?_
      refine L_callX (pc := 5) (rr := [.int 0, .ref 251]) (h := 15) (x := 4) (show z_pt 296 5 = some (5, .invokevirtual 87, [0, 105, 2, 4168, 4169, 4170, 1001, 4171]) by decide +kernel) rfl (show z_r2 105 = some (9, 3, true) by decide +kernel) rfl rfl (Or.inr ⟨_, _, rfl, (show z_ci 0 9 = true by decide +kernel)⟩) (pG_follow_run h1) (by decide) (show z_hx 296 5 0 = some (15, 4) by decide +kernel) (by omega) rfl ?_
      refine L_const (pc := 15) (pc' := 16) (v := 1) (show z_ptc 296 15 = some (16, 1) by decide +kernel) ?_
      exact L_retI (show z_pt 296 16 = some (5, .ireturn, []) by decide +kernel) (by decide +kernel) ⟨rfl, rfl, rfl⟩
    | 1, hn =>
      obtain rfl : 3 = E := Option.some.inj hn
      refine ⟨a, q, fun h => absurd h (by decide), ?_⟩
      refine L_pure (pc := 0) (pc' := 1) (st' := [.ref 251]) (show z_pt 296 0 = some (5, .aload_n 3, []) by decide +kernel) rfl (fun _ _ => rfl) ?_
      refine L_const (pc := 1) (pc' := 2) (v := 0) (show z_ptc 296 1 = some (2, 0) by decide +kernel) ?_
      refine L_pure (pc := 2) (pc' := 3) (st' := [.ref 0, .int 0, .ref 251]) (show z_pt 296 2 = some (5, .aload_n 0, []) by decide +kernel) rfl (fun _ _ => rfl) ?_
      refine L_pure (pc := 3) (pc' := 4) (st' := [.int c1, .ref 0, .int 0, .ref 251]) (show z_pt 296 3 = some (5, .iload_n 1, []) by decide +kernel) rfl (fun _ _ => rfl) ?_
      refine L_pure (pc := 4) (pc' := 5) (st' := [.int c2, .int c1, .ref 0, .int 0, .ref 251]) (show z_pt 296 4 = some (5, .iload_n 2, []) by decide +kernel) rfl (fun _ _ => rfl) ?_
      refine L_callX (pc := 5) (rr := [.int 0, .ref 251]) (h := 19) (x := 4) (show z_pt 296 5 = some (5, .invokevirtual 87, [0, 105, 2, 4168, 4169, 4170, 1001, 4171]) by decide +kernel) rfl (show z_r2 105 = some (9, 3, true) by decide +kernel) rfl rfl (Or.inr ⟨_, _, rfl, (show z_ci 0 9 = true by decide +kernel)⟩) (pG_follow_run h1) (by decide) (show z_hx 296 5 3 = some (19, 4) by decide +kernel) (by omega) rfl ?_
      refine L_const (pc := 19) (pc' := 20) (v := 2) (show z_ptc 296 19 = some (20, 2) by decide +kernel) ?_
      exact L_retI (show z_pt 296 20 = some (5, .ireturn, []) by decide +kernel) (by decide +kernel) ⟨rfl, rfl, rfl⟩
    | n + 2, hn => cases hn
theorem pL_addStar {sc : Nat × (Nat → Int32)} {μ μ1 : z_Mem} {a : Nat → Int64} {q : Nat → UInt64} {c1 c2 : Int32} {r : Int32 ⊕ Nat} {b : Int32} {t : Int32} (h1 : pG_addStar μ c1 c2 = some (r, μ1)) (hag : z_agI [1, 2] r b t) : ∃ (a1 : Nat → Int64) (q1 : Nat → UInt64), (t = 0 → a1 0 = Int32.toInt64 b) ∧ Rl sc 8 297 0 [(0, .ref 0), (1, .int c1), (2, .int c2), (3, .ref 251)] [] μ a q (.inl (some (.int t))) (z_PE μ1 a1 q1) 1 := by
  cases r with
  | inl v =>
    obtain ⟨ht, hv⟩ := hag
    subst ht
    subst hv
    refine ⟨vp_updL a 0 (Int32.toInt64 v), q, fun _ => rfl, ?_⟩
    refine L_pure (pc := 0) (pc' := 1) (st' := [.ref 251]) (show z_pt 297 0 = some (5, .aload_n 3, []) by decide +kernel) rfl (fun _ _ => rfl) ?_
    refine L_const (pc := 1) (pc' := 2) (v := 0) (show z_ptc 297 1 = some (2, 0) by decide +kernel) ?_
    refine L_pure (pc := 2) (pc' := 3) (st' := [.ref 0, .int 0, .ref 251]) (show z_pt 297 2 = some (5, .aload_n 0, []) by decide +kernel) rfl (fun _ _ => rfl) ?_
    refine L_pure (pc := 3) (pc' := 4) (st' := [.int c1, .ref 0, .int 0, .ref 251]) (show z_pt 297 3 = some (5, .iload_n 1, []) by decide +kernel) rfl (fun _ _ => rfl) ?_
    refine L_pure (pc := 4) (pc' := 5) (st' := [.int c2, .int c1, .ref 0, .int 0, .ref 251]) (show z_pt 297 4 = some (5, .iload_n 2, []) by decide +kernel) rfl (fun _ _ => rfl) ?_
    refine L_call (pc := 5) (rr := [.int 0, .ref 251]) (show z_pt 297 5 = some (5, .invokevirtual 90, [0, 106, 2, 4179, 4180, 4181, 1001, 4182]) by decide +kernel) rfl (show z_r2 106 = some (9, 3, true) by decide +kernel) rfl rfl (Or.inr ⟨_, _, rfl, (show z_ci 0 9 = true by decide +kernel)⟩) (pG_addStar_run h1) (by omega) ?_
    refine L_pure (pc := 8) (pc' := 9) (st' := [.long (Int32.toInt64 v), .int 0, .ref 251]) (show z_pt 297 8 = some (5, .i2l, []) by decide +kernel) rfl (fun _ _ => rfl) ?_
    refine L_last (pc := 9) (show z_pt 297 9 = some (5, .lastore, []) by decide +kernel) ?_
    refine L_pure (pc := 10) (pc' := 21) (show z_pt 297 10 = some (5, .goto 11, []) by decide +kernel) rfl (fun _ _ => rfl) ?_
    refine L_const (pc := 21) (pc' := 22) (v := 0) (show z_ptc 297 21 = some (22, 0) by decide +kernel) ?_
    exact L_retI (show z_pt 297 22 = some (5, .ireturn, []) by decide +kernel) (by decide +kernel) ⟨rfl, rfl, rfl⟩
  | inr E =>
    obtain ⟨n, hn, rfl⟩ := hag
    match n, hn with
    | 0, hn =>
      obtain rfl : 1 = E := Option.some.inj hn
      refine ⟨a, q, fun h => absurd h (by decide), ?_⟩
      refine L_pure (pc := 0) (pc' := 1) (st' := [.ref 251]) (show z_pt 297 0 = some (5, .aload_n 3, []) by decide +kernel) rfl (fun _ _ => rfl) ?_
      refine L_const (pc := 1) (pc' := 2) (v := 0) (show z_ptc 297 1 = some (2, 0) by decide +kernel) ?_
      refine L_pure (pc := 2) (pc' := 3) (st' := [.ref 0, .int 0, .ref 251]) (show z_pt 297 2 = some (5, .aload_n 0, []) by decide +kernel) rfl (fun _ _ => rfl) ?_
      refine L_pure (pc := 3) (pc' := 4) (st' := [.int c1, .ref 0, .int 0, .ref 251]) (show z_pt 297 3 = some (5, .iload_n 1, []) by decide +kernel) rfl (fun _ _ => rfl) ?_
      refine L_pure (pc := 4) (pc' := 5) (st' := [.int c2, .int c1, .ref 0, .int 0, .ref 251]) (show z_pt 297 4 = some (5, .iload_n 2, []) by decide +kernel) rfl (fun _ _ => rfl) ?_
      refine L_callX (pc := 5) (rr := [.int 0, .ref 251]) (h := 15) (x := 4) (show z_pt 297 5 = some (5, .invokevirtual 90, [0, 106, 2, 4179, 4180, 4181, 1001, 4182]) by decide +kernel) rfl (show z_r2 106 = some (9, 3, true) by decide +kernel) rfl rfl (Or.inr ⟨_, _, rfl, (show z_ci 0 9 = true by decide +kernel)⟩) (pG_addStar_run h1) (by decide) (show z_hx 297 5 1 = some (15, 4) by decide +kernel) (by omega) rfl ?_
      refine L_const (pc := 15) (pc' := 16) (v := 1) (show z_ptc 297 15 = some (16, 1) by decide +kernel) ?_
      exact L_retI (show z_pt 297 16 = some (5, .ireturn, []) by decide +kernel) (by decide +kernel) ⟨rfl, rfl, rfl⟩
    | 1, hn =>
      obtain rfl : 2 = E := Option.some.inj hn
      refine ⟨a, q, fun h => absurd h (by decide), ?_⟩
      refine L_pure (pc := 0) (pc' := 1) (st' := [.ref 251]) (show z_pt 297 0 = some (5, .aload_n 3, []) by decide +kernel) rfl (fun _ _ => rfl) ?_
      refine L_const (pc := 1) (pc' := 2) (v := 0) (show z_ptc 297 1 = some (2, 0) by decide +kernel) ?_
      refine L_pure (pc := 2) (pc' := 3) (st' := [.ref 0, .int 0, .ref 251]) (show z_pt 297 2 = some (5, .aload_n 0, []) by decide +kernel) rfl (fun _ _ => rfl) ?_
      refine L_pure (pc := 3) (pc' := 4) (st' := [.int c1, .ref 0, .int 0, .ref 251]) (show z_pt 297 3 = some (5, .iload_n 1, []) by decide +kernel) rfl (fun _ _ => rfl) ?_
      refine L_pure (pc := 4) (pc' := 5) (st' := [.int c2, .int c1, .ref 0, .int 0, .ref 251]) (show z_pt 297 4 = some (5, .iload_n 2, []) by decide +kernel) rfl (fun _ _ => rfl) ?_
      refine L_callX (pc := 5) (rr := [.int 0, .ref 251]) (h := 19) (x := 4) (show z_pt 297 5 = some (5, .invokevirtual 90, [0, 106, 2, 4179, 4180, 4181, 1001, 4182]) by decide +kernel) rfl (show z_r2 106 = some (9, 3, true) by decide +kernel) rfl rfl (Or.inr ⟨_, _, rfl, (show z_ci 0 9 = true by decide +kernel)⟩) (pG_addStar_run h1) (by decide) (show z_hx 297 5 2 = some (19, 4) by decide +kernel) (by omega) rfl ?_
      refine L_const (pc := 19) (pc' := 20) (v := 2) (show z_ptc 297 19 = some (20, 2) by decide +kernel) ?_
      exact L_retI (show z_pt 297 20 = some (5, .ireturn, []) by decide +kernel) (by decide +kernel) ⟨rfl, rfl, rfl⟩
    | n + 2, hn => cases hn
theorem pL_removeStar {sc : Nat × (Nat → Int32)} {μ μ1 : z_Mem} {a : Nat → Int64} {q : Nat → UInt64} {c1 : Int32} {r : Int32 ⊕ Nat} {b : Int32} {t : Int32} (h1 : pG_removeStar μ c1 = some (r, μ1)) (hag : z_agI [3] r b t) : ∃ (a1 : Nat → Int64) (q1 : Nat → UInt64), (t = 0 → a1 0 = Int32.toInt64 b) ∧ Rl sc 8 298 0 [(0, .ref 0), (1, .int c1), (2, .ref 251)] [] μ a q (.inl (some (.int t))) (z_PE μ1 a1 q1) 1 := by
  cases r with
  | inl v =>
    obtain ⟨ht, hv⟩ := hag
    subst ht
    subst hv
    refine ⟨vp_updL a 0 (Int32.toInt64 v), q, fun _ => rfl, ?_⟩
    refine L_pure (pc := 0) (pc' := 1) (st' := [.ref 251]) (show z_pt 298 0 = some (4, .aload_n 2, []) by decide +kernel) rfl (fun _ _ => rfl) ?_
    refine L_const (pc := 1) (pc' := 2) (v := 0) (show z_ptc 298 1 = some (2, 0) by decide +kernel) ?_
    refine L_pure (pc := 2) (pc' := 3) (st' := [.ref 0, .int 0, .ref 251]) (show z_pt 298 2 = some (4, .aload_n 0, []) by decide +kernel) rfl (fun _ _ => rfl) ?_
    refine L_pure (pc := 3) (pc' := 4) (st' := [.int c1, .ref 0, .int 0, .ref 251]) (show z_pt 298 3 = some (4, .iload_n 1, []) by decide +kernel) rfl (fun _ _ => rfl) ?_
    refine L_call (pc := 4) (rr := [.int 0, .ref 251]) (show z_pt 298 4 = some (4, .invokevirtual 93, [0, 107, 1, 4194, 4195, 4196, 1001, 4197]) by decide +kernel) rfl (show z_r2 107 = some (9, 2, true) by decide +kernel) rfl rfl (Or.inr ⟨_, _, rfl, (show z_ci 0 9 = true by decide +kernel)⟩) (pG_removeStar_run h1) (by omega) ?_
    refine L_pure (pc := 7) (pc' := 8) (st' := [.long (Int32.toInt64 v), .int 0, .ref 251]) (show z_pt 298 7 = some (4, .i2l, []) by decide +kernel) rfl (fun _ _ => rfl) ?_
    refine L_last (pc := 8) (show z_pt 298 8 = some (4, .lastore, []) by decide +kernel) ?_
    refine L_pure (pc := 9) (pc' := 15) (show z_pt 298 9 = some (4, .goto 6, []) by decide +kernel) rfl (fun _ _ => rfl) ?_
    refine L_const (pc := 15) (pc' := 16) (v := 0) (show z_ptc 298 15 = some (16, 0) by decide +kernel) ?_
    exact L_retI (show z_pt 298 16 = some (4, .ireturn, []) by decide +kernel) (by decide +kernel) ⟨rfl, rfl, rfl⟩
  | inr E =>
    obtain ⟨n, hn, rfl⟩ := hag
    match n, hn with
    | 0, hn =>
      obtain rfl : 3 = E := Option.some.inj hn
      refine ⟨a, q, fun h => absurd h (by decide), ?_⟩
      refine L_pure (pc := 0) (pc' := 1) (st' := [.ref 251]) (show z_pt 298 0 = some (4, .aload_n 2, []) by decide +kernel) rfl (fun _ _ => rfl) ?_
      refine L_const (pc := 1) (pc' := 2) (v := 0) (show z_ptc 298 1 = some (2, 0) by decide +kernel) ?_
      refine L_pure (pc := 2) (pc' := 3) (st' := [.ref 0, .int 0, .ref 251]) (show z_pt 298 2 = some (4, .aload_n 0, []) by decide +kernel) rfl (fun _ _ => rfl) ?_
      refine L_pure (pc := 3) (pc' := 4) (st' := [.int c1, .ref 0, .int 0, .ref 251]) (show z_pt 298 3 = some (4, .iload_n 1, []) by decide +kernel) rfl (fun _ _ => rfl) ?_
      refine L_callX (pc := 4) (rr := [.int 0, .ref 251]) (h := 13) (x := 3) (show z_pt 298 4 = some (4, .invokevirtual 93, [0, 107, 1, 4194, 4195, 4196, 1001, 4197]) by decide +kernel) rfl (show z_r2 107 = some (9, 2, true) by decide +kernel) rfl rfl (Or.inr ⟨_, _, rfl, (show z_ci 0 9 = true by decide +kernel)⟩) (pG_removeStar_run h1) (by decide) (show z_hx 298 4 3 = some (13, 3) by decide +kernel) (by omega) rfl ?_
      refine L_const (pc := 13) (pc' := 14) (v := 1) (show z_ptc 298 13 = some (14, 1) by decide +kernel) ?_
      exact L_retI (show z_pt 298 14 = some (4, .ireturn, []) by decide +kernel) (by decide +kernel) ⟨rfl, rfl, rfl⟩
    | n + 1, hn => cases hn
theorem pL_star {sc : Nat × (Nat → Int32)} {μ : z_Mem} {a : Nat → Int64} {q : Nat → UInt64} {c1 : Int32} {r : Int32 ⊕ Nat} {b : Int32} {t : Int32} (h1 : pG_star μ c1 = some r) (hag : z_agI [0] r b t) : ∃ (a1 : Nat → Int64) (q1 : Nat → UInt64), (t = 0 → a1 0 = Int32.toInt64 b) ∧ Rl sc 7 299 0 [(0, .ref 0), (1, .int c1), (2, .ref 251)] [] μ a q (.inl (some (.int t))) (z_PE μ a1 q1) 1 := by
  cases r with
  | inl v =>
    obtain ⟨ht, hv⟩ := hag
    subst ht
    subst hv
    refine ⟨vp_updL a 0 (Int32.toInt64 v), q, fun _ => rfl, ?_⟩
    refine L_pure (pc := 0) (pc' := 1) (st' := [.ref 251]) (show z_pt 299 0 = some (4, .aload_n 2, []) by decide +kernel) rfl (fun _ _ => rfl) ?_
    refine L_const (pc := 1) (pc' := 2) (v := 0) (show z_ptc 299 1 = some (2, 0) by decide +kernel) ?_
    refine L_pure (pc := 2) (pc' := 3) (st' := [.ref 0, .int 0, .ref 251]) (show z_pt 299 2 = some (4, .aload_n 0, []) by decide +kernel) rfl (fun _ _ => rfl) ?_
    refine L_pure (pc := 3) (pc' := 4) (st' := [.int c1, .ref 0, .int 0, .ref 251]) (show z_pt 299 3 = some (4, .iload_n 1, []) by decide +kernel) rfl (fun _ _ => rfl) ?_
    refine L_call (pc := 4) (rr := [.int 0, .ref 251]) (show z_pt 299 4 = some (4, .invokevirtual 96, [0, 109, 1, 4209, 4210, 4211, 1001, 4212]) by decide +kernel) rfl (show z_r2 109 = some (9, 2, true) by decide +kernel) rfl rfl (Or.inr ⟨_, _, rfl, (show z_ci 0 9 = true by decide +kernel)⟩) (pG_star_run h1) (by omega) ?_
    refine L_pure (pc := 7) (pc' := 8) (st' := [.long (Int32.toInt64 v), .int 0, .ref 251]) (show z_pt 299 7 = some (4, .i2l, []) by decide +kernel) rfl (fun _ _ => rfl) ?_
    refine L_last (pc := 8) (show z_pt 299 8 = some (4, .lastore, []) by decide +kernel) ?_
    refine L_pure (pc := 9) (pc' := 15) (show z_pt 299 9 = some (4, .goto 6, []) by decide +kernel) rfl (fun _ _ => rfl) ?_
    refine L_const (pc := 15) (pc' := 16) (v := 0) (show z_ptc 299 15 = some (16, 0) by decide +kernel) ?_
    exact L_retI (show z_pt 299 16 = some (4, .ireturn, []) by decide +kernel) (by decide +kernel) ⟨rfl, rfl, rfl⟩
  | inr E =>
    obtain ⟨n, hn, rfl⟩ := hag
    match n, hn with
    | 0, hn =>
      obtain rfl : 0 = E := Option.some.inj hn
      refine ⟨a, q, fun h => absurd h (by decide), ?_⟩
      refine L_pure (pc := 0) (pc' := 1) (st' := [.ref 251]) (show z_pt 299 0 = some (4, .aload_n 2, []) by decide +kernel) rfl (fun _ _ => rfl) ?_
      refine L_const (pc := 1) (pc' := 2) (v := 0) (show z_ptc 299 1 = some (2, 0) by decide +kernel) ?_
      refine L_pure (pc := 2) (pc' := 3) (st' := [.ref 0, .int 0, .ref 251]) (show z_pt 299 2 = some (4, .aload_n 0, []) by decide +kernel) rfl (fun _ _ => rfl) ?_
      refine L_pure (pc := 3) (pc' := 4) (st' := [.int c1, .ref 0, .int 0, .ref 251]) (show z_pt 299 3 = some (4, .iload_n 1, []) by decide +kernel) rfl (fun _ _ => rfl) ?_
      refine L_callX (pc := 4) (rr := [.int 0, .ref 251]) (h := 13) (x := 3) (show z_pt 299 4 = some (4, .invokevirtual 96, [0, 109, 1, 4209, 4210, 4211, 1001, 4212]) by decide +kernel) rfl (show z_r2 109 = some (9, 2, true) by decide +kernel) rfl rfl (Or.inr ⟨_, _, rfl, (show z_ci 0 9 = true by decide +kernel)⟩) (pG_star_run h1) (by decide) (show z_hx 299 4 0 = some (13, 3) by decide +kernel) (by omega) rfl ?_
      refine L_const (pc := 13) (pc' := 14) (v := 1) (show z_ptc 299 13 = some (14, 1) by decide +kernel) ?_
      exact L_retI (show z_pt 299 14 = some (4, .ireturn, []) by decide +kernel) (by decide +kernel) ⟨rfl, rfl, rfl⟩
    | n + 1, hn => cases hn
theorem pL_direction {sc : Nat × (Nat → Int32)} {μ : z_Mem} {a : Nat → Int64} {q : Nat → UInt64} {c1 : Int32} {r : Int32 ⊕ Nat} {b : Int32} {t : Int32} (h1 : pG_direction μ c1 = some r) (hag : z_agI [3] r b t) : ∃ (a1 : Nat → Int64) (q1 : Nat → UInt64), (t = 0 → a1 0 = Int32.toInt64 b) ∧ Rl sc 8 300 0 [(0, .ref 0), (1, .int c1), (2, .ref 251)] [] μ a q (.inl (some (.int t))) (z_PE μ a1 q1) 1 := by
  cases r with
  | inl v =>
    obtain ⟨ht, hv⟩ := hag
    subst ht
    subst hv
    refine ⟨vp_updL a 0 (Int32.toInt64 v), q, fun _ => rfl, ?_⟩
    refine L_pure (pc := 0) (pc' := 1) (st' := [.ref 251]) (show z_pt 300 0 = some (4, .aload_n 2, []) by decide +kernel) rfl (fun _ _ => rfl) ?_
    refine L_const (pc := 1) (pc' := 2) (v := 0) (show z_ptc 300 1 = some (2, 0) by decide +kernel) ?_
    refine L_pure (pc := 2) (pc' := 3) (st' := [.ref 0, .int 0, .ref 251]) (show z_pt 300 2 = some (4, .aload_n 0, []) by decide +kernel) rfl (fun _ _ => rfl) ?_
    refine L_pure (pc := 3) (pc' := 4) (st' := [.int c1, .ref 0, .int 0, .ref 251]) (show z_pt 300 3 = some (4, .iload_n 1, []) by decide +kernel) rfl (fun _ _ => rfl) ?_
    refine L_call (pc := 4) (rr := [.int 0, .ref 251]) (show z_pt 300 4 = some (4, .invokevirtual 99, [0, 110, 1, 4216, 4217, 4218, 1001, 4219]) by decide +kernel) rfl (show z_r2 110 = some (9, 2, true) by decide +kernel) rfl rfl (Or.inr ⟨_, _, rfl, (show z_ci 0 9 = true by decide +kernel)⟩) (pG_direction_run h1) (by omega) ?_
    refine L_pure (pc := 7) (pc' := 8) (st' := [.long (Int32.toInt64 v), .int 0, .ref 251]) (show z_pt 300 7 = some (4, .i2l, []) by decide +kernel) rfl (fun _ _ => rfl) ?_
    refine L_last (pc := 8) (show z_pt 300 8 = some (4, .lastore, []) by decide +kernel) ?_
    refine L_pure (pc := 9) (pc' := 15) (show z_pt 300 9 = some (4, .goto 6, []) by decide +kernel) rfl (fun _ _ => rfl) ?_
    refine L_const (pc := 15) (pc' := 16) (v := 0) (show z_ptc 300 15 = some (16, 0) by decide +kernel) ?_
    exact L_retI (show z_pt 300 16 = some (4, .ireturn, []) by decide +kernel) (by decide +kernel) ⟨rfl, rfl, rfl⟩
  | inr E =>
    obtain ⟨n, hn, rfl⟩ := hag
    match n, hn with
    | 0, hn =>
      obtain rfl : 3 = E := Option.some.inj hn
      refine ⟨a, q, fun h => absurd h (by decide), ?_⟩
      refine L_pure (pc := 0) (pc' := 1) (st' := [.ref 251]) (show z_pt 300 0 = some (4, .aload_n 2, []) by decide +kernel) rfl (fun _ _ => rfl) ?_
      refine L_const (pc := 1) (pc' := 2) (v := 0) (show z_ptc 300 1 = some (2, 0) by decide +kernel) ?_
      refine L_pure (pc := 2) (pc' := 3) (st' := [.ref 0, .int 0, .ref 251]) (show z_pt 300 2 = some (4, .aload_n 0, []) by decide +kernel) rfl (fun _ _ => rfl) ?_
      refine L_pure (pc := 3) (pc' := 4) (st' := [.int c1, .ref 0, .int 0, .ref 251]) (show z_pt 300 3 = some (4, .iload_n 1, []) by decide +kernel) rfl (fun _ _ => rfl) ?_
      refine L_callX (pc := 4) (rr := [.int 0, .ref 251]) (h := 13) (x := 3) (show z_pt 300 4 = some (4, .invokevirtual 99, [0, 110, 1, 4216, 4217, 4218, 1001, 4219]) by decide +kernel) rfl (show z_r2 110 = some (9, 2, true) by decide +kernel) rfl rfl (Or.inr ⟨_, _, rfl, (show z_ci 0 9 = true by decide +kernel)⟩) (pG_direction_run h1) (by decide) (show z_hx 300 4 3 = some (13, 3) by decide +kernel) (by omega) rfl ?_
      refine L_const (pc := 13) (pc' := 14) (v := 1) (show z_ptc 300 13 = some (14, 1) by decide +kernel) ?_
      exact L_retI (show z_pt 300 14 = some (4, .ireturn, []) by decide +kernel) (by decide +kernel) ⟨rfl, rfl, rfl⟩
    | n + 1, hn => cases hn
theorem pL_passHours {sc : Nat × (Nat → Int32)} {μ μ1 : z_Mem} {a : Nat → Int64} {q : Nat → UInt64} {c1 : Int32} {r : Int32 ⊕ Nat} {b : Int32} {t : Int32} (h1 : pG_passHours μ c1 = some (r, μ1)) (hag : z_agI [1] r b t) : ∃ (a1 : Nat → Int64) (q1 : Nat → UInt64), (t = 0 → a1 0 = Int32.toInt64 b) ∧ Rl sc 8 301 0 [(0, .ref 0), (1, .int c1), (2, .ref 251)] [] μ a q (.inl (some (.int t))) (z_PE μ1 a1 q1) 1 := by
  cases r with
  | inl v =>
    obtain ⟨ht, hv⟩ := hag
    subst ht
    subst hv
    refine ⟨vp_updL a 0 (Int32.toInt64 v), q, fun _ => rfl, ?_⟩
    refine L_pure (pc := 0) (pc' := 1) (st' := [.ref 251]) (show z_pt 301 0 = some (4, .aload_n 2, []) by decide +kernel) rfl (fun _ _ => rfl) ?_
    refine L_const (pc := 1) (pc' := 2) (v := 0) (show z_ptc 301 1 = some (2, 0) by decide +kernel) ?_
    refine L_pure (pc := 2) (pc' := 3) (st' := [.ref 0, .int 0, .ref 251]) (show z_pt 301 2 = some (4, .aload_n 0, []) by decide +kernel) rfl (fun _ _ => rfl) ?_
    refine L_pure (pc := 3) (pc' := 4) (st' := [.int c1, .ref 0, .int 0, .ref 251]) (show z_pt 301 3 = some (4, .iload_n 1, []) by decide +kernel) rfl (fun _ _ => rfl) ?_
    refine L_call (pc := 4) (rr := [.int 0, .ref 251]) (show z_pt 301 4 = some (4, .invokevirtual 102, [0, 111, 1, 4223, 4224, 4225, 1001, 4226]) by decide +kernel) rfl (show z_r2 111 = some (9, 2, true) by decide +kernel) rfl rfl (Or.inr ⟨_, _, rfl, (show z_ci 0 9 = true by decide +kernel)⟩) (pG_passHours_run h1) (by omega) ?_
    refine L_pure (pc := 7) (pc' := 8) (st' := [.long (Int32.toInt64 v), .int 0, .ref 251]) (show z_pt 301 7 = some (4, .i2l, []) by decide +kernel) rfl (fun _ _ => rfl) ?_
    refine L_last (pc := 8) (show z_pt 301 8 = some (4, .lastore, []) by decide +kernel) ?_
    refine L_pure (pc := 9) (pc' := 15) (show z_pt 301 9 = some (4, .goto 6, []) by decide +kernel) rfl (fun _ _ => rfl) ?_
    refine L_const (pc := 15) (pc' := 16) (v := 0) (show z_ptc 301 15 = some (16, 0) by decide +kernel) ?_
    exact L_retI (show z_pt 301 16 = some (4, .ireturn, []) by decide +kernel) (by decide +kernel) ⟨rfl, rfl, rfl⟩
  | inr E =>
    obtain ⟨n, hn, rfl⟩ := hag
    match n, hn with
    | 0, hn =>
      obtain rfl : 1 = E := Option.some.inj hn
      refine ⟨a, q, fun h => absurd h (by decide), ?_⟩
      refine L_pure (pc := 0) (pc' := 1) (st' := [.ref 251]) (show z_pt 301 0 = some (4, .aload_n 2, []) by decide +kernel) rfl (fun _ _ => rfl) ?_
      refine L_const (pc := 1) (pc' := 2) (v := 0) (show z_ptc 301 1 = some (2, 0) by decide +kernel) ?_
      refine L_pure (pc := 2) (pc' := 3) (st' := [.ref 0, .int 0, .ref 251]) (show z_pt 301 2 = some (4, .aload_n 0, []) by decide +kernel) rfl (fun _ _ => rfl) ?_
      refine L_pure (pc := 3) (pc' := 4) (st' := [.int c1, .ref 0, .int 0, .ref 251]) (show z_pt 301 3 = some (4, .iload_n 1, []) by decide +kernel) rfl (fun _ _ => rfl) ?_
      refine L_callX (pc := 4) (rr := [.int 0, .ref 251]) (h := 13) (x := 3) (show z_pt 301 4 = some (4, .invokevirtual 102, [0, 111, 1, 4223, 4224, 4225, 1001, 4226]) by decide +kernel) rfl (show z_r2 111 = some (9, 2, true) by decide +kernel) rfl rfl (Or.inr ⟨_, _, rfl, (show z_ci 0 9 = true by decide +kernel)⟩) (pG_passHours_run h1) (by decide) (show z_hx 301 4 1 = some (13, 3) by decide +kernel) (by omega) rfl ?_
      refine L_const (pc := 13) (pc' := 14) (v := 1) (show z_ptc 301 13 = some (14, 1) by decide +kernel) ?_
      exact L_retI (show z_pt 301 14 = some (4, .ireturn, []) by decide +kernel) (by decide +kernel) ⟨rfl, rfl, rfl⟩
    | n + 1, hn => cases hn
theorem pL_directionAfter {sc : Nat × (Nat → Int32)} {μ : z_Mem} {a : Nat → Int64} {q : Nat → UInt64} {c1 c2 : Int32} {r : Int32 ⊕ Nat} {b : Int32} {t : Int32} (h1 : pG_directionAfter μ c1 c2 = some r) (hag : z_agI [3, 1] r b t) : ∃ (a1 : Nat → Int64) (q1 : Nat → UInt64), (t = 0 → a1 0 = Int32.toInt64 b) ∧ Rl sc 8 302 0 [(0, .ref 0), (1, .int c1), (2, .int c2), (3, .ref 251)] [] μ a q (.inl (some (.int t))) (z_PE μ a1 q1) 1 := by
  cases r with
  | inl v =>
    obtain ⟨ht, hv⟩ := hag
    subst ht
    subst hv
    refine ⟨vp_updL a 0 (Int32.toInt64 v), q, fun _ => rfl, ?_⟩
    refine L_pure (pc := 0) (pc' := 1) (st' := [.ref 251]) (show z_pt 302 0 = some (5, .aload_n 3, []) by decide +kernel) rfl (fun _ _ => rfl) ?_
    refine L_const (pc := 1) (pc' := 2) (v := 0) (show z_ptc 302 1 = some (2, 0) by decide +kernel) ?_
    refine L_pure (pc := 2) (pc' := 3) (st' := [.ref 0, .int 0, .ref 251]) (show z_pt 302 2 = some (5, .aload_n 0, []) by decide +kernel) rfl (fun _ _ => rfl) ?_
    refine L_pure (pc := 3) (pc' := 4) (st' := [.int c1, .ref 0, .int 0, .ref 251]) (show z_pt 302 3 = some (5, .iload_n 1, []) by decide +kernel) rfl (fun _ _ => rfl) ?_
    refine L_pure (pc := 4) (pc' := 5) (st' := [.int c2, .int c1, .ref 0, .int 0, .ref 251]) (show z_pt 302 4 = some (5, .iload_n 2, []) by decide +kernel) rfl (fun _ _ => rfl) ?_
    refine L_call (pc := 5) (rr := [.int 0, .ref 251]) (show z_pt 302 5 = some (5, .invokevirtual 105, [0, 112, 2, 5003, 5004, 5005, 1001, 5006]) by decide +kernel) rfl (show z_r2 112 = some (9, 6, true) by decide +kernel) rfl rfl (Or.inr ⟨_, _, rfl, (show z_ci 0 9 = true by decide +kernel)⟩) (pG_directionAfter_run h1) (by omega) ?_
    refine L_pure (pc := 8) (pc' := 9) (st' := [.long (Int32.toInt64 v), .int 0, .ref 251]) (show z_pt 302 8 = some (5, .i2l, []) by decide +kernel) rfl (fun _ _ => rfl) ?_
    refine L_last (pc := 9) (show z_pt 302 9 = some (5, .lastore, []) by decide +kernel) ?_
    refine L_pure (pc := 10) (pc' := 21) (show z_pt 302 10 = some (5, .goto 11, []) by decide +kernel) rfl (fun _ _ => rfl) ?_
    refine L_const (pc := 21) (pc' := 22) (v := 0) (show z_ptc 302 21 = some (22, 0) by decide +kernel) ?_
    exact L_retI (show z_pt 302 22 = some (5, .ireturn, []) by decide +kernel) (by decide +kernel) ⟨rfl, rfl, rfl⟩
  | inr E =>
    obtain ⟨n, hn, rfl⟩ := hag
    match n, hn with
    | 0, hn =>
      obtain rfl : 3 = E := Option.some.inj hn
      refine ⟨a, q, fun h => absurd h (by decide), ?_⟩
      refine L_pure (pc := 0) (pc' := 1) (st' := [.ref 251]) (show z_pt 302 0 = some (5, .aload_n 3, []) by decide +kernel) rfl (fun _ _ => rfl) ?_
      refine L_const (pc := 1) (pc' := 2) (v := 0) (show z_ptc 302 1 = some (2, 0) by decide +kernel) ?_
      refine L_pure (pc := 2) (pc' := 3) (st' := [.ref 0, .int 0, .ref 251]) (show z_pt 302 2 = some (5, .aload_n 0, []) by decide +kernel) rfl (fun _ _ => rfl) ?_
      refine L_pure (pc := 3) (pc' := 4) (st' := [.int c1, .ref 0, .int 0, .ref 251]) (show z_pt 302 3 = some (5, .iload_n 1, []) by decide +kernel) rfl (fun _ _ => rfl) ?_
      refine L_pure (pc := 4) (pc' := 5) (st' := [.int c2, .int c1, .ref 0, .int 0, .ref 251]) (show z_pt 302 4 = some (5, .iload_n 2, []) by decide +kernel) rfl (fun _ _ => rfl) ?_
      refine L_callX (pc := 5) (rr := [.int 0, .ref 251]) (h := 15) (x := 4) (show z_pt 302 5 = some (5, .invokevirtual 105, [0, 112, 2, 5003, 5004, 5005, 1001, 5006]) by decide +kernel) rfl (show z_r2 112 = some (9, 6, true) by decide +kernel) rfl rfl (Or.inr ⟨_, _, rfl, (show z_ci 0 9 = true by decide +kernel)⟩) (pG_directionAfter_run h1) (by decide) (show z_hx 302 5 3 = some (15, 4) by decide +kernel) (by omega) rfl ?_
      refine L_const (pc := 15) (pc' := 16) (v := 1) (show z_ptc 302 15 = some (16, 1) by decide +kernel) ?_
      exact L_retI (show z_pt 302 16 = some (5, .ireturn, []) by decide +kernel) (by decide +kernel) ⟨rfl, rfl, rfl⟩
    | 1, hn =>
      obtain rfl : 1 = E := Option.some.inj hn
      refine ⟨a, q, fun h => absurd h (by decide), ?_⟩
      refine L_pure (pc := 0) (pc' := 1) (st' := [.ref 251]) (show z_pt 302 0 = some (5, .aload_n 3, []) by decide +kernel) rfl (fun _ _ => rfl) ?_
      refine L_const (pc := 1) (pc' := 2) (v := 0) (show z_ptc 302 1 = some (2, 0) by decide +kernel) ?_
      refine L_pure (pc := 2) (pc' := 3) (st' := [.ref 0, .int 0, .ref 251]) (show z_pt 302 2 = some (5, .aload_n 0, []) by decide +kernel) rfl (fun _ _ => rfl) ?_
      refine L_pure (pc := 3) (pc' := 4) (st' := [.int c1, .ref 0, .int 0, .ref 251]) (show z_pt 302 3 = some (5, .iload_n 1, []) by decide +kernel) rfl (fun _ _ => rfl) ?_
      refine L_pure (pc := 4) (pc' := 5) (st' := [.int c2, .int c1, .ref 0, .int 0, .ref 251]) (show z_pt 302 4 = some (5, .iload_n 2, []) by decide +kernel) rfl (fun _ _ => rfl) ?_
      refine L_callX (pc := 5) (rr := [.int 0, .ref 251]) (h := 19) (x := 4) (show z_pt 302 5 = some (5, .invokevirtual 105, [0, 112, 2, 5003, 5004, 5005, 1001, 5006]) by decide +kernel) rfl (show z_r2 112 = some (9, 6, true) by decide +kernel) rfl rfl (Or.inr ⟨_, _, rfl, (show z_ci 0 9 = true by decide +kernel)⟩) (pG_directionAfter_run h1) (by decide) (show z_hx 302 5 1 = some (19, 4) by decide +kernel) (by omega) rfl ?_
      refine L_const (pc := 19) (pc' := 20) (v := 2) (show z_ptc 302 19 = some (20, 2) by decide +kernel) ?_
      exact L_retI (show z_pt 302 20 = some (5, .ireturn, []) by decide +kernel) (by decide +kernel) ⟨rfl, rfl, rfl⟩
    | n + 2, hn => cases hn
theorem pL_directionAfterAtOnce {sc : Nat × (Nat → Int32)} {μ : z_Mem} {a : Nat → Int64} {q : Nat → UInt64} {c1 c2 : Int32} {r : Int32 ⊕ Nat} {b : Int32} {t : Int32} (h1 : pG_directionAfterAtOnce μ c1 c2 = some r) (hag : z_agI [3, 1] r b t) : ∃ (a1 : Nat → Int64) (q1 : Nat → UInt64), (t = 0 → a1 0 = Int32.toInt64 b) ∧ Rl sc 8 303 0 [(0, .ref 0), (1, .int c1), (2, .int c2), (3, .ref 251)] [] μ a q (.inl (some (.int t))) (z_PE μ a1 q1) 1 := by
  cases r with
  | inl v =>
    obtain ⟨ht, hv⟩ := hag
    subst ht
    subst hv
    refine ⟨vp_updL a 0 (Int32.toInt64 v), q, fun _ => rfl, ?_⟩
    refine L_pure (pc := 0) (pc' := 1) (st' := [.ref 251]) (show z_pt 303 0 = some (5, .aload_n 3, []) by decide +kernel) rfl (fun _ _ => rfl) ?_
    refine L_const (pc := 1) (pc' := 2) (v := 0) (show z_ptc 303 1 = some (2, 0) by decide +kernel) ?_
    refine L_pure (pc := 2) (pc' := 3) (st' := [.ref 0, .int 0, .ref 251]) (show z_pt 303 2 = some (5, .aload_n 0, []) by decide +kernel) rfl (fun _ _ => rfl) ?_
    refine L_pure (pc := 3) (pc' := 4) (st' := [.int c1, .ref 0, .int 0, .ref 251]) (show z_pt 303 3 = some (5, .iload_n 1, []) by decide +kernel) rfl (fun _ _ => rfl) ?_
    refine L_pure (pc := 4) (pc' := 5) (st' := [.int c2, .int c1, .ref 0, .int 0, .ref 251]) (show z_pt 303 4 = some (5, .iload_n 2, []) by decide +kernel) rfl (fun _ _ => rfl) ?_
    refine L_call (pc := 5) (rr := [.int 0, .ref 251]) (show z_pt 303 5 = some (5, .invokevirtual 108, [0, 113, 2, 5013, 5014, 5015, 1001, 5016]) by decide +kernel) rfl (show z_r2 113 = some (9, 4, true) by decide +kernel) rfl rfl (Or.inr ⟨_, _, rfl, (show z_ci 0 9 = true by decide +kernel)⟩) (pG_directionAfterAtOnce_run h1) (by omega) ?_
    refine L_pure (pc := 8) (pc' := 9) (st' := [.long (Int32.toInt64 v), .int 0, .ref 251]) (show z_pt 303 8 = some (5, .i2l, []) by decide +kernel) rfl (fun _ _ => rfl) ?_
    refine L_last (pc := 9) (show z_pt 303 9 = some (5, .lastore, []) by decide +kernel) ?_
    refine L_pure (pc := 10) (pc' := 21) (show z_pt 303 10 = some (5, .goto 11, []) by decide +kernel) rfl (fun _ _ => rfl) ?_
    refine L_const (pc := 21) (pc' := 22) (v := 0) (show z_ptc 303 21 = some (22, 0) by decide +kernel) ?_
    exact L_retI (show z_pt 303 22 = some (5, .ireturn, []) by decide +kernel) (by decide +kernel) ⟨rfl, rfl, rfl⟩
  | inr E =>
    obtain ⟨n, hn, rfl⟩ := hag
    match n, hn with
    | 0, hn =>
      obtain rfl : 3 = E := Option.some.inj hn
      refine ⟨a, q, fun h => absurd h (by decide), ?_⟩
      refine L_pure (pc := 0) (pc' := 1) (st' := [.ref 251]) (show z_pt 303 0 = some (5, .aload_n 3, []) by decide +kernel) rfl (fun _ _ => rfl) ?_
      refine L_const (pc := 1) (pc' := 2) (v := 0) (show z_ptc 303 1 = some (2, 0) by decide +kernel) ?_
      refine L_pure (pc := 2) (pc' := 3) (st' := [.ref 0, .int 0, .ref 251]) (show z_pt 303 2 = some (5, .aload_n 0, []) by decide +kernel) rfl (fun _ _ => rfl) ?_
      refine L_pure (pc := 3) (pc' := 4) (st' := [.int c1, .ref 0, .int 0, .ref 251]) (show z_pt 303 3 = some (5, .iload_n 1, []) by decide +kernel) rfl (fun _ _ => rfl) ?_
      refine L_pure (pc := 4) (pc' := 5) (st' := [.int c2, .int c1, .ref 0, .int 0, .ref 251]) (show z_pt 303 4 = some (5, .iload_n 2, []) by decide +kernel) rfl (fun _ _ => rfl) ?_
      refine L_callX (pc := 5) (rr := [.int 0, .ref 251]) (h := 15) (x := 4) (show z_pt 303 5 = some (5, .invokevirtual 108, [0, 113, 2, 5013, 5014, 5015, 1001, 5016]) by decide +kernel) rfl (show z_r2 113 = some (9, 4, true) by decide +kernel) rfl rfl (Or.inr ⟨_, _, rfl, (show z_ci 0 9 = true by decide +kernel)⟩) (pG_directionAfterAtOnce_run h1) (by decide) (show z_hx 303 5 3 = some (15, 4) by decide +kernel) (by omega) rfl ?_
      refine L_const (pc := 15) (pc' := 16) (v := 1) (show z_ptc 303 15 = some (16, 1) by decide +kernel) ?_
      exact L_retI (show z_pt 303 16 = some (5, .ireturn, []) by decide +kernel) (by decide +kernel) ⟨rfl, rfl, rfl⟩
    | 1, hn =>
      obtain rfl : 1 = E := Option.some.inj hn
      refine ⟨a, q, fun h => absurd h (by decide), ?_⟩
      refine L_pure (pc := 0) (pc' := 1) (st' := [.ref 251]) (show z_pt 303 0 = some (5, .aload_n 3, []) by decide +kernel) rfl (fun _ _ => rfl) ?_
      refine L_const (pc := 1) (pc' := 2) (v := 0) (show z_ptc 303 1 = some (2, 0) by decide +kernel) ?_
      refine L_pure (pc := 2) (pc' := 3) (st' := [.ref 0, .int 0, .ref 251]) (show z_pt 303 2 = some (5, .aload_n 0, []) by decide +kernel) rfl (fun _ _ => rfl) ?_
      refine L_pure (pc := 3) (pc' := 4) (st' := [.int c1, .ref 0, .int 0, .ref 251]) (show z_pt 303 3 = some (5, .iload_n 1, []) by decide +kernel) rfl (fun _ _ => rfl) ?_
      refine L_pure (pc := 4) (pc' := 5) (st' := [.int c2, .int c1, .ref 0, .int 0, .ref 251]) (show z_pt 303 4 = some (5, .iload_n 2, []) by decide +kernel) rfl (fun _ _ => rfl) ?_
      refine L_callX (pc := 5) (rr := [.int 0, .ref 251]) (h := 19) (x := 4) (show z_pt 303 5 = some (5, .invokevirtual 108, [0, 113, 2, 5013, 5014, 5015, 1001, 5016]) by decide +kernel) rfl (show z_r2 113 = some (9, 4, true) by decide +kernel) rfl rfl (Or.inr ⟨_, _, rfl, (show z_ci 0 9 = true by decide +kernel)⟩) (pG_directionAfterAtOnce_run h1) (by decide) (show z_hx 303 5 1 = some (19, 4) by decide +kernel) (by omega) rfl ?_
      refine L_const (pc := 19) (pc' := 20) (v := 2) (show z_ptc 303 19 = some (20, 2) by decide +kernel) ?_
      exact L_retI (show z_pt 303 20 = some (5, .ireturn, []) by decide +kernel) (by decide +kernel) ⟨rfl, rfl, rfl⟩
    | n + 2, hn => cases hn
theorem pL_nearestStar {sc : Nat × (Nat → Int32)} {μ : z_Mem} {a : Nat → Int64} {q : Nat → UInt64} {c1 : Int32} {r : Int32 ⊕ Nat} {b : Int32} {t : Int32} (h1 : pG_nearestStar μ c1 = some r) (hag : z_agI [1, 3] r b t) : ∃ (a1 : Nat → Int64) (q1 : Nat → UInt64), (t = 0 → a1 0 = Int32.toInt64 b) ∧ Rl sc 7 304 0 [(0, .ref 0), (1, .int c1), (2, .ref 251)] [] μ a q (.inl (some (.int t))) (z_PE μ a1 q1) 1 := by
  cases r with
  | inl v =>
    obtain ⟨ht, hv⟩ := hag
    subst ht
    subst hv
    refine ⟨vp_updL a 0 (Int32.toInt64 v), q, fun _ => rfl, ?_⟩
    refine L_pure (pc := 0) (pc' := 1) (st' := [.ref 251]) (show z_pt 304 0 = some (4, .aload_n 2, []) by decide +kernel) rfl (fun _ _ => rfl) ?_
    refine L_const (pc := 1) (pc' := 2) (v := 0) (show z_ptc 304 1 = some (2, 0) by decide +kernel) ?_
    refine L_pure (pc := 2) (pc' := 3) (st' := [.ref 0, .int 0, .ref 251]) (show z_pt 304 2 = some (4, .aload_n 0, []) by decide +kernel) rfl (fun _ _ => rfl) ?_
    refine L_pure (pc := 3) (pc' := 4) (st' := [.int c1, .ref 0, .int 0, .ref 251]) (show z_pt 304 3 = some (4, .iload_n 1, []) by decide +kernel) rfl (fun _ _ => rfl) ?_
    refine L_call (pc := 4) (rr := [.int 0, .ref 251]) (show z_pt 304 4 = some (4, .invokevirtual 111, [0, 114, 1, 5021, 5022, 5023, 1001, 5024]) by decide +kernel) rfl (show z_r2 114 = some (9, 2, true) by decide +kernel) rfl rfl (Or.inr ⟨_, _, rfl, (show z_ci 0 9 = true by decide +kernel)⟩) (pG_nearestStar_run h1) (by omega) ?_
    refine L_pure (pc := 7) (pc' := 8) (st' := [.long (Int32.toInt64 v), .int 0, .ref 251]) (show z_pt 304 7 = some (4, .i2l, []) by decide +kernel) rfl (fun _ _ => rfl) ?_
    refine L_last (pc := 8) (show z_pt 304 8 = some (4, .lastore, []) by decide +kernel) ?_
    refine L_pure (pc := 9) (pc' := 18) (show z_pt 304 9 = some (4, .goto 9, []) by decide +kernel) rfl (fun _ _ => rfl) ?_
    refine L_const (pc := 18) (pc' := 19) (v := 0) (show z_ptc 304 18 = some (19, 0) by decide +kernel) ?_
    exact L_retI (show z_pt 304 19 = some (4, .ireturn, []) by decide +kernel) (by decide +kernel) ⟨rfl, rfl, rfl⟩
  | inr E =>
    obtain ⟨n, hn, rfl⟩ := hag
    match n, hn with
    | 0, hn =>
      obtain rfl : 1 = E := Option.some.inj hn
      refine ⟨a, q, fun h => absurd h (by decide), ?_⟩
      refine L_pure (pc := 0) (pc' := 1) (st' := [.ref 251]) (show z_pt 304 0 = some (4, .aload_n 2, []) by decide +kernel) rfl (fun _ _ => rfl) ?_
      refine L_const (pc := 1) (pc' := 2) (v := 0) (show z_ptc 304 1 = some (2, 0) by decide +kernel) ?_
      refine L_pure (pc := 2) (pc' := 3) (st' := [.ref 0, .int 0, .ref 251]) (show z_pt 304 2 = some (4, .aload_n 0, []) by decide +kernel) rfl (fun _ _ => rfl) ?_
      refine L_pure (pc := 3) (pc' := 4) (st' := [.int c1, .ref 0, .int 0, .ref 251]) (show z_pt 304 3 = some (4, .iload_n 1, []) by decide +kernel) rfl (fun _ _ => rfl) ?_
      refine L_callX (pc := 4) (rr := [.int 0, .ref 251]) (h := 13) (x := 3) (show z_pt 304 4 = some (4, .invokevirtual 111, [0, 114, 1, 5021, 5022, 5023, 1001, 5024]) by decide +kernel) rfl (show z_r2 114 = some (9, 2, true) by decide +kernel) rfl rfl (Or.inr ⟨_, _, rfl, (show z_ci 0 9 = true by decide +kernel)⟩) (pG_nearestStar_run h1) (by decide) (show z_hx 304 4 1 = some (13, 3) by decide +kernel) (by omega) rfl ?_
      refine L_const (pc := 13) (pc' := 14) (v := 1) (show z_ptc 304 13 = some (14, 1) by decide +kernel) ?_
      exact L_retI (show z_pt 304 14 = some (4, .ireturn, []) by decide +kernel) (by decide +kernel) ⟨rfl, rfl, rfl⟩
    | 1, hn =>
      obtain rfl : 3 = E := Option.some.inj hn
      refine ⟨a, q, fun h => absurd h (by decide), ?_⟩
      refine L_pure (pc := 0) (pc' := 1) (st' := [.ref 251]) (show z_pt 304 0 = some (4, .aload_n 2, []) by decide +kernel) rfl (fun _ _ => rfl) ?_
      refine L_const (pc := 1) (pc' := 2) (v := 0) (show z_ptc 304 1 = some (2, 0) by decide +kernel) ?_
      refine L_pure (pc := 2) (pc' := 3) (st' := [.ref 0, .int 0, .ref 251]) (show z_pt 304 2 = some (4, .aload_n 0, []) by decide +kernel) rfl (fun _ _ => rfl) ?_
      refine L_pure (pc := 3) (pc' := 4) (st' := [.int c1, .ref 0, .int 0, .ref 251]) (show z_pt 304 3 = some (4, .iload_n 1, []) by decide +kernel) rfl (fun _ _ => rfl) ?_
      refine L_callX (pc := 4) (rr := [.int 0, .ref 251]) (h := 16) (x := 3) (show z_pt 304 4 = some (4, .invokevirtual 111, [0, 114, 1, 5021, 5022, 5023, 1001, 5024]) by decide +kernel) rfl (show z_r2 114 = some (9, 2, true) by decide +kernel) rfl rfl (Or.inr ⟨_, _, rfl, (show z_ci 0 9 = true by decide +kernel)⟩) (pG_nearestStar_run h1) (by decide) (show z_hx 304 4 3 = some (16, 3) by decide +kernel) (by omega) rfl ?_
      refine L_const (pc := 16) (pc' := 17) (v := 2) (show z_ptc 304 16 = some (17, 2) by decide +kernel) ?_
      exact L_retI (show z_pt 304 17 = some (4, .ireturn, []) by decide +kernel) (by decide +kernel) ⟨rfl, rfl, rfl⟩
    | n + 2, hn => cases hn
theorem pL_catalogue {sc : Nat × (Nat → Int32)} {μ μ1 : z_Mem} {a : Nat → Int64} {q : Nat → UInt64} {c1 c2 : Int32} {r : Int32 ⊕ Nat} {b : Int32} {t : Int32} (h1 : pG_catalogue μ c1 c2 = some (r, μ1)) (hag : z_agI [1, 2] r b t) : ∃ (a1 : Nat → Int64) (q1 : Nat → UInt64), (t = 0 → a1 0 = Int32.toInt64 b) ∧ Rl sc 8 305 0 [(0, .ref 0), (1, .int c1), (2, .int c2), (3, .ref 251)] [] μ a q (.inl (some (.int t))) (z_PE μ1 a1 q1) 1 := by
  cases r with
  | inl v =>
    obtain ⟨ht, hv⟩ := hag
    subst ht
    subst hv
    refine ⟨vp_updL a 0 (Int32.toInt64 v), q, fun _ => rfl, ?_⟩
    refine L_pure (pc := 0) (pc' := 1) (st' := [.ref 251]) (show z_pt 305 0 = some (5, .aload_n 3, []) by decide +kernel) rfl (fun _ _ => rfl) ?_
    refine L_const (pc := 1) (pc' := 2) (v := 0) (show z_ptc 305 1 = some (2, 0) by decide +kernel) ?_
    refine L_pure (pc := 2) (pc' := 3) (st' := [.ref 0, .int 0, .ref 251]) (show z_pt 305 2 = some (5, .aload_n 0, []) by decide +kernel) rfl (fun _ _ => rfl) ?_
    refine L_pure (pc := 3) (pc' := 4) (st' := [.int c1, .ref 0, .int 0, .ref 251]) (show z_pt 305 3 = some (5, .iload_n 1, []) by decide +kernel) rfl (fun _ _ => rfl) ?_
    refine L_pure (pc := 4) (pc' := 5) (st' := [.int c2, .int c1, .ref 0, .int 0, .ref 251]) (show z_pt 305 4 = some (5, .iload_n 2, []) by decide +kernel) rfl (fun _ _ => rfl) ?_
    refine L_call (pc := 5) (rr := [.int 0, .ref 251]) (show z_pt 305 5 = some (5, .invokevirtual 114, [0, 115, 2, 5033, 5034, 5035, 1001, 5036]) by decide +kernel) rfl (show z_r2 115 = some (9, 3, true) by decide +kernel) rfl rfl (Or.inr ⟨_, _, rfl, (show z_ci 0 9 = true by decide +kernel)⟩) (pG_catalogue_run h1) (by omega) ?_
    refine L_pure (pc := 8) (pc' := 9) (st' := [.long (Int32.toInt64 v), .int 0, .ref 251]) (show z_pt 305 8 = some (5, .i2l, []) by decide +kernel) rfl (fun _ _ => rfl) ?_
    refine L_last (pc := 9) (show z_pt 305 9 = some (5, .lastore, []) by decide +kernel) ?_
    refine L_pure (pc := 10) (pc' := 21) (show z_pt 305 10 = some (5, .goto 11, []) by decide +kernel) rfl (fun _ _ => rfl) ?_
    refine L_const (pc := 21) (pc' := 22) (v := 0) (show z_ptc 305 21 = some (22, 0) by decide +kernel) ?_
    exact L_retI (show z_pt 305 22 = some (5, .ireturn, []) by decide +kernel) (by decide +kernel) ⟨rfl, rfl, rfl⟩
  | inr E =>
    obtain ⟨n, hn, rfl⟩ := hag
    match n, hn with
    | 0, hn =>
      obtain rfl : 1 = E := Option.some.inj hn
      refine ⟨a, q, fun h => absurd h (by decide), ?_⟩
      refine L_pure (pc := 0) (pc' := 1) (st' := [.ref 251]) (show z_pt 305 0 = some (5, .aload_n 3, []) by decide +kernel) rfl (fun _ _ => rfl) ?_
      refine L_const (pc := 1) (pc' := 2) (v := 0) (show z_ptc 305 1 = some (2, 0) by decide +kernel) ?_
      refine L_pure (pc := 2) (pc' := 3) (st' := [.ref 0, .int 0, .ref 251]) (show z_pt 305 2 = some (5, .aload_n 0, []) by decide +kernel) rfl (fun _ _ => rfl) ?_
      refine L_pure (pc := 3) (pc' := 4) (st' := [.int c1, .ref 0, .int 0, .ref 251]) (show z_pt 305 3 = some (5, .iload_n 1, []) by decide +kernel) rfl (fun _ _ => rfl) ?_
      refine L_pure (pc := 4) (pc' := 5) (st' := [.int c2, .int c1, .ref 0, .int 0, .ref 251]) (show z_pt 305 4 = some (5, .iload_n 2, []) by decide +kernel) rfl (fun _ _ => rfl) ?_
      refine L_callX (pc := 5) (rr := [.int 0, .ref 251]) (h := 15) (x := 4) (show z_pt 305 5 = some (5, .invokevirtual 114, [0, 115, 2, 5033, 5034, 5035, 1001, 5036]) by decide +kernel) rfl (show z_r2 115 = some (9, 3, true) by decide +kernel) rfl rfl (Or.inr ⟨_, _, rfl, (show z_ci 0 9 = true by decide +kernel)⟩) (pG_catalogue_run h1) (by decide) (show z_hx 305 5 1 = some (15, 4) by decide +kernel) (by omega) rfl ?_
      refine L_const (pc := 15) (pc' := 16) (v := 1) (show z_ptc 305 15 = some (16, 1) by decide +kernel) ?_
      exact L_retI (show z_pt 305 16 = some (5, .ireturn, []) by decide +kernel) (by decide +kernel) ⟨rfl, rfl, rfl⟩
    | 1, hn =>
      obtain rfl : 2 = E := Option.some.inj hn
      refine ⟨a, q, fun h => absurd h (by decide), ?_⟩
      refine L_pure (pc := 0) (pc' := 1) (st' := [.ref 251]) (show z_pt 305 0 = some (5, .aload_n 3, []) by decide +kernel) rfl (fun _ _ => rfl) ?_
      refine L_const (pc := 1) (pc' := 2) (v := 0) (show z_ptc 305 1 = some (2, 0) by decide +kernel) ?_
      refine L_pure (pc := 2) (pc' := 3) (st' := [.ref 0, .int 0, .ref 251]) (show z_pt 305 2 = some (5, .aload_n 0, []) by decide +kernel) rfl (fun _ _ => rfl) ?_
      refine L_pure (pc := 3) (pc' := 4) (st' := [.int c1, .ref 0, .int 0, .ref 251]) (show z_pt 305 3 = some (5, .iload_n 1, []) by decide +kernel) rfl (fun _ _ => rfl) ?_
      refine L_pure (pc := 4) (pc' := 5) (st' := [.int c2, .int c1, .ref 0, .int 0, .ref 251]) (show z_pt 305 4 = some (5, .iload_n 2, []) by decide +kernel) rfl (fun _ _ => rfl) ?_
      refine L_callX (pc := 5) (rr := [.int 0, .ref 251]) (h := 19) (x := 4) (show z_pt 305 5 = some (5, .invokevirtual 114, [0, 115, 2, 5033, 5034, 5035, 1001, 5036]) by decide +kernel) rfl (show z_r2 115 = some (9, 3, true) by decide +kernel) rfl rfl (Or.inr ⟨_, _, rfl, (show z_ci 0 9 = true by decide +kernel)⟩) (pG_catalogue_run h1) (by decide) (show z_hx 305 5 2 = some (19, 4) by decide +kernel) (by omega) rfl ?_
      refine L_const (pc := 19) (pc' := 20) (v := 2) (show z_ptc 305 19 = some (20, 2) by decide +kernel) ?_
      exact L_retI (show z_pt 305 20 = some (5, .ireturn, []) by decide +kernel) (by decide +kernel) ⟨rfl, rfl, rfl⟩
    | n + 2, hn => cases hn
theorem pL_forget {sc : Nat × (Nat → Int32)} {μ μ1 : z_Mem} {a : Nat → Int64} {q : Nat → UInt64} {c1 c2 : Int32} {r : Int32 ⊕ Nat} {b : Int32} {t : Int32} (h1 : pG_forget μ c1 c2 = some (r, μ1)) (hag : z_agI [1, 3] r b t) : ∃ (a1 : Nat → Int64) (q1 : Nat → UInt64), (t = 0 → a1 0 = Int32.toInt64 b) ∧ Rl sc 8 306 0 [(0, .ref 0), (1, .int c1), (2, .int c2), (3, .ref 251)] [] μ a q (.inl (some (.int t))) (z_PE μ1 a1 q1) 1 := by
  cases r with
  | inl v =>
    obtain ⟨ht, hv⟩ := hag
    subst ht
    subst hv
    refine ⟨vp_updL a 0 (Int32.toInt64 v), q, fun _ => rfl, ?_⟩
    refine L_pure (pc := 0) (pc' := 1) (st' := [.ref 251]) (show z_pt 306 0 = some (5, .aload_n 3, []) by decide +kernel) rfl (fun _ _ => rfl) ?_
    refine L_const (pc := 1) (pc' := 2) (v := 0) (show z_ptc 306 1 = some (2, 0) by decide +kernel) ?_
    refine L_pure (pc := 2) (pc' := 3) (st' := [.ref 0, .int 0, .ref 251]) (show z_pt 306 2 = some (5, .aload_n 0, []) by decide +kernel) rfl (fun _ _ => rfl) ?_
    refine L_pure (pc := 3) (pc' := 4) (st' := [.int c1, .ref 0, .int 0, .ref 251]) (show z_pt 306 3 = some (5, .iload_n 1, []) by decide +kernel) rfl (fun _ _ => rfl) ?_
    refine L_pure (pc := 4) (pc' := 5) (st' := [.int c2, .int c1, .ref 0, .int 0, .ref 251]) (show z_pt 306 4 = some (5, .iload_n 2, []) by decide +kernel) rfl (fun _ _ => rfl) ?_
    refine L_call (pc := 5) (rr := [.int 0, .ref 251]) (show z_pt 306 5 = some (5, .invokevirtual 118, [0, 116, 2, 5056, 5057, 5058, 1001, 5059]) by decide +kernel) rfl (show z_r2 116 = some (9, 3, true) by decide +kernel) rfl rfl (Or.inr ⟨_, _, rfl, (show z_ci 0 9 = true by decide +kernel)⟩) (pG_forget_run h1) (by omega) ?_
    refine L_pure (pc := 8) (pc' := 9) (st' := [.long (Int32.toInt64 v), .int 0, .ref 251]) (show z_pt 306 8 = some (5, .i2l, []) by decide +kernel) rfl (fun _ _ => rfl) ?_
    refine L_last (pc := 9) (show z_pt 306 9 = some (5, .lastore, []) by decide +kernel) ?_
    refine L_pure (pc := 10) (pc' := 21) (show z_pt 306 10 = some (5, .goto 11, []) by decide +kernel) rfl (fun _ _ => rfl) ?_
    refine L_const (pc := 21) (pc' := 22) (v := 0) (show z_ptc 306 21 = some (22, 0) by decide +kernel) ?_
    exact L_retI (show z_pt 306 22 = some (5, .ireturn, []) by decide +kernel) (by decide +kernel) ⟨rfl, rfl, rfl⟩
  | inr E =>
    obtain ⟨n, hn, rfl⟩ := hag
    match n, hn with
    | 0, hn =>
      obtain rfl : 1 = E := Option.some.inj hn
      refine ⟨a, q, fun h => absurd h (by decide), ?_⟩
      refine L_pure (pc := 0) (pc' := 1) (st' := [.ref 251]) (show z_pt 306 0 = some (5, .aload_n 3, []) by decide +kernel) rfl (fun _ _ => rfl) ?_
      refine L_const (pc := 1) (pc' := 2) (v := 0) (show z_ptc 306 1 = some (2, 0) by decide +kernel) ?_
      refine L_pure (pc := 2) (pc' := 3) (st' := [.ref 0, .int 0, .ref 251]) (show z_pt 306 2 = some (5, .aload_n 0, []) by decide +kernel) rfl (fun _ _ => rfl) ?_
      refine L_pure (pc := 3) (pc' := 4) (st' := [.int c1, .ref 0, .int 0, .ref 251]) (show z_pt 306 3 = some (5, .iload_n 1, []) by decide +kernel) rfl (fun _ _ => rfl) ?_
      refine L_pure (pc := 4) (pc' := 5) (st' := [.int c2, .int c1, .ref 0, .int 0, .ref 251]) (show z_pt 306 4 = some (5, .iload_n 2, []) by decide +kernel) rfl (fun _ _ => rfl) ?_
      refine L_callX (pc := 5) (rr := [.int 0, .ref 251]) (h := 15) (x := 4) (show z_pt 306 5 = some (5, .invokevirtual 118, [0, 116, 2, 5056, 5057, 5058, 1001, 5059]) by decide +kernel) rfl (show z_r2 116 = some (9, 3, true) by decide +kernel) rfl rfl (Or.inr ⟨_, _, rfl, (show z_ci 0 9 = true by decide +kernel)⟩) (pG_forget_run h1) (by decide) (show z_hx 306 5 1 = some (15, 4) by decide +kernel) (by omega) rfl ?_
      refine L_const (pc := 15) (pc' := 16) (v := 1) (show z_ptc 306 15 = some (16, 1) by decide +kernel) ?_
      exact L_retI (show z_pt 306 16 = some (5, .ireturn, []) by decide +kernel) (by decide +kernel) ⟨rfl, rfl, rfl⟩
    | 1, hn =>
      obtain rfl : 3 = E := Option.some.inj hn
      refine ⟨a, q, fun h => absurd h (by decide), ?_⟩
      refine L_pure (pc := 0) (pc' := 1) (st' := [.ref 251]) (show z_pt 306 0 = some (5, .aload_n 3, []) by decide +kernel) rfl (fun _ _ => rfl) ?_
      refine L_const (pc := 1) (pc' := 2) (v := 0) (show z_ptc 306 1 = some (2, 0) by decide +kernel) ?_
      refine L_pure (pc := 2) (pc' := 3) (st' := [.ref 0, .int 0, .ref 251]) (show z_pt 306 2 = some (5, .aload_n 0, []) by decide +kernel) rfl (fun _ _ => rfl) ?_
      refine L_pure (pc := 3) (pc' := 4) (st' := [.int c1, .ref 0, .int 0, .ref 251]) (show z_pt 306 3 = some (5, .iload_n 1, []) by decide +kernel) rfl (fun _ _ => rfl) ?_
      refine L_pure (pc := 4) (pc' := 5) (st' := [.int c2, .int c1, .ref 0, .int 0, .ref 251]) (show z_pt 306 4 = some (5, .iload_n 2, []) by decide +kernel) rfl (fun _ _ => rfl) ?_
      refine L_callX (pc := 5) (rr := [.int 0, .ref 251]) (h := 19) (x := 4) (show z_pt 306 5 = some (5, .invokevirtual 118, [0, 116, 2, 5056, 5057, 5058, 1001, 5059]) by decide +kernel) rfl (show z_r2 116 = some (9, 3, true) by decide +kernel) rfl rfl (Or.inr ⟨_, _, rfl, (show z_ci 0 9 = true by decide +kernel)⟩) (pG_forget_run h1) (by decide) (show z_hx 306 5 3 = some (19, 4) by decide +kernel) (by omega) rfl ?_
      refine L_const (pc := 19) (pc' := 20) (v := 2) (show z_ptc 306 19 = some (20, 2) by decide +kernel) ?_
      exact L_retI (show z_pt 306 20 = some (5, .ireturn, []) by decide +kernel) (by decide +kernel) ⟨rfl, rfl, rfl⟩
    | n + 2, hn => cases hn
theorem pL_isCatalogued {sc : Nat × (Nat → Int32)} {μ : z_Mem} {a : Nat → Int64} {q : Nat → UInt64} {c1 c2 : Int32} {r : Int32 ⊕ Nat} {b : Int32} {t : Int32} (h1 : pG_isCatalogued μ c1 c2 = some r) (hag : z_agI [1] r b t) : ∃ (a1 : Nat → Int64) (q1 : Nat → UInt64), (t = 0 → a1 0 = (if b = 0 then Int64.ofNat 0 else Int64.ofNat 1)) ∧ Rl sc 8 307 0 [(0, .ref 0), (1, .int c1), (2, .int c2), (3, .ref 251)] [] μ a q (.inl (some (.int t))) (z_PE μ a1 q1) 1 := by
  cases r with
  | inl v =>
    obtain ⟨ht, hv⟩ := hag
    subst ht
    subst hv
    by_cases hb0 : v = 0
    · refine ⟨vp_updL a 0 (Int64.ofNat 0), q, fun _ => (by rw [if_pos hb0]; rfl), ?_⟩
      refine L_pure (pc := 0) (pc' := 1) (st' := [.ref 251]) (show z_pt 307 0 = some (5, .aload_n 3, []) by decide +kernel) rfl (fun _ _ => rfl) ?_
      refine L_const (pc := 1) (pc' := 2) (v := 0) (show z_ptc 307 1 = some (2, 0) by decide +kernel) ?_
      refine L_pure (pc := 2) (pc' := 3) (st' := [.ref 0, .int 0, .ref 251]) (show z_pt 307 2 = some (5, .aload_n 0, []) by decide +kernel) rfl (fun _ _ => rfl) ?_
      refine L_pure (pc := 3) (pc' := 4) (st' := [.int c1, .ref 0, .int 0, .ref 251]) (show z_pt 307 3 = some (5, .iload_n 1, []) by decide +kernel) rfl (fun _ _ => rfl) ?_
      refine L_pure (pc := 4) (pc' := 5) (st' := [.int c2, .int c1, .ref 0, .int 0, .ref 251]) (show z_pt 307 4 = some (5, .iload_n 2, []) by decide +kernel) rfl (fun _ _ => rfl) ?_
      refine L_call (pc := 5) (rr := [.int 0, .ref 251]) (show z_pt 307 5 = some (5, .invokevirtual 121, [0, 117, 2, 5071, 5072, 5073, 1001, 5074]) by decide +kernel) rfl (show z_r2 117 = some (9, 3, true) by decide +kernel) rfl rfl (Or.inr ⟨_, _, rfl, (show z_ci 0 9 = true by decide +kernel)⟩) (pG_isCatalogued_run h1) (by omega) ?_
      refine L_ifT (pc := 8) (t := 15) (show z_pt 307 8 = some (5, .ifCond .eq 7, []) by decide +kernel) (by decide) (decide_eq_true hb0) ?_
      refine L_pure (pc := 15) (pc' := 16) (st' := [.long (Int64.ofNat 0), .int 0, .ref 251]) (show z_pt 307 15 = some (5, .lconst 0, []) by decide +kernel) rfl (fun _ _ => rfl) ?_
      refine L_last (pc := 16) (show z_pt 307 16 = some (5, .lastore, []) by decide +kernel) ?_
      refine L_pure (pc := 17) (pc' := 24) (show z_pt 307 17 = some (5, .goto 7, []) by decide +kernel) rfl (fun _ _ => rfl) ?_
      refine L_const (pc := 24) (pc' := 25) (v := 0) (show z_ptc 307 24 = some (25, 0) by decide +kernel) ?_
      exact L_retI (show z_pt 307 25 = some (5, .ireturn, []) by decide +kernel) (by decide +kernel) ⟨rfl, rfl, rfl⟩
    · refine ⟨vp_updL a 0 (Int64.ofNat 1), q, fun _ => (by rw [if_neg hb0]; rfl), ?_⟩
      refine L_pure (pc := 0) (pc' := 1) (st' := [.ref 251]) (show z_pt 307 0 = some (5, .aload_n 3, []) by decide +kernel) rfl (fun _ _ => rfl) ?_
      refine L_const (pc := 1) (pc' := 2) (v := 0) (show z_ptc 307 1 = some (2, 0) by decide +kernel) ?_
      refine L_pure (pc := 2) (pc' := 3) (st' := [.ref 0, .int 0, .ref 251]) (show z_pt 307 2 = some (5, .aload_n 0, []) by decide +kernel) rfl (fun _ _ => rfl) ?_
      refine L_pure (pc := 3) (pc' := 4) (st' := [.int c1, .ref 0, .int 0, .ref 251]) (show z_pt 307 3 = some (5, .iload_n 1, []) by decide +kernel) rfl (fun _ _ => rfl) ?_
      refine L_pure (pc := 4) (pc' := 5) (st' := [.int c2, .int c1, .ref 0, .int 0, .ref 251]) (show z_pt 307 4 = some (5, .iload_n 2, []) by decide +kernel) rfl (fun _ _ => rfl) ?_
      refine L_call (pc := 5) (rr := [.int 0, .ref 251]) (show z_pt 307 5 = some (5, .invokevirtual 121, [0, 117, 2, 5071, 5072, 5073, 1001, 5074]) by decide +kernel) rfl (show z_r2 117 = some (9, 3, true) by decide +kernel) rfl rfl (Or.inr ⟨_, _, rfl, (show z_ci 0 9 = true by decide +kernel)⟩) (pG_isCatalogued_run h1) (by omega) ?_
      refine L_ifF (pc := 8) (t := 15) (show z_pt 307 8 = some (5, .ifCond .eq 7, []) by decide +kernel) (by decide) (decide_eq_false hb0) ?_
      refine L_pure (pc := 11) (pc' := 12) (st' := [.long (Int64.ofNat 1), .int 0, .ref 251]) (show z_pt 307 11 = some (5, .lconst 1, []) by decide +kernel) rfl (fun _ _ => rfl) ?_
      refine L_pure (pc := 12) (pc' := 16) (show z_pt 307 12 = some (5, .goto 4, []) by decide +kernel) rfl (fun _ _ => rfl) ?_
      refine L_last (pc := 16) (show z_pt 307 16 = some (5, .lastore, []) by decide +kernel) ?_
      refine L_pure (pc := 17) (pc' := 24) (show z_pt 307 17 = some (5, .goto 7, []) by decide +kernel) rfl (fun _ _ => rfl) ?_
      refine L_const (pc := 24) (pc' := 25) (v := 0) (show z_ptc 307 24 = some (25, 0) by decide +kernel) ?_
      exact L_retI (show z_pt 307 25 = some (5, .ireturn, []) by decide +kernel) (by decide +kernel) ⟨rfl, rfl, rfl⟩
  | inr E =>
    obtain ⟨n, hn, rfl⟩ := hag
    match n, hn with
    | 0, hn =>
      obtain rfl : 1 = E := Option.some.inj hn
      refine ⟨a, q, fun h => absurd h (by decide), ?_⟩
      refine L_pure (pc := 0) (pc' := 1) (st' := [.ref 251]) (show z_pt 307 0 = some (5, .aload_n 3, []) by decide +kernel) rfl (fun _ _ => rfl) ?_
      refine L_const (pc := 1) (pc' := 2) (v := 0) (show z_ptc 307 1 = some (2, 0) by decide +kernel) ?_
      refine L_pure (pc := 2) (pc' := 3) (st' := [.ref 0, .int 0, .ref 251]) (show z_pt 307 2 = some (5, .aload_n 0, []) by decide +kernel) rfl (fun _ _ => rfl) ?_
      refine L_pure (pc := 3) (pc' := 4) (st' := [.int c1, .ref 0, .int 0, .ref 251]) (show z_pt 307 3 = some (5, .iload_n 1, []) by decide +kernel) rfl (fun _ _ => rfl) ?_
      refine L_pure (pc := 4) (pc' := 5) (st' := [.int c2, .int c1, .ref 0, .int 0, .ref 251]) (show z_pt 307 4 = some (5, .iload_n 2, []) by decide +kernel) rfl (fun _ _ => rfl) ?_
      refine L_callX (pc := 5) (rr := [.int 0, .ref 251]) (h := 22) (x := 4) (show z_pt 307 5 = some (5, .invokevirtual 121, [0, 117, 2, 5071, 5072, 5073, 1001, 5074]) by decide +kernel) rfl (show z_r2 117 = some (9, 3, true) by decide +kernel) rfl rfl (Or.inr ⟨_, _, rfl, (show z_ci 0 9 = true by decide +kernel)⟩) (pG_isCatalogued_run h1) (by decide) (show z_hx 307 5 1 = some (22, 4) by decide +kernel) (by omega) rfl ?_
      refine L_const (pc := 22) (pc' := 23) (v := 1) (show z_ptc 307 22 = some (23, 1) by decide +kernel) ?_
      exact L_retI (show z_pt 307 23 = some (5, .ireturn, []) by decide +kernel) (by decide +kernel) ⟨rfl, rfl, rfl⟩
    | n + 1, hn => cases hn
theorem pL_entryPosition {sc : Nat × (Nat → Int32)} {μ : z_Mem} {a : Nat → Int64} {q : Nat → UInt64} {c1 c2 c3 : Int32} {r : Int32 ⊕ Nat} {b : Int32} {t : Int32} (h1 : pG_entryPosition μ c1 c2 c3 = some r) (hag : z_agI [1, 3] r b t) : ∃ (a1 : Nat → Int64) (q1 : Nat → UInt64), (t = 0 → a1 0 = Int32.toInt64 b) ∧ Rl sc 9 308 0 [(0, .ref 0), (1, .int c1), (2, .int c2), (3, .int c3), (4, .ref 251)] [] μ a q (.inl (some (.int t))) (z_PE μ a1 q1) 1 := by
  cases r with
  | inl v =>
    obtain ⟨ht, hv⟩ := hag
    subst ht
    subst hv
    refine ⟨vp_updL a 0 (Int32.toInt64 v), q, fun _ => rfl, ?_⟩
    refine L_pure (pc := 0) (pc' := 2) (st' := [.ref 251]) (show z_pt 308 0 = some (6, .aload 4, []) by decide +kernel) rfl (fun _ _ => rfl) ?_
    refine L_const (pc := 2) (pc' := 3) (v := 0) (show z_ptc 308 2 = some (3, 0) by decide +kernel) ?_
    refine L_pure (pc := 3) (pc' := 4) (st' := [.ref 0, .int 0, .ref 251]) (show z_pt 308 3 = some (6, .aload_n 0, []) by decide +kernel) rfl (fun _ _ => rfl) ?_
    refine L_pure (pc := 4) (pc' := 5) (st' := [.int c1, .ref 0, .int 0, .ref 251]) (show z_pt 308 4 = some (6, .iload_n 1, []) by decide +kernel) rfl (fun _ _ => rfl) ?_
    refine L_pure (pc := 5) (pc' := 6) (st' := [.int c2, .int c1, .ref 0, .int 0, .ref 251]) (show z_pt 308 5 = some (6, .iload_n 2, []) by decide +kernel) rfl (fun _ _ => rfl) ?_
    refine L_pure (pc := 6) (pc' := 7) (st' := [.int c3, .int c2, .int c1, .ref 0, .int 0, .ref 251]) (show z_pt 308 6 = some (6, .iload_n 3, []) by decide +kernel) rfl (fun _ _ => rfl) ?_
    refine L_call (pc := 7) (rr := [.int 0, .ref 251]) (show z_pt 308 7 = some (6, .invokevirtual 125, [0, 118, 3, 5081, 5082, 5083, 1001, 5084]) by decide +kernel) rfl (show z_r2 118 = some (9, 5, true) by decide +kernel) rfl rfl (Or.inr ⟨_, _, rfl, (show z_ci 0 9 = true by decide +kernel)⟩) (pG_entryPosition_run h1) (by omega) ?_
    refine L_pure (pc := 10) (pc' := 11) (st' := [.long (Int32.toInt64 v), .int 0, .ref 251]) (show z_pt 308 10 = some (6, .i2l, []) by decide +kernel) rfl (fun _ _ => rfl) ?_
    refine L_last (pc := 11) (show z_pt 308 11 = some (6, .lastore, []) by decide +kernel) ?_
    refine L_pure (pc := 12) (pc' := 23) (show z_pt 308 12 = some (6, .goto 11, []) by decide +kernel) rfl (fun _ _ => rfl) ?_
    refine L_const (pc := 23) (pc' := 24) (v := 0) (show z_ptc 308 23 = some (24, 0) by decide +kernel) ?_
    exact L_retI (show z_pt 308 24 = some (6, .ireturn, []) by decide +kernel) (by decide +kernel) ⟨rfl, rfl, rfl⟩
  | inr E =>
    obtain ⟨n, hn, rfl⟩ := hag
    match n, hn with
    | 0, hn =>
      obtain rfl : 1 = E := Option.some.inj hn
      refine ⟨a, q, fun h => absurd h (by decide), ?_⟩
      refine L_pure (pc := 0) (pc' := 2) (st' := [.ref 251]) (show z_pt 308 0 = some (6, .aload 4, []) by decide +kernel) rfl (fun _ _ => rfl) ?_
      refine L_const (pc := 2) (pc' := 3) (v := 0) (show z_ptc 308 2 = some (3, 0) by decide +kernel) ?_
      refine L_pure (pc := 3) (pc' := 4) (st' := [.ref 0, .int 0, .ref 251]) (show z_pt 308 3 = some (6, .aload_n 0, []) by decide +kernel) rfl (fun _ _ => rfl) ?_
      refine L_pure (pc := 4) (pc' := 5) (st' := [.int c1, .ref 0, .int 0, .ref 251]) (show z_pt 308 4 = some (6, .iload_n 1, []) by decide +kernel) rfl (fun _ _ => rfl) ?_
      refine L_pure (pc := 5) (pc' := 6) (st' := [.int c2, .int c1, .ref 0, .int 0, .ref 251]) (show z_pt 308 5 = some (6, .iload_n 2, []) by decide +kernel) rfl (fun _ _ => rfl) ?_
      refine L_pure (pc := 6) (pc' := 7) (st' := [.int c3, .int c2, .int c1, .ref 0, .int 0, .ref 251]) (show z_pt 308 6 = some (6, .iload_n 3, []) by decide +kernel) rfl (fun _ _ => rfl) ?_
      refine L_callX (pc := 7) (rr := [.int 0, .ref 251]) (h := 17) (x := 5) (show z_pt 308 7 = some (6, .invokevirtual 125, [0, 118, 3, 5081, 5082, 5083, 1001, 5084]) by decide +kernel) rfl (show z_r2 118 = some (9, 5, true) by decide +kernel) rfl rfl (Or.inr ⟨_, _, rfl, (show z_ci 0 9 = true by decide +kernel)⟩) (pG_entryPosition_run h1) (by decide) (show z_hx 308 7 1 = some (17, 5) by decide +kernel) (by omega) rfl ?_
      refine L_const (pc := 17) (pc' := 18) (v := 1) (show z_ptc 308 17 = some (18, 1) by decide +kernel) ?_
      exact L_retI (show z_pt 308 18 = some (6, .ireturn, []) by decide +kernel) (by decide +kernel) ⟨rfl, rfl, rfl⟩
    | 1, hn =>
      obtain rfl : 3 = E := Option.some.inj hn
      refine ⟨a, q, fun h => absurd h (by decide), ?_⟩
      refine L_pure (pc := 0) (pc' := 2) (st' := [.ref 251]) (show z_pt 308 0 = some (6, .aload 4, []) by decide +kernel) rfl (fun _ _ => rfl) ?_
      refine L_const (pc := 2) (pc' := 3) (v := 0) (show z_ptc 308 2 = some (3, 0) by decide +kernel) ?_
      refine L_pure (pc := 3) (pc' := 4) (st' := [.ref 0, .int 0, .ref 251]) (show z_pt 308 3 = some (6, .aload_n 0, []) by decide +kernel) rfl (fun _ _ => rfl) ?_
      refine L_pure (pc := 4) (pc' := 5) (st' := [.int c1, .ref 0, .int 0, .ref 251]) (show z_pt 308 4 = some (6, .iload_n 1, []) by decide +kernel) rfl (fun _ _ => rfl) ?_
      refine L_pure (pc := 5) (pc' := 6) (st' := [.int c2, .int c1, .ref 0, .int 0, .ref 251]) (show z_pt 308 5 = some (6, .iload_n 2, []) by decide +kernel) rfl (fun _ _ => rfl) ?_
      refine L_pure (pc := 6) (pc' := 7) (st' := [.int c3, .int c2, .int c1, .ref 0, .int 0, .ref 251]) (show z_pt 308 6 = some (6, .iload_n 3, []) by decide +kernel) rfl (fun _ _ => rfl) ?_
      refine L_callX (pc := 7) (rr := [.int 0, .ref 251]) (h := 21) (x := 5) (show z_pt 308 7 = some (6, .invokevirtual 125, [0, 118, 3, 5081, 5082, 5083, 1001, 5084]) by decide +kernel) rfl (show z_r2 118 = some (9, 5, true) by decide +kernel) rfl rfl (Or.inr ⟨_, _, rfl, (show z_ci 0 9 = true by decide +kernel)⟩) (pG_entryPosition_run h1) (by decide) (show z_hx 308 7 3 = some (21, 5) by decide +kernel) (by omega) rfl ?_
      refine L_const (pc := 21) (pc' := 22) (v := 2) (show z_ptc 308 21 = some (22, 2) by decide +kernel) ?_
      exact L_retI (show z_pt 308 22 = some (6, .ireturn, []) by decide +kernel) (by decide +kernel) ⟨rfl, rfl, rfl⟩
    | n + 2, hn => cases hn
theorem pL_changedSince {sc : Nat × (Nat → Int32)} {μ : z_Mem} {a : Nat → Int64} {q : Nat → UInt64} {c1 c2 : Int32} {r : Int32 ⊕ Nat} {b : Int32} {t : Int32} (h1 : pG_changedSince μ c1 c2 = some r) (hag : z_agI [1, 3] r b t) : ∃ (a1 : Nat → Int64) (q1 : Nat → UInt64), (t = 0 → a1 0 = Int32.toInt64 b) ∧ Rl sc 9 309 0 [(0, .ref 0), (1, .int c1), (2, .int c2), (3, .ref 251)] [] μ a q (.inl (some (.int t))) (z_PE μ a1 q1) 1 := by
  cases r with
  | inl v =>
    obtain ⟨ht, hv⟩ := hag
    subst ht
    subst hv
    refine ⟨vp_updL a 0 (Int32.toInt64 v), q, fun _ => rfl, ?_⟩
    refine L_pure (pc := 0) (pc' := 1) (st' := [.ref 251]) (show z_pt 309 0 = some (5, .aload_n 3, []) by decide +kernel) rfl (fun _ _ => rfl) ?_
    refine L_const (pc := 1) (pc' := 2) (v := 0) (show z_ptc 309 1 = some (2, 0) by decide +kernel) ?_
    refine L_pure (pc := 2) (pc' := 3) (st' := [.ref 0, .int 0, .ref 251]) (show z_pt 309 2 = some (5, .aload_n 0, []) by decide +kernel) rfl (fun _ _ => rfl) ?_
    refine L_pure (pc := 3) (pc' := 4) (st' := [.int c1, .ref 0, .int 0, .ref 251]) (show z_pt 309 3 = some (5, .iload_n 1, []) by decide +kernel) rfl (fun _ _ => rfl) ?_
    refine L_pure (pc := 4) (pc' := 5) (st' := [.int c2, .int c1, .ref 0, .int 0, .ref 251]) (show z_pt 309 4 = some (5, .iload_n 2, []) by decide +kernel) rfl (fun _ _ => rfl) ?_
    refine L_call (pc := 5) (rr := [.int 0, .ref 251]) (show z_pt 309 5 = some (5, .invokevirtual 129, [0, 119, 2, 5096, 5097, 5098, 1001, 5099]) by decide +kernel) rfl (show z_r2 119 = some (9, 3, true) by decide +kernel) rfl rfl (Or.inr ⟨_, _, rfl, (show z_ci 0 9 = true by decide +kernel)⟩) (pG_changedSince_run h1) (by omega) ?_
    refine L_pure (pc := 8) (pc' := 9) (st' := [.long (Int32.toInt64 v), .int 0, .ref 251]) (show z_pt 309 8 = some (5, .i2l, []) by decide +kernel) rfl (fun _ _ => rfl) ?_
    refine L_last (pc := 9) (show z_pt 309 9 = some (5, .lastore, []) by decide +kernel) ?_
    refine L_pure (pc := 10) (pc' := 21) (show z_pt 309 10 = some (5, .goto 11, []) by decide +kernel) rfl (fun _ _ => rfl) ?_
    refine L_const (pc := 21) (pc' := 22) (v := 0) (show z_ptc 309 21 = some (22, 0) by decide +kernel) ?_
    exact L_retI (show z_pt 309 22 = some (5, .ireturn, []) by decide +kernel) (by decide +kernel) ⟨rfl, rfl, rfl⟩
  | inr E =>
    obtain ⟨n, hn, rfl⟩ := hag
    match n, hn with
    | 0, hn =>
      obtain rfl : 1 = E := Option.some.inj hn
      refine ⟨a, q, fun h => absurd h (by decide), ?_⟩
      refine L_pure (pc := 0) (pc' := 1) (st' := [.ref 251]) (show z_pt 309 0 = some (5, .aload_n 3, []) by decide +kernel) rfl (fun _ _ => rfl) ?_
      refine L_const (pc := 1) (pc' := 2) (v := 0) (show z_ptc 309 1 = some (2, 0) by decide +kernel) ?_
      refine L_pure (pc := 2) (pc' := 3) (st' := [.ref 0, .int 0, .ref 251]) (show z_pt 309 2 = some (5, .aload_n 0, []) by decide +kernel) rfl (fun _ _ => rfl) ?_
      refine L_pure (pc := 3) (pc' := 4) (st' := [.int c1, .ref 0, .int 0, .ref 251]) (show z_pt 309 3 = some (5, .iload_n 1, []) by decide +kernel) rfl (fun _ _ => rfl) ?_
      refine L_pure (pc := 4) (pc' := 5) (st' := [.int c2, .int c1, .ref 0, .int 0, .ref 251]) (show z_pt 309 4 = some (5, .iload_n 2, []) by decide +kernel) rfl (fun _ _ => rfl) ?_
      refine L_callX (pc := 5) (rr := [.int 0, .ref 251]) (h := 15) (x := 4) (show z_pt 309 5 = some (5, .invokevirtual 129, [0, 119, 2, 5096, 5097, 5098, 1001, 5099]) by decide +kernel) rfl (show z_r2 119 = some (9, 3, true) by decide +kernel) rfl rfl (Or.inr ⟨_, _, rfl, (show z_ci 0 9 = true by decide +kernel)⟩) (pG_changedSince_run h1) (by decide) (show z_hx 309 5 1 = some (15, 4) by decide +kernel) (by omega) rfl ?_
      refine L_const (pc := 15) (pc' := 16) (v := 1) (show z_ptc 309 15 = some (16, 1) by decide +kernel) ?_
      exact L_retI (show z_pt 309 16 = some (5, .ireturn, []) by decide +kernel) (by decide +kernel) ⟨rfl, rfl, rfl⟩
    | 1, hn =>
      obtain rfl : 3 = E := Option.some.inj hn
      refine ⟨a, q, fun h => absurd h (by decide), ?_⟩
      refine L_pure (pc := 0) (pc' := 1) (st' := [.ref 251]) (show z_pt 309 0 = some (5, .aload_n 3, []) by decide +kernel) rfl (fun _ _ => rfl) ?_
      refine L_const (pc := 1) (pc' := 2) (v := 0) (show z_ptc 309 1 = some (2, 0) by decide +kernel) ?_
      refine L_pure (pc := 2) (pc' := 3) (st' := [.ref 0, .int 0, .ref 251]) (show z_pt 309 2 = some (5, .aload_n 0, []) by decide +kernel) rfl (fun _ _ => rfl) ?_
      refine L_pure (pc := 3) (pc' := 4) (st' := [.int c1, .ref 0, .int 0, .ref 251]) (show z_pt 309 3 = some (5, .iload_n 1, []) by decide +kernel) rfl (fun _ _ => rfl) ?_
      refine L_pure (pc := 4) (pc' := 5) (st' := [.int c2, .int c1, .ref 0, .int 0, .ref 251]) (show z_pt 309 4 = some (5, .iload_n 2, []) by decide +kernel) rfl (fun _ _ => rfl) ?_
      refine L_callX (pc := 5) (rr := [.int 0, .ref 251]) (h := 19) (x := 4) (show z_pt 309 5 = some (5, .invokevirtual 129, [0, 119, 2, 5096, 5097, 5098, 1001, 5099]) by decide +kernel) rfl (show z_r2 119 = some (9, 3, true) by decide +kernel) rfl rfl (Or.inr ⟨_, _, rfl, (show z_ci 0 9 = true by decide +kernel)⟩) (pG_changedSince_run h1) (by decide) (show z_hx 309 5 3 = some (19, 4) by decide +kernel) (by omega) rfl ?_
      refine L_const (pc := 19) (pc' := 20) (v := 2) (show z_ptc 309 19 = some (20, 2) by decide +kernel) ?_
      exact L_retI (show z_pt 309 20 = some (5, .ireturn, []) by decide +kernel) (by decide +kernel) ⟨rfl, rfl, rfl⟩
    | n + 2, hn => cases hn
theorem pL_meanTeeth {sc : Nat × (Nat → Int32)} {μ : z_Mem} {a : Nat → Int64} {q : Nat → UInt64} {r : UInt64 ⊕ Nat} {b : UInt64} {t : Int32} (h1 : pG_meanTeeth μ = some r) (hag : z_agD [4] r b t) : ∃ (a1 : Nat → Int64) (q1 : Nat → UInt64), (t = 0 → q1 0 = b) ∧ Rl sc 7 310 0 [(0, .ref 0), (1, .ref 252)] [] μ a q (.inl (some (.int t))) (z_PE μ a1 q1) 1 := by
  cases r with
  | inl v =>
    obtain ⟨ht, hv⟩ := hag
    subst ht
    subst hv
    refine ⟨a, vf_upd q 0 v, fun _ => rfl, ?_⟩
    refine L_pure (pc := 0) (pc' := 1) (st' := [.ref 252]) (show z_pt 310 0 = some (3, .aload_n 1, []) by decide +kernel) rfl (fun _ _ => rfl) ?_
    refine L_const (pc := 1) (pc' := 2) (v := 0) (show z_ptc 310 1 = some (2, 0) by decide +kernel) ?_
    refine L_pure (pc := 2) (pc' := 3) (st' := [.ref 0, .int 0, .ref 252]) (show z_pt 310 2 = some (3, .aload_n 0, []) by decide +kernel) rfl (fun _ _ => rfl) ?_
    refine L_call (pc := 3) (rr := [.int 0, .ref 252]) (show z_pt 310 3 = some (3, .invokevirtual 132, [0, 120, 0, 5122, 5123, 5124, 1001, 5125]) by decide +kernel) rfl (show z_r2 120 = some (9, 4, true) by decide +kernel) rfl rfl (Or.inr ⟨_, _, rfl, (show z_ci 0 9 = true by decide +kernel)⟩) (pG_meanTeeth_run h1) (by omega) ?_
    refine L_dast (pc := 6) (show z_pt 310 6 = some (3, .dastore, []) by decide +kernel) ?_
    refine L_pure (pc := 7) (pc' := 13) (show z_pt 310 7 = some (3, .goto 6, []) by decide +kernel) rfl (fun _ _ => rfl) ?_
    refine L_const (pc := 13) (pc' := 14) (v := 0) (show z_ptc 310 13 = some (14, 0) by decide +kernel) ?_
    exact L_retI (show z_pt 310 14 = some (3, .ireturn, []) by decide +kernel) (by decide +kernel) ⟨rfl, rfl, rfl⟩
  | inr E =>
    obtain ⟨n, hn, rfl⟩ := hag
    match n, hn with
    | 0, hn =>
      obtain rfl : 4 = E := Option.some.inj hn
      refine ⟨a, q, fun h => absurd h (by decide), ?_⟩
      refine L_pure (pc := 0) (pc' := 1) (st' := [.ref 252]) (show z_pt 310 0 = some (3, .aload_n 1, []) by decide +kernel) rfl (fun _ _ => rfl) ?_
      refine L_const (pc := 1) (pc' := 2) (v := 0) (show z_ptc 310 1 = some (2, 0) by decide +kernel) ?_
      refine L_pure (pc := 2) (pc' := 3) (st' := [.ref 0, .int 0, .ref 252]) (show z_pt 310 2 = some (3, .aload_n 0, []) by decide +kernel) rfl (fun _ _ => rfl) ?_
      refine L_callX (pc := 3) (rr := [.int 0, .ref 252]) (h := 11) (x := 2) (show z_pt 310 3 = some (3, .invokevirtual 132, [0, 120, 0, 5122, 5123, 5124, 1001, 5125]) by decide +kernel) rfl (show z_r2 120 = some (9, 4, true) by decide +kernel) rfl rfl (Or.inr ⟨_, _, rfl, (show z_ci 0 9 = true by decide +kernel)⟩) (pG_meanTeeth_run h1) (by decide) (show z_hx 310 3 4 = some (11, 2) by decide +kernel) (by omega) rfl ?_
      refine L_const (pc := 11) (pc' := 12) (v := 1) (show z_ptc 310 11 = some (12, 1) by decide +kernel) ?_
      exact L_retI (show z_pt 310 12 = some (3, .ireturn, []) by decide +kernel) (by decide +kernel) ⟨rfl, rfl, rfl⟩
    | n + 1, hn => cases hn
theorem pL_alignedFraction {sc : Nat × (Nat → Int32)} {μ : z_Mem} {a : Nat → Int64} {q : Nat → UInt64} {c1 : Int32} {r : UInt32 ⊕ Nat} {b : UInt32} {t : Int32} (h1 : pG_alignedFraction μ c1 = some r) (hag : z_agF [1, 4] r b t) (hn64 : ∀ v, r = .inl v → z_n64 (FP.f2d v) = true) : ∃ (a1 : Nat → Int64) (q1 : Nat → UInt64), (t = 0 → q1 0 = FP.f2d b) ∧ Rl sc 7 311 0 [(0, .ref 0), (1, .int c1), (2, .ref 252)] [] μ a q (.inl (some (.int t))) (z_PE μ a1 q1) 1 := by
  cases r with
  | inl v =>
    obtain ⟨ht, hv⟩ := hag
    subst ht
    subst hv
    refine ⟨a, vf_upd q 0 (FP.f2d v), fun _ => rfl, ?_⟩
    have hn64 := hn64 _ rfl
    refine L_pure (pc := 0) (pc' := 1) (st' := [.ref 252]) (show z_pt 311 0 = some (4, .aload_n 2, []) by decide +kernel) rfl (fun _ _ => rfl) ?_
    refine L_const (pc := 1) (pc' := 2) (v := 0) (show z_ptc 311 1 = some (2, 0) by decide +kernel) ?_
    refine L_pure (pc := 2) (pc' := 3) (st' := [.ref 0, .int 0, .ref 252]) (show z_pt 311 2 = some (4, .aload_n 0, []) by decide +kernel) rfl (fun _ _ => rfl) ?_
    refine L_pure (pc := 3) (pc' := 4) (st' := [.int c1, .ref 0, .int 0, .ref 252]) (show z_pt 311 3 = some (4, .iload_n 1, []) by decide +kernel) rfl (fun _ _ => rfl) ?_
    refine L_call (pc := 4) (rr := [.int 0, .ref 252]) (show z_pt 311 4 = some (4, .invokevirtual 138, [0, 121, 1, 5134, 5135, 5136, 1001, 5137]) by decide +kernel) rfl (show z_r2 121 = some (9, 5, true) by decide +kernel) rfl rfl (Or.inr ⟨_, _, rfl, (show z_ci 0 9 = true by decide +kernel)⟩) (pG_alignedFraction_run h1) (by omega) ?_
    refine L_f2d (pc := 7) (show z_pt 311 7 = some (4, .f2d, []) by decide +kernel) hn64 ?_
    refine L_dast (pc := 8) (show z_pt 311 8 = some (4, .dastore, []) by decide +kernel) ?_
    refine L_pure (pc := 9) (pc' := 18) (show z_pt 311 9 = some (4, .goto 9, []) by decide +kernel) rfl (fun _ _ => rfl) ?_
    refine L_const (pc := 18) (pc' := 19) (v := 0) (show z_ptc 311 18 = some (19, 0) by decide +kernel) ?_
    exact L_retI (show z_pt 311 19 = some (4, .ireturn, []) by decide +kernel) (by decide +kernel) ⟨rfl, rfl, rfl⟩
  | inr E =>
    obtain ⟨n, hn, rfl⟩ := hag
    match n, hn with
    | 0, hn =>
      obtain rfl : 1 = E := Option.some.inj hn
      refine ⟨a, q, fun h => absurd h (by decide), ?_⟩
      refine L_pure (pc := 0) (pc' := 1) (st' := [.ref 252]) (show z_pt 311 0 = some (4, .aload_n 2, []) by decide +kernel) rfl (fun _ _ => rfl) ?_
      refine L_const (pc := 1) (pc' := 2) (v := 0) (show z_ptc 311 1 = some (2, 0) by decide +kernel) ?_
      refine L_pure (pc := 2) (pc' := 3) (st' := [.ref 0, .int 0, .ref 252]) (show z_pt 311 2 = some (4, .aload_n 0, []) by decide +kernel) rfl (fun _ _ => rfl) ?_
      refine L_pure (pc := 3) (pc' := 4) (st' := [.int c1, .ref 0, .int 0, .ref 252]) (show z_pt 311 3 = some (4, .iload_n 1, []) by decide +kernel) rfl (fun _ _ => rfl) ?_
      refine L_callX (pc := 4) (rr := [.int 0, .ref 252]) (h := 13) (x := 3) (show z_pt 311 4 = some (4, .invokevirtual 138, [0, 121, 1, 5134, 5135, 5136, 1001, 5137]) by decide +kernel) rfl (show z_r2 121 = some (9, 5, true) by decide +kernel) rfl rfl (Or.inr ⟨_, _, rfl, (show z_ci 0 9 = true by decide +kernel)⟩) (pG_alignedFraction_run h1) (by decide) (show z_hx 311 4 1 = some (13, 3) by decide +kernel) (by omega) rfl ?_
      refine L_const (pc := 13) (pc' := 14) (v := 1) (show z_ptc 311 13 = some (14, 1) by decide +kernel) ?_
      exact L_retI (show z_pt 311 14 = some (4, .ireturn, []) by decide +kernel) (by decide +kernel) ⟨rfl, rfl, rfl⟩
    | 1, hn =>
      obtain rfl : 4 = E := Option.some.inj hn
      refine ⟨a, q, fun h => absurd h (by decide), ?_⟩
      refine L_pure (pc := 0) (pc' := 1) (st' := [.ref 252]) (show z_pt 311 0 = some (4, .aload_n 2, []) by decide +kernel) rfl (fun _ _ => rfl) ?_
      refine L_const (pc := 1) (pc' := 2) (v := 0) (show z_ptc 311 1 = some (2, 0) by decide +kernel) ?_
      refine L_pure (pc := 2) (pc' := 3) (st' := [.ref 0, .int 0, .ref 252]) (show z_pt 311 2 = some (4, .aload_n 0, []) by decide +kernel) rfl (fun _ _ => rfl) ?_
      refine L_pure (pc := 3) (pc' := 4) (st' := [.int c1, .ref 0, .int 0, .ref 252]) (show z_pt 311 3 = some (4, .iload_n 1, []) by decide +kernel) rfl (fun _ _ => rfl) ?_
      refine L_callX (pc := 4) (rr := [.int 0, .ref 252]) (h := 16) (x := 3) (show z_pt 311 4 = some (4, .invokevirtual 138, [0, 121, 1, 5134, 5135, 5136, 1001, 5137]) by decide +kernel) rfl (show z_r2 121 = some (9, 5, true) by decide +kernel) rfl rfl (Or.inr ⟨_, _, rfl, (show z_ci 0 9 = true by decide +kernel)⟩) (pG_alignedFraction_run h1) (by decide) (show z_hx 311 4 4 = some (16, 3) by decide +kernel) (by omega) rfl ?_
      refine L_const (pc := 16) (pc' := 17) (v := 2) (show z_ptc 311 16 = some (17, 2) by decide +kernel) ?_
      exact L_retI (show z_pt 311 17 = some (4, .ireturn, []) by decide +kernel) (by decide +kernel) ⟨rfl, rfl, rfl⟩
    | n + 2, hn => cases hn
theorem pL_writeGear {sc : Nat × (Nat → Int32)} {μ μ1 : z_Mem} {a : Nat → Int64} {q : Nat → UInt64} {c1 : Int32} {r : Int32 ⊕ Nat} {b : Int32} {t : Int32} (h1 : pG_writeGear μ c1 = some (r, μ1)) (hag : z_agI [0] r b t) : ∃ (a1 : Nat → Int64) (q1 : Nat → UInt64), (t = 0 → a1 0 = Int32.toInt64 b) ∧ Rl sc 8 312 0 [(0, .ref 0), (1, .int c1), (2, .ref 251)] [] μ a q (.inl (some (.int t))) (z_PE μ1 a1 q1) 1 := by
  cases r with
  | inl v =>
    obtain ⟨ht, hv⟩ := hag
    subst ht
    subst hv
    refine ⟨vp_updL a 0 (Int32.toInt64 v), q, fun _ => rfl, ?_⟩
    refine L_pure (pc := 0) (pc' := 1) (st' := [.ref 251]) (show z_pt 312 0 = some (4, .aload_n 2, []) by decide +kernel) rfl (fun _ _ => rfl) ?_
    refine L_const (pc := 1) (pc' := 2) (v := 0) (show z_ptc 312 1 = some (2, 0) by decide +kernel) ?_
    refine L_pure (pc := 2) (pc' := 3) (st' := [.ref 0, .int 0, .ref 251]) (show z_pt 312 2 = some (4, .aload_n 0, []) by decide +kernel) rfl (fun _ _ => rfl) ?_
    refine L_pure (pc := 3) (pc' := 4) (st' := [.int c1, .ref 0, .int 0, .ref 251]) (show z_pt 312 3 = some (4, .iload_n 1, []) by decide +kernel) rfl (fun _ _ => rfl) ?_
    refine L_call (pc := 4) (rr := [.int 0, .ref 251]) (show z_pt 312 4 = some (4, .invokevirtual 142, [0, 122, 1, 5145, 5146, 5147, 1001, 5148]) by decide +kernel) rfl (show z_r2 122 = some (9, 5, true) by decide +kernel) rfl rfl (Or.inr ⟨_, _, rfl, (show z_ci 0 9 = true by decide +kernel)⟩) (pG_writeGear_run h1) (by omega) ?_
    refine L_pure (pc := 7) (pc' := 8) (st' := [.long (Int32.toInt64 v), .int 0, .ref 251]) (show z_pt 312 7 = some (4, .i2l, []) by decide +kernel) rfl (fun _ _ => rfl) ?_
    refine L_last (pc := 8) (show z_pt 312 8 = some (4, .lastore, []) by decide +kernel) ?_
    refine L_pure (pc := 9) (pc' := 15) (show z_pt 312 9 = some (4, .goto 6, []) by decide +kernel) rfl (fun _ _ => rfl) ?_
    refine L_const (pc := 15) (pc' := 16) (v := 0) (show z_ptc 312 15 = some (16, 0) by decide +kernel) ?_
    exact L_retI (show z_pt 312 16 = some (4, .ireturn, []) by decide +kernel) (by decide +kernel) ⟨rfl, rfl, rfl⟩
  | inr E =>
    obtain ⟨n, hn, rfl⟩ := hag
    match n, hn with
    | 0, hn =>
      obtain rfl : 0 = E := Option.some.inj hn
      refine ⟨a, q, fun h => absurd h (by decide), ?_⟩
      refine L_pure (pc := 0) (pc' := 1) (st' := [.ref 251]) (show z_pt 312 0 = some (4, .aload_n 2, []) by decide +kernel) rfl (fun _ _ => rfl) ?_
      refine L_const (pc := 1) (pc' := 2) (v := 0) (show z_ptc 312 1 = some (2, 0) by decide +kernel) ?_
      refine L_pure (pc := 2) (pc' := 3) (st' := [.ref 0, .int 0, .ref 251]) (show z_pt 312 2 = some (4, .aload_n 0, []) by decide +kernel) rfl (fun _ _ => rfl) ?_
      refine L_pure (pc := 3) (pc' := 4) (st' := [.int c1, .ref 0, .int 0, .ref 251]) (show z_pt 312 3 = some (4, .iload_n 1, []) by decide +kernel) rfl (fun _ _ => rfl) ?_
      refine L_callX (pc := 4) (rr := [.int 0, .ref 251]) (h := 13) (x := 3) (show z_pt 312 4 = some (4, .invokevirtual 142, [0, 122, 1, 5145, 5146, 5147, 1001, 5148]) by decide +kernel) rfl (show z_r2 122 = some (9, 5, true) by decide +kernel) rfl rfl (Or.inr ⟨_, _, rfl, (show z_ci 0 9 = true by decide +kernel)⟩) (pG_writeGear_run h1) (by decide) (show z_hx 312 4 0 = some (13, 3) by decide +kernel) (by omega) rfl ?_
      refine L_const (pc := 13) (pc' := 14) (v := 1) (show z_ptc 312 13 = some (14, 1) by decide +kernel) ?_
      exact L_retI (show z_pt 312 14 = some (4, .ireturn, []) by decide +kernel) (by decide +kernel) ⟨rfl, rfl, rfl⟩
    | n + 1, hn => cases hn
theorem pL_outputCharacter {sc : Nat × (Nat → Int32)} {μ : z_Mem} {a : Nat → Int64} {q : Nat → UInt64} {c1 : Int32} {r : Int32 ⊕ Nat} {b : Int32} {t : Int32} (h1 : pG_outputCharacter μ c1 = some r) (hag : z_agI [0] r b t) : ∃ (a1 : Nat → Int64) (q1 : Nat → UInt64), (t = 0 → a1 0 = Int32.toInt64 b) ∧ Rl sc 7 313 0 [(0, .ref 0), (1, .int c1), (2, .ref 251)] [] μ a q (.inl (some (.int t))) (z_PE μ a1 q1) 1 := by
  cases r with
  | inl v =>
    obtain ⟨ht, hv⟩ := hag
    subst ht
    subst hv
    refine ⟨vp_updL a 0 (Int32.toInt64 v), q, fun _ => rfl, ?_⟩
    refine L_pure (pc := 0) (pc' := 1) (st' := [.ref 251]) (show z_pt 313 0 = some (4, .aload_n 2, []) by decide +kernel) rfl (fun _ _ => rfl) ?_
    refine L_const (pc := 1) (pc' := 2) (v := 0) (show z_ptc 313 1 = some (2, 0) by decide +kernel) ?_
    refine L_pure (pc := 2) (pc' := 3) (st' := [.ref 0, .int 0, .ref 251]) (show z_pt 313 2 = some (4, .aload_n 0, []) by decide +kernel) rfl (fun _ _ => rfl) ?_
    refine L_pure (pc := 3) (pc' := 4) (st' := [.int c1, .ref 0, .int 0, .ref 251]) (show z_pt 313 3 = some (4, .iload_n 1, []) by decide +kernel) rfl (fun _ _ => rfl) ?_
    refine L_call (pc := 4) (rr := [.int 0, .ref 251]) (show z_pt 313 4 = some (4, .invokevirtual 145, [0, 123, 1, 5167, 5168, 5169, 1001, 5170]) by decide +kernel) rfl (show z_r2 123 = some (9, 2, true) by decide +kernel) rfl rfl (Or.inr ⟨_, _, rfl, (show z_ci 0 9 = true by decide +kernel)⟩) (pG_outputCharacter_run h1) (by omega) ?_
    refine L_pure (pc := 7) (pc' := 8) (st' := [.long (Int32.toInt64 v), .int 0, .ref 251]) (show z_pt 313 7 = some (4, .i2l, []) by decide +kernel) rfl (fun _ _ => rfl) ?_
    refine L_last (pc := 8) (show z_pt 313 8 = some (4, .lastore, []) by decide +kernel) ?_
    refine L_pure (pc := 9) (pc' := 15) (show z_pt 313 9 = some (4, .goto 6, []) by decide +kernel) rfl (fun _ _ => rfl) ?_
    refine L_const (pc := 15) (pc' := 16) (v := 0) (show z_ptc 313 15 = some (16, 0) by decide +kernel) ?_
    exact L_retI (show z_pt 313 16 = some (4, .ireturn, []) by decide +kernel) (by decide +kernel) ⟨rfl, rfl, rfl⟩
  | inr E =>
    obtain ⟨n, hn, rfl⟩ := hag
    match n, hn with
    | 0, hn =>
      obtain rfl : 0 = E := Option.some.inj hn
      refine ⟨a, q, fun h => absurd h (by decide), ?_⟩
      refine L_pure (pc := 0) (pc' := 1) (st' := [.ref 251]) (show z_pt 313 0 = some (4, .aload_n 2, []) by decide +kernel) rfl (fun _ _ => rfl) ?_
      refine L_const (pc := 1) (pc' := 2) (v := 0) (show z_ptc 313 1 = some (2, 0) by decide +kernel) ?_
      refine L_pure (pc := 2) (pc' := 3) (st' := [.ref 0, .int 0, .ref 251]) (show z_pt 313 2 = some (4, .aload_n 0, []) by decide +kernel) rfl (fun _ _ => rfl) ?_
      refine L_pure (pc := 3) (pc' := 4) (st' := [.int c1, .ref 0, .int 0, .ref 251]) (show z_pt 313 3 = some (4, .iload_n 1, []) by decide +kernel) rfl (fun _ _ => rfl) ?_
      refine L_callX (pc := 4) (rr := [.int 0, .ref 251]) (h := 13) (x := 3) (show z_pt 313 4 = some (4, .invokevirtual 145, [0, 123, 1, 5167, 5168, 5169, 1001, 5170]) by decide +kernel) rfl (show z_r2 123 = some (9, 2, true) by decide +kernel) rfl rfl (Or.inr ⟨_, _, rfl, (show z_ci 0 9 = true by decide +kernel)⟩) (pG_outputCharacter_run h1) (by decide) (show z_hx 313 4 0 = some (13, 3) by decide +kernel) (by omega) rfl ?_
      refine L_const (pc := 13) (pc' := 14) (v := 1) (show z_ptc 313 13 = some (14, 1) by decide +kernel) ?_
      exact L_retI (show z_pt 313 14 = some (4, .ireturn, []) by decide +kernel) (by decide +kernel) ⟨rfl, rfl, rfl⟩
    | n + 1, hn => cases hn
theorem pL_feed {sc : Nat × (Nat → Int32)} {μ μ1 : z_Mem} {a : Nat → Int64} {q : Nat → UInt64} {c1 : Int32} {r : Int32 ⊕ Nat} {b : Int32} {t : Int32} (h1 : pG_feed μ c1 = some (r, μ1)) (hag : z_agI [2] r b t) : ∃ (a1 : Nat → Int64) (q1 : Nat → UInt64), (t = 0 → a1 0 = Int32.toInt64 b) ∧ Rl sc 7 314 0 [(0, .ref 0), (1, .int c1), (2, .ref 251)] [] μ a q (.inl (some (.int t))) (z_PE μ1 a1 q1) 1 := by
  cases r with
  | inl v =>
    obtain ⟨ht, hv⟩ := hag
    subst ht
    subst hv
    refine ⟨vp_updL a 0 (Int32.toInt64 v), q, fun _ => rfl, ?_⟩
    refine L_pure (pc := 0) (pc' := 1) (st' := [.ref 251]) (show z_pt 314 0 = some (4, .aload_n 2, []) by decide +kernel) rfl (fun _ _ => rfl) ?_
    refine L_const (pc := 1) (pc' := 2) (v := 0) (show z_ptc 314 1 = some (2, 0) by decide +kernel) ?_
    refine L_pure (pc := 2) (pc' := 3) (st' := [.ref 0, .int 0, .ref 251]) (show z_pt 314 2 = some (4, .aload_n 0, []) by decide +kernel) rfl (fun _ _ => rfl) ?_
    refine L_pure (pc := 3) (pc' := 4) (st' := [.int c1, .ref 0, .int 0, .ref 251]) (show z_pt 314 3 = some (4, .iload_n 1, []) by decide +kernel) rfl (fun _ _ => rfl) ?_
    refine L_call (pc := 4) (rr := [.int 0, .ref 251]) (show z_pt 314 4 = some (4, .invokevirtual 149, [0, 125, 1, 5174, 5175, 5176, 1001, 5177]) by decide +kernel) rfl (show z_r2 125 = some (9, 2, true) by decide +kernel) rfl rfl (Or.inr ⟨_, _, rfl, (show z_ci 0 9 = true by decide +kernel)⟩) (pG_feed_run h1) (by omega) ?_
    refine L_pure (pc := 7) (pc' := 8) (st' := [.long (Int32.toInt64 v), .int 0, .ref 251]) (show z_pt 314 7 = some (4, .i2l, []) by decide +kernel) rfl (fun _ _ => rfl) ?_
    refine L_last (pc := 8) (show z_pt 314 8 = some (4, .lastore, []) by decide +kernel) ?_
    refine L_pure (pc := 9) (pc' := 15) (show z_pt 314 9 = some (4, .goto 6, []) by decide +kernel) rfl (fun _ _ => rfl) ?_
    refine L_const (pc := 15) (pc' := 16) (v := 0) (show z_ptc 314 15 = some (16, 0) by decide +kernel) ?_
    exact L_retI (show z_pt 314 16 = some (4, .ireturn, []) by decide +kernel) (by decide +kernel) ⟨rfl, rfl, rfl⟩
  | inr E =>
    obtain ⟨n, hn, rfl⟩ := hag
    match n, hn with
    | 0, hn =>
      obtain rfl : 2 = E := Option.some.inj hn
      refine ⟨a, q, fun h => absurd h (by decide), ?_⟩
      refine L_pure (pc := 0) (pc' := 1) (st' := [.ref 251]) (show z_pt 314 0 = some (4, .aload_n 2, []) by decide +kernel) rfl (fun _ _ => rfl) ?_
      refine L_const (pc := 1) (pc' := 2) (v := 0) (show z_ptc 314 1 = some (2, 0) by decide +kernel) ?_
      refine L_pure (pc := 2) (pc' := 3) (st' := [.ref 0, .int 0, .ref 251]) (show z_pt 314 2 = some (4, .aload_n 0, []) by decide +kernel) rfl (fun _ _ => rfl) ?_
      refine L_pure (pc := 3) (pc' := 4) (st' := [.int c1, .ref 0, .int 0, .ref 251]) (show z_pt 314 3 = some (4, .iload_n 1, []) by decide +kernel) rfl (fun _ _ => rfl) ?_
      refine L_callX (pc := 4) (rr := [.int 0, .ref 251]) (h := 13) (x := 3) (show z_pt 314 4 = some (4, .invokevirtual 149, [0, 125, 1, 5174, 5175, 5176, 1001, 5177]) by decide +kernel) rfl (show z_r2 125 = some (9, 2, true) by decide +kernel) rfl rfl (Or.inr ⟨_, _, rfl, (show z_ci 0 9 = true by decide +kernel)⟩) (pG_feed_run h1) (by decide) (show z_hx 314 4 2 = some (13, 3) by decide +kernel) (by omega) rfl ?_
      refine L_const (pc := 13) (pc' := 14) (v := 1) (show z_ptc 314 13 = some (14, 1) by decide +kernel) ?_
      exact L_retI (show z_pt 314 14 = some (4, .ireturn, []) by decide +kernel) (by decide +kernel) ⟨rfl, rfl, rfl⟩
    | n + 1, hn => cases hn
theorem pL_execute {sc : Nat × (Nat → Int32)} {μ μ1 : z_Mem} {a : Nat → Int64} {q : Nat → UInt64} {r : Int32 ⊕ Nat} {b : Int32} {t : Int32} (h1 : pG_execute μ = some (r, μ1)) (hag : z_agI [1, 5] r b t) : ∃ (a1 : Nat → Int64) (q1 : Nat → UInt64), (t = 0 → a1 0 = Int32.toInt64 b) ∧ Rl sc 20 315 0 [(0, .ref 0), (1, .ref 251)] [] μ a q (.inl (some (.int t))) (z_PE μ1 a1 q1) 1 := by
  cases r with
  | inl v =>
    obtain ⟨ht, hv⟩ := hag
    subst ht
    subst hv
    refine ⟨vp_updL a 0 (Int32.toInt64 v), q, fun _ => rfl, ?_⟩
    refine L_pure (pc := 0) (pc' := 1) (st' := [.ref 251]) (show z_pt 315 0 = some (3, .aload_n 1, []) by decide +kernel) rfl (fun _ _ => rfl) ?_
    refine L_const (pc := 1) (pc' := 2) (v := 0) (show z_ptc 315 1 = some (2, 0) by decide +kernel) ?_
    refine L_pure (pc := 2) (pc' := 3) (st' := [.ref 0, .int 0, .ref 251]) (show z_pt 315 2 = some (3, .aload_n 0, []) by decide +kernel) rfl (fun _ _ => rfl) ?_
    refine L_call (pc := 3) (rr := [.int 0, .ref 251]) (show z_pt 315 3 = some (3, .invokevirtual 153, [0, 126, 0, 5182, 5183, 5184, 1001, 5185]) by decide +kernel) rfl (show z_r2 126 = some (9, 3, true) by decide +kernel) rfl rfl (Or.inr ⟨_, _, rfl, (show z_ci 0 9 = true by decide +kernel)⟩) (pG_execute_run h1) (by omega) ?_
    refine L_pure (pc := 6) (pc' := 7) (st' := [.long (Int32.toInt64 v), .int 0, .ref 251]) (show z_pt 315 6 = some (3, .i2l, []) by decide +kernel) rfl (fun _ _ => rfl) ?_
    refine L_last (pc := 7) (show z_pt 315 7 = some (3, .lastore, []) by decide +kernel) ?_
    refine L_pure (pc := 8) (pc' := 17) (show z_pt 315 8 = some (3, .goto 9, []) by decide +kernel) rfl (fun _ _ => rfl) ?_
    refine L_const (pc := 17) (pc' := 18) (v := 0) (show z_ptc 315 17 = some (18, 0) by decide +kernel) ?_
    exact L_retI (show z_pt 315 18 = some (3, .ireturn, []) by decide +kernel) (by decide +kernel) ⟨rfl, rfl, rfl⟩
  | inr E =>
    obtain ⟨n, hn, rfl⟩ := hag
    match n, hn with
    | 0, hn =>
      obtain rfl : 1 = E := Option.some.inj hn
      refine ⟨a, q, fun h => absurd h (by decide), ?_⟩
      refine L_pure (pc := 0) (pc' := 1) (st' := [.ref 251]) (show z_pt 315 0 = some (3, .aload_n 1, []) by decide +kernel) rfl (fun _ _ => rfl) ?_
      refine L_const (pc := 1) (pc' := 2) (v := 0) (show z_ptc 315 1 = some (2, 0) by decide +kernel) ?_
      refine L_pure (pc := 2) (pc' := 3) (st' := [.ref 0, .int 0, .ref 251]) (show z_pt 315 2 = some (3, .aload_n 0, []) by decide +kernel) rfl (fun _ _ => rfl) ?_
      refine L_callX (pc := 3) (rr := [.int 0, .ref 251]) (h := 12) (x := 2) (show z_pt 315 3 = some (3, .invokevirtual 153, [0, 126, 0, 5182, 5183, 5184, 1001, 5185]) by decide +kernel) rfl (show z_r2 126 = some (9, 3, true) by decide +kernel) rfl rfl (Or.inr ⟨_, _, rfl, (show z_ci 0 9 = true by decide +kernel)⟩) (pG_execute_run h1) (by decide) (show z_hx 315 3 1 = some (12, 2) by decide +kernel) (by omega) rfl ?_
      refine L_const (pc := 12) (pc' := 13) (v := 1) (show z_ptc 315 12 = some (13, 1) by decide +kernel) ?_
      exact L_retI (show z_pt 315 13 = some (3, .ireturn, []) by decide +kernel) (by decide +kernel) ⟨rfl, rfl, rfl⟩
    | 1, hn =>
      obtain rfl : 5 = E := Option.some.inj hn
      refine ⟨a, q, fun h => absurd h (by decide), ?_⟩
      refine L_pure (pc := 0) (pc' := 1) (st' := [.ref 251]) (show z_pt 315 0 = some (3, .aload_n 1, []) by decide +kernel) rfl (fun _ _ => rfl) ?_
      refine L_const (pc := 1) (pc' := 2) (v := 0) (show z_ptc 315 1 = some (2, 0) by decide +kernel) ?_
      refine L_pure (pc := 2) (pc' := 3) (st' := [.ref 0, .int 0, .ref 251]) (show z_pt 315 2 = some (3, .aload_n 0, []) by decide +kernel) rfl (fun _ _ => rfl) ?_
      refine L_callX (pc := 3) (rr := [.int 0, .ref 251]) (h := 15) (x := 2) (show z_pt 315 3 = some (3, .invokevirtual 153, [0, 126, 0, 5182, 5183, 5184, 1001, 5185]) by decide +kernel) rfl (show z_r2 126 = some (9, 3, true) by decide +kernel) rfl rfl (Or.inr ⟨_, _, rfl, (show z_ci 0 9 = true by decide +kernel)⟩) (pG_execute_run h1) (by decide) (show z_hx 315 3 5 = some (15, 2) by decide +kernel) (by omega) rfl ?_
      refine L_const (pc := 15) (pc' := 16) (v := 2) (show z_ptc 315 15 = some (16, 2) by decide +kernel) ?_
      exact L_retI (show z_pt 315 16 = some (3, .ireturn, []) by decide +kernel) (by decide +kernel) ⟨rfl, rfl, rfl⟩
    | n + 2, hn => cases hn
theorem pL_errorPosition {sc : Nat × (Nat → Int32)} {μ : z_Mem} {a : Nat → Int64} {q : Nat → UInt64} {r : Int32 ⊕ Nat} {b : Int32} {t : Int32} (h1 : pG_errorPosition μ = some r) (hag : z_agI [3] r b t) : ∃ (a1 : Nat → Int64) (q1 : Nat → UInt64), (t = 0 → a1 0 = Int32.toInt64 b) ∧ Rl sc 7 316 0 [(0, .ref 0), (1, .ref 251)] [] μ a q (.inl (some (.int t))) (z_PE μ a1 q1) 1 := by
  cases r with
  | inl v =>
    obtain ⟨ht, hv⟩ := hag
    subst ht
    subst hv
    refine ⟨vp_updL a 0 (Int32.toInt64 v), q, fun _ => rfl, ?_⟩
    refine L_pure (pc := 0) (pc' := 1) (st' := [.ref 251]) (show z_pt 316 0 = some (3, .aload_n 1, []) by decide +kernel) rfl (fun _ _ => rfl) ?_
    refine L_const (pc := 1) (pc' := 2) (v := 0) (show z_ptc 316 1 = some (2, 0) by decide +kernel) ?_
    refine L_pure (pc := 2) (pc' := 3) (st' := [.ref 0, .int 0, .ref 251]) (show z_pt 316 2 = some (3, .aload_n 0, []) by decide +kernel) rfl (fun _ _ => rfl) ?_
    refine L_call (pc := 3) (rr := [.int 0, .ref 251]) (show z_pt 316 3 = some (3, .invokevirtual 159, [0, 127, 0, 6082, 6083, 6084, 1001, 6085]) by decide +kernel) rfl (show z_r2 127 = some (9, 1, true) by decide +kernel) rfl rfl (Or.inr ⟨_, _, rfl, (show z_ci 0 9 = true by decide +kernel)⟩) (pG_errorPosition_run h1) (by omega) ?_
    refine L_pure (pc := 6) (pc' := 7) (st' := [.long (Int32.toInt64 v), .int 0, .ref 251]) (show z_pt 316 6 = some (3, .i2l, []) by decide +kernel) rfl (fun _ _ => rfl) ?_
    refine L_last (pc := 7) (show z_pt 316 7 = some (3, .lastore, []) by decide +kernel) ?_
    refine L_pure (pc := 8) (pc' := 14) (show z_pt 316 8 = some (3, .goto 6, []) by decide +kernel) rfl (fun _ _ => rfl) ?_
    refine L_const (pc := 14) (pc' := 15) (v := 0) (show z_ptc 316 14 = some (15, 0) by decide +kernel) ?_
    exact L_retI (show z_pt 316 15 = some (3, .ireturn, []) by decide +kernel) (by decide +kernel) ⟨rfl, rfl, rfl⟩
  | inr E =>
    obtain ⟨n, hn, rfl⟩ := hag
    match n, hn with
    | 0, hn =>
      obtain rfl : 3 = E := Option.some.inj hn
      refine ⟨a, q, fun h => absurd h (by decide), ?_⟩
      refine L_pure (pc := 0) (pc' := 1) (st' := [.ref 251]) (show z_pt 316 0 = some (3, .aload_n 1, []) by decide +kernel) rfl (fun _ _ => rfl) ?_
      refine L_const (pc := 1) (pc' := 2) (v := 0) (show z_ptc 316 1 = some (2, 0) by decide +kernel) ?_
      refine L_pure (pc := 2) (pc' := 3) (st' := [.ref 0, .int 0, .ref 251]) (show z_pt 316 2 = some (3, .aload_n 0, []) by decide +kernel) rfl (fun _ _ => rfl) ?_
      refine L_callX (pc := 3) (rr := [.int 0, .ref 251]) (h := 12) (x := 2) (show z_pt 316 3 = some (3, .invokevirtual 159, [0, 127, 0, 6082, 6083, 6084, 1001, 6085]) by decide +kernel) rfl (show z_r2 127 = some (9, 1, true) by decide +kernel) rfl rfl (Or.inr ⟨_, _, rfl, (show z_ci 0 9 = true by decide +kernel)⟩) (pG_errorPosition_run h1) (by decide) (show z_hx 316 3 3 = some (12, 2) by decide +kernel) (by omega) rfl ?_
      refine L_const (pc := 12) (pc' := 13) (v := 1) (show z_ptc 316 12 = some (13, 1) by decide +kernel) ?_
      exact L_retI (show z_pt 316 13 = some (3, .ireturn, []) by decide +kernel) (by decide +kernel) ⟨rfl, rfl, rfl⟩
    | n + 1, hn => cases hn
theorem pL_failedCommand {sc : Nat × (Nat → Int32)} {μ : z_Mem} {a : Nat → Int64} {q : Nat → UInt64} {r : Int32 ⊕ Nat} {b : Int32} {t : Int32} (h1 : pG_failedCommand μ = some r) (hag : z_agI [3] r b t) : ∃ (a1 : Nat → Int64) (q1 : Nat → UInt64), (t = 0 → a1 0 = Int32.toInt64 b) ∧ Rl sc 7 317 0 [(0, .ref 0), (1, .ref 251)] [] μ a q (.inl (some (.int t))) (z_PE μ a1 q1) 1 := by
  cases r with
  | inl v =>
    obtain ⟨ht, hv⟩ := hag
    subst ht
    subst hv
    refine ⟨vp_updL a 0 (Int32.toInt64 v), q, fun _ => rfl, ?_⟩
    refine L_pure (pc := 0) (pc' := 1) (st' := [.ref 251]) (show z_pt 317 0 = some (3, .aload_n 1, []) by decide +kernel) rfl (fun _ _ => rfl) ?_
    refine L_const (pc := 1) (pc' := 2) (v := 0) (show z_ptc 317 1 = some (2, 0) by decide +kernel) ?_
    refine L_pure (pc := 2) (pc' := 3) (st' := [.ref 0, .int 0, .ref 251]) (show z_pt 317 2 = some (3, .aload_n 0, []) by decide +kernel) rfl (fun _ _ => rfl) ?_
    refine L_call (pc := 3) (rr := [.int 0, .ref 251]) (show z_pt 317 3 = some (3, .invokevirtual 162, [0, 128, 0, 6089, 6090, 6091, 1001, 6092]) by decide +kernel) rfl (show z_r2 128 = some (9, 1, true) by decide +kernel) rfl rfl (Or.inr ⟨_, _, rfl, (show z_ci 0 9 = true by decide +kernel)⟩) (pG_failedCommand_run h1) (by omega) ?_
    refine L_pure (pc := 6) (pc' := 7) (st' := [.long (Int32.toInt64 v), .int 0, .ref 251]) (show z_pt 317 6 = some (3, .i2l, []) by decide +kernel) rfl (fun _ _ => rfl) ?_
    refine L_last (pc := 7) (show z_pt 317 7 = some (3, .lastore, []) by decide +kernel) ?_
    refine L_pure (pc := 8) (pc' := 14) (show z_pt 317 8 = some (3, .goto 6, []) by decide +kernel) rfl (fun _ _ => rfl) ?_
    refine L_const (pc := 14) (pc' := 15) (v := 0) (show z_ptc 317 14 = some (15, 0) by decide +kernel) ?_
    exact L_retI (show z_pt 317 15 = some (3, .ireturn, []) by decide +kernel) (by decide +kernel) ⟨rfl, rfl, rfl⟩
  | inr E =>
    obtain ⟨n, hn, rfl⟩ := hag
    match n, hn with
    | 0, hn =>
      obtain rfl : 3 = E := Option.some.inj hn
      refine ⟨a, q, fun h => absurd h (by decide), ?_⟩
      refine L_pure (pc := 0) (pc' := 1) (st' := [.ref 251]) (show z_pt 317 0 = some (3, .aload_n 1, []) by decide +kernel) rfl (fun _ _ => rfl) ?_
      refine L_const (pc := 1) (pc' := 2) (v := 0) (show z_ptc 317 1 = some (2, 0) by decide +kernel) ?_
      refine L_pure (pc := 2) (pc' := 3) (st' := [.ref 0, .int 0, .ref 251]) (show z_pt 317 2 = some (3, .aload_n 0, []) by decide +kernel) rfl (fun _ _ => rfl) ?_
      refine L_callX (pc := 3) (rr := [.int 0, .ref 251]) (h := 12) (x := 2) (show z_pt 317 3 = some (3, .invokevirtual 162, [0, 128, 0, 6089, 6090, 6091, 1001, 6092]) by decide +kernel) rfl (show z_r2 128 = some (9, 1, true) by decide +kernel) rfl rfl (Or.inr ⟨_, _, rfl, (show z_ci 0 9 = true by decide +kernel)⟩) (pG_failedCommand_run h1) (by decide) (show z_hx 317 3 3 = some (12, 2) by decide +kernel) (by omega) rfl ?_
      refine L_const (pc := 12) (pc' := 13) (v := 1) (show z_ptc 317 12 = some (13, 1) by decide +kernel) ?_
      exact L_retI (show z_pt 317 13 = some (3, .ireturn, []) by decide +kernel) (by decide +kernel) ⟨rfl, rfl, rfl⟩
    | n + 1, hn => cases hn
theorem pL_undo {sc : Nat × (Nat → Int32)} {μ μ1 : z_Mem} {a : Nat → Int64} {q : Nat → UInt64} {r : Int32 ⊕ Nat} {b : Int32} {t : Int32} (h1 : pG_undo μ = some (r, μ1)) (hag : z_agI [2] r b t) : ∃ (a1 : Nat → Int64) (q1 : Nat → UInt64), (t = 0 → a1 0 = Int32.toInt64 b) ∧ Rl sc 7 318 0 [(0, .ref 0), (1, .ref 251)] [] μ a q (.inl (some (.int t))) (z_PE μ1 a1 q1) 1 := by
  cases r with
  | inl v =>
    obtain ⟨ht, hv⟩ := hag
    subst ht
    subst hv
    refine ⟨vp_updL a 0 (Int32.toInt64 v), q, fun _ => rfl, ?_⟩
    refine L_pure (pc := 0) (pc' := 1) (st' := [.ref 251]) (show z_pt 318 0 = some (3, .aload_n 1, []) by decide +kernel) rfl (fun _ _ => rfl) ?_
    refine L_const (pc := 1) (pc' := 2) (v := 0) (show z_ptc 318 1 = some (2, 0) by decide +kernel) ?_
    refine L_pure (pc := 2) (pc' := 3) (st' := [.ref 0, .int 0, .ref 251]) (show z_pt 318 2 = some (3, .aload_n 0, []) by decide +kernel) rfl (fun _ _ => rfl) ?_
    refine L_call (pc := 3) (rr := [.int 0, .ref 251]) (show z_pt 318 3 = some (3, .invokevirtual 165, [0, 129, 0, 6096, 6097, 6098, 1001, 6099]) by decide +kernel) rfl (show z_r2 129 = some (9, 1, true) by decide +kernel) rfl rfl (Or.inr ⟨_, _, rfl, (show z_ci 0 9 = true by decide +kernel)⟩) (pG_undo_run h1) (by omega) ?_
    refine L_pure (pc := 6) (pc' := 7) (st' := [.long (Int32.toInt64 v), .int 0, .ref 251]) (show z_pt 318 6 = some (3, .i2l, []) by decide +kernel) rfl (fun _ _ => rfl) ?_
    refine L_last (pc := 7) (show z_pt 318 7 = some (3, .lastore, []) by decide +kernel) ?_
    refine L_pure (pc := 8) (pc' := 14) (show z_pt 318 8 = some (3, .goto 6, []) by decide +kernel) rfl (fun _ _ => rfl) ?_
    refine L_const (pc := 14) (pc' := 15) (v := 0) (show z_ptc 318 14 = some (15, 0) by decide +kernel) ?_
    exact L_retI (show z_pt 318 15 = some (3, .ireturn, []) by decide +kernel) (by decide +kernel) ⟨rfl, rfl, rfl⟩
  | inr E =>
    obtain ⟨n, hn, rfl⟩ := hag
    match n, hn with
    | 0, hn =>
      obtain rfl : 2 = E := Option.some.inj hn
      refine ⟨a, q, fun h => absurd h (by decide), ?_⟩
      refine L_pure (pc := 0) (pc' := 1) (st' := [.ref 251]) (show z_pt 318 0 = some (3, .aload_n 1, []) by decide +kernel) rfl (fun _ _ => rfl) ?_
      refine L_const (pc := 1) (pc' := 2) (v := 0) (show z_ptc 318 1 = some (2, 0) by decide +kernel) ?_
      refine L_pure (pc := 2) (pc' := 3) (st' := [.ref 0, .int 0, .ref 251]) (show z_pt 318 2 = some (3, .aload_n 0, []) by decide +kernel) rfl (fun _ _ => rfl) ?_
      refine L_callX (pc := 3) (rr := [.int 0, .ref 251]) (h := 12) (x := 2) (show z_pt 318 3 = some (3, .invokevirtual 165, [0, 129, 0, 6096, 6097, 6098, 1001, 6099]) by decide +kernel) rfl (show z_r2 129 = some (9, 1, true) by decide +kernel) rfl rfl (Or.inr ⟨_, _, rfl, (show z_ci 0 9 = true by decide +kernel)⟩) (pG_undo_run h1) (by decide) (show z_hx 318 3 2 = some (12, 2) by decide +kernel) (by omega) rfl ?_
      refine L_const (pc := 12) (pc' := 13) (v := 1) (show z_ptc 318 12 = some (13, 1) by decide +kernel) ?_
      exact L_retI (show z_pt 318 13 = some (3, .ireturn, []) by decide +kernel) (by decide +kernel) ⟨rfl, rfl, rfl⟩
    | n + 1, hn => cases hn
theorem pL_restore {sc : Nat × (Nat → Int32)} {μ μ1 : z_Mem} {a : Nat → Int64} {q : Nat → UInt64} {r : Int32 ⊕ Nat} {b : Int32} {t : Int32} (h1 : pG_restore μ = some (r, μ1)) (hag : z_agI [2] r b t) : ∃ (a1 : Nat → Int64) (q1 : Nat → UInt64), (t = 0 → a1 0 = Int32.toInt64 b) ∧ Rl sc 7 319 0 [(0, .ref 0), (1, .ref 251)] [] μ a q (.inl (some (.int t))) (z_PE μ1 a1 q1) 1 := by
  cases r with
  | inl v =>
    obtain ⟨ht, hv⟩ := hag
    subst ht
    subst hv
    refine ⟨vp_updL a 0 (Int32.toInt64 v), q, fun _ => rfl, ?_⟩
    refine L_pure (pc := 0) (pc' := 1) (st' := [.ref 251]) (show z_pt 319 0 = some (3, .aload_n 1, []) by decide +kernel) rfl (fun _ _ => rfl) ?_
    refine L_const (pc := 1) (pc' := 2) (v := 0) (show z_ptc 319 1 = some (2, 0) by decide +kernel) ?_
    refine L_pure (pc := 2) (pc' := 3) (st' := [.ref 0, .int 0, .ref 251]) (show z_pt 319 2 = some (3, .aload_n 0, []) by decide +kernel) rfl (fun _ _ => rfl) ?_
    refine L_call (pc := 3) (rr := [.int 0, .ref 251]) (show z_pt 319 3 = some (3, .invokevirtual 168, [0, 132, 0, 6108, 6109, 6110, 1001, 6111]) by decide +kernel) rfl (show z_r2 132 = some (9, 1, true) by decide +kernel) rfl rfl (Or.inr ⟨_, _, rfl, (show z_ci 0 9 = true by decide +kernel)⟩) (pG_restore_run h1) (by omega) ?_
    refine L_pure (pc := 6) (pc' := 7) (st' := [.long (Int32.toInt64 v), .int 0, .ref 251]) (show z_pt 319 6 = some (3, .i2l, []) by decide +kernel) rfl (fun _ _ => rfl) ?_
    refine L_last (pc := 7) (show z_pt 319 7 = some (3, .lastore, []) by decide +kernel) ?_
    refine L_pure (pc := 8) (pc' := 14) (show z_pt 319 8 = some (3, .goto 6, []) by decide +kernel) rfl (fun _ _ => rfl) ?_
    refine L_const (pc := 14) (pc' := 15) (v := 0) (show z_ptc 319 14 = some (15, 0) by decide +kernel) ?_
    exact L_retI (show z_pt 319 15 = some (3, .ireturn, []) by decide +kernel) (by decide +kernel) ⟨rfl, rfl, rfl⟩
  | inr E =>
    obtain ⟨n, hn, rfl⟩ := hag
    match n, hn with
    | 0, hn =>
      obtain rfl : 2 = E := Option.some.inj hn
      refine ⟨a, q, fun h => absurd h (by decide), ?_⟩
      refine L_pure (pc := 0) (pc' := 1) (st' := [.ref 251]) (show z_pt 319 0 = some (3, .aload_n 1, []) by decide +kernel) rfl (fun _ _ => rfl) ?_
      refine L_const (pc := 1) (pc' := 2) (v := 0) (show z_ptc 319 1 = some (2, 0) by decide +kernel) ?_
      refine L_pure (pc := 2) (pc' := 3) (st' := [.ref 0, .int 0, .ref 251]) (show z_pt 319 2 = some (3, .aload_n 0, []) by decide +kernel) rfl (fun _ _ => rfl) ?_
      refine L_callX (pc := 3) (rr := [.int 0, .ref 251]) (h := 12) (x := 2) (show z_pt 319 3 = some (3, .invokevirtual 168, [0, 132, 0, 6108, 6109, 6110, 1001, 6111]) by decide +kernel) rfl (show z_r2 132 = some (9, 1, true) by decide +kernel) rfl rfl (Or.inr ⟨_, _, rfl, (show z_ci 0 9 = true by decide +kernel)⟩) (pG_restore_run h1) (by decide) (show z_hx 319 3 2 = some (12, 2) by decide +kernel) (by omega) rfl ?_
      refine L_const (pc := 12) (pc' := 13) (v := 1) (show z_ptc 319 12 = some (13, 1) by decide +kernel) ?_
      exact L_retI (show z_pt 319 13 = some (3, .ireturn, []) by decide +kernel) (by decide +kernel) ⟨rfl, rfl, rfl⟩
    | n + 1, hn => cases hn
end ZARMS
