section ZARM2
theorem pL_arm0 {sc : Nat × (Nat → Int32)} {D J : Nat} {i c1 : Int32} {b : Int32} {r : Int32 ⊕ Nat} {μ μ1 μ2 : z_Mem} {a : Nat → Int64} {q : Nat → UInt64} {o : z_R} {P : z_LP} (hD : 9 ≤ D) (hb1 : z_inb (i + 1) sc.1 = true) (hc1 : sc.2 (i + 1).toNatClampNeg = c1) (h1 : pG_addGear μ c1 = some (r, μ1)) (h2 : pm_addGear μ1 c1 = some (b, μ2)) (hag : z_agI [1, 2] r b (μ2 241 12)) (kk : ∀ (a : Nat → Int64) (q : Nat → UInt64), Rl sc D 320 28 [(0, .ref 2000), (1, .ref 0), (2, .ref 241), (3, .ref 251), (4, .ref 252), (5, .int (i + 4))] [] μ2 a q o P J) : Rl sc D 320 284 [(0, .ref 2000), (1, .ref 0), (2, .ref 241), (3, .ref 251), (4, .ref 252), (5, .int i)] [] μ a q o P (1 + J) := by
  obtain ⟨a1, q1, hz, hR⟩ := pL_addGear (sc := sc) (a := a) (q := q) h1 hag
  refine L_pure (pc := 284) (pc' := 285) (st' := [.ref 0]) (show z_pt 320 284 = some (9, .aload_n 1, []) by decide +kernel) rfl (fun _ _ => rfl) ?_
  refine L_pure (pc := 285) (pc' := 286) (st' := [.ref 2000, .ref 0]) (show z_pt 320 285 = some (9, .aload_n 0, []) by decide +kernel) rfl (fun _ _ => rfl) ?_
  refine L_pure (pc := 286) (pc' := 288) (st' := [.int i, .ref 2000, .ref 0]) (show z_pt 320 286 = some (9, .iload 5, []) by decide +kernel) rfl (fun _ _ => rfl) ?_
  refine L_const (pc := 288) (pc' := 289) (v := 1) (show z_ptc 320 288 = some (289, 1) by decide +kernel) ?_
  refine L_pure (pc := 289) (pc' := 290) (st' := [.int (i + 1), .ref 2000, .ref 0]) (show z_pt 320 289 = some (9, .iadd, []) by decide +kernel) rfl (fun _ _ => rfl) ?_
  refine L_scr (pc := 290) (show z_pt 320 290 = some (9, .iaload, []) by decide +kernel) hb1 hc1 ?_
  refine L_pure (pc := 291) (pc' := 292) (st' := [.ref 251, .int c1, .ref 0]) (show z_pt 320 291 = some (9, .aload_n 3, []) by decide +kernel) rfl (fun _ _ => rfl) ?_
  refine L_callF (pc := 292) (rr := []) (show z_pt 320 292 = some (9, .invokestatic 175, [5, 274, 3, 2218, 2219, 0, 1000, 2220]) by decide +kernel) rfl (show z_r3 274 = some (11, 4, true) by decide +kernel) rfl rfl hR (by omega) ?_
  refine L_at (pc := 295) (st := [.int (μ2 241 12)]) ?_
  refine L_pure (pc := 295) (pc' := 297) (ls' := [(0, .ref 2000), (1, .ref 0), (2, .ref 241), (3, .ref 251), (4, .ref 252), (5, .int i), (6, .int (μ2 241 12))]) (st' := []) (show z_pt 320 295 = some (9, .istore 6, []) by decide +kernel) rfl (fun _ _ => rfl) ?_
  refine L_pure (pc := 297) (pc' := 298) (st' := [.ref 241]) (show z_pt 320 297 = some (9, .aload_n 2, []) by decide +kernel) rfl (fun _ _ => rfl) ?_
  refine L_pure (pc := 298) (pc' := 299) (st' := [.ref 2000, .ref 241]) (show z_pt 320 298 = some (9, .aload_n 0, []) by decide +kernel) rfl (fun _ _ => rfl) ?_
  refine L_pure (pc := 299) (pc' := 301) (st' := [.int i, .ref 2000, .ref 241]) (show z_pt 320 299 = some (9, .iload 5, []) by decide +kernel) rfl (fun _ _ => rfl) ?_
  refine L_const (pc := 301) (pc' := 302) (v := 1) (show z_ptc 320 301 = some (302, 1) by decide +kernel) ?_
  refine L_pure (pc := 302) (pc' := 303) (st' := [.int (i + 1), .ref 2000, .ref 241]) (show z_pt 320 302 = some (9, .iadd, []) by decide +kernel) rfl (fun _ _ => rfl) ?_
  refine L_scr (pc := 303) (show z_pt 320 303 = some (9, .iaload, []) by decide +kernel) hb1 hc1 ?_
  refine L_call (pc := 304) (rr := []) (show z_pt 320 304 = some (9, .invokevirtual 180, [0, 180, 1, 6177, 6178, 6179, 1012, 6180]) by decide +kernel) rfl (show z_r2 180 = some (10, 2, true) by decide +kernel) rfl rfl (Or.inr ⟨_, _, rfl, (show z_ci 241 10 = true by decide +kernel)⟩) (pm_addGear_run (r := (b, μ2)) h2) (by omega) ?_
  refine L_at (pc := 307) (st := [.int b]) ?_
  refine L_pure (pc := 307) (pc' := 309) (ls' := [(0, .ref 2000), (1, .ref 0), (2, .ref 241), (3, .ref 251), (4, .ref 252), (5, .int i), (6, .int (μ2 241 12)), (7, .int b)]) (st' := []) (show z_pt 320 307 = some (9, .istore 7, []) by decide +kernel) rfl (fun _ _ => rfl) ?_
  refine L_pure (pc := 309) (pc' := 310) (st' := [.ref 241]) (show z_pt 320 309 = some (9, .aload_n 2, []) by decide +kernel) rfl (fun _ _ => rfl) ?_
  refine L_call (pc := 310) (rr := []) (show z_pt 320 310 = some (9, .invokevirtual 181, [0, 159, 0, 6173, 6174, 6175, 1012, 6176]) by decide +kernel) rfl (show z_r2 159 = some (10, 1, true) by decide +kernel) rfl rfl (Or.inr ⟨_, _, rfl, (show z_ci 241 10 = true by decide +kernel)⟩) (pm_thrown_run (r := μ2 241 12) rfl) (by omega) ?_
  refine L_at (pc := 313) (st := [.int (μ2 241 12)]) ?_
  refine L_pure (pc := 313) (pc' := 315) (st' := [.int (μ2 241 12), .int (μ2 241 12)]) (show z_pt 320 313 = some (9, .iload 6, []) by decide +kernel) rfl (fun _ _ => rfl) ?_
  refine L_icT (pc := 315) (t := 320) (show z_pt 320 315 = some (9, .if_icmp .eq 5, []) by decide +kernel) (by decide) (decide_eq_true rfl) ?_
  refine L_pure (pc := 320) (pc' := 322) (st' := [.int (μ2 241 12)]) (show z_pt 320 320 = some (9, .iload 6, []) by decide +kernel) rfl (fun _ _ => rfl) ?_
  by_cases hz0 : μ2 241 12 = 0
  · refine L_ifF (pc := 322) (t := 337) (show z_pt 320 322 = some (9, .ifCond .ne 15, []) by decide +kernel) (by decide) (decide_eq_false (fun h => h hz0)) ?_
    refine L_pure (pc := 325) (pc' := 326) (st' := [.ref 251]) (show z_pt 320 325 = some (9, .aload_n 3, []) by decide +kernel) rfl (fun _ _ => rfl) ?_
    refine L_const (pc := 326) (pc' := 327) (v := 0) (show z_ptc 320 326 = some (327, 0) by decide +kernel) ?_
    refine L_lald (pc := 327) (show z_pt 320 327 = some (9, .laload, []) by decide +kernel) ?_
    refine L_pure (pc := 328) (pc' := 330) (st' := [.int b, .long (a1 0)]) (show z_pt 320 328 = some (9, .iload 7, []) by decide +kernel) rfl (fun _ _ => rfl) ?_
    refine L_pure (pc := 330) (pc' := 331) (st' := [.long (Int32.toInt64 b), .long (a1 0)]) (show z_pt 320 330 = some (9, .i2l, []) by decide +kernel) rfl (fun _ _ => rfl) ?_
    refine L_pure (pc := 331) (pc' := 332) (st' := [.int (lg_cmp (a1 0) (Int32.toInt64 b))]) (show z_pt 320 331 = some (9, .lcmp, []) by decide +kernel) rfl (fun _ _ => rfl) ?_
    refine L_ifT (pc := 332) (t := 337) (show z_pt 320 332 = some (9, .ifCond .eq 5, []) by decide +kernel) (by decide) (z_lc (hz hz0)) ?_
    refine L_pure (pc := 337) (pc' := 3330) (show z_pt 320 337 = some (9, .goto 2993, []) by decide +kernel) rfl (fun _ _ => rfl) ?_
    refine L_inc (pc := 3330) (pc' := 3333) (ls' := [(0, .ref 2000), (1, .ref 0), (2, .ref 241), (3, .ref 251), (4, .ref 252), (5, .int (i + 4)), (6, .int (μ2 241 12)), (7, .int b)]) (c := 4) (show z_pt 320 3330 = some (9, .iinc 5 4, []) by decide +kernel) (by decide) rfl rfl ?_
    refine L_pure (pc := 3333) (pc' := 28) (ls' := [(0, .ref 2000), (1, .ref 0), (2, .ref 241), (3, .ref 251), (4, .ref 252), (5, .int (i + 4))]) (st' := []) (show z_pt 320 3333 = some (9, .goto (-3305), [6]) by decide +kernel) rfl (fun _ _ => rfl) ?_
    exact kk _ _
  · refine L_ifT (pc := 322) (t := 337) (show z_pt 320 322 = some (9, .ifCond .ne 15, []) by decide +kernel) (by decide) (decide_eq_true hz0) ?_
    refine L_pure (pc := 337) (pc' := 3330) (show z_pt 320 337 = some (9, .goto 2993, []) by decide +kernel) rfl (fun _ _ => rfl) ?_
    refine L_inc (pc := 3330) (pc' := 3333) (ls' := [(0, .ref 2000), (1, .ref 0), (2, .ref 241), (3, .ref 251), (4, .ref 252), (5, .int (i + 4)), (6, .int (μ2 241 12)), (7, .int b)]) (c := 4) (show z_pt 320 3330 = some (9, .iinc 5 4, []) by decide +kernel) (by decide) rfl rfl ?_
    refine L_pure (pc := 3333) (pc' := 28) (ls' := [(0, .ref 2000), (1, .ref 0), (2, .ref 241), (3, .ref 251), (4, .ref 252), (5, .int (i + 4))]) (st' := []) (show z_pt 320 3333 = some (9, .goto (-3305), [6]) by decide +kernel) rfl (fun _ _ => rfl) ?_
    exact kk _ _
theorem pL_arm1 {sc : Nat × (Nat → Int32)} {D J : Nat} {i c1 c2 c3 : Int32} {b : Int32} {r : Int32 ⊕ Nat} {μ μ1 μ2 : z_Mem} {a : Nat → Int64} {q : Nat → UInt64} {o : z_R} {P : z_LP} (hD : 18 ≤ D) (hb1 : z_inb (i + 1) sc.1 = true) (hc1 : sc.2 (i + 1).toNatClampNeg = c1) (hb2 : z_inb (i + 2) sc.1 = true) (hc2 : sc.2 (i + 2).toNatClampNeg = c2) (hb3 : z_inb (i + 3) sc.1 = true) (hc3 : sc.2 (i + 3).toNatClampNeg = c3) (h1 : pG_mesh μ c1 c2 c3 = some (r, μ1)) (h2 : pm_mesh μ1 c1 c2 c3 = some (b, μ2)) (hag : z_agI [0, 1, 2] r b (μ2 241 12)) (kk : ∀ (a : Nat → Int64) (q : Nat → UInt64), Rl sc D 320 28 [(0, .ref 2000), (1, .ref 0), (2, .ref 241), (3, .ref 251), (4, .ref 252), (5, .int (i + 4))] [] μ2 a q o P J) : Rl sc D 320 340 [(0, .ref 2000), (1, .ref 0), (2, .ref 241), (3, .ref 251), (4, .ref 252), (5, .int i)] [] μ a q o P (1 + J) := by
  obtain ⟨a1, q1, hz, hR⟩ := pL_mesh (sc := sc) (a := a) (q := q) h1 hag
  refine L_pure (pc := 340) (pc' := 341) (st' := [.ref 0]) (show z_pt 320 340 = some (9, .aload_n 1, []) by decide +kernel) rfl (fun _ _ => rfl) ?_
  refine L_pure (pc := 341) (pc' := 342) (st' := [.ref 2000, .ref 0]) (show z_pt 320 341 = some (9, .aload_n 0, []) by decide +kernel) rfl (fun _ _ => rfl) ?_
  refine L_pure (pc := 342) (pc' := 344) (st' := [.int i, .ref 2000, .ref 0]) (show z_pt 320 342 = some (9, .iload 5, []) by decide +kernel) rfl (fun _ _ => rfl) ?_
  refine L_const (pc := 344) (pc' := 345) (v := 1) (show z_ptc 320 344 = some (345, 1) by decide +kernel) ?_
  refine L_pure (pc := 345) (pc' := 346) (st' := [.int (i + 1), .ref 2000, .ref 0]) (show z_pt 320 345 = some (9, .iadd, []) by decide +kernel) rfl (fun _ _ => rfl) ?_
  refine L_scr (pc := 346) (show z_pt 320 346 = some (9, .iaload, []) by decide +kernel) hb1 hc1 ?_
  refine L_pure (pc := 347) (pc' := 348) (st' := [.ref 2000, .int c1, .ref 0]) (show z_pt 320 347 = some (9, .aload_n 0, []) by decide +kernel) rfl (fun _ _ => rfl) ?_
  refine L_pure (pc := 348) (pc' := 350) (st' := [.int i, .ref 2000, .int c1, .ref 0]) (show z_pt 320 348 = some (9, .iload 5, []) by decide +kernel) rfl (fun _ _ => rfl) ?_
  refine L_const (pc := 350) (pc' := 351) (v := 2) (show z_ptc 320 350 = some (351, 2) by decide +kernel) ?_
  refine L_pure (pc := 351) (pc' := 352) (st' := [.int (i + 2), .ref 2000, .int c1, .ref 0]) (show z_pt 320 351 = some (9, .iadd, []) by decide +kernel) rfl (fun _ _ => rfl) ?_
  refine L_scr (pc := 352) (show z_pt 320 352 = some (9, .iaload, []) by decide +kernel) hb2 hc2 ?_
  refine L_pure (pc := 353) (pc' := 354) (st' := [.ref 2000, .int c2, .int c1, .ref 0]) (show z_pt 320 353 = some (9, .aload_n 0, []) by decide +kernel) rfl (fun _ _ => rfl) ?_
  refine L_pure (pc := 354) (pc' := 356) (st' := [.int i, .ref 2000, .int c2, .int c1, .ref 0]) (show z_pt 320 354 = some (9, .iload 5, []) by decide +kernel) rfl (fun _ _ => rfl) ?_
  refine L_const (pc := 356) (pc' := 357) (v := 3) (show z_ptc 320 356 = some (357, 3) by decide +kernel) ?_
  refine L_pure (pc := 357) (pc' := 358) (st' := [.int (i + 3), .ref 2000, .int c2, .int c1, .ref 0]) (show z_pt 320 357 = some (9, .iadd, []) by decide +kernel) rfl (fun _ _ => rfl) ?_
  refine L_scr (pc := 358) (show z_pt 320 358 = some (9, .iaload, []) by decide +kernel) hb3 hc3 ?_
  refine L_pure (pc := 359) (pc' := 360) (st' := [.ref 251, .int c3, .int c2, .int c1, .ref 0]) (show z_pt 320 359 = some (9, .aload_n 3, []) by decide +kernel) rfl (fun _ _ => rfl) ?_
  refine L_callF (pc := 360) (rr := []) (show z_pt 320 360 = some (9, .invokestatic 184, [5, 275, 5, 3125, 3126, 0, 1000, 3127]) by decide +kernel) rfl (show z_r3 275 = some (11, 6, true) by decide +kernel) rfl rfl hR (by omega) ?_
  refine L_at (pc := 363) (st := [.int (μ2 241 12)]) ?_
  refine L_pure (pc := 363) (pc' := 365) (ls' := [(0, .ref 2000), (1, .ref 0), (2, .ref 241), (3, .ref 251), (4, .ref 252), (5, .int i), (6, .int (μ2 241 12))]) (st' := []) (show z_pt 320 363 = some (9, .istore 6, []) by decide +kernel) rfl (fun _ _ => rfl) ?_
  refine L_pure (pc := 365) (pc' := 366) (st' := [.ref 241]) (show z_pt 320 365 = some (9, .aload_n 2, []) by decide +kernel) rfl (fun _ _ => rfl) ?_
  refine L_pure (pc := 366) (pc' := 367) (st' := [.ref 2000, .ref 241]) (show z_pt 320 366 = some (9, .aload_n 0, []) by decide +kernel) rfl (fun _ _ => rfl) ?_
  refine L_pure (pc := 367) (pc' := 369) (st' := [.int i, .ref 2000, .ref 241]) (show z_pt 320 367 = some (9, .iload 5, []) by decide +kernel) rfl (fun _ _ => rfl) ?_
  refine L_const (pc := 369) (pc' := 370) (v := 1) (show z_ptc 320 369 = some (370, 1) by decide +kernel) ?_
  refine L_pure (pc := 370) (pc' := 371) (st' := [.int (i + 1), .ref 2000, .ref 241]) (show z_pt 320 370 = some (9, .iadd, []) by decide +kernel) rfl (fun _ _ => rfl) ?_
  refine L_scr (pc := 371) (show z_pt 320 371 = some (9, .iaload, []) by decide +kernel) hb1 hc1 ?_
  refine L_pure (pc := 372) (pc' := 373) (st' := [.ref 2000, .int c1, .ref 241]) (show z_pt 320 372 = some (9, .aload_n 0, []) by decide +kernel) rfl (fun _ _ => rfl) ?_
  refine L_pure (pc := 373) (pc' := 375) (st' := [.int i, .ref 2000, .int c1, .ref 241]) (show z_pt 320 373 = some (9, .iload 5, []) by decide +kernel) rfl (fun _ _ => rfl) ?_
  refine L_const (pc := 375) (pc' := 376) (v := 2) (show z_ptc 320 375 = some (376, 2) by decide +kernel) ?_
  refine L_pure (pc := 376) (pc' := 377) (st' := [.int (i + 2), .ref 2000, .int c1, .ref 241]) (show z_pt 320 376 = some (9, .iadd, []) by decide +kernel) rfl (fun _ _ => rfl) ?_
  refine L_scr (pc := 377) (show z_pt 320 377 = some (9, .iaload, []) by decide +kernel) hb2 hc2 ?_
  refine L_pure (pc := 378) (pc' := 379) (st' := [.ref 2000, .int c2, .int c1, .ref 241]) (show z_pt 320 378 = some (9, .aload_n 0, []) by decide +kernel) rfl (fun _ _ => rfl) ?_
  refine L_pure (pc := 379) (pc' := 381) (st' := [.int i, .ref 2000, .int c2, .int c1, .ref 241]) (show z_pt 320 379 = some (9, .iload 5, []) by decide +kernel) rfl (fun _ _ => rfl) ?_
  refine L_const (pc := 381) (pc' := 382) (v := 3) (show z_ptc 320 381 = some (382, 3) by decide +kernel) ?_
  refine L_pure (pc := 382) (pc' := 383) (st' := [.int (i + 3), .ref 2000, .int c2, .int c1, .ref 241]) (show z_pt 320 382 = some (9, .iadd, []) by decide +kernel) rfl (fun _ _ => rfl) ?_
  refine L_scr (pc := 383) (show z_pt 320 383 = some (9, .iaload, []) by decide +kernel) hb3 hc3 ?_
  refine L_call (pc := 384) (rr := []) (show z_pt 320 384 = some (9, .invokevirtual 187, [0, 182, 3, 6207, 6208, 6209, 1012, 6210]) by decide +kernel) rfl (show z_r2 182 = some (10, 4, true) by decide +kernel) rfl rfl (Or.inr ⟨_, _, rfl, (show z_ci 241 10 = true by decide +kernel)⟩) (pm_mesh_run (r := (b, μ2)) h2) (by omega) ?_
  refine L_at (pc := 387) (st := [.int b]) ?_
  refine L_pure (pc := 387) (pc' := 389) (ls' := [(0, .ref 2000), (1, .ref 0), (2, .ref 241), (3, .ref 251), (4, .ref 252), (5, .int i), (6, .int (μ2 241 12)), (7, .int b)]) (st' := []) (show z_pt 320 387 = some (9, .istore 7, []) by decide +kernel) rfl (fun _ _ => rfl) ?_
  refine L_pure (pc := 389) (pc' := 390) (st' := [.ref 241]) (show z_pt 320 389 = some (9, .aload_n 2, []) by decide +kernel) rfl (fun _ _ => rfl) ?_
  refine L_call (pc := 390) (rr := []) (show z_pt 320 390 = some (9, .invokevirtual 181, [0, 159, 0, 6173, 6174, 6175, 1012, 6176]) by decide +kernel) rfl (show z_r2 159 = some (10, 1, true) by decide +kernel) rfl rfl (Or.inr ⟨_, _, rfl, (show z_ci 241 10 = true by decide +kernel)⟩) (pm_thrown_run (r := μ2 241 12) rfl) (by omega) ?_
  refine L_at (pc := 393) (st := [.int (μ2 241 12)]) ?_
  refine L_pure (pc := 393) (pc' := 395) (st' := [.int (μ2 241 12), .int (μ2 241 12)]) (show z_pt 320 393 = some (9, .iload 6, []) by decide +kernel) rfl (fun _ _ => rfl) ?_
  refine L_icT (pc := 395) (t := 400) (show z_pt 320 395 = some (9, .if_icmp .eq 5, []) by decide +kernel) (by decide) (decide_eq_true rfl) ?_
  refine L_pure (pc := 400) (pc' := 402) (st' := [.int (μ2 241 12)]) (show z_pt 320 400 = some (9, .iload 6, []) by decide +kernel) rfl (fun _ _ => rfl) ?_
  by_cases hz0 : μ2 241 12 = 0
  · refine L_ifF (pc := 402) (t := 417) (show z_pt 320 402 = some (9, .ifCond .ne 15, []) by decide +kernel) (by decide) (decide_eq_false (fun h => h hz0)) ?_
    refine L_pure (pc := 405) (pc' := 406) (st' := [.ref 251]) (show z_pt 320 405 = some (9, .aload_n 3, []) by decide +kernel) rfl (fun _ _ => rfl) ?_
    refine L_const (pc := 406) (pc' := 407) (v := 0) (show z_ptc 320 406 = some (407, 0) by decide +kernel) ?_
    refine L_lald (pc := 407) (show z_pt 320 407 = some (9, .laload, []) by decide +kernel) ?_
    refine L_pure (pc := 408) (pc' := 410) (st' := [.int b, .long (a1 0)]) (show z_pt 320 408 = some (9, .iload 7, []) by decide +kernel) rfl (fun _ _ => rfl) ?_
    refine L_pure (pc := 410) (pc' := 411) (st' := [.long (Int32.toInt64 b), .long (a1 0)]) (show z_pt 320 410 = some (9, .i2l, []) by decide +kernel) rfl (fun _ _ => rfl) ?_
    refine L_pure (pc := 411) (pc' := 412) (st' := [.int (lg_cmp (a1 0) (Int32.toInt64 b))]) (show z_pt 320 411 = some (9, .lcmp, []) by decide +kernel) rfl (fun _ _ => rfl) ?_
    refine L_ifT (pc := 412) (t := 417) (show z_pt 320 412 = some (9, .ifCond .eq 5, []) by decide +kernel) (by decide) (z_lc (hz hz0)) ?_
    refine L_pure (pc := 417) (pc' := 3330) (show z_pt 320 417 = some (9, .goto 2913, []) by decide +kernel) rfl (fun _ _ => rfl) ?_
    refine L_inc (pc := 3330) (pc' := 3333) (ls' := [(0, .ref 2000), (1, .ref 0), (2, .ref 241), (3, .ref 251), (4, .ref 252), (5, .int (i + 4)), (6, .int (μ2 241 12)), (7, .int b)]) (c := 4) (show z_pt 320 3330 = some (9, .iinc 5 4, []) by decide +kernel) (by decide) rfl rfl ?_
    refine L_pure (pc := 3333) (pc' := 28) (ls' := [(0, .ref 2000), (1, .ref 0), (2, .ref 241), (3, .ref 251), (4, .ref 252), (5, .int (i + 4))]) (st' := []) (show z_pt 320 3333 = some (9, .goto (-3305), [6]) by decide +kernel) rfl (fun _ _ => rfl) ?_
    exact kk _ _
  · refine L_ifT (pc := 402) (t := 417) (show z_pt 320 402 = some (9, .ifCond .ne 15, []) by decide +kernel) (by decide) (decide_eq_true hz0) ?_
    refine L_pure (pc := 417) (pc' := 3330) (show z_pt 320 417 = some (9, .goto 2913, []) by decide +kernel) rfl (fun _ _ => rfl) ?_
    refine L_inc (pc := 3330) (pc' := 3333) (ls' := [(0, .ref 2000), (1, .ref 0), (2, .ref 241), (3, .ref 251), (4, .ref 252), (5, .int (i + 4)), (6, .int (μ2 241 12)), (7, .int b)]) (c := 4) (show z_pt 320 3330 = some (9, .iinc 5 4, []) by decide +kernel) (by decide) rfl rfl ?_
    refine L_pure (pc := 3333) (pc' := 28) (ls' := [(0, .ref 2000), (1, .ref 0), (2, .ref 241), (3, .ref 251), (4, .ref 252), (5, .int (i + 4))]) (st' := []) (show z_pt 320 3333 = some (9, .goto (-3305), [6]) by decide +kernel) rfl (fun _ _ => rfl) ?_
    exact kk _ _
theorem pL_arm2 {sc : Nat × (Nat → Int32)} {D J : Nat} {i c1 c2 : Int32} {b : Int32} {r : Int32 ⊕ Nat} {μ μ1 μ2 : z_Mem} {a : Nat → Int64} {q : Nat → UInt64} {o : z_R} {P : z_LP} (hD : 9 ≤ D) (hb1 : z_inb (i + 1) sc.1 = true) (hc1 : sc.2 (i + 1).toNatClampNeg = c1) (hb2 : z_inb (i + 2) sc.1 = true) (hc2 : sc.2 (i + 2).toNatClampNeg = c2) (h1 : pG_part μ c1 c2 = some (r, μ1)) (h2 : pm_part μ1 c1 c2 = some (b, μ2)) (hag : z_agI [0, 3] r b (μ2 241 12)) (kk : ∀ (a : Nat → Int64) (q : Nat → UInt64), Rl sc D 320 28 [(0, .ref 2000), (1, .ref 0), (2, .ref 241), (3, .ref 251), (4, .ref 252), (5, .int (i + 4))] [] μ2 a q o P J) : Rl sc D 320 420 [(0, .ref 2000), (1, .ref 0), (2, .ref 241), (3, .ref 251), (4, .ref 252), (5, .int i)] [] μ a q o P (1 + J) := by
  obtain ⟨a1, q1, hz, hR⟩ := pL_part (sc := sc) (a := a) (q := q) h1 hag
  refine L_pure (pc := 420) (pc' := 421) (st' := [.ref 0]) (show z_pt 320 420 = some (9, .aload_n 1, []) by decide +kernel) rfl (fun _ _ => rfl) ?_
  refine L_pure (pc := 421) (pc' := 422) (st' := [.ref 2000, .ref 0]) (show z_pt 320 421 = some (9, .aload_n 0, []) by decide +kernel) rfl (fun _ _ => rfl) ?_
  refine L_pure (pc := 422) (pc' := 424) (st' := [.int i, .ref 2000, .ref 0]) (show z_pt 320 422 = some (9, .iload 5, []) by decide +kernel) rfl (fun _ _ => rfl) ?_
  refine L_const (pc := 424) (pc' := 425) (v := 1) (show z_ptc 320 424 = some (425, 1) by decide +kernel) ?_
  refine L_pure (pc := 425) (pc' := 426) (st' := [.int (i + 1), .ref 2000, .ref 0]) (show z_pt 320 425 = some (9, .iadd, []) by decide +kernel) rfl (fun _ _ => rfl) ?_
  refine L_scr (pc := 426) (show z_pt 320 426 = some (9, .iaload, []) by decide +kernel) hb1 hc1 ?_
  refine L_pure (pc := 427) (pc' := 428) (st' := [.ref 2000, .int c1, .ref 0]) (show z_pt 320 427 = some (9, .aload_n 0, []) by decide +kernel) rfl (fun _ _ => rfl) ?_
  refine L_pure (pc := 428) (pc' := 430) (st' := [.int i, .ref 2000, .int c1, .ref 0]) (show z_pt 320 428 = some (9, .iload 5, []) by decide +kernel) rfl (fun _ _ => rfl) ?_
  refine L_const (pc := 430) (pc' := 431) (v := 2) (show z_ptc 320 430 = some (431, 2) by decide +kernel) ?_
  refine L_pure (pc := 431) (pc' := 432) (st' := [.int (i + 2), .ref 2000, .int c1, .ref 0]) (show z_pt 320 431 = some (9, .iadd, []) by decide +kernel) rfl (fun _ _ => rfl) ?_
  refine L_scr (pc := 432) (show z_pt 320 432 = some (9, .iaload, []) by decide +kernel) hb2 hc2 ?_
  refine L_pure (pc := 433) (pc' := 434) (st' := [.ref 251, .int c2, .int c1, .ref 0]) (show z_pt 320 433 = some (9, .aload_n 3, []) by decide +kernel) rfl (fun _ _ => rfl) ?_
  refine L_callF (pc := 434) (rr := []) (show z_pt 320 434 = some (9, .invokestatic 188, [5, 276, 4, 3175, 3176, 0, 1000, 3177]) by decide +kernel) rfl (show z_r3 276 = some (11, 5, true) by decide +kernel) rfl rfl hR (by omega) ?_
  refine L_at (pc := 437) (st := [.int (μ2 241 12)]) ?_
  refine L_pure (pc := 437) (pc' := 439) (ls' := [(0, .ref 2000), (1, .ref 0), (2, .ref 241), (3, .ref 251), (4, .ref 252), (5, .int i), (6, .int (μ2 241 12))]) (st' := []) (show z_pt 320 437 = some (9, .istore 6, []) by decide +kernel) rfl (fun _ _ => rfl) ?_
  refine L_pure (pc := 439) (pc' := 440) (st' := [.ref 241]) (show z_pt 320 439 = some (9, .aload_n 2, []) by decide +kernel) rfl (fun _ _ => rfl) ?_
  refine L_pure (pc := 440) (pc' := 441) (st' := [.ref 2000, .ref 241]) (show z_pt 320 440 = some (9, .aload_n 0, []) by decide +kernel) rfl (fun _ _ => rfl) ?_
  refine L_pure (pc := 441) (pc' := 443) (st' := [.int i, .ref 2000, .ref 241]) (show z_pt 320 441 = some (9, .iload 5, []) by decide +kernel) rfl (fun _ _ => rfl) ?_
  refine L_const (pc := 443) (pc' := 444) (v := 1) (show z_ptc 320 443 = some (444, 1) by decide +kernel) ?_
  refine L_pure (pc := 444) (pc' := 445) (st' := [.int (i + 1), .ref 2000, .ref 241]) (show z_pt 320 444 = some (9, .iadd, []) by decide +kernel) rfl (fun _ _ => rfl) ?_
  refine L_scr (pc := 445) (show z_pt 320 445 = some (9, .iaload, []) by decide +kernel) hb1 hc1 ?_
  refine L_pure (pc := 446) (pc' := 447) (st' := [.ref 2000, .int c1, .ref 241]) (show z_pt 320 446 = some (9, .aload_n 0, []) by decide +kernel) rfl (fun _ _ => rfl) ?_
  refine L_pure (pc := 447) (pc' := 449) (st' := [.int i, .ref 2000, .int c1, .ref 241]) (show z_pt 320 447 = some (9, .iload 5, []) by decide +kernel) rfl (fun _ _ => rfl) ?_
  refine L_const (pc := 449) (pc' := 450) (v := 2) (show z_ptc 320 449 = some (450, 2) by decide +kernel) ?_
  refine L_pure (pc := 450) (pc' := 451) (st' := [.int (i + 2), .ref 2000, .int c1, .ref 241]) (show z_pt 320 450 = some (9, .iadd, []) by decide +kernel) rfl (fun _ _ => rfl) ?_
  refine L_scr (pc := 451) (show z_pt 320 451 = some (9, .iaload, []) by decide +kernel) hb2 hc2 ?_
  refine L_call (pc := 452) (rr := []) (show z_pt 320 452 = some (9, .invokevirtual 191, [0, 184, 2, 7002, 7003, 7004, 1012, 7005]) by decide +kernel) rfl (show z_r2 184 = some (10, 3, true) by decide +kernel) rfl rfl (Or.inr ⟨_, _, rfl, (show z_ci 241 10 = true by decide +kernel)⟩) (pm_part_run (r := (b, μ2)) h2) (by omega) ?_
  refine L_at (pc := 455) (st := [.int b]) ?_
  refine L_pure (pc := 455) (pc' := 457) (ls' := [(0, .ref 2000), (1, .ref 0), (2, .ref 241), (3, .ref 251), (4, .ref 252), (5, .int i), (6, .int (μ2 241 12)), (7, .int b)]) (st' := []) (show z_pt 320 455 = some (9, .istore 7, []) by decide +kernel) rfl (fun _ _ => rfl) ?_
  refine L_pure (pc := 457) (pc' := 458) (st' := [.ref 241]) (show z_pt 320 457 = some (9, .aload_n 2, []) by decide +kernel) rfl (fun _ _ => rfl) ?_
  refine L_call (pc := 458) (rr := []) (show z_pt 320 458 = some (9, .invokevirtual 181, [0, 159, 0, 6173, 6174, 6175, 1012, 6176]) by decide +kernel) rfl (show z_r2 159 = some (10, 1, true) by decide +kernel) rfl rfl (Or.inr ⟨_, _, rfl, (show z_ci 241 10 = true by decide +kernel)⟩) (pm_thrown_run (r := μ2 241 12) rfl) (by omega) ?_
  refine L_at (pc := 461) (st := [.int (μ2 241 12)]) ?_
  refine L_pure (pc := 461) (pc' := 463) (st' := [.int (μ2 241 12), .int (μ2 241 12)]) (show z_pt 320 461 = some (9, .iload 6, []) by decide +kernel) rfl (fun _ _ => rfl) ?_
  refine L_icT (pc := 463) (t := 468) (show z_pt 320 463 = some (9, .if_icmp .eq 5, []) by decide +kernel) (by decide) (decide_eq_true rfl) ?_
  refine L_pure (pc := 468) (pc' := 470) (st' := [.int (μ2 241 12)]) (show z_pt 320 468 = some (9, .iload 6, []) by decide +kernel) rfl (fun _ _ => rfl) ?_
  by_cases hz0 : μ2 241 12 = 0
  · refine L_ifF (pc := 470) (t := 485) (show z_pt 320 470 = some (9, .ifCond .ne 15, []) by decide +kernel) (by decide) (decide_eq_false (fun h => h hz0)) ?_
    refine L_pure (pc := 473) (pc' := 474) (st' := [.ref 251]) (show z_pt 320 473 = some (9, .aload_n 3, []) by decide +kernel) rfl (fun _ _ => rfl) ?_
    refine L_const (pc := 474) (pc' := 475) (v := 0) (show z_ptc 320 474 = some (475, 0) by decide +kernel) ?_
    refine L_lald (pc := 475) (show z_pt 320 475 = some (9, .laload, []) by decide +kernel) ?_
    refine L_pure (pc := 476) (pc' := 478) (st' := [.int b, .long (a1 0)]) (show z_pt 320 476 = some (9, .iload 7, []) by decide +kernel) rfl (fun _ _ => rfl) ?_
    refine L_pure (pc := 478) (pc' := 479) (st' := [.long (Int32.toInt64 b), .long (a1 0)]) (show z_pt 320 478 = some (9, .i2l, []) by decide +kernel) rfl (fun _ _ => rfl) ?_
    refine L_pure (pc := 479) (pc' := 480) (st' := [.int (lg_cmp (a1 0) (Int32.toInt64 b))]) (show z_pt 320 479 = some (9, .lcmp, []) by decide +kernel) rfl (fun _ _ => rfl) ?_
    refine L_ifT (pc := 480) (t := 485) (show z_pt 320 480 = some (9, .ifCond .eq 5, []) by decide +kernel) (by decide) (z_lc (hz hz0)) ?_
    refine L_pure (pc := 485) (pc' := 3330) (show z_pt 320 485 = some (9, .goto 2845, []) by decide +kernel) rfl (fun _ _ => rfl) ?_
    refine L_inc (pc := 3330) (pc' := 3333) (ls' := [(0, .ref 2000), (1, .ref 0), (2, .ref 241), (3, .ref 251), (4, .ref 252), (5, .int (i + 4)), (6, .int (μ2 241 12)), (7, .int b)]) (c := 4) (show z_pt 320 3330 = some (9, .iinc 5 4, []) by decide +kernel) (by decide) rfl rfl ?_
    refine L_pure (pc := 3333) (pc' := 28) (ls' := [(0, .ref 2000), (1, .ref 0), (2, .ref 241), (3, .ref 251), (4, .ref 252), (5, .int (i + 4))]) (st' := []) (show z_pt 320 3333 = some (9, .goto (-3305), [6]) by decide +kernel) rfl (fun _ _ => rfl) ?_
    exact kk _ _
  · refine L_ifT (pc := 470) (t := 485) (show z_pt 320 470 = some (9, .ifCond .ne 15, []) by decide +kernel) (by decide) (decide_eq_true hz0) ?_
    refine L_pure (pc := 485) (pc' := 3330) (show z_pt 320 485 = some (9, .goto 2845, []) by decide +kernel) rfl (fun _ _ => rfl) ?_
    refine L_inc (pc := 3330) (pc' := 3333) (ls' := [(0, .ref 2000), (1, .ref 0), (2, .ref 241), (3, .ref 251), (4, .ref 252), (5, .int (i + 4)), (6, .int (μ2 241 12)), (7, .int b)]) (c := 4) (show z_pt 320 3330 = some (9, .iinc 5 4, []) by decide +kernel) (by decide) rfl rfl ?_
    refine L_pure (pc := 3333) (pc' := 28) (ls' := [(0, .ref 2000), (1, .ref 0), (2, .ref 241), (3, .ref 251), (4, .ref 252), (5, .int (i + 4))]) (st' := []) (show z_pt 320 3333 = some (9, .goto (-3305), [6]) by decide +kernel) rfl (fun _ _ => rfl) ?_
    exact kk _ _
theorem pL_arm3 {sc : Nat × (Nat → Int32)} {D J : Nat} {i c1 c2 : Int32} {b : Int32} {r : Int32 ⊕ Nat} {μ μ1 μ2 : z_Mem} {a : Nat → Int64} {q : Nat → UInt64} {o : z_R} {P : z_LP} (hD : 19 ≤ D) (hb1 : z_inb (i + 1) sc.1 = true) (hc1 : sc.2 (i + 1).toNatClampNeg = c1) (hb2 : z_inb (i + 2) sc.1 = true) (hc2 : sc.2 (i + 2).toNatClampNeg = c2) (h1 : pG_turn μ c1 c2 = some (r, μ1)) (h2 : pm_turn μ1 c1 c2 = some (b, μ2)) (hag : z_agI [0, 1] r b (μ2 241 12)) (kk : ∀ (a : Nat → Int64) (q : Nat → UInt64), Rl sc D 320 28 [(0, .ref 2000), (1, .ref 0), (2, .ref 241), (3, .ref 251), (4, .ref 252), (5, .int (i + 4))] [] μ2 a q o P J) : Rl sc D 320 488 [(0, .ref 2000), (1, .ref 0), (2, .ref 241), (3, .ref 251), (4, .ref 252), (5, .int i)] [] μ a q o P (1 + J) := by
  obtain ⟨a1, q1, hz, hR⟩ := pL_turn (sc := sc) (a := a) (q := q) h1 hag
  refine L_pure (pc := 488) (pc' := 489) (st' := [.ref 0]) (show z_pt 320 488 = some (9, .aload_n 1, []) by decide +kernel) rfl (fun _ _ => rfl) ?_
  refine L_pure (pc := 489) (pc' := 490) (st' := [.ref 2000, .ref 0]) (show z_pt 320 489 = some (9, .aload_n 0, []) by decide +kernel) rfl (fun _ _ => rfl) ?_
  refine L_pure (pc := 490) (pc' := 492) (st' := [.int i, .ref 2000, .ref 0]) (show z_pt 320 490 = some (9, .iload 5, []) by decide +kernel) rfl (fun _ _ => rfl) ?_
  refine L_const (pc := 492) (pc' := 493) (v := 1) (show z_ptc 320 492 = some (493, 1) by decide +kernel) ?_
  refine L_pure (pc := 493) (pc' := 494) (st' := [.int (i + 1), .ref 2000, .ref 0]) (show z_pt 320 493 = some (9, .iadd, []) by decide +kernel) rfl (fun _ _ => rfl) ?_
  refine L_scr (pc := 494) (show z_pt 320 494 = some (9, .iaload, []) by decide +kernel) hb1 hc1 ?_
  refine L_pure (pc := 495) (pc' := 496) (st' := [.ref 2000, .int c1, .ref 0]) (show z_pt 320 495 = some (9, .aload_n 0, []) by decide +kernel) rfl (fun _ _ => rfl) ?_
  refine L_pure (pc := 496) (pc' := 498) (st' := [.int i, .ref 2000, .int c1, .ref 0]) (show z_pt 320 496 = some (9, .iload 5, []) by decide +kernel) rfl (fun _ _ => rfl) ?_
  refine L_const (pc := 498) (pc' := 499) (v := 2) (show z_ptc 320 498 = some (499, 2) by decide +kernel) ?_
  refine L_pure (pc := 499) (pc' := 500) (st' := [.int (i + 2), .ref 2000, .int c1, .ref 0]) (show z_pt 320 499 = some (9, .iadd, []) by decide +kernel) rfl (fun _ _ => rfl) ?_
  refine L_scr (pc := 500) (show z_pt 320 500 = some (9, .iaload, []) by decide +kernel) hb2 hc2 ?_
  refine L_pure (pc := 501) (pc' := 502) (st' := [.ref 251, .int c2, .int c1, .ref 0]) (show z_pt 320 501 = some (9, .aload_n 3, []) by decide +kernel) rfl (fun _ _ => rfl) ?_
  refine L_callF (pc := 502) (rr := []) (show z_pt 320 502 = some (9, .invokestatic 192, [5, 277, 4, 3192, 3193, 0, 1000, 3194]) by decide +kernel) rfl (show z_r3 277 = some (11, 5, true) by decide +kernel) rfl rfl hR (by omega) ?_
  refine L_at (pc := 505) (st := [.int (μ2 241 12)]) ?_
  refine L_pure (pc := 505) (pc' := 507) (ls' := [(0, .ref 2000), (1, .ref 0), (2, .ref 241), (3, .ref 251), (4, .ref 252), (5, .int i), (6, .int (μ2 241 12))]) (st' := []) (show z_pt 320 505 = some (9, .istore 6, []) by decide +kernel) rfl (fun _ _ => rfl) ?_
  refine L_pure (pc := 507) (pc' := 508) (st' := [.ref 241]) (show z_pt 320 507 = some (9, .aload_n 2, []) by decide +kernel) rfl (fun _ _ => rfl) ?_
  refine L_pure (pc := 508) (pc' := 509) (st' := [.ref 2000, .ref 241]) (show z_pt 320 508 = some (9, .aload_n 0, []) by decide +kernel) rfl (fun _ _ => rfl) ?_
  refine L_pure (pc := 509) (pc' := 511) (st' := [.int i, .ref 2000, .ref 241]) (show z_pt 320 509 = some (9, .iload 5, []) by decide +kernel) rfl (fun _ _ => rfl) ?_
  refine L_const (pc := 511) (pc' := 512) (v := 1) (show z_ptc 320 511 = some (512, 1) by decide +kernel) ?_
  refine L_pure (pc := 512) (pc' := 513) (st' := [.int (i + 1), .ref 2000, .ref 241]) (show z_pt 320 512 = some (9, .iadd, []) by decide +kernel) rfl (fun _ _ => rfl) ?_
  refine L_scr (pc := 513) (show z_pt 320 513 = some (9, .iaload, []) by decide +kernel) hb1 hc1 ?_
  refine L_pure (pc := 514) (pc' := 515) (st' := [.ref 2000, .int c1, .ref 241]) (show z_pt 320 514 = some (9, .aload_n 0, []) by decide +kernel) rfl (fun _ _ => rfl) ?_
  refine L_pure (pc := 515) (pc' := 517) (st' := [.int i, .ref 2000, .int c1, .ref 241]) (show z_pt 320 515 = some (9, .iload 5, []) by decide +kernel) rfl (fun _ _ => rfl) ?_
  refine L_const (pc := 517) (pc' := 518) (v := 2) (show z_ptc 320 517 = some (518, 2) by decide +kernel) ?_
  refine L_pure (pc := 518) (pc' := 519) (st' := [.int (i + 2), .ref 2000, .int c1, .ref 241]) (show z_pt 320 518 = some (9, .iadd, []) by decide +kernel) rfl (fun _ _ => rfl) ?_
  refine L_scr (pc := 519) (show z_pt 320 519 = some (9, .iaload, []) by decide +kernel) hb2 hc2 ?_
  refine L_call (pc := 520) (rr := []) (show z_pt 320 520 = some (9, .invokevirtual 194, [0, 188, 2, 7014, 7015, 7016, 1012, 7017]) by decide +kernel) rfl (show z_r2 188 = some (10, 3, true) by decide +kernel) rfl rfl (Or.inr ⟨_, _, rfl, (show z_ci 241 10 = true by decide +kernel)⟩) (pm_turn_run (r := (b, μ2)) h2) (by omega) ?_
  refine L_at (pc := 523) (st := [.int b]) ?_
  refine L_pure (pc := 523) (pc' := 525) (ls' := [(0, .ref 2000), (1, .ref 0), (2, .ref 241), (3, .ref 251), (4, .ref 252), (5, .int i), (6, .int (μ2 241 12)), (7, .int b)]) (st' := []) (show z_pt 320 523 = some (9, .istore 7, []) by decide +kernel) rfl (fun _ _ => rfl) ?_
  refine L_pure (pc := 525) (pc' := 526) (st' := [.ref 241]) (show z_pt 320 525 = some (9, .aload_n 2, []) by decide +kernel) rfl (fun _ _ => rfl) ?_
  refine L_call (pc := 526) (rr := []) (show z_pt 320 526 = some (9, .invokevirtual 181, [0, 159, 0, 6173, 6174, 6175, 1012, 6176]) by decide +kernel) rfl (show z_r2 159 = some (10, 1, true) by decide +kernel) rfl rfl (Or.inr ⟨_, _, rfl, (show z_ci 241 10 = true by decide +kernel)⟩) (pm_thrown_run (r := μ2 241 12) rfl) (by omega) ?_
  refine L_at (pc := 529) (st := [.int (μ2 241 12)]) ?_
  refine L_pure (pc := 529) (pc' := 531) (st' := [.int (μ2 241 12), .int (μ2 241 12)]) (show z_pt 320 529 = some (9, .iload 6, []) by decide +kernel) rfl (fun _ _ => rfl) ?_
  refine L_icT (pc := 531) (t := 536) (show z_pt 320 531 = some (9, .if_icmp .eq 5, []) by decide +kernel) (by decide) (decide_eq_true rfl) ?_
  refine L_pure (pc := 536) (pc' := 538) (st' := [.int (μ2 241 12)]) (show z_pt 320 536 = some (9, .iload 6, []) by decide +kernel) rfl (fun _ _ => rfl) ?_
  by_cases hz0 : μ2 241 12 = 0
  · refine L_ifF (pc := 538) (t := 553) (show z_pt 320 538 = some (9, .ifCond .ne 15, []) by decide +kernel) (by decide) (decide_eq_false (fun h => h hz0)) ?_
    refine L_pure (pc := 541) (pc' := 542) (st' := [.ref 251]) (show z_pt 320 541 = some (9, .aload_n 3, []) by decide +kernel) rfl (fun _ _ => rfl) ?_
    refine L_const (pc := 542) (pc' := 543) (v := 0) (show z_ptc 320 542 = some (543, 0) by decide +kernel) ?_
    refine L_lald (pc := 543) (show z_pt 320 543 = some (9, .laload, []) by decide +kernel) ?_
    refine L_pure (pc := 544) (pc' := 546) (st' := [.int b, .long (a1 0)]) (show z_pt 320 544 = some (9, .iload 7, []) by decide +kernel) rfl (fun _ _ => rfl) ?_
    refine L_pure (pc := 546) (pc' := 547) (st' := [.long (Int32.toInt64 b), .long (a1 0)]) (show z_pt 320 546 = some (9, .i2l, []) by decide +kernel) rfl (fun _ _ => rfl) ?_
    refine L_pure (pc := 547) (pc' := 548) (st' := [.int (lg_cmp (a1 0) (Int32.toInt64 b))]) (show z_pt 320 547 = some (9, .lcmp, []) by decide +kernel) rfl (fun _ _ => rfl) ?_
    refine L_ifT (pc := 548) (t := 553) (show z_pt 320 548 = some (9, .ifCond .eq 5, []) by decide +kernel) (by decide) (z_lc (hz hz0)) ?_
    refine L_pure (pc := 553) (pc' := 3330) (show z_pt 320 553 = some (9, .goto 2777, []) by decide +kernel) rfl (fun _ _ => rfl) ?_
    refine L_inc (pc := 3330) (pc' := 3333) (ls' := [(0, .ref 2000), (1, .ref 0), (2, .ref 241), (3, .ref 251), (4, .ref 252), (5, .int (i + 4)), (6, .int (μ2 241 12)), (7, .int b)]) (c := 4) (show z_pt 320 3330 = some (9, .iinc 5 4, []) by decide +kernel) (by decide) rfl rfl ?_
    refine L_pure (pc := 3333) (pc' := 28) (ls' := [(0, .ref 2000), (1, .ref 0), (2, .ref 241), (3, .ref 251), (4, .ref 252), (5, .int (i + 4))]) (st' := []) (show z_pt 320 3333 = some (9, .goto (-3305), [6]) by decide +kernel) rfl (fun _ _ => rfl) ?_
    exact kk _ _
  · refine L_ifT (pc := 538) (t := 553) (show z_pt 320 538 = some (9, .ifCond .ne 15, []) by decide +kernel) (by decide) (decide_eq_true hz0) ?_
    refine L_pure (pc := 553) (pc' := 3330) (show z_pt 320 553 = some (9, .goto 2777, []) by decide +kernel) rfl (fun _ _ => rfl) ?_
    refine L_inc (pc := 3330) (pc' := 3333) (ls' := [(0, .ref 2000), (1, .ref 0), (2, .ref 241), (3, .ref 251), (4, .ref 252), (5, .int (i + 4)), (6, .int (μ2 241 12)), (7, .int b)]) (c := 4) (show z_pt 320 3330 = some (9, .iinc 5 4, []) by decide +kernel) (by decide) rfl rfl ?_
    refine L_pure (pc := 3333) (pc' := 28) (ls' := [(0, .ref 2000), (1, .ref 0), (2, .ref 241), (3, .ref 251), (4, .ref 252), (5, .int (i + 4))]) (st' := []) (show z_pt 320 3333 = some (9, .goto (-3305), [6]) by decide +kernel) rfl (fun _ _ => rfl) ?_
    exact kk _ _
theorem pL_arm4 {sc : Nat × (Nat → Int32)} {D J : Nat} {i b : Int32} {μ μ2 : z_Mem} {a : Nat → Int64} {q : Nat → UInt64} {o : z_R} {P : z_LP} (hD : 2 ≤ D) (h1 : pG_gearCount μ = some b) (h2 : pm_gearCount μ = some (b, μ2)) (kk : Rl sc D 320 28 [(0, .ref 2000), (1, .ref 0), (2, .ref 241), (3, .ref 251), (4, .ref 252), (5, .int (i + 4))] [] μ2 a q o P J) : Rl sc D 320 556 [(0, .ref 2000), (1, .ref 0), (2, .ref 241), (3, .ref 251), (4, .ref 252), (5, .int i)] [] μ a q o P J := by
  refine L_pure (pc := 556) (pc' := 557) (st' := [.ref 0]) (show z_pt 320 556 = some (9, .aload_n 1, []) by decide +kernel) rfl (fun _ _ => rfl) ?_
  refine L_call (pc := 557) (rr := []) (show z_pt 320 557 = some (9, .invokevirtual 195, [0, 81, 0, 2070, 2071, 2072, 1001, 2073]) by decide +kernel) rfl (show z_r2 81 = some (9, 1, true) by decide +kernel) rfl rfl (Or.inr ⟨_, _, rfl, (show z_ci 0 9 = true by decide +kernel)⟩) (pG_gearCount_run h1) (by omega) ?_
  refine L_at (pc := 560) (st := [.int b]) ?_
  refine L_pure (pc := 560) (pc' := 561) (st' := [.ref 241, .int b]) (show z_pt 320 560 = some (9, .aload_n 2, []) by decide +kernel) rfl (fun _ _ => rfl) ?_
  refine L_call (pc := 561) (rr := [.int b]) (show z_pt 320 561 = some (9, .invokevirtual 198, [0, 189, 0, 7040, 7041, 7042, 1012, 7043]) by decide +kernel) rfl (show z_r2 189 = some (10, 1, true) by decide +kernel) rfl rfl (Or.inr ⟨_, _, rfl, (show z_ci 241 10 = true by decide +kernel)⟩) (pm_gearCount_run (r := (b, μ2)) h2) (by omega) ?_
  refine L_at (pc := 564) (st := [.int b, .int b]) ?_
  refine L_icT (pc := 564) (t := 3330) (show z_pt 320 564 = some (9, .if_icmp .eq 2766, []) by decide +kernel) (by decide) (decide_eq_true rfl) ?_
  refine L_inc (pc := 3330) (pc' := 3333) (ls' := [(0, .ref 2000), (1, .ref 0), (2, .ref 241), (3, .ref 251), (4, .ref 252), (5, .int (i + 4))]) (c := 4) (show z_pt 320 3330 = some (9, .iinc 5 4, []) by decide +kernel) (by decide) rfl rfl ?_
  refine L_pure (pc := 3333) (pc' := 28) (ls' := [(0, .ref 2000), (1, .ref 0), (2, .ref 241), (3, .ref 251), (4, .ref 252), (5, .int (i + 4))]) (st' := []) (show z_pt 320 3333 = some (9, .goto (-3305), [6]) by decide +kernel) rfl (fun _ _ => rfl) ?_
  exact kk
theorem pL_arm5 {sc : Nat × (Nat → Int32)} {D J : Nat} {i c1 : Int32} {b : Int32} {r : Int32 ⊕ Nat} {μ μ2 : z_Mem} {a : Nat → Int64} {q : Nat → UInt64} {o : z_R} {P : z_LP} (hD : 9 ≤ D) (hb1 : z_inb (i + 1) sc.1 = true) (hc1 : sc.2 (i + 1).toNatClampNeg = c1) (h1 : pG_teeth μ c1 = some r) (h2 : pm_teeth μ c1 = some (b, μ2)) (hag : z_agI [0] r b (μ2 241 12)) (kk : ∀ (a : Nat → Int64) (q : Nat → UInt64), Rl sc D 320 28 [(0, .ref 2000), (1, .ref 0), (2, .ref 241), (3, .ref 251), (4, .ref 252), (5, .int (i + 4))] [] μ2 a q o P J) : Rl sc D 320 569 [(0, .ref 2000), (1, .ref 0), (2, .ref 241), (3, .ref 251), (4, .ref 252), (5, .int i)] [] μ a q o P (1 + J) := by
  obtain ⟨a1, q1, hz, hR⟩ := pL_teeth (sc := sc) (a := a) (q := q) h1 hag
  refine L_pure (pc := 569) (pc' := 570) (st' := [.ref 0]) (show z_pt 320 569 = some (9, .aload_n 1, []) by decide +kernel) rfl (fun _ _ => rfl) ?_
  refine L_pure (pc := 570) (pc' := 571) (st' := [.ref 2000, .ref 0]) (show z_pt 320 570 = some (9, .aload_n 0, []) by decide +kernel) rfl (fun _ _ => rfl) ?_
  refine L_pure (pc := 571) (pc' := 573) (st' := [.int i, .ref 2000, .ref 0]) (show z_pt 320 571 = some (9, .iload 5, []) by decide +kernel) rfl (fun _ _ => rfl) ?_
  refine L_const (pc := 573) (pc' := 574) (v := 1) (show z_ptc 320 573 = some (574, 1) by decide +kernel) ?_
  refine L_pure (pc := 574) (pc' := 575) (st' := [.int (i + 1), .ref 2000, .ref 0]) (show z_pt 320 574 = some (9, .iadd, []) by decide +kernel) rfl (fun _ _ => rfl) ?_
  refine L_scr (pc := 575) (show z_pt 320 575 = some (9, .iaload, []) by decide +kernel) hb1 hc1 ?_
  refine L_pure (pc := 576) (pc' := 577) (st' := [.ref 251, .int c1, .ref 0]) (show z_pt 320 576 = some (9, .aload_n 3, []) by decide +kernel) rfl (fun _ _ => rfl) ?_
  refine L_callF (pc := 577) (rr := []) (show z_pt 320 577 = some (9, .invokestatic 199, [5, 278, 3, 3204, 3205, 0, 1000, 3206]) by decide +kernel) rfl (show z_r3 278 = some (11, 4, true) by decide +kernel) rfl rfl hR (by omega) ?_
  refine L_at (pc := 580) (st := [.int (μ2 241 12)]) ?_
  refine L_pure (pc := 580) (pc' := 582) (ls' := [(0, .ref 2000), (1, .ref 0), (2, .ref 241), (3, .ref 251), (4, .ref 252), (5, .int i), (6, .int (μ2 241 12))]) (st' := []) (show z_pt 320 580 = some (9, .istore 6, []) by decide +kernel) rfl (fun _ _ => rfl) ?_
  refine L_pure (pc := 582) (pc' := 583) (st' := [.ref 241]) (show z_pt 320 582 = some (9, .aload_n 2, []) by decide +kernel) rfl (fun _ _ => rfl) ?_
  refine L_pure (pc := 583) (pc' := 584) (st' := [.ref 2000, .ref 241]) (show z_pt 320 583 = some (9, .aload_n 0, []) by decide +kernel) rfl (fun _ _ => rfl) ?_
  refine L_pure (pc := 584) (pc' := 586) (st' := [.int i, .ref 2000, .ref 241]) (show z_pt 320 584 = some (9, .iload 5, []) by decide +kernel) rfl (fun _ _ => rfl) ?_
  refine L_const (pc := 586) (pc' := 587) (v := 1) (show z_ptc 320 586 = some (587, 1) by decide +kernel) ?_
  refine L_pure (pc := 587) (pc' := 588) (st' := [.int (i + 1), .ref 2000, .ref 241]) (show z_pt 320 587 = some (9, .iadd, []) by decide +kernel) rfl (fun _ _ => rfl) ?_
  refine L_scr (pc := 588) (show z_pt 320 588 = some (9, .iaload, []) by decide +kernel) hb1 hc1 ?_
  refine L_call (pc := 589) (rr := []) (show z_pt 320 589 = some (9, .invokevirtual 201, [0, 191, 1, 7044, 7045, 7046, 1012, 7047]) by decide +kernel) rfl (show z_r2 191 = some (10, 2, true) by decide +kernel) rfl rfl (Or.inr ⟨_, _, rfl, (show z_ci 241 10 = true by decide +kernel)⟩) (pm_teeth_run (r := (b, μ2)) h2) (by omega) ?_
  refine L_at (pc := 592) (st := [.int b]) ?_
  refine L_pure (pc := 592) (pc' := 594) (ls' := [(0, .ref 2000), (1, .ref 0), (2, .ref 241), (3, .ref 251), (4, .ref 252), (5, .int i), (6, .int (μ2 241 12)), (7, .int b)]) (st' := []) (show z_pt 320 592 = some (9, .istore 7, []) by decide +kernel) rfl (fun _ _ => rfl) ?_
  refine L_pure (pc := 594) (pc' := 595) (st' := [.ref 241]) (show z_pt 320 594 = some (9, .aload_n 2, []) by decide +kernel) rfl (fun _ _ => rfl) ?_
  refine L_call (pc := 595) (rr := []) (show z_pt 320 595 = some (9, .invokevirtual 181, [0, 159, 0, 6173, 6174, 6175, 1012, 6176]) by decide +kernel) rfl (show z_r2 159 = some (10, 1, true) by decide +kernel) rfl rfl (Or.inr ⟨_, _, rfl, (show z_ci 241 10 = true by decide +kernel)⟩) (pm_thrown_run (r := μ2 241 12) rfl) (by omega) ?_
  refine L_at (pc := 598) (st := [.int (μ2 241 12)]) ?_
  refine L_pure (pc := 598) (pc' := 600) (st' := [.int (μ2 241 12), .int (μ2 241 12)]) (show z_pt 320 598 = some (9, .iload 6, []) by decide +kernel) rfl (fun _ _ => rfl) ?_
  refine L_icT (pc := 600) (t := 605) (show z_pt 320 600 = some (9, .if_icmp .eq 5, []) by decide +kernel) (by decide) (decide_eq_true rfl) ?_
  refine L_pure (pc := 605) (pc' := 607) (st' := [.int (μ2 241 12)]) (show z_pt 320 605 = some (9, .iload 6, []) by decide +kernel) rfl (fun _ _ => rfl) ?_
  by_cases hz0 : μ2 241 12 = 0
  · refine L_ifF (pc := 607) (t := 622) (show z_pt 320 607 = some (9, .ifCond .ne 15, []) by decide +kernel) (by decide) (decide_eq_false (fun h => h hz0)) ?_
    refine L_pure (pc := 610) (pc' := 611) (st' := [.ref 251]) (show z_pt 320 610 = some (9, .aload_n 3, []) by decide +kernel) rfl (fun _ _ => rfl) ?_
    refine L_const (pc := 611) (pc' := 612) (v := 0) (show z_ptc 320 611 = some (612, 0) by decide +kernel) ?_
    refine L_lald (pc := 612) (show z_pt 320 612 = some (9, .laload, []) by decide +kernel) ?_
    refine L_pure (pc := 613) (pc' := 615) (st' := [.int b, .long (a1 0)]) (show z_pt 320 613 = some (9, .iload 7, []) by decide +kernel) rfl (fun _ _ => rfl) ?_
    refine L_pure (pc := 615) (pc' := 616) (st' := [.long (Int32.toInt64 b), .long (a1 0)]) (show z_pt 320 615 = some (9, .i2l, []) by decide +kernel) rfl (fun _ _ => rfl) ?_
    refine L_pure (pc := 616) (pc' := 617) (st' := [.int (lg_cmp (a1 0) (Int32.toInt64 b))]) (show z_pt 320 616 = some (9, .lcmp, []) by decide +kernel) rfl (fun _ _ => rfl) ?_
    refine L_ifT (pc := 617) (t := 622) (show z_pt 320 617 = some (9, .ifCond .eq 5, []) by decide +kernel) (by decide) (z_lc (hz hz0)) ?_
    refine L_pure (pc := 622) (pc' := 3330) (show z_pt 320 622 = some (9, .goto 2708, []) by decide +kernel) rfl (fun _ _ => rfl) ?_
    refine L_inc (pc := 3330) (pc' := 3333) (ls' := [(0, .ref 2000), (1, .ref 0), (2, .ref 241), (3, .ref 251), (4, .ref 252), (5, .int (i + 4)), (6, .int (μ2 241 12)), (7, .int b)]) (c := 4) (show z_pt 320 3330 = some (9, .iinc 5 4, []) by decide +kernel) (by decide) rfl rfl ?_
    refine L_pure (pc := 3333) (pc' := 28) (ls' := [(0, .ref 2000), (1, .ref 0), (2, .ref 241), (3, .ref 251), (4, .ref 252), (5, .int (i + 4))]) (st' := []) (show z_pt 320 3333 = some (9, .goto (-3305), [6]) by decide +kernel) rfl (fun _ _ => rfl) ?_
    exact kk _ _
  · refine L_ifT (pc := 607) (t := 622) (show z_pt 320 607 = some (9, .ifCond .ne 15, []) by decide +kernel) (by decide) (decide_eq_true hz0) ?_
    refine L_pure (pc := 622) (pc' := 3330) (show z_pt 320 622 = some (9, .goto 2708, []) by decide +kernel) rfl (fun _ _ => rfl) ?_
    refine L_inc (pc := 3330) (pc' := 3333) (ls' := [(0, .ref 2000), (1, .ref 0), (2, .ref 241), (3, .ref 251), (4, .ref 252), (5, .int (i + 4)), (6, .int (μ2 241 12)), (7, .int b)]) (c := 4) (show z_pt 320 3330 = some (9, .iinc 5 4, []) by decide +kernel) (by decide) rfl rfl ?_
    refine L_pure (pc := 3333) (pc' := 28) (ls' := [(0, .ref 2000), (1, .ref 0), (2, .ref 241), (3, .ref 251), (4, .ref 252), (5, .int (i + 4))]) (st' := []) (show z_pt 320 3333 = some (9, .goto (-3305), [6]) by decide +kernel) rfl (fun _ _ => rfl) ?_
    exact kk _ _
theorem pL_arm6 {sc : Nat × (Nat → Int32)} {D J : Nat} {i c1 : Int32} {b : Int32} {r : Int32 ⊕ Nat} {μ μ2 : z_Mem} {a : Nat → Int64} {q : Nat → UInt64} {o : z_R} {P : z_LP} (hD : 9 ≤ D) (hb1 : z_inb (i + 1) sc.1 = true) (hc1 : sc.2 (i + 1).toNatClampNeg = c1) (h1 : pG_position μ c1 = some r) (h2 : pm_position μ c1 = some (b, μ2)) (hag : z_agI [0] r b (μ2 241 12)) (kk : ∀ (a : Nat → Int64) (q : Nat → UInt64), Rl sc D 320 28 [(0, .ref 2000), (1, .ref 0), (2, .ref 241), (3, .ref 251), (4, .ref 252), (5, .int (i + 4))] [] μ2 a q o P J) : Rl sc D 320 625 [(0, .ref 2000), (1, .ref 0), (2, .ref 241), (3, .ref 251), (4, .ref 252), (5, .int i)] [] μ a q o P (1 + J) := by
  obtain ⟨a1, q1, hz, hR⟩ := pL_position (sc := sc) (a := a) (q := q) h1 hag
  refine L_pure (pc := 625) (pc' := 626) (st' := [.ref 0]) (show z_pt 320 625 = some (9, .aload_n 1, []) by decide +kernel) rfl (fun _ _ => rfl) ?_
  refine L_pure (pc := 626) (pc' := 627) (st' := [.ref 2000, .ref 0]) (show z_pt 320 626 = some (9, .aload_n 0, []) by decide +kernel) rfl (fun _ _ => rfl) ?_
  refine L_pure (pc := 627) (pc' := 629) (st' := [.int i, .ref 2000, .ref 0]) (show z_pt 320 627 = some (9, .iload 5, []) by decide +kernel) rfl (fun _ _ => rfl) ?_
  refine L_const (pc := 629) (pc' := 630) (v := 1) (show z_ptc 320 629 = some (630, 1) by decide +kernel) ?_
  refine L_pure (pc := 630) (pc' := 631) (st' := [.int (i + 1), .ref 2000, .ref 0]) (show z_pt 320 630 = some (9, .iadd, []) by decide +kernel) rfl (fun _ _ => rfl) ?_
  refine L_scr (pc := 631) (show z_pt 320 631 = some (9, .iaload, []) by decide +kernel) hb1 hc1 ?_
  refine L_pure (pc := 632) (pc' := 633) (st' := [.ref 251, .int c1, .ref 0]) (show z_pt 320 632 = some (9, .aload_n 3, []) by decide +kernel) rfl (fun _ _ => rfl) ?_
  refine L_callF (pc := 633) (rr := []) (show z_pt 320 633 = some (9, .invokestatic 202, [5, 279, 3, 3215, 3216, 0, 1000, 3217]) by decide +kernel) rfl (show z_r3 279 = some (11, 4, true) by decide +kernel) rfl rfl hR (by omega) ?_
  refine L_at (pc := 636) (st := [.int (μ2 241 12)]) ?_
  refine L_pure (pc := 636) (pc' := 638) (ls' := [(0, .ref 2000), (1, .ref 0), (2, .ref 241), (3, .ref 251), (4, .ref 252), (5, .int i), (6, .int (μ2 241 12))]) (st' := []) (show z_pt 320 636 = some (9, .istore 6, []) by decide +kernel) rfl (fun _ _ => rfl) ?_
  refine L_pure (pc := 638) (pc' := 639) (st' := [.ref 241]) (show z_pt 320 638 = some (9, .aload_n 2, []) by decide +kernel) rfl (fun _ _ => rfl) ?_
  refine L_pure (pc := 639) (pc' := 640) (st' := [.ref 2000, .ref 241]) (show z_pt 320 639 = some (9, .aload_n 0, []) by decide +kernel) rfl (fun _ _ => rfl) ?_
  refine L_pure (pc := 640) (pc' := 642) (st' := [.int i, .ref 2000, .ref 241]) (show z_pt 320 640 = some (9, .iload 5, []) by decide +kernel) rfl (fun _ _ => rfl) ?_
  refine L_const (pc := 642) (pc' := 643) (v := 1) (show z_ptc 320 642 = some (643, 1) by decide +kernel) ?_
  refine L_pure (pc := 643) (pc' := 644) (st' := [.int (i + 1), .ref 2000, .ref 241]) (show z_pt 320 643 = some (9, .iadd, []) by decide +kernel) rfl (fun _ _ => rfl) ?_
  refine L_scr (pc := 644) (show z_pt 320 644 = some (9, .iaload, []) by decide +kernel) hb1 hc1 ?_
  refine L_call (pc := 645) (rr := []) (show z_pt 320 645 = some (9, .invokevirtual 204, [0, 192, 1, 7052, 7053, 7054, 1012, 7055]) by decide +kernel) rfl (show z_r2 192 = some (10, 2, true) by decide +kernel) rfl rfl (Or.inr ⟨_, _, rfl, (show z_ci 241 10 = true by decide +kernel)⟩) (pm_position_run (r := (b, μ2)) h2) (by omega) ?_
  refine L_at (pc := 648) (st := [.int b]) ?_
  refine L_pure (pc := 648) (pc' := 650) (ls' := [(0, .ref 2000), (1, .ref 0), (2, .ref 241), (3, .ref 251), (4, .ref 252), (5, .int i), (6, .int (μ2 241 12)), (7, .int b)]) (st' := []) (show z_pt 320 648 = some (9, .istore 7, []) by decide +kernel) rfl (fun _ _ => rfl) ?_
  refine L_pure (pc := 650) (pc' := 651) (st' := [.ref 241]) (show z_pt 320 650 = some (9, .aload_n 2, []) by decide +kernel) rfl (fun _ _ => rfl) ?_
  refine L_call (pc := 651) (rr := []) (show z_pt 320 651 = some (9, .invokevirtual 181, [0, 159, 0, 6173, 6174, 6175, 1012, 6176]) by decide +kernel) rfl (show z_r2 159 = some (10, 1, true) by decide +kernel) rfl rfl (Or.inr ⟨_, _, rfl, (show z_ci 241 10 = true by decide +kernel)⟩) (pm_thrown_run (r := μ2 241 12) rfl) (by omega) ?_
  refine L_at (pc := 654) (st := [.int (μ2 241 12)]) ?_
  refine L_pure (pc := 654) (pc' := 656) (st' := [.int (μ2 241 12), .int (μ2 241 12)]) (show z_pt 320 654 = some (9, .iload 6, []) by decide +kernel) rfl (fun _ _ => rfl) ?_
  refine L_icT (pc := 656) (t := 661) (show z_pt 320 656 = some (9, .if_icmp .eq 5, []) by decide +kernel) (by decide) (decide_eq_true rfl) ?_
  refine L_pure (pc := 661) (pc' := 663) (st' := [.int (μ2 241 12)]) (show z_pt 320 661 = some (9, .iload 6, []) by decide +kernel) rfl (fun _ _ => rfl) ?_
  by_cases hz0 : μ2 241 12 = 0
  · refine L_ifF (pc := 663) (t := 678) (show z_pt 320 663 = some (9, .ifCond .ne 15, []) by decide +kernel) (by decide) (decide_eq_false (fun h => h hz0)) ?_
    refine L_pure (pc := 666) (pc' := 667) (st' := [.ref 251]) (show z_pt 320 666 = some (9, .aload_n 3, []) by decide +kernel) rfl (fun _ _ => rfl) ?_
    refine L_const (pc := 667) (pc' := 668) (v := 0) (show z_ptc 320 667 = some (668, 0) by decide +kernel) ?_
    refine L_lald (pc := 668) (show z_pt 320 668 = some (9, .laload, []) by decide +kernel) ?_
    refine L_pure (pc := 669) (pc' := 671) (st' := [.int b, .long (a1 0)]) (show z_pt 320 669 = some (9, .iload 7, []) by decide +kernel) rfl (fun _ _ => rfl) ?_
    refine L_pure (pc := 671) (pc' := 672) (st' := [.long (Int32.toInt64 b), .long (a1 0)]) (show z_pt 320 671 = some (9, .i2l, []) by decide +kernel) rfl (fun _ _ => rfl) ?_
    refine L_pure (pc := 672) (pc' := 673) (st' := [.int (lg_cmp (a1 0) (Int32.toInt64 b))]) (show z_pt 320 672 = some (9, .lcmp, []) by decide +kernel) rfl (fun _ _ => rfl) ?_
    refine L_ifT (pc := 673) (t := 678) (show z_pt 320 673 = some (9, .ifCond .eq 5, []) by decide +kernel) (by decide) (z_lc (hz hz0)) ?_
    refine L_pure (pc := 678) (pc' := 3330) (show z_pt 320 678 = some (9, .goto 2652, []) by decide +kernel) rfl (fun _ _ => rfl) ?_
    refine L_inc (pc := 3330) (pc' := 3333) (ls' := [(0, .ref 2000), (1, .ref 0), (2, .ref 241), (3, .ref 251), (4, .ref 252), (5, .int (i + 4)), (6, .int (μ2 241 12)), (7, .int b)]) (c := 4) (show z_pt 320 3330 = some (9, .iinc 5 4, []) by decide +kernel) (by decide) rfl rfl ?_
    refine L_pure (pc := 3333) (pc' := 28) (ls' := [(0, .ref 2000), (1, .ref 0), (2, .ref 241), (3, .ref 251), (4, .ref 252), (5, .int (i + 4))]) (st' := []) (show z_pt 320 3333 = some (9, .goto (-3305), [6]) by decide +kernel) rfl (fun _ _ => rfl) ?_
    exact kk _ _
  · refine L_ifT (pc := 663) (t := 678) (show z_pt 320 663 = some (9, .ifCond .ne 15, []) by decide +kernel) (by decide) (decide_eq_true hz0) ?_
    refine L_pure (pc := 678) (pc' := 3330) (show z_pt 320 678 = some (9, .goto 2652, []) by decide +kernel) rfl (fun _ _ => rfl) ?_
    refine L_inc (pc := 3330) (pc' := 3333) (ls' := [(0, .ref 2000), (1, .ref 0), (2, .ref 241), (3, .ref 251), (4, .ref 252), (5, .int (i + 4)), (6, .int (μ2 241 12)), (7, .int b)]) (c := 4) (show z_pt 320 3330 = some (9, .iinc 5 4, []) by decide +kernel) (by decide) rfl rfl ?_
    refine L_pure (pc := 3333) (pc' := 28) (ls' := [(0, .ref 2000), (1, .ref 0), (2, .ref 241), (3, .ref 251), (4, .ref 252), (5, .int (i + 4))]) (st' := []) (show z_pt 320 3333 = some (9, .goto (-3305), [6]) by decide +kernel) rfl (fun _ _ => rfl) ?_
    exact kk _ _
theorem pL_arm7 {sc : Nat × (Nat → Int32)} {D J : Nat} {i b : Int32} {μ μ2 : z_Mem} {a : Nat → Int64} {q : Nat → UInt64} {o : z_R} {P : z_LP} (hD : 4 ≤ D) (h1 : pG_meshCount μ = some b) (h2 : pm_meshCount μ = some (b, μ2)) (kk : Rl sc D 320 28 [(0, .ref 2000), (1, .ref 0), (2, .ref 241), (3, .ref 251), (4, .ref 252), (5, .int (i + 4))] [] μ2 a q o P J) : Rl sc D 320 681 [(0, .ref 2000), (1, .ref 0), (2, .ref 241), (3, .ref 251), (4, .ref 252), (5, .int i)] [] μ a q o P J := by
  refine L_pure (pc := 681) (pc' := 682) (st' := [.ref 0]) (show z_pt 320 681 = some (9, .aload_n 1, []) by decide +kernel) rfl (fun _ _ => rfl) ?_
  refine L_call (pc := 682) (rr := []) (show z_pt 320 682 = some (9, .invokevirtual 205, [0, 84, 0, 2074, 2075, 2076, 1001, 2077]) by decide +kernel) rfl (show z_r2 84 = some (9, 1, true) by decide +kernel) rfl rfl (Or.inr ⟨_, _, rfl, (show z_ci 0 9 = true by decide +kernel)⟩) (pG_meshCount_run h1) (by omega) ?_
  refine L_at (pc := 685) (st := [.int b]) ?_
  refine L_pure (pc := 685) (pc' := 686) (st' := [.ref 241, .int b]) (show z_pt 320 685 = some (9, .aload_n 2, []) by decide +kernel) rfl (fun _ _ => rfl) ?_
  refine L_call (pc := 686) (rr := [.int b]) (show z_pt 320 686 = some (9, .invokevirtual 208, [0, 193, 0, 7056, 7057, 7058, 1012, 7059]) by decide +kernel) rfl (show z_r2 193 = some (10, 1, true) by decide +kernel) rfl rfl (Or.inr ⟨_, _, rfl, (show z_ci 241 10 = true by decide +kernel)⟩) (pm_meshCount_run (r := (b, μ2)) h2) (by omega) ?_
  refine L_at (pc := 689) (st := [.int b, .int b]) ?_
  refine L_icT (pc := 689) (t := 3330) (show z_pt 320 689 = some (9, .if_icmp .eq 2641, []) by decide +kernel) (by decide) (decide_eq_true rfl) ?_
  refine L_inc (pc := 3330) (pc' := 3333) (ls' := [(0, .ref 2000), (1, .ref 0), (2, .ref 241), (3, .ref 251), (4, .ref 252), (5, .int (i + 4))]) (c := 4) (show z_pt 320 3330 = some (9, .iinc 5 4, []) by decide +kernel) (by decide) rfl rfl ?_
  refine L_pure (pc := 3333) (pc' := 28) (ls' := [(0, .ref 2000), (1, .ref 0), (2, .ref 241), (3, .ref 251), (4, .ref 252), (5, .int (i + 4))]) (st' := []) (show z_pt 320 3333 = some (9, .goto (-3305), [6]) by decide +kernel) rfl (fun _ _ => rfl) ?_
  exact kk
theorem pL_arm8 {sc : Nat × (Nat → Int32)} {D J : Nat} {i c1 c2 : Int32} {b : Int32} {r : Int32 ⊕ Nat} {μ μ2 : z_Mem} {a : Nat → Int64} {q : Nat → UInt64} {o : z_R} {P : z_LP} (hD : 9 ≤ D) (hb1 : z_inb (i + 1) sc.1 = true) (hc1 : sc.2 (i + 1).toNatClampNeg = c1) (hb2 : z_inb (i + 2) sc.1 = true) (hc2 : sc.2 (i + 2).toNatClampNeg = c2) (h1 : pG_doMesh μ c1 c2 = some r) (h2 : pm_doMesh μ c1 c2 = some (b, μ2)) (hag : z_agI [0] r b (μ2 241 12)) (kk : ∀ (a : Nat → Int64) (q : Nat → UInt64), Rl sc D 320 28 [(0, .ref 2000), (1, .ref 0), (2, .ref 241), (3, .ref 251), (4, .ref 252), (5, .int (i + 4))] [] μ2 a q o P J) : Rl sc D 320 694 [(0, .ref 2000), (1, .ref 0), (2, .ref 241), (3, .ref 251), (4, .ref 252), (5, .int i)] [] μ a q o P (1 + J) := by
  obtain ⟨a1, q1, hz, hR⟩ := pL_doMesh (sc := sc) (a := a) (q := q) h1 hag
  refine L_pure (pc := 694) (pc' := 695) (st' := [.ref 0]) (show z_pt 320 694 = some (9, .aload_n 1, []) by decide +kernel) rfl (fun _ _ => rfl) ?_
  refine L_pure (pc := 695) (pc' := 696) (st' := [.ref 2000, .ref 0]) (show z_pt 320 695 = some (9, .aload_n 0, []) by decide +kernel) rfl (fun _ _ => rfl) ?_
  refine L_pure (pc := 696) (pc' := 698) (st' := [.int i, .ref 2000, .ref 0]) (show z_pt 320 696 = some (9, .iload 5, []) by decide +kernel) rfl (fun _ _ => rfl) ?_
  refine L_const (pc := 698) (pc' := 699) (v := 1) (show z_ptc 320 698 = some (699, 1) by decide +kernel) ?_
  refine L_pure (pc := 699) (pc' := 700) (st' := [.int (i + 1), .ref 2000, .ref 0]) (show z_pt 320 699 = some (9, .iadd, []) by decide +kernel) rfl (fun _ _ => rfl) ?_
  refine L_scr (pc := 700) (show z_pt 320 700 = some (9, .iaload, []) by decide +kernel) hb1 hc1 ?_
  refine L_pure (pc := 701) (pc' := 702) (st' := [.ref 2000, .int c1, .ref 0]) (show z_pt 320 701 = some (9, .aload_n 0, []) by decide +kernel) rfl (fun _ _ => rfl) ?_
  refine L_pure (pc := 702) (pc' := 704) (st' := [.int i, .ref 2000, .int c1, .ref 0]) (show z_pt 320 702 = some (9, .iload 5, []) by decide +kernel) rfl (fun _ _ => rfl) ?_
  refine L_const (pc := 704) (pc' := 705) (v := 2) (show z_ptc 320 704 = some (705, 2) by decide +kernel) ?_
  refine L_pure (pc := 705) (pc' := 706) (st' := [.int (i + 2), .ref 2000, .int c1, .ref 0]) (show z_pt 320 705 = some (9, .iadd, []) by decide +kernel) rfl (fun _ _ => rfl) ?_
  refine L_scr (pc := 706) (show z_pt 320 706 = some (9, .iaload, []) by decide +kernel) hb2 hc2 ?_
  refine L_pure (pc := 707) (pc' := 708) (st' := [.ref 251, .int c2, .int c1, .ref 0]) (show z_pt 320 707 = some (9, .aload_n 3, []) by decide +kernel) rfl (fun _ _ => rfl) ?_
  refine L_callF (pc := 708) (rr := []) (show z_pt 320 708 = some (9, .invokestatic 209, [5, 280, 4, 3222, 3223, 0, 1000, 3224]) by decide +kernel) rfl (show z_r3 280 = some (11, 5, true) by decide +kernel) rfl rfl hR (by omega) ?_
  refine L_at (pc := 711) (st := [.int (μ2 241 12)]) ?_
  refine L_pure (pc := 711) (pc' := 713) (ls' := [(0, .ref 2000), (1, .ref 0), (2, .ref 241), (3, .ref 251), (4, .ref 252), (5, .int i), (6, .int (μ2 241 12))]) (st' := []) (show z_pt 320 711 = some (9, .istore 6, []) by decide +kernel) rfl (fun _ _ => rfl) ?_
  refine L_pure (pc := 713) (pc' := 714) (st' := [.ref 241]) (show z_pt 320 713 = some (9, .aload_n 2, []) by decide +kernel) rfl (fun _ _ => rfl) ?_
  refine L_pure (pc := 714) (pc' := 715) (st' := [.ref 2000, .ref 241]) (show z_pt 320 714 = some (9, .aload_n 0, []) by decide +kernel) rfl (fun _ _ => rfl) ?_
  refine L_pure (pc := 715) (pc' := 717) (st' := [.int i, .ref 2000, .ref 241]) (show z_pt 320 715 = some (9, .iload 5, []) by decide +kernel) rfl (fun _ _ => rfl) ?_
  refine L_const (pc := 717) (pc' := 718) (v := 1) (show z_ptc 320 717 = some (718, 1) by decide +kernel) ?_
  refine L_pure (pc := 718) (pc' := 719) (st' := [.int (i + 1), .ref 2000, .ref 241]) (show z_pt 320 718 = some (9, .iadd, []) by decide +kernel) rfl (fun _ _ => rfl) ?_
  refine L_scr (pc := 719) (show z_pt 320 719 = some (9, .iaload, []) by decide +kernel) hb1 hc1 ?_
  refine L_pure (pc := 720) (pc' := 721) (st' := [.ref 2000, .int c1, .ref 241]) (show z_pt 320 720 = some (9, .aload_n 0, []) by decide +kernel) rfl (fun _ _ => rfl) ?_
  refine L_pure (pc := 721) (pc' := 723) (st' := [.int i, .ref 2000, .int c1, .ref 241]) (show z_pt 320 721 = some (9, .iload 5, []) by decide +kernel) rfl (fun _ _ => rfl) ?_
  refine L_const (pc := 723) (pc' := 724) (v := 2) (show z_ptc 320 723 = some (724, 2) by decide +kernel) ?_
  refine L_pure (pc := 724) (pc' := 725) (st' := [.int (i + 2), .ref 2000, .int c1, .ref 241]) (show z_pt 320 724 = some (9, .iadd, []) by decide +kernel) rfl (fun _ _ => rfl) ?_
  refine L_scr (pc := 725) (show z_pt 320 725 = some (9, .iaload, []) by decide +kernel) hb2 hc2 ?_
  refine L_call (pc := 726) (rr := []) (show z_pt 320 726 = some (9, .invokevirtual 211, [0, 194, 2, 7060, 7061, 7062, 1012, 7063]) by decide +kernel) rfl (show z_r2 194 = some (10, 3, true) by decide +kernel) rfl rfl (Or.inr ⟨_, _, rfl, (show z_ci 241 10 = true by decide +kernel)⟩) (pm_doMesh_run (r := (b, μ2)) h2) (by omega) ?_
  refine L_at (pc := 729) (st := [.int b]) ?_
  refine L_pure (pc := 729) (pc' := 731) (ls' := [(0, .ref 2000), (1, .ref 0), (2, .ref 241), (3, .ref 251), (4, .ref 252), (5, .int i), (6, .int (μ2 241 12)), (7, .int b)]) (st' := []) (show z_pt 320 729 = some (9, .istore 7, []) by decide +kernel) rfl (fun _ _ => rfl) ?_
  refine L_pure (pc := 731) (pc' := 732) (st' := [.ref 241]) (show z_pt 320 731 = some (9, .aload_n 2, []) by decide +kernel) rfl (fun _ _ => rfl) ?_
  refine L_call (pc := 732) (rr := []) (show z_pt 320 732 = some (9, .invokevirtual 181, [0, 159, 0, 6173, 6174, 6175, 1012, 6176]) by decide +kernel) rfl (show z_r2 159 = some (10, 1, true) by decide +kernel) rfl rfl (Or.inr ⟨_, _, rfl, (show z_ci 241 10 = true by decide +kernel)⟩) (pm_thrown_run (r := μ2 241 12) rfl) (by omega) ?_
  refine L_at (pc := 735) (st := [.int (μ2 241 12)]) ?_
  refine L_pure (pc := 735) (pc' := 737) (st' := [.int (μ2 241 12), .int (μ2 241 12)]) (show z_pt 320 735 = some (9, .iload 6, []) by decide +kernel) rfl (fun _ _ => rfl) ?_
  refine L_icT (pc := 737) (t := 742) (show z_pt 320 737 = some (9, .if_icmp .eq 5, []) by decide +kernel) (by decide) (decide_eq_true rfl) ?_
  refine L_pure (pc := 742) (pc' := 744) (st' := [.int (μ2 241 12)]) (show z_pt 320 742 = some (9, .iload 6, []) by decide +kernel) rfl (fun _ _ => rfl) ?_
  by_cases hz0 : μ2 241 12 = 0
  · by_cases hb0 : b = 0
    · refine L_ifF (pc := 744) (t := 766) (show z_pt 320 744 = some (9, .ifCond .ne 22, []) by decide +kernel) (by decide) (decide_eq_false (fun h => h hz0)) ?_
      refine L_pure (pc := 747) (pc' := 748) (st' := [.ref 251]) (show z_pt 320 747 = some (9, .aload_n 3, []) by decide +kernel) rfl (fun _ _ => rfl) ?_
      refine L_const (pc := 748) (pc' := 749) (v := 0) (show z_ptc 320 748 = some (749, 0) by decide +kernel) ?_
      refine L_lald (pc := 749) (show z_pt 320 749 = some (9, .laload, []) by decide +kernel) ?_
      refine L_pure (pc := 750) (pc' := 752) (st' := [.int b, .long (a1 0)]) (show z_pt 320 750 = some (9, .iload 7, []) by decide +kernel) rfl (fun _ _ => rfl) ?_
      refine L_ifT (pc := 752) (t := 759) (show z_pt 320 752 = some (9, .ifCond .eq 7, []) by decide +kernel) (by decide) (decide_eq_true hb0) ?_
      refine L_pure (pc := 759) (pc' := 760) (st' := [.long (Int64.ofNat 0), .long (a1 0)]) (show z_pt 320 759 = some (9, .lconst 0, []) by decide +kernel) rfl (fun _ _ => rfl) ?_
      refine L_pure (pc := 760) (pc' := 761) (st' := [.int (lg_cmp (a1 0) (Int64.ofNat 0))]) (show z_pt 320 760 = some (9, .lcmp, []) by decide +kernel) rfl (fun _ _ => rfl) ?_
      refine L_ifT (pc := 761) (t := 766) (show z_pt 320 761 = some (9, .ifCond .eq 5, []) by decide +kernel) (by decide) (z_lc ((hz hz0).trans (if_pos hb0))) ?_
      refine L_pure (pc := 766) (pc' := 3330) (show z_pt 320 766 = some (9, .goto 2564, []) by decide +kernel) rfl (fun _ _ => rfl) ?_
      refine L_inc (pc := 3330) (pc' := 3333) (ls' := [(0, .ref 2000), (1, .ref 0), (2, .ref 241), (3, .ref 251), (4, .ref 252), (5, .int (i + 4)), (6, .int (μ2 241 12)), (7, .int b)]) (c := 4) (show z_pt 320 3330 = some (9, .iinc 5 4, []) by decide +kernel) (by decide) rfl rfl ?_
      refine L_pure (pc := 3333) (pc' := 28) (ls' := [(0, .ref 2000), (1, .ref 0), (2, .ref 241), (3, .ref 251), (4, .ref 252), (5, .int (i + 4))]) (st' := []) (show z_pt 320 3333 = some (9, .goto (-3305), [6]) by decide +kernel) rfl (fun _ _ => rfl) ?_
      exact kk _ _
    · refine L_ifF (pc := 744) (t := 766) (show z_pt 320 744 = some (9, .ifCond .ne 22, []) by decide +kernel) (by decide) (decide_eq_false (fun h => h hz0)) ?_
      refine L_pure (pc := 747) (pc' := 748) (st' := [.ref 251]) (show z_pt 320 747 = some (9, .aload_n 3, []) by decide +kernel) rfl (fun _ _ => rfl) ?_
      refine L_const (pc := 748) (pc' := 749) (v := 0) (show z_ptc 320 748 = some (749, 0) by decide +kernel) ?_
      refine L_lald (pc := 749) (show z_pt 320 749 = some (9, .laload, []) by decide +kernel) ?_
      refine L_pure (pc := 750) (pc' := 752) (st' := [.int b, .long (a1 0)]) (show z_pt 320 750 = some (9, .iload 7, []) by decide +kernel) rfl (fun _ _ => rfl) ?_
      refine L_ifF (pc := 752) (t := 759) (show z_pt 320 752 = some (9, .ifCond .eq 7, []) by decide +kernel) (by decide) (decide_eq_false hb0) ?_
      refine L_pure (pc := 755) (pc' := 756) (st' := [.long (Int64.ofNat 1), .long (a1 0)]) (show z_pt 320 755 = some (9, .lconst 1, []) by decide +kernel) rfl (fun _ _ => rfl) ?_
      refine L_pure (pc := 756) (pc' := 760) (show z_pt 320 756 = some (9, .goto 4, []) by decide +kernel) rfl (fun _ _ => rfl) ?_
      refine L_pure (pc := 760) (pc' := 761) (st' := [.int (lg_cmp (a1 0) (Int64.ofNat 1))]) (show z_pt 320 760 = some (9, .lcmp, []) by decide +kernel) rfl (fun _ _ => rfl) ?_
      refine L_ifT (pc := 761) (t := 766) (show z_pt 320 761 = some (9, .ifCond .eq 5, []) by decide +kernel) (by decide) (z_lc ((hz hz0).trans (if_neg hb0))) ?_
      refine L_pure (pc := 766) (pc' := 3330) (show z_pt 320 766 = some (9, .goto 2564, []) by decide +kernel) rfl (fun _ _ => rfl) ?_
      refine L_inc (pc := 3330) (pc' := 3333) (ls' := [(0, .ref 2000), (1, .ref 0), (2, .ref 241), (3, .ref 251), (4, .ref 252), (5, .int (i + 4)), (6, .int (μ2 241 12)), (7, .int b)]) (c := 4) (show z_pt 320 3330 = some (9, .iinc 5 4, []) by decide +kernel) (by decide) rfl rfl ?_
      refine L_pure (pc := 3333) (pc' := 28) (ls' := [(0, .ref 2000), (1, .ref 0), (2, .ref 241), (3, .ref 251), (4, .ref 252), (5, .int (i + 4))]) (st' := []) (show z_pt 320 3333 = some (9, .goto (-3305), [6]) by decide +kernel) rfl (fun _ _ => rfl) ?_
      exact kk _ _
  · refine L_ifT (pc := 744) (t := 766) (show z_pt 320 744 = some (9, .ifCond .ne 22, []) by decide +kernel) (by decide) (decide_eq_true hz0) ?_
    refine L_pure (pc := 766) (pc' := 3330) (show z_pt 320 766 = some (9, .goto 2564, []) by decide +kernel) rfl (fun _ _ => rfl) ?_
    refine L_inc (pc := 3330) (pc' := 3333) (ls' := [(0, .ref 2000), (1, .ref 0), (2, .ref 241), (3, .ref 251), (4, .ref 252), (5, .int (i + 4)), (6, .int (μ2 241 12)), (7, .int b)]) (c := 4) (show z_pt 320 3330 = some (9, .iinc 5 4, []) by decide +kernel) (by decide) rfl rfl ?_
    refine L_pure (pc := 3333) (pc' := 28) (ls' := [(0, .ref 2000), (1, .ref 0), (2, .ref 241), (3, .ref 251), (4, .ref 252), (5, .int (i + 4))]) (st' := []) (show z_pt 320 3333 = some (9, .goto (-3305), [6]) by decide +kernel) rfl (fun _ _ => rfl) ?_
    exact kk _ _
theorem pL_arm9 {sc : Nat × (Nat → Int32)} {D J : Nat} {i c1 c2 : Int32} {b : Int32} {r : Int32 ⊕ Nat} {μ μ2 : z_Mem} {a : Nat → Int64} {q : Nat → UInt64} {o : z_R} {P : z_LP} (hD : 10 ≤ D) (hb1 : z_inb (i + 1) sc.1 = true) (hc1 : sc.2 (i + 1).toNatClampNeg = c1) (hb2 : z_inb (i + 2) sc.1 = true) (hc2 : sc.2 (i + 2).toNatClampNeg = c2) (h1 : pG_slack μ c1 c2 = some r) (h2 : pm_slack μ c1 c2 = some (b, μ2)) (hag : z_agI [0, 3] r b (μ2 241 12)) (kk : ∀ (a : Nat → Int64) (q : Nat → UInt64), Rl sc D 320 28 [(0, .ref 2000), (1, .ref 0), (2, .ref 241), (3, .ref 251), (4, .ref 252), (5, .int (i + 4))] [] μ2 a q o P J) : Rl sc D 320 769 [(0, .ref 2000), (1, .ref 0), (2, .ref 241), (3, .ref 251), (4, .ref 252), (5, .int i)] [] μ a q o P (1 + J) := by
  obtain ⟨a1, q1, hz, hR⟩ := pL_slack (sc := sc) (a := a) (q := q) h1 hag
  refine L_pure (pc := 769) (pc' := 770) (st' := [.ref 0]) (show z_pt 320 769 = some (9, .aload_n 1, []) by decide +kernel) rfl (fun _ _ => rfl) ?_
  refine L_pure (pc := 770) (pc' := 771) (st' := [.ref 2000, .ref 0]) (show z_pt 320 770 = some (9, .aload_n 0, []) by decide +kernel) rfl (fun _ _ => rfl) ?_
  refine L_pure (pc := 771) (pc' := 773) (st' := [.int i, .ref 2000, .ref 0]) (show z_pt 320 771 = some (9, .iload 5, []) by decide +kernel) rfl (fun _ _ => rfl) ?_
  refine L_const (pc := 773) (pc' := 774) (v := 1) (show z_ptc 320 773 = some (774, 1) by decide +kernel) ?_
  refine L_pure (pc := 774) (pc' := 775) (st' := [.int (i + 1), .ref 2000, .ref 0]) (show z_pt 320 774 = some (9, .iadd, []) by decide +kernel) rfl (fun _ _ => rfl) ?_
  refine L_scr (pc := 775) (show z_pt 320 775 = some (9, .iaload, []) by decide +kernel) hb1 hc1 ?_
  refine L_pure (pc := 776) (pc' := 777) (st' := [.ref 2000, .int c1, .ref 0]) (show z_pt 320 776 = some (9, .aload_n 0, []) by decide +kernel) rfl (fun _ _ => rfl) ?_
  refine L_pure (pc := 777) (pc' := 779) (st' := [.int i, .ref 2000, .int c1, .ref 0]) (show z_pt 320 777 = some (9, .iload 5, []) by decide +kernel) rfl (fun _ _ => rfl) ?_
  refine L_const (pc := 779) (pc' := 780) (v := 2) (show z_ptc 320 779 = some (780, 2) by decide +kernel) ?_
  refine L_pure (pc := 780) (pc' := 781) (st' := [.int (i + 2), .ref 2000, .int c1, .ref 0]) (show z_pt 320 780 = some (9, .iadd, []) by decide +kernel) rfl (fun _ _ => rfl) ?_
  refine L_scr (pc := 781) (show z_pt 320 781 = some (9, .iaload, []) by decide +kernel) hb2 hc2 ?_
  refine L_pure (pc := 782) (pc' := 783) (st' := [.ref 251, .int c2, .int c1, .ref 0]) (show z_pt 320 782 = some (9, .aload_n 3, []) by decide +kernel) rfl (fun _ _ => rfl) ?_
  refine L_callF (pc := 783) (rr := []) (show z_pt 320 783 = some (9, .invokestatic 212, [5, 281, 4, 3229, 3230, 0, 1000, 3231]) by decide +kernel) rfl (show z_r3 281 = some (11, 5, true) by decide +kernel) rfl rfl hR (by omega) ?_
  refine L_at (pc := 786) (st := [.int (μ2 241 12)]) ?_
  refine L_pure (pc := 786) (pc' := 788) (ls' := [(0, .ref 2000), (1, .ref 0), (2, .ref 241), (3, .ref 251), (4, .ref 252), (5, .int i), (6, .int (μ2 241 12))]) (st' := []) (show z_pt 320 786 = some (9, .istore 6, []) by decide +kernel) rfl (fun _ _ => rfl) ?_
  refine L_pure (pc := 788) (pc' := 789) (st' := [.ref 241]) (show z_pt 320 788 = some (9, .aload_n 2, []) by decide +kernel) rfl (fun _ _ => rfl) ?_
  refine L_pure (pc := 789) (pc' := 790) (st' := [.ref 2000, .ref 241]) (show z_pt 320 789 = some (9, .aload_n 0, []) by decide +kernel) rfl (fun _ _ => rfl) ?_
  refine L_pure (pc := 790) (pc' := 792) (st' := [.int i, .ref 2000, .ref 241]) (show z_pt 320 790 = some (9, .iload 5, []) by decide +kernel) rfl (fun _ _ => rfl) ?_
  refine L_const (pc := 792) (pc' := 793) (v := 1) (show z_ptc 320 792 = some (793, 1) by decide +kernel) ?_
  refine L_pure (pc := 793) (pc' := 794) (st' := [.int (i + 1), .ref 2000, .ref 241]) (show z_pt 320 793 = some (9, .iadd, []) by decide +kernel) rfl (fun _ _ => rfl) ?_
  refine L_scr (pc := 794) (show z_pt 320 794 = some (9, .iaload, []) by decide +kernel) hb1 hc1 ?_
  refine L_pure (pc := 795) (pc' := 796) (st' := [.ref 2000, .int c1, .ref 241]) (show z_pt 320 795 = some (9, .aload_n 0, []) by decide +kernel) rfl (fun _ _ => rfl) ?_
  refine L_pure (pc := 796) (pc' := 798) (st' := [.int i, .ref 2000, .int c1, .ref 241]) (show z_pt 320 796 = some (9, .iload 5, []) by decide +kernel) rfl (fun _ _ => rfl) ?_
  refine L_const (pc := 798) (pc' := 799) (v := 2) (show z_ptc 320 798 = some (799, 2) by decide +kernel) ?_
  refine L_pure (pc := 799) (pc' := 800) (st' := [.int (i + 2), .ref 2000, .int c1, .ref 241]) (show z_pt 320 799 = some (9, .iadd, []) by decide +kernel) rfl (fun _ _ => rfl) ?_
  refine L_scr (pc := 800) (show z_pt 320 800 = some (9, .iaload, []) by decide +kernel) hb2 hc2 ?_
  refine L_call (pc := 801) (rr := []) (show z_pt 320 801 = some (9, .invokevirtual 214, [0, 196, 2, 7064, 7065, 7066, 1012, 7067]) by decide +kernel) rfl (show z_r2 196 = some (10, 4, true) by decide +kernel) rfl rfl (Or.inr ⟨_, _, rfl, (show z_ci 241 10 = true by decide +kernel)⟩) (pm_slack_run (r := (b, μ2)) h2) (by omega) ?_
  refine L_at (pc := 804) (st := [.int b]) ?_
  refine L_pure (pc := 804) (pc' := 806) (ls' := [(0, .ref 2000), (1, .ref 0), (2, .ref 241), (3, .ref 251), (4, .ref 252), (5, .int i), (6, .int (μ2 241 12)), (7, .int b)]) (st' := []) (show z_pt 320 804 = some (9, .istore 7, []) by decide +kernel) rfl (fun _ _ => rfl) ?_
  refine L_pure (pc := 806) (pc' := 807) (st' := [.ref 241]) (show z_pt 320 806 = some (9, .aload_n 2, []) by decide +kernel) rfl (fun _ _ => rfl) ?_
  refine L_call (pc := 807) (rr := []) (show z_pt 320 807 = some (9, .invokevirtual 181, [0, 159, 0, 6173, 6174, 6175, 1012, 6176]) by decide +kernel) rfl (show z_r2 159 = some (10, 1, true) by decide +kernel) rfl rfl (Or.inr ⟨_, _, rfl, (show z_ci 241 10 = true by decide +kernel)⟩) (pm_thrown_run (r := μ2 241 12) rfl) (by omega) ?_
  refine L_at (pc := 810) (st := [.int (μ2 241 12)]) ?_
  refine L_pure (pc := 810) (pc' := 812) (st' := [.int (μ2 241 12), .int (μ2 241 12)]) (show z_pt 320 810 = some (9, .iload 6, []) by decide +kernel) rfl (fun _ _ => rfl) ?_
  refine L_icT (pc := 812) (t := 817) (show z_pt 320 812 = some (9, .if_icmp .eq 5, []) by decide +kernel) (by decide) (decide_eq_true rfl) ?_
  refine L_pure (pc := 817) (pc' := 819) (st' := [.int (μ2 241 12)]) (show z_pt 320 817 = some (9, .iload 6, []) by decide +kernel) rfl (fun _ _ => rfl) ?_
  by_cases hz0 : μ2 241 12 = 0
  · refine L_ifF (pc := 819) (t := 834) (show z_pt 320 819 = some (9, .ifCond .ne 15, []) by decide +kernel) (by decide) (decide_eq_false (fun h => h hz0)) ?_
    refine L_pure (pc := 822) (pc' := 823) (st' := [.ref 251]) (show z_pt 320 822 = some (9, .aload_n 3, []) by decide +kernel) rfl (fun _ _ => rfl) ?_
    refine L_const (pc := 823) (pc' := 824) (v := 0) (show z_ptc 320 823 = some (824, 0) by decide +kernel) ?_
    refine L_lald (pc := 824) (show z_pt 320 824 = some (9, .laload, []) by decide +kernel) ?_
    refine L_pure (pc := 825) (pc' := 827) (st' := [.int b, .long (a1 0)]) (show z_pt 320 825 = some (9, .iload 7, []) by decide +kernel) rfl (fun _ _ => rfl) ?_
    refine L_pure (pc := 827) (pc' := 828) (st' := [.long (Int32.toInt64 b), .long (a1 0)]) (show z_pt 320 827 = some (9, .i2l, []) by decide +kernel) rfl (fun _ _ => rfl) ?_
    refine L_pure (pc := 828) (pc' := 829) (st' := [.int (lg_cmp (a1 0) (Int32.toInt64 b))]) (show z_pt 320 828 = some (9, .lcmp, []) by decide +kernel) rfl (fun _ _ => rfl) ?_
    refine L_ifT (pc := 829) (t := 834) (show z_pt 320 829 = some (9, .ifCond .eq 5, []) by decide +kernel) (by decide) (z_lc (hz hz0)) ?_
    refine L_pure (pc := 834) (pc' := 3330) (show z_pt 320 834 = some (9, .goto 2496, []) by decide +kernel) rfl (fun _ _ => rfl) ?_
    refine L_inc (pc := 3330) (pc' := 3333) (ls' := [(0, .ref 2000), (1, .ref 0), (2, .ref 241), (3, .ref 251), (4, .ref 252), (5, .int (i + 4)), (6, .int (μ2 241 12)), (7, .int b)]) (c := 4) (show z_pt 320 3330 = some (9, .iinc 5 4, []) by decide +kernel) (by decide) rfl rfl ?_
    refine L_pure (pc := 3333) (pc' := 28) (ls' := [(0, .ref 2000), (1, .ref 0), (2, .ref 241), (3, .ref 251), (4, .ref 252), (5, .int (i + 4))]) (st' := []) (show z_pt 320 3333 = some (9, .goto (-3305), [6]) by decide +kernel) rfl (fun _ _ => rfl) ?_
    exact kk _ _
  · refine L_ifT (pc := 819) (t := 834) (show z_pt 320 819 = some (9, .ifCond .ne 15, []) by decide +kernel) (by decide) (decide_eq_true hz0) ?_
    refine L_pure (pc := 834) (pc' := 3330) (show z_pt 320 834 = some (9, .goto 2496, []) by decide +kernel) rfl (fun _ _ => rfl) ?_
    refine L_inc (pc := 3330) (pc' := 3333) (ls' := [(0, .ref 2000), (1, .ref 0), (2, .ref 241), (3, .ref 251), (4, .ref 252), (5, .int (i + 4)), (6, .int (μ2 241 12)), (7, .int b)]) (c := 4) (show z_pt 320 3330 = some (9, .iinc 5 4, []) by decide +kernel) (by decide) rfl rfl ?_
    refine L_pure (pc := 3333) (pc' := 28) (ls' := [(0, .ref 2000), (1, .ref 0), (2, .ref 241), (3, .ref 251), (4, .ref 252), (5, .int (i + 4))]) (st' := []) (show z_pt 320 3333 = some (9, .goto (-3305), [6]) by decide +kernel) rfl (fun _ _ => rfl) ?_
    exact kk _ _
theorem pL_arm10 {sc : Nat × (Nat → Int32)} {D J : Nat} {i c1 c2 : Int32} {b : Int32} {r : Int32 ⊕ Nat} {μ μ2 : z_Mem} {a : Nat → Int64} {q : Nat → UInt64} {o : z_R} {P : z_LP} (hD : 10 ≤ D) (hb1 : z_inb (i + 1) sc.1 = true) (hc1 : sc.2 (i + 1).toNatClampNeg = c1) (hb2 : z_inb (i + 2) sc.1 = true) (hc2 : sc.2 (i + 2).toNatClampNeg = c2) (h1 : pG_gap μ c1 c2 = some r) (h2 : pm_gap μ c1 c2 = some (b, μ2)) (hag : z_agI [0, 3] r b (μ2 241 12)) (kk : ∀ (a : Nat → Int64) (q : Nat → UInt64), Rl sc D 320 28 [(0, .ref 2000), (1, .ref 0), (2, .ref 241), (3, .ref 251), (4, .ref 252), (5, .int (i + 4))] [] μ2 a q o P J) : Rl sc D 320 837 [(0, .ref 2000), (1, .ref 0), (2, .ref 241), (3, .ref 251), (4, .ref 252), (5, .int i)] [] μ a q o P (1 + J) := by
  obtain ⟨a1, q1, hz, hR⟩ := pL_gap (sc := sc) (a := a) (q := q) h1 hag
  refine L_pure (pc := 837) (pc' := 838) (st' := [.ref 0]) (show z_pt 320 837 = some (9, .aload_n 1, []) by decide +kernel) rfl (fun _ _ => rfl) ?_
  refine L_pure (pc := 838) (pc' := 839) (st' := [.ref 2000, .ref 0]) (show z_pt 320 838 = some (9, .aload_n 0, []) by decide +kernel) rfl (fun _ _ => rfl) ?_
  refine L_pure (pc := 839) (pc' := 841) (st' := [.int i, .ref 2000, .ref 0]) (show z_pt 320 839 = some (9, .iload 5, []) by decide +kernel) rfl (fun _ _ => rfl) ?_
  refine L_const (pc := 841) (pc' := 842) (v := 1) (show z_ptc 320 841 = some (842, 1) by decide +kernel) ?_
  refine L_pure (pc := 842) (pc' := 843) (st' := [.int (i + 1), .ref 2000, .ref 0]) (show z_pt 320 842 = some (9, .iadd, []) by decide +kernel) rfl (fun _ _ => rfl) ?_
  refine L_scr (pc := 843) (show z_pt 320 843 = some (9, .iaload, []) by decide +kernel) hb1 hc1 ?_
  refine L_pure (pc := 844) (pc' := 845) (st' := [.ref 2000, .int c1, .ref 0]) (show z_pt 320 844 = some (9, .aload_n 0, []) by decide +kernel) rfl (fun _ _ => rfl) ?_
  refine L_pure (pc := 845) (pc' := 847) (st' := [.int i, .ref 2000, .int c1, .ref 0]) (show z_pt 320 845 = some (9, .iload 5, []) by decide +kernel) rfl (fun _ _ => rfl) ?_
  refine L_const (pc := 847) (pc' := 848) (v := 2) (show z_ptc 320 847 = some (848, 2) by decide +kernel) ?_
  refine L_pure (pc := 848) (pc' := 849) (st' := [.int (i + 2), .ref 2000, .int c1, .ref 0]) (show z_pt 320 848 = some (9, .iadd, []) by decide +kernel) rfl (fun _ _ => rfl) ?_
  refine L_scr (pc := 849) (show z_pt 320 849 = some (9, .iaload, []) by decide +kernel) hb2 hc2 ?_
  refine L_pure (pc := 850) (pc' := 851) (st' := [.ref 251, .int c2, .int c1, .ref 0]) (show z_pt 320 850 = some (9, .aload_n 3, []) by decide +kernel) rfl (fun _ _ => rfl) ?_
  refine L_callF (pc := 851) (rr := []) (show z_pt 320 851 = some (9, .invokestatic 215, [5, 282, 4, 4000, 4001, 0, 1000, 4002]) by decide +kernel) rfl (show z_r3 282 = some (11, 5, true) by decide +kernel) rfl rfl hR (by omega) ?_
  refine L_at (pc := 854) (st := [.int (μ2 241 12)]) ?_
  refine L_pure (pc := 854) (pc' := 856) (ls' := [(0, .ref 2000), (1, .ref 0), (2, .ref 241), (3, .ref 251), (4, .ref 252), (5, .int i), (6, .int (μ2 241 12))]) (st' := []) (show z_pt 320 854 = some (9, .istore 6, []) by decide +kernel) rfl (fun _ _ => rfl) ?_
  refine L_pure (pc := 856) (pc' := 857) (st' := [.ref 241]) (show z_pt 320 856 = some (9, .aload_n 2, []) by decide +kernel) rfl (fun _ _ => rfl) ?_
  refine L_pure (pc := 857) (pc' := 858) (st' := [.ref 2000, .ref 241]) (show z_pt 320 857 = some (9, .aload_n 0, []) by decide +kernel) rfl (fun _ _ => rfl) ?_
  refine L_pure (pc := 858) (pc' := 860) (st' := [.int i, .ref 2000, .ref 241]) (show z_pt 320 858 = some (9, .iload 5, []) by decide +kernel) rfl (fun _ _ => rfl) ?_
  refine L_const (pc := 860) (pc' := 861) (v := 1) (show z_ptc 320 860 = some (861, 1) by decide +kernel) ?_
  refine L_pure (pc := 861) (pc' := 862) (st' := [.int (i + 1), .ref 2000, .ref 241]) (show z_pt 320 861 = some (9, .iadd, []) by decide +kernel) rfl (fun _ _ => rfl) ?_
  refine L_scr (pc := 862) (show z_pt 320 862 = some (9, .iaload, []) by decide +kernel) hb1 hc1 ?_
  refine L_pure (pc := 863) (pc' := 864) (st' := [.ref 2000, .int c1, .ref 241]) (show z_pt 320 863 = some (9, .aload_n 0, []) by decide +kernel) rfl (fun _ _ => rfl) ?_
  refine L_pure (pc := 864) (pc' := 866) (st' := [.int i, .ref 2000, .int c1, .ref 241]) (show z_pt 320 864 = some (9, .iload 5, []) by decide +kernel) rfl (fun _ _ => rfl) ?_
  refine L_const (pc := 866) (pc' := 867) (v := 2) (show z_ptc 320 866 = some (867, 2) by decide +kernel) ?_
  refine L_pure (pc := 867) (pc' := 868) (st' := [.int (i + 2), .ref 2000, .int c1, .ref 241]) (show z_pt 320 867 = some (9, .iadd, []) by decide +kernel) rfl (fun _ _ => rfl) ?_
  refine L_scr (pc := 868) (show z_pt 320 868 = some (9, .iaload, []) by decide +kernel) hb2 hc2 ?_
  refine L_call (pc := 869) (rr := []) (show z_pt 320 869 = some (9, .invokevirtual 217, [0, 197, 2, 7072, 7073, 7074, 1012, 7075]) by decide +kernel) rfl (show z_r2 197 = some (10, 4, true) by decide +kernel) rfl rfl (Or.inr ⟨_, _, rfl, (show z_ci 241 10 = true by decide +kernel)⟩) (pm_gap_run (r := (b, μ2)) h2) (by omega) ?_
  refine L_at (pc := 872) (st := [.int b]) ?_
  refine L_pure (pc := 872) (pc' := 874) (ls' := [(0, .ref 2000), (1, .ref 0), (2, .ref 241), (3, .ref 251), (4, .ref 252), (5, .int i), (6, .int (μ2 241 12)), (7, .int b)]) (st' := []) (show z_pt 320 872 = some (9, .istore 7, []) by decide +kernel) rfl (fun _ _ => rfl) ?_
  refine L_pure (pc := 874) (pc' := 875) (st' := [.ref 241]) (show z_pt 320 874 = some (9, .aload_n 2, []) by decide +kernel) rfl (fun _ _ => rfl) ?_
  refine L_call (pc := 875) (rr := []) (show z_pt 320 875 = some (9, .invokevirtual 181, [0, 159, 0, 6173, 6174, 6175, 1012, 6176]) by decide +kernel) rfl (show z_r2 159 = some (10, 1, true) by decide +kernel) rfl rfl (Or.inr ⟨_, _, rfl, (show z_ci 241 10 = true by decide +kernel)⟩) (pm_thrown_run (r := μ2 241 12) rfl) (by omega) ?_
  refine L_at (pc := 878) (st := [.int (μ2 241 12)]) ?_
  refine L_pure (pc := 878) (pc' := 880) (st' := [.int (μ2 241 12), .int (μ2 241 12)]) (show z_pt 320 878 = some (9, .iload 6, []) by decide +kernel) rfl (fun _ _ => rfl) ?_
  refine L_icT (pc := 880) (t := 885) (show z_pt 320 880 = some (9, .if_icmp .eq 5, []) by decide +kernel) (by decide) (decide_eq_true rfl) ?_
  refine L_pure (pc := 885) (pc' := 887) (st' := [.int (μ2 241 12)]) (show z_pt 320 885 = some (9, .iload 6, []) by decide +kernel) rfl (fun _ _ => rfl) ?_
  by_cases hz0 : μ2 241 12 = 0
  · refine L_ifF (pc := 887) (t := 902) (show z_pt 320 887 = some (9, .ifCond .ne 15, []) by decide +kernel) (by decide) (decide_eq_false (fun h => h hz0)) ?_
    refine L_pure (pc := 890) (pc' := 891) (st' := [.ref 251]) (show z_pt 320 890 = some (9, .aload_n 3, []) by decide +kernel) rfl (fun _ _ => rfl) ?_
    refine L_const (pc := 891) (pc' := 892) (v := 0) (show z_ptc 320 891 = some (892, 0) by decide +kernel) ?_
    refine L_lald (pc := 892) (show z_pt 320 892 = some (9, .laload, []) by decide +kernel) ?_
    refine L_pure (pc := 893) (pc' := 895) (st' := [.int b, .long (a1 0)]) (show z_pt 320 893 = some (9, .iload 7, []) by decide +kernel) rfl (fun _ _ => rfl) ?_
    refine L_pure (pc := 895) (pc' := 896) (st' := [.long (Int32.toInt64 b), .long (a1 0)]) (show z_pt 320 895 = some (9, .i2l, []) by decide +kernel) rfl (fun _ _ => rfl) ?_
    refine L_pure (pc := 896) (pc' := 897) (st' := [.int (lg_cmp (a1 0) (Int32.toInt64 b))]) (show z_pt 320 896 = some (9, .lcmp, []) by decide +kernel) rfl (fun _ _ => rfl) ?_
    refine L_ifT (pc := 897) (t := 902) (show z_pt 320 897 = some (9, .ifCond .eq 5, []) by decide +kernel) (by decide) (z_lc (hz hz0)) ?_
    refine L_pure (pc := 902) (pc' := 3330) (show z_pt 320 902 = some (9, .goto 2428, []) by decide +kernel) rfl (fun _ _ => rfl) ?_
    refine L_inc (pc := 3330) (pc' := 3333) (ls' := [(0, .ref 2000), (1, .ref 0), (2, .ref 241), (3, .ref 251), (4, .ref 252), (5, .int (i + 4)), (6, .int (μ2 241 12)), (7, .int b)]) (c := 4) (show z_pt 320 3330 = some (9, .iinc 5 4, []) by decide +kernel) (by decide) rfl rfl ?_
    refine L_pure (pc := 3333) (pc' := 28) (ls' := [(0, .ref 2000), (1, .ref 0), (2, .ref 241), (3, .ref 251), (4, .ref 252), (5, .int (i + 4))]) (st' := []) (show z_pt 320 3333 = some (9, .goto (-3305), [6]) by decide +kernel) rfl (fun _ _ => rfl) ?_
    exact kk _ _
  · refine L_ifT (pc := 887) (t := 902) (show z_pt 320 887 = some (9, .ifCond .ne 15, []) by decide +kernel) (by decide) (decide_eq_true hz0) ?_
    refine L_pure (pc := 902) (pc' := 3330) (show z_pt 320 902 = some (9, .goto 2428, []) by decide +kernel) rfl (fun _ _ => rfl) ?_
    refine L_inc (pc := 3330) (pc' := 3333) (ls' := [(0, .ref 2000), (1, .ref 0), (2, .ref 241), (3, .ref 251), (4, .ref 252), (5, .int (i + 4)), (6, .int (μ2 241 12)), (7, .int b)]) (c := 4) (show z_pt 320 3330 = some (9, .iinc 5 4, []) by decide +kernel) (by decide) rfl rfl ?_
    refine L_pure (pc := 3333) (pc' := 28) (ls' := [(0, .ref 2000), (1, .ref 0), (2, .ref 241), (3, .ref 251), (4, .ref 252), (5, .int (i + 4))]) (st' := []) (show z_pt 320 3333 = some (9, .goto (-3305), [6]) by decide +kernel) rfl (fun _ _ => rfl) ?_
    exact kk _ _
theorem pL_arm11 {sc : Nat × (Nat → Int32)} {D J : Nat} {i c1 c2 : Int32} {b : Int32} {r : Int32 ⊕ Nat} {μ μ1 μ2 : z_Mem} {a : Nat → Int64} {q : Nat → UInt64} {o : z_R} {P : z_LP} (hD : 17 ≤ D) (hb1 : z_inb (i + 1) sc.1 = true) (hc1 : sc.2 (i + 1).toNatClampNeg = c1) (hb2 : z_inb (i + 2) sc.1 = true) (hc2 : sc.2 (i + 2).toNatClampNeg = c2) (h1 : pG_areConnected μ c1 c2 = some (r, μ1)) (h2 : pm_areConnected μ1 c1 c2 = some (b, μ2)) (hag : z_agI [0] r b (μ2 241 12)) (kk : ∀ (a : Nat → Int64) (q : Nat → UInt64), Rl sc D 320 28 [(0, .ref 2000), (1, .ref 0), (2, .ref 241), (3, .ref 251), (4, .ref 252), (5, .int (i + 4))] [] μ2 a q o P J) : Rl sc D 320 905 [(0, .ref 2000), (1, .ref 0), (2, .ref 241), (3, .ref 251), (4, .ref 252), (5, .int i)] [] μ a q o P (1 + J) := by
  obtain ⟨a1, q1, hz, hR⟩ := pL_areConnected (sc := sc) (a := a) (q := q) h1 hag
  refine L_pure (pc := 905) (pc' := 906) (st' := [.ref 0]) (show z_pt 320 905 = some (9, .aload_n 1, []) by decide +kernel) rfl (fun _ _ => rfl) ?_
  refine L_pure (pc := 906) (pc' := 907) (st' := [.ref 2000, .ref 0]) (show z_pt 320 906 = some (9, .aload_n 0, []) by decide +kernel) rfl (fun _ _ => rfl) ?_
  refine L_pure (pc := 907) (pc' := 909) (st' := [.int i, .ref 2000, .ref 0]) (show z_pt 320 907 = some (9, .iload 5, []) by decide +kernel) rfl (fun _ _ => rfl) ?_
  refine L_const (pc := 909) (pc' := 910) (v := 1) (show z_ptc 320 909 = some (910, 1) by decide +kernel) ?_
  refine L_pure (pc := 910) (pc' := 911) (st' := [.int (i + 1), .ref 2000, .ref 0]) (show z_pt 320 910 = some (9, .iadd, []) by decide +kernel) rfl (fun _ _ => rfl) ?_
  refine L_scr (pc := 911) (show z_pt 320 911 = some (9, .iaload, []) by decide +kernel) hb1 hc1 ?_
  refine L_pure (pc := 912) (pc' := 913) (st' := [.ref 2000, .int c1, .ref 0]) (show z_pt 320 912 = some (9, .aload_n 0, []) by decide +kernel) rfl (fun _ _ => rfl) ?_
  refine L_pure (pc := 913) (pc' := 915) (st' := [.int i, .ref 2000, .int c1, .ref 0]) (show z_pt 320 913 = some (9, .iload 5, []) by decide +kernel) rfl (fun _ _ => rfl) ?_
  refine L_const (pc := 915) (pc' := 916) (v := 2) (show z_ptc 320 915 = some (916, 2) by decide +kernel) ?_
  refine L_pure (pc := 916) (pc' := 917) (st' := [.int (i + 2), .ref 2000, .int c1, .ref 0]) (show z_pt 320 916 = some (9, .iadd, []) by decide +kernel) rfl (fun _ _ => rfl) ?_
  refine L_scr (pc := 917) (show z_pt 320 917 = some (9, .iaload, []) by decide +kernel) hb2 hc2 ?_
  refine L_pure (pc := 918) (pc' := 919) (st' := [.ref 251, .int c2, .int c1, .ref 0]) (show z_pt 320 918 = some (9, .aload_n 3, []) by decide +kernel) rfl (fun _ _ => rfl) ?_
  refine L_callF (pc := 919) (rr := []) (show z_pt 320 919 = some (9, .invokestatic 218, [5, 283, 4, 4007, 4008, 0, 1000, 4009]) by decide +kernel) rfl (show z_r3 283 = some (11, 5, true) by decide +kernel) rfl rfl hR (by omega) ?_
  refine L_at (pc := 922) (st := [.int (μ2 241 12)]) ?_
  refine L_pure (pc := 922) (pc' := 924) (ls' := [(0, .ref 2000), (1, .ref 0), (2, .ref 241), (3, .ref 251), (4, .ref 252), (5, .int i), (6, .int (μ2 241 12))]) (st' := []) (show z_pt 320 922 = some (9, .istore 6, []) by decide +kernel) rfl (fun _ _ => rfl) ?_
  refine L_pure (pc := 924) (pc' := 925) (st' := [.ref 241]) (show z_pt 320 924 = some (9, .aload_n 2, []) by decide +kernel) rfl (fun _ _ => rfl) ?_
  refine L_pure (pc := 925) (pc' := 926) (st' := [.ref 2000, .ref 241]) (show z_pt 320 925 = some (9, .aload_n 0, []) by decide +kernel) rfl (fun _ _ => rfl) ?_
  refine L_pure (pc := 926) (pc' := 928) (st' := [.int i, .ref 2000, .ref 241]) (show z_pt 320 926 = some (9, .iload 5, []) by decide +kernel) rfl (fun _ _ => rfl) ?_
  refine L_const (pc := 928) (pc' := 929) (v := 1) (show z_ptc 320 928 = some (929, 1) by decide +kernel) ?_
  refine L_pure (pc := 929) (pc' := 930) (st' := [.int (i + 1), .ref 2000, .ref 241]) (show z_pt 320 929 = some (9, .iadd, []) by decide +kernel) rfl (fun _ _ => rfl) ?_
  refine L_scr (pc := 930) (show z_pt 320 930 = some (9, .iaload, []) by decide +kernel) hb1 hc1 ?_
  refine L_pure (pc := 931) (pc' := 932) (st' := [.ref 2000, .int c1, .ref 241]) (show z_pt 320 931 = some (9, .aload_n 0, []) by decide +kernel) rfl (fun _ _ => rfl) ?_
  refine L_pure (pc := 932) (pc' := 934) (st' := [.int i, .ref 2000, .int c1, .ref 241]) (show z_pt 320 932 = some (9, .iload 5, []) by decide +kernel) rfl (fun _ _ => rfl) ?_
  refine L_const (pc := 934) (pc' := 935) (v := 2) (show z_ptc 320 934 = some (935, 2) by decide +kernel) ?_
  refine L_pure (pc := 935) (pc' := 936) (st' := [.int (i + 2), .ref 2000, .int c1, .ref 241]) (show z_pt 320 935 = some (9, .iadd, []) by decide +kernel) rfl (fun _ _ => rfl) ?_
  refine L_scr (pc := 936) (show z_pt 320 936 = some (9, .iaload, []) by decide +kernel) hb2 hc2 ?_
  refine L_call (pc := 937) (rr := []) (show z_pt 320 937 = some (9, .invokevirtual 220, [0, 198, 2, 7076, 7077, 7078, 1012, 7079]) by decide +kernel) rfl (show z_r2 198 = some (10, 3, true) by decide +kernel) rfl rfl (Or.inr ⟨_, _, rfl, (show z_ci 241 10 = true by decide +kernel)⟩) (pm_areConnected_run (r := (b, μ2)) h2) (by omega) ?_
  refine L_at (pc := 940) (st := [.int b]) ?_
  refine L_pure (pc := 940) (pc' := 942) (ls' := [(0, .ref 2000), (1, .ref 0), (2, .ref 241), (3, .ref 251), (4, .ref 252), (5, .int i), (6, .int (μ2 241 12)), (7, .int b)]) (st' := []) (show z_pt 320 940 = some (9, .istore 7, []) by decide +kernel) rfl (fun _ _ => rfl) ?_
  refine L_pure (pc := 942) (pc' := 943) (st' := [.ref 241]) (show z_pt 320 942 = some (9, .aload_n 2, []) by decide +kernel) rfl (fun _ _ => rfl) ?_
  refine L_call (pc := 943) (rr := []) (show z_pt 320 943 = some (9, .invokevirtual 181, [0, 159, 0, 6173, 6174, 6175, 1012, 6176]) by decide +kernel) rfl (show z_r2 159 = some (10, 1, true) by decide +kernel) rfl rfl (Or.inr ⟨_, _, rfl, (show z_ci 241 10 = true by decide +kernel)⟩) (pm_thrown_run (r := μ2 241 12) rfl) (by omega) ?_
  refine L_at (pc := 946) (st := [.int (μ2 241 12)]) ?_
  refine L_pure (pc := 946) (pc' := 948) (st' := [.int (μ2 241 12), .int (μ2 241 12)]) (show z_pt 320 946 = some (9, .iload 6, []) by decide +kernel) rfl (fun _ _ => rfl) ?_
  refine L_icT (pc := 948) (t := 953) (show z_pt 320 948 = some (9, .if_icmp .eq 5, []) by decide +kernel) (by decide) (decide_eq_true rfl) ?_
  refine L_pure (pc := 953) (pc' := 955) (st' := [.int (μ2 241 12)]) (show z_pt 320 953 = some (9, .iload 6, []) by decide +kernel) rfl (fun _ _ => rfl) ?_
  by_cases hz0 : μ2 241 12 = 0
  · by_cases hb0 : b = 0
    · refine L_ifF (pc := 955) (t := 977) (show z_pt 320 955 = some (9, .ifCond .ne 22, []) by decide +kernel) (by decide) (decide_eq_false (fun h => h hz0)) ?_
      refine L_pure (pc := 958) (pc' := 959) (st' := [.ref 251]) (show z_pt 320 958 = some (9, .aload_n 3, []) by decide +kernel) rfl (fun _ _ => rfl) ?_
      refine L_const (pc := 959) (pc' := 960) (v := 0) (show z_ptc 320 959 = some (960, 0) by decide +kernel) ?_
      refine L_lald (pc := 960) (show z_pt 320 960 = some (9, .laload, []) by decide +kernel) ?_
      refine L_pure (pc := 961) (pc' := 963) (st' := [.int b, .long (a1 0)]) (show z_pt 320 961 = some (9, .iload 7, []) by decide +kernel) rfl (fun _ _ => rfl) ?_
      refine L_ifT (pc := 963) (t := 970) (show z_pt 320 963 = some (9, .ifCond .eq 7, []) by decide +kernel) (by decide) (decide_eq_true hb0) ?_
      refine L_pure (pc := 970) (pc' := 971) (st' := [.long (Int64.ofNat 0), .long (a1 0)]) (show z_pt 320 970 = some (9, .lconst 0, []) by decide +kernel) rfl (fun _ _ => rfl) ?_
      refine L_pure (pc := 971) (pc' := 972) (st' := [.int (lg_cmp (a1 0) (Int64.ofNat 0))]) (show z_pt 320 971 = some (9, .lcmp, []) by decide +kernel) rfl (fun _ _ => rfl) ?_
      refine L_ifT (pc := 972) (t := 977) (show z_pt 320 972 = some (9, .ifCond .eq 5, []) by decide +kernel) (by decide) (z_lc ((hz hz0).trans (if_pos hb0))) ?_
      refine L_pure (pc := 977) (pc' := 3330) (show z_pt 320 977 = some (9, .goto 2353, []) by decide +kernel) rfl (fun _ _ => rfl) ?_
      refine L_inc (pc := 3330) (pc' := 3333) (ls' := [(0, .ref 2000), (1, .ref 0), (2, .ref 241), (3, .ref 251), (4, .ref 252), (5, .int (i + 4)), (6, .int (μ2 241 12)), (7, .int b)]) (c := 4) (show z_pt 320 3330 = some (9, .iinc 5 4, []) by decide +kernel) (by decide) rfl rfl ?_
      refine L_pure (pc := 3333) (pc' := 28) (ls' := [(0, .ref 2000), (1, .ref 0), (2, .ref 241), (3, .ref 251), (4, .ref 252), (5, .int (i + 4))]) (st' := []) (show z_pt 320 3333 = some (9, .goto (-3305), [6]) by decide +kernel) rfl (fun _ _ => rfl) ?_
      exact kk _ _
    · refine L_ifF (pc := 955) (t := 977) (show z_pt 320 955 = some (9, .ifCond .ne 22, []) by decide +kernel) (by decide) (decide_eq_false (fun h => h hz0)) ?_
      refine L_pure (pc := 958) (pc' := 959) (st' := [.ref 251]) (show z_pt 320 958 = some (9, .aload_n 3, []) by decide +kernel) rfl (fun _ _ => rfl) ?_
      refine L_const (pc := 959) (pc' := 960) (v := 0) (show z_ptc 320 959 = some (960, 0) by decide +kernel) ?_
      refine L_lald (pc := 960) (show z_pt 320 960 = some (9, .laload, []) by decide +kernel) ?_
      refine L_pure (pc := 961) (pc' := 963) (st' := [.int b, .long (a1 0)]) (show z_pt 320 961 = some (9, .iload 7, []) by decide +kernel) rfl (fun _ _ => rfl) ?_
      refine L_ifF (pc := 963) (t := 970) (show z_pt 320 963 = some (9, .ifCond .eq 7, []) by decide +kernel) (by decide) (decide_eq_false hb0) ?_
      refine L_pure (pc := 966) (pc' := 967) (st' := [.long (Int64.ofNat 1), .long (a1 0)]) (show z_pt 320 966 = some (9, .lconst 1, []) by decide +kernel) rfl (fun _ _ => rfl) ?_
      refine L_pure (pc := 967) (pc' := 971) (show z_pt 320 967 = some (9, .goto 4, []) by decide +kernel) rfl (fun _ _ => rfl) ?_
      refine L_pure (pc := 971) (pc' := 972) (st' := [.int (lg_cmp (a1 0) (Int64.ofNat 1))]) (show z_pt 320 971 = some (9, .lcmp, []) by decide +kernel) rfl (fun _ _ => rfl) ?_
      refine L_ifT (pc := 972) (t := 977) (show z_pt 320 972 = some (9, .ifCond .eq 5, []) by decide +kernel) (by decide) (z_lc ((hz hz0).trans (if_neg hb0))) ?_
      refine L_pure (pc := 977) (pc' := 3330) (show z_pt 320 977 = some (9, .goto 2353, []) by decide +kernel) rfl (fun _ _ => rfl) ?_
      refine L_inc (pc := 3330) (pc' := 3333) (ls' := [(0, .ref 2000), (1, .ref 0), (2, .ref 241), (3, .ref 251), (4, .ref 252), (5, .int (i + 4)), (6, .int (μ2 241 12)), (7, .int b)]) (c := 4) (show z_pt 320 3330 = some (9, .iinc 5 4, []) by decide +kernel) (by decide) rfl rfl ?_
      refine L_pure (pc := 3333) (pc' := 28) (ls' := [(0, .ref 2000), (1, .ref 0), (2, .ref 241), (3, .ref 251), (4, .ref 252), (5, .int (i + 4))]) (st' := []) (show z_pt 320 3333 = some (9, .goto (-3305), [6]) by decide +kernel) rfl (fun _ _ => rfl) ?_
      exact kk _ _
  · refine L_ifT (pc := 955) (t := 977) (show z_pt 320 955 = some (9, .ifCond .ne 22, []) by decide +kernel) (by decide) (decide_eq_true hz0) ?_
    refine L_pure (pc := 977) (pc' := 3330) (show z_pt 320 977 = some (9, .goto 2353, []) by decide +kernel) rfl (fun _ _ => rfl) ?_
    refine L_inc (pc := 3330) (pc' := 3333) (ls' := [(0, .ref 2000), (1, .ref 0), (2, .ref 241), (3, .ref 251), (4, .ref 252), (5, .int (i + 4)), (6, .int (μ2 241 12)), (7, .int b)]) (c := 4) (show z_pt 320 3330 = some (9, .iinc 5 4, []) by decide +kernel) (by decide) rfl rfl ?_
    refine L_pure (pc := 3333) (pc' := 28) (ls' := [(0, .ref 2000), (1, .ref 0), (2, .ref 241), (3, .ref 251), (4, .ref 252), (5, .int (i + 4))]) (st' := []) (show z_pt 320 3333 = some (9, .goto (-3305), [6]) by decide +kernel) rfl (fun _ _ => rfl) ?_
    exact kk _ _
theorem pL_arm12 {sc : Nat × (Nat → Int32)} {D J : Nat} {i c1 : Int32} {b : Int32} {r : Int32 ⊕ Nat} {μ μ1 μ2 : z_Mem} {a : Nat → Int64} {q : Nat → UInt64} {o : z_R} {P : z_LP} (hD : 17 ≤ D) (hb1 : z_inb (i + 1) sc.1 = true) (hc1 : sc.2 (i + 1).toNatClampNeg = c1) (h1 : pG_trainSize μ c1 = some (r, μ1)) (h2 : pm_trainSize μ1 c1 = some (b, μ2)) (hag : z_agI [0] r b (μ2 241 12)) (kk : ∀ (a : Nat → Int64) (q : Nat → UInt64), Rl sc D 320 28 [(0, .ref 2000), (1, .ref 0), (2, .ref 241), (3, .ref 251), (4, .ref 252), (5, .int (i + 4))] [] μ2 a q o P J) : Rl sc D 320 980 [(0, .ref 2000), (1, .ref 0), (2, .ref 241), (3, .ref 251), (4, .ref 252), (5, .int i)] [] μ a q o P (1 + J) := by
  obtain ⟨a1, q1, hz, hR⟩ := pL_trainSize (sc := sc) (a := a) (q := q) h1 hag
  refine L_pure (pc := 980) (pc' := 981) (st' := [.ref 0]) (show z_pt 320 980 = some (9, .aload_n 1, []) by decide +kernel) rfl (fun _ _ => rfl) ?_
  refine L_pure (pc := 981) (pc' := 982) (st' := [.ref 2000, .ref 0]) (show z_pt 320 981 = some (9, .aload_n 0, []) by decide +kernel) rfl (fun _ _ => rfl) ?_
  refine L_pure (pc := 982) (pc' := 984) (st' := [.int i, .ref 2000, .ref 0]) (show z_pt 320 982 = some (9, .iload 5, []) by decide +kernel) rfl (fun _ _ => rfl) ?_
  refine L_const (pc := 984) (pc' := 985) (v := 1) (show z_ptc 320 984 = some (985, 1) by decide +kernel) ?_
  refine L_pure (pc := 985) (pc' := 986) (st' := [.int (i + 1), .ref 2000, .ref 0]) (show z_pt 320 985 = some (9, .iadd, []) by decide +kernel) rfl (fun _ _ => rfl) ?_
  refine L_scr (pc := 986) (show z_pt 320 986 = some (9, .iaload, []) by decide +kernel) hb1 hc1 ?_
  refine L_pure (pc := 987) (pc' := 988) (st' := [.ref 251, .int c1, .ref 0]) (show z_pt 320 987 = some (9, .aload_n 3, []) by decide +kernel) rfl (fun _ _ => rfl) ?_
  refine L_callF (pc := 988) (rr := []) (show z_pt 320 988 = some (9, .invokestatic 221, [5, 284, 3, 4014, 4015, 0, 1000, 4016]) by decide +kernel) rfl (show z_r3 284 = some (11, 4, true) by decide +kernel) rfl rfl hR (by omega) ?_
  refine L_at (pc := 991) (st := [.int (μ2 241 12)]) ?_
  refine L_pure (pc := 991) (pc' := 993) (ls' := [(0, .ref 2000), (1, .ref 0), (2, .ref 241), (3, .ref 251), (4, .ref 252), (5, .int i), (6, .int (μ2 241 12))]) (st' := []) (show z_pt 320 991 = some (9, .istore 6, []) by decide +kernel) rfl (fun _ _ => rfl) ?_
  refine L_pure (pc := 993) (pc' := 994) (st' := [.ref 241]) (show z_pt 320 993 = some (9, .aload_n 2, []) by decide +kernel) rfl (fun _ _ => rfl) ?_
  refine L_pure (pc := 994) (pc' := 995) (st' := [.ref 2000, .ref 241]) (show z_pt 320 994 = some (9, .aload_n 0, []) by decide +kernel) rfl (fun _ _ => rfl) ?_
  refine L_pure (pc := 995) (pc' := 997) (st' := [.int i, .ref 2000, .ref 241]) (show z_pt 320 995 = some (9, .iload 5, []) by decide +kernel) rfl (fun _ _ => rfl) ?_
  refine L_const (pc := 997) (pc' := 998) (v := 1) (show z_ptc 320 997 = some (998, 1) by decide +kernel) ?_
  refine L_pure (pc := 998) (pc' := 999) (st' := [.int (i + 1), .ref 2000, .ref 241]) (show z_pt 320 998 = some (9, .iadd, []) by decide +kernel) rfl (fun _ _ => rfl) ?_
  refine L_scr (pc := 999) (show z_pt 320 999 = some (9, .iaload, []) by decide +kernel) hb1 hc1 ?_
  refine L_call (pc := 1000) (rr := []) (show z_pt 320 1000 = some (9, .invokevirtual 223, [0, 199, 1, 7080, 7081, 7082, 1012, 7083]) by decide +kernel) rfl (show z_r2 199 = some (10, 4, true) by decide +kernel) rfl rfl (Or.inr ⟨_, _, rfl, (show z_ci 241 10 = true by decide +kernel)⟩) (pm_trainSize_run (r := (b, μ2)) h2) (by omega) ?_
  refine L_at (pc := 1003) (st := [.int b]) ?_
  refine L_pure (pc := 1003) (pc' := 1005) (ls' := [(0, .ref 2000), (1, .ref 0), (2, .ref 241), (3, .ref 251), (4, .ref 252), (5, .int i), (6, .int (μ2 241 12)), (7, .int b)]) (st' := []) (show z_pt 320 1003 = some (9, .istore 7, []) by decide +kernel) rfl (fun _ _ => rfl) ?_
  refine L_pure (pc := 1005) (pc' := 1006) (st' := [.ref 241]) (show z_pt 320 1005 = some (9, .aload_n 2, []) by decide +kernel) rfl (fun _ _ => rfl) ?_
  refine L_call (pc := 1006) (rr := []) (show z_pt 320 1006 = some (9, .invokevirtual 181, [0, 159, 0, 6173, 6174, 6175, 1012, 6176]) by decide +kernel) rfl (show z_r2 159 = some (10, 1, true) by decide +kernel) rfl rfl (Or.inr ⟨_, _, rfl, (show z_ci 241 10 = true by decide +kernel)⟩) (pm_thrown_run (r := μ2 241 12) rfl) (by omega) ?_
  refine L_at (pc := 1009) (st := [.int (μ2 241 12)]) ?_
  refine L_pure (pc := 1009) (pc' := 1011) (st' := [.int (μ2 241 12), .int (μ2 241 12)]) (show z_pt 320 1009 = some (9, .iload 6, []) by decide +kernel) rfl (fun _ _ => rfl) ?_
  refine L_icT (pc := 1011) (t := 1016) (show z_pt 320 1011 = some (9, .if_icmp .eq 5, []) by decide +kernel) (by decide) (decide_eq_true rfl) ?_
  refine L_pure (pc := 1016) (pc' := 1018) (st' := [.int (μ2 241 12)]) (show z_pt 320 1016 = some (9, .iload 6, []) by decide +kernel) rfl (fun _ _ => rfl) ?_
  by_cases hz0 : μ2 241 12 = 0
  · refine L_ifF (pc := 1018) (t := 1033) (show z_pt 320 1018 = some (9, .ifCond .ne 15, []) by decide +kernel) (by decide) (decide_eq_false (fun h => h hz0)) ?_
    refine L_pure (pc := 1021) (pc' := 1022) (st' := [.ref 251]) (show z_pt 320 1021 = some (9, .aload_n 3, []) by decide +kernel) rfl (fun _ _ => rfl) ?_
    refine L_const (pc := 1022) (pc' := 1023) (v := 0) (show z_ptc 320 1022 = some (1023, 0) by decide +kernel) ?_
    refine L_lald (pc := 1023) (show z_pt 320 1023 = some (9, .laload, []) by decide +kernel) ?_
    refine L_pure (pc := 1024) (pc' := 1026) (st' := [.int b, .long (a1 0)]) (show z_pt 320 1024 = some (9, .iload 7, []) by decide +kernel) rfl (fun _ _ => rfl) ?_
    refine L_pure (pc := 1026) (pc' := 1027) (st' := [.long (Int32.toInt64 b), .long (a1 0)]) (show z_pt 320 1026 = some (9, .i2l, []) by decide +kernel) rfl (fun _ _ => rfl) ?_
    refine L_pure (pc := 1027) (pc' := 1028) (st' := [.int (lg_cmp (a1 0) (Int32.toInt64 b))]) (show z_pt 320 1027 = some (9, .lcmp, []) by decide +kernel) rfl (fun _ _ => rfl) ?_
    refine L_ifT (pc := 1028) (t := 1033) (show z_pt 320 1028 = some (9, .ifCond .eq 5, []) by decide +kernel) (by decide) (z_lc (hz hz0)) ?_
    refine L_pure (pc := 1033) (pc' := 3330) (show z_pt 320 1033 = some (9, .goto 2297, []) by decide +kernel) rfl (fun _ _ => rfl) ?_
    refine L_inc (pc := 3330) (pc' := 3333) (ls' := [(0, .ref 2000), (1, .ref 0), (2, .ref 241), (3, .ref 251), (4, .ref 252), (5, .int (i + 4)), (6, .int (μ2 241 12)), (7, .int b)]) (c := 4) (show z_pt 320 3330 = some (9, .iinc 5 4, []) by decide +kernel) (by decide) rfl rfl ?_
    refine L_pure (pc := 3333) (pc' := 28) (ls' := [(0, .ref 2000), (1, .ref 0), (2, .ref 241), (3, .ref 251), (4, .ref 252), (5, .int (i + 4))]) (st' := []) (show z_pt 320 3333 = some (9, .goto (-3305), [6]) by decide +kernel) rfl (fun _ _ => rfl) ?_
    exact kk _ _
  · refine L_ifT (pc := 1018) (t := 1033) (show z_pt 320 1018 = some (9, .ifCond .ne 15, []) by decide +kernel) (by decide) (decide_eq_true hz0) ?_
    refine L_pure (pc := 1033) (pc' := 3330) (show z_pt 320 1033 = some (9, .goto 2297, []) by decide +kernel) rfl (fun _ _ => rfl) ?_
    refine L_inc (pc := 3330) (pc' := 3333) (ls' := [(0, .ref 2000), (1, .ref 0), (2, .ref 241), (3, .ref 251), (4, .ref 252), (5, .int (i + 4)), (6, .int (μ2 241 12)), (7, .int b)]) (c := 4) (show z_pt 320 3330 = some (9, .iinc 5 4, []) by decide +kernel) (by decide) rfl rfl ?_
    refine L_pure (pc := 3333) (pc' := 28) (ls' := [(0, .ref 2000), (1, .ref 0), (2, .ref 241), (3, .ref 251), (4, .ref 252), (5, .int (i + 4))]) (st' := []) (show z_pt 320 3333 = some (9, .goto (-3305), [6]) by decide +kernel) rfl (fun _ _ => rfl) ?_
    exact kk _ _
theorem pL_arm13 {sc : Nat × (Nat → Int32)} {D J : Nat} {i b : Int32} {μ μ1 μ2 : z_Mem} {a : Nat → Int64} {q : Nat → UInt64} {o : z_R} {P : z_LP} (hD : 16 ≤ D) (h1 : pG_trainCount μ = some (b, μ1)) (h2 : pm_trainCount μ1 = some (b, μ2)) (kk : Rl sc D 320 28 [(0, .ref 2000), (1, .ref 0), (2, .ref 241), (3, .ref 251), (4, .ref 252), (5, .int (i + 4))] [] μ2 a q o P J) : Rl sc D 320 1036 [(0, .ref 2000), (1, .ref 0), (2, .ref 241), (3, .ref 251), (4, .ref 252), (5, .int i)] [] μ a q o P J := by
  refine L_pure (pc := 1036) (pc' := 1037) (st' := [.ref 0]) (show z_pt 320 1036 = some (9, .aload_n 1, []) by decide +kernel) rfl (fun _ _ => rfl) ?_
  refine L_call (pc := 1037) (rr := []) (show z_pt 320 1037 = some (9, .invokevirtual 224, [0, 90, 0, 2078, 2079, 2080, 1001, 2081]) by decide +kernel) rfl (show z_r2 90 = some (9, 1, true) by decide +kernel) rfl rfl (Or.inr ⟨_, _, rfl, (show z_ci 0 9 = true by decide +kernel)⟩) (pG_trainCount_run (r := (b, μ1)) h1) (by omega) ?_
  refine L_at (pc := 1040) (st := [.int b]) ?_
  refine L_pure (pc := 1040) (pc' := 1041) (st' := [.ref 241, .int b]) (show z_pt 320 1040 = some (9, .aload_n 2, []) by decide +kernel) rfl (fun _ _ => rfl) ?_
  refine L_call (pc := 1041) (rr := [.int b]) (show z_pt 320 1041 = some (9, .invokevirtual 227, [0, 200, 0, 7084, 7085, 7086, 1012, 7087]) by decide +kernel) rfl (show z_r2 200 = some (10, 5, true) by decide +kernel) rfl rfl (Or.inr ⟨_, _, rfl, (show z_ci 241 10 = true by decide +kernel)⟩) (pm_trainCount_run (r := (b, μ2)) h2) (by omega) ?_
  refine L_at (pc := 1044) (st := [.int b, .int b]) ?_
  refine L_icT (pc := 1044) (t := 3330) (show z_pt 320 1044 = some (9, .if_icmp .eq 2286, []) by decide +kernel) (by decide) (decide_eq_true rfl) ?_
  refine L_inc (pc := 3330) (pc' := 3333) (ls' := [(0, .ref 2000), (1, .ref 0), (2, .ref 241), (3, .ref 251), (4, .ref 252), (5, .int (i + 4))]) (c := 4) (show z_pt 320 3330 = some (9, .iinc 5 4, []) by decide +kernel) (by decide) rfl rfl ?_
  refine L_pure (pc := 3333) (pc' := 28) (ls' := [(0, .ref 2000), (1, .ref 0), (2, .ref 241), (3, .ref 251), (4, .ref 252), (5, .int (i + 4))]) (st' := []) (show z_pt 320 3333 = some (9, .goto (-3305), [6]) by decide +kernel) rfl (fun _ _ => rfl) ?_
  exact kk
theorem pL_arm14 {sc : Nat × (Nat → Int32)} {D J : Nat} {i b : Int32} {μ μ1 μ2 : z_Mem} {a : Nat → Int64} {q : Nat → UInt64} {o : z_R} {P : z_LP} (hD : 5 ≤ D) (h1 : pG_trainCountByUnions μ = some (b, μ1)) (h2 : pm_trainCountByUnions μ1 = some (b, μ2)) (kk : Rl sc D 320 28 [(0, .ref 2000), (1, .ref 0), (2, .ref 241), (3, .ref 251), (4, .ref 252), (5, .int (i + 4))] [] μ2 a q o P J) : Rl sc D 320 1049 [(0, .ref 2000), (1, .ref 0), (2, .ref 241), (3, .ref 251), (4, .ref 252), (5, .int i)] [] μ a q o P J := by
  refine L_pure (pc := 1049) (pc' := 1050) (st' := [.ref 0]) (show z_pt 320 1049 = some (9, .aload_n 1, []) by decide +kernel) rfl (fun _ _ => rfl) ?_
  refine L_call (pc := 1050) (rr := []) (show z_pt 320 1050 = some (9, .invokevirtual 228, [0, 91, 0, 2101, 2102, 2103, 1001, 2104]) by decide +kernel) rfl (show z_r2 91 = some (9, 1, true) by decide +kernel) rfl rfl (Or.inr ⟨_, _, rfl, (show z_ci 0 9 = true by decide +kernel)⟩) (pG_trainCountByUnions_run (r := (b, μ1)) h1) (by omega) ?_
  refine L_at (pc := 1053) (st := [.int b]) ?_
  refine L_pure (pc := 1053) (pc' := 1054) (st' := [.ref 241, .int b]) (show z_pt 320 1053 = some (9, .aload_n 2, []) by decide +kernel) rfl (fun _ _ => rfl) ?_
  refine L_call (pc := 1054) (rr := [.int b]) (show z_pt 320 1054 = some (9, .invokevirtual 231, [0, 201, 0, 7088, 7089, 7090, 1012, 7091]) by decide +kernel) rfl (show z_r2 201 = some (10, 1, true) by decide +kernel) rfl rfl (Or.inr ⟨_, _, rfl, (show z_ci 241 10 = true by decide +kernel)⟩) (pm_trainCountByUnions_run (r := (b, μ2)) h2) (by omega) ?_
  refine L_at (pc := 1057) (st := [.int b, .int b]) ?_
  refine L_icT (pc := 1057) (t := 3330) (show z_pt 320 1057 = some (9, .if_icmp .eq 2273, []) by decide +kernel) (by decide) (decide_eq_true rfl) ?_
  refine L_inc (pc := 3330) (pc' := 3333) (ls' := [(0, .ref 2000), (1, .ref 0), (2, .ref 241), (3, .ref 251), (4, .ref 252), (5, .int (i + 4))]) (c := 4) (show z_pt 320 3330 = some (9, .iinc 5 4, []) by decide +kernel) (by decide) rfl rfl ?_
  refine L_pure (pc := 3333) (pc' := 28) (ls' := [(0, .ref 2000), (1, .ref 0), (2, .ref 241), (3, .ref 251), (4, .ref 252), (5, .int (i + 4))]) (st' := []) (show z_pt 320 3333 = some (9, .goto (-3305), [6]) by decide +kernel) rfl (fun _ _ => rfl) ?_
  exact kk
theorem pL_arm15 {sc : Nat × (Nat → Int32)} {D J : Nat} {i b : Int32} {μ μ2 : z_Mem} {a : Nat → Int64} {q : Nat → UInt64} {o : z_R} {P : z_LP} (hD : 2 ≤ D) (h1 : pG_turnedTeeth μ = some b) (h2 : pm_turnedTeeth μ = some (b, μ2)) (kk : Rl sc D 320 28 [(0, .ref 2000), (1, .ref 0), (2, .ref 241), (3, .ref 251), (4, .ref 252), (5, .int (i + 4))] [] μ2 a q o P J) : Rl sc D 320 1062 [(0, .ref 2000), (1, .ref 0), (2, .ref 241), (3, .ref 251), (4, .ref 252), (5, .int i)] [] μ a q o P J := by
  refine L_pure (pc := 1062) (pc' := 1063) (st' := [.ref 0]) (show z_pt 320 1062 = some (9, .aload_n 1, []) by decide +kernel) rfl (fun _ _ => rfl) ?_
  refine L_call (pc := 1063) (rr := []) (show z_pt 320 1063 = some (9, .invokevirtual 232, [0, 92, 0, 2113, 2114, 2115, 1001, 2116]) by decide +kernel) rfl (show z_r2 92 = some (9, 1, true) by decide +kernel) rfl rfl (Or.inr ⟨_, _, rfl, (show z_ci 0 9 = true by decide +kernel)⟩) (pG_turnedTeeth_run h1) (by omega) ?_
  refine L_at (pc := 1066) (st := [.int b]) ?_
  refine L_pure (pc := 1066) (pc' := 1067) (st' := [.ref 241, .int b]) (show z_pt 320 1066 = some (9, .aload_n 2, []) by decide +kernel) rfl (fun _ _ => rfl) ?_
  refine L_call (pc := 1067) (rr := [.int b]) (show z_pt 320 1067 = some (9, .invokevirtual 235, [0, 202, 0, 7093, 7094, 7095, 1012, 7096]) by decide +kernel) rfl (show z_r2 202 = some (10, 1, true) by decide +kernel) rfl rfl (Or.inr ⟨_, _, rfl, (show z_ci 241 10 = true by decide +kernel)⟩) (pm_turnedTeeth_run (r := (b, μ2)) h2) (by omega) ?_
  refine L_at (pc := 1070) (st := [.int b, .int b]) ?_
  refine L_icT (pc := 1070) (t := 3330) (show z_pt 320 1070 = some (9, .if_icmp .eq 2260, []) by decide +kernel) (by decide) (decide_eq_true rfl) ?_
  refine L_inc (pc := 3330) (pc' := 3333) (ls' := [(0, .ref 2000), (1, .ref 0), (2, .ref 241), (3, .ref 251), (4, .ref 252), (5, .int (i + 4))]) (c := 4) (show z_pt 320 3330 = some (9, .iinc 5 4, []) by decide +kernel) (by decide) rfl rfl ?_
  refine L_pure (pc := 3333) (pc' := 28) (ls' := [(0, .ref 2000), (1, .ref 0), (2, .ref 241), (3, .ref 251), (4, .ref 252), (5, .int (i + 4))]) (st' := []) (show z_pt 320 3333 = some (9, .goto (-3305), [6]) by decide +kernel) rfl (fun _ _ => rfl) ?_
  exact kk
theorem pL_arm16 {sc : Nat × (Nat → Int32)} {D J : Nat} {i c1 c2 : Int32} {b : Int32} {r : Int32 ⊕ Nat} {μ μ1 μ2 : z_Mem} {a : Nat → Int64} {q : Nat → UInt64} {o : z_R} {P : z_LP} (hD : 18 ≤ D) (hb1 : z_inb (i + 1) sc.1 = true) (hc1 : sc.2 (i + 1).toNatClampNeg = c1) (hb2 : z_inb (i + 2) sc.1 = true) (hc2 : sc.2 (i + 2).toNatClampNeg = c2) (h1 : pG_ratioNumerator μ c1 c2 = some (r, μ1)) (h2 : pm_ratioNumerator μ1 c1 c2 = some (b, μ2)) (hag : z_agI [0, 3] r b (μ2 241 12)) (kk : ∀ (a : Nat → Int64) (q : Nat → UInt64), Rl sc D 320 28 [(0, .ref 2000), (1, .ref 0), (2, .ref 241), (3, .ref 251), (4, .ref 252), (5, .int (i + 4))] [] μ2 a q o P J) : Rl sc D 320 1075 [(0, .ref 2000), (1, .ref 0), (2, .ref 241), (3, .ref 251), (4, .ref 252), (5, .int i)] [] μ a q o P (1 + J) := by
  obtain ⟨a1, q1, hz, hR⟩ := pL_ratioNumerator (sc := sc) (a := a) (q := q) h1 hag
  refine L_pure (pc := 1075) (pc' := 1076) (st' := [.ref 0]) (show z_pt 320 1075 = some (9, .aload_n 1, []) by decide +kernel) rfl (fun _ _ => rfl) ?_
  refine L_pure (pc := 1076) (pc' := 1077) (st' := [.ref 2000, .ref 0]) (show z_pt 320 1076 = some (9, .aload_n 0, []) by decide +kernel) rfl (fun _ _ => rfl) ?_
  refine L_pure (pc := 1077) (pc' := 1079) (st' := [.int i, .ref 2000, .ref 0]) (show z_pt 320 1077 = some (9, .iload 5, []) by decide +kernel) rfl (fun _ _ => rfl) ?_
  refine L_const (pc := 1079) (pc' := 1080) (v := 1) (show z_ptc 320 1079 = some (1080, 1) by decide +kernel) ?_
  refine L_pure (pc := 1080) (pc' := 1081) (st' := [.int (i + 1), .ref 2000, .ref 0]) (show z_pt 320 1080 = some (9, .iadd, []) by decide +kernel) rfl (fun _ _ => rfl) ?_
  refine L_scr (pc := 1081) (show z_pt 320 1081 = some (9, .iaload, []) by decide +kernel) hb1 hc1 ?_
  refine L_pure (pc := 1082) (pc' := 1083) (st' := [.ref 2000, .int c1, .ref 0]) (show z_pt 320 1082 = some (9, .aload_n 0, []) by decide +kernel) rfl (fun _ _ => rfl) ?_
  refine L_pure (pc := 1083) (pc' := 1085) (st' := [.int i, .ref 2000, .int c1, .ref 0]) (show z_pt 320 1083 = some (9, .iload 5, []) by decide +kernel) rfl (fun _ _ => rfl) ?_
  refine L_const (pc := 1085) (pc' := 1086) (v := 2) (show z_ptc 320 1085 = some (1086, 2) by decide +kernel) ?_
  refine L_pure (pc := 1086) (pc' := 1087) (st' := [.int (i + 2), .ref 2000, .int c1, .ref 0]) (show z_pt 320 1086 = some (9, .iadd, []) by decide +kernel) rfl (fun _ _ => rfl) ?_
  refine L_scr (pc := 1087) (show z_pt 320 1087 = some (9, .iaload, []) by decide +kernel) hb2 hc2 ?_
  refine L_pure (pc := 1088) (pc' := 1089) (st' := [.ref 251, .int c2, .int c1, .ref 0]) (show z_pt 320 1088 = some (9, .aload_n 3, []) by decide +kernel) rfl (fun _ _ => rfl) ?_
  refine L_callF (pc := 1089) (rr := []) (show z_pt 320 1089 = some (9, .invokestatic 236, [5, 285, 4, 4025, 4026, 0, 1000, 4027]) by decide +kernel) rfl (show z_r3 285 = some (11, 5, true) by decide +kernel) rfl rfl hR (by omega) ?_
  refine L_at (pc := 1092) (st := [.int (μ2 241 12)]) ?_
  refine L_pure (pc := 1092) (pc' := 1094) (ls' := [(0, .ref 2000), (1, .ref 0), (2, .ref 241), (3, .ref 251), (4, .ref 252), (5, .int i), (6, .int (μ2 241 12))]) (st' := []) (show z_pt 320 1092 = some (9, .istore 6, []) by decide +kernel) rfl (fun _ _ => rfl) ?_
  refine L_pure (pc := 1094) (pc' := 1095) (st' := [.ref 241]) (show z_pt 320 1094 = some (9, .aload_n 2, []) by decide +kernel) rfl (fun _ _ => rfl) ?_
  refine L_pure (pc := 1095) (pc' := 1096) (st' := [.ref 2000, .ref 241]) (show z_pt 320 1095 = some (9, .aload_n 0, []) by decide +kernel) rfl (fun _ _ => rfl) ?_
  refine L_pure (pc := 1096) (pc' := 1098) (st' := [.int i, .ref 2000, .ref 241]) (show z_pt 320 1096 = some (9, .iload 5, []) by decide +kernel) rfl (fun _ _ => rfl) ?_
  refine L_const (pc := 1098) (pc' := 1099) (v := 1) (show z_ptc 320 1098 = some (1099, 1) by decide +kernel) ?_
  refine L_pure (pc := 1099) (pc' := 1100) (st' := [.int (i + 1), .ref 2000, .ref 241]) (show z_pt 320 1099 = some (9, .iadd, []) by decide +kernel) rfl (fun _ _ => rfl) ?_
  refine L_scr (pc := 1100) (show z_pt 320 1100 = some (9, .iaload, []) by decide +kernel) hb1 hc1 ?_
  refine L_pure (pc := 1101) (pc' := 1102) (st' := [.ref 2000, .int c1, .ref 241]) (show z_pt 320 1101 = some (9, .aload_n 0, []) by decide +kernel) rfl (fun _ _ => rfl) ?_
  refine L_pure (pc := 1102) (pc' := 1104) (st' := [.int i, .ref 2000, .int c1, .ref 241]) (show z_pt 320 1102 = some (9, .iload 5, []) by decide +kernel) rfl (fun _ _ => rfl) ?_
  refine L_const (pc := 1104) (pc' := 1105) (v := 2) (show z_ptc 320 1104 = some (1105, 2) by decide +kernel) ?_
  refine L_pure (pc := 1105) (pc' := 1106) (st' := [.int (i + 2), .ref 2000, .int c1, .ref 241]) (show z_pt 320 1105 = some (9, .iadd, []) by decide +kernel) rfl (fun _ _ => rfl) ?_
  refine L_scr (pc := 1106) (show z_pt 320 1106 = some (9, .iaload, []) by decide +kernel) hb2 hc2 ?_
  refine L_call (pc := 1107) (rr := []) (show z_pt 320 1107 = some (9, .invokevirtual 238, [0, 206, 2, 7097, 7098, 7099, 1012, 7100]) by decide +kernel) rfl (show z_r2 206 = some (10, 5, true) by decide +kernel) rfl rfl (Or.inr ⟨_, _, rfl, (show z_ci 241 10 = true by decide +kernel)⟩) (pm_ratioNumerator_run (r := (b, μ2)) h2) (by omega) ?_
  refine L_at (pc := 1110) (st := [.int b]) ?_
  refine L_pure (pc := 1110) (pc' := 1112) (ls' := [(0, .ref 2000), (1, .ref 0), (2, .ref 241), (3, .ref 251), (4, .ref 252), (5, .int i), (6, .int (μ2 241 12)), (7, .int b)]) (st' := []) (show z_pt 320 1110 = some (9, .istore 7, []) by decide +kernel) rfl (fun _ _ => rfl) ?_
  refine L_pure (pc := 1112) (pc' := 1113) (st' := [.ref 241]) (show z_pt 320 1112 = some (9, .aload_n 2, []) by decide +kernel) rfl (fun _ _ => rfl) ?_
  refine L_call (pc := 1113) (rr := []) (show z_pt 320 1113 = some (9, .invokevirtual 181, [0, 159, 0, 6173, 6174, 6175, 1012, 6176]) by decide +kernel) rfl (show z_r2 159 = some (10, 1, true) by decide +kernel) rfl rfl (Or.inr ⟨_, _, rfl, (show z_ci 241 10 = true by decide +kernel)⟩) (pm_thrown_run (r := μ2 241 12) rfl) (by omega) ?_
  refine L_at (pc := 1116) (st := [.int (μ2 241 12)]) ?_
  refine L_pure (pc := 1116) (pc' := 1118) (st' := [.int (μ2 241 12), .int (μ2 241 12)]) (show z_pt 320 1116 = some (9, .iload 6, []) by decide +kernel) rfl (fun _ _ => rfl) ?_
  refine L_icT (pc := 1118) (t := 1123) (show z_pt 320 1118 = some (9, .if_icmp .eq 5, []) by decide +kernel) (by decide) (decide_eq_true rfl) ?_
  refine L_pure (pc := 1123) (pc' := 1125) (st' := [.int (μ2 241 12)]) (show z_pt 320 1123 = some (9, .iload 6, []) by decide +kernel) rfl (fun _ _ => rfl) ?_
  by_cases hz0 : μ2 241 12 = 0
  · refine L_ifF (pc := 1125) (t := 1140) (show z_pt 320 1125 = some (9, .ifCond .ne 15, []) by decide +kernel) (by decide) (decide_eq_false (fun h => h hz0)) ?_
    refine L_pure (pc := 1128) (pc' := 1129) (st' := [.ref 251]) (show z_pt 320 1128 = some (9, .aload_n 3, []) by decide +kernel) rfl (fun _ _ => rfl) ?_
    refine L_const (pc := 1129) (pc' := 1130) (v := 0) (show z_ptc 320 1129 = some (1130, 0) by decide +kernel) ?_
    refine L_lald (pc := 1130) (show z_pt 320 1130 = some (9, .laload, []) by decide +kernel) ?_
    refine L_pure (pc := 1131) (pc' := 1133) (st' := [.int b, .long (a1 0)]) (show z_pt 320 1131 = some (9, .iload 7, []) by decide +kernel) rfl (fun _ _ => rfl) ?_
    refine L_pure (pc := 1133) (pc' := 1134) (st' := [.long (Int32.toInt64 b), .long (a1 0)]) (show z_pt 320 1133 = some (9, .i2l, []) by decide +kernel) rfl (fun _ _ => rfl) ?_
    refine L_pure (pc := 1134) (pc' := 1135) (st' := [.int (lg_cmp (a1 0) (Int32.toInt64 b))]) (show z_pt 320 1134 = some (9, .lcmp, []) by decide +kernel) rfl (fun _ _ => rfl) ?_
    refine L_ifT (pc := 1135) (t := 1140) (show z_pt 320 1135 = some (9, .ifCond .eq 5, []) by decide +kernel) (by decide) (z_lc (hz hz0)) ?_
    refine L_pure (pc := 1140) (pc' := 3330) (show z_pt 320 1140 = some (9, .goto 2190, []) by decide +kernel) rfl (fun _ _ => rfl) ?_
    refine L_inc (pc := 3330) (pc' := 3333) (ls' := [(0, .ref 2000), (1, .ref 0), (2, .ref 241), (3, .ref 251), (4, .ref 252), (5, .int (i + 4)), (6, .int (μ2 241 12)), (7, .int b)]) (c := 4) (show z_pt 320 3330 = some (9, .iinc 5 4, []) by decide +kernel) (by decide) rfl rfl ?_
    refine L_pure (pc := 3333) (pc' := 28) (ls' := [(0, .ref 2000), (1, .ref 0), (2, .ref 241), (3, .ref 251), (4, .ref 252), (5, .int (i + 4))]) (st' := []) (show z_pt 320 3333 = some (9, .goto (-3305), [6]) by decide +kernel) rfl (fun _ _ => rfl) ?_
    exact kk _ _
  · refine L_ifT (pc := 1125) (t := 1140) (show z_pt 320 1125 = some (9, .ifCond .ne 15, []) by decide +kernel) (by decide) (decide_eq_true hz0) ?_
    refine L_pure (pc := 1140) (pc' := 3330) (show z_pt 320 1140 = some (9, .goto 2190, []) by decide +kernel) rfl (fun _ _ => rfl) ?_
    refine L_inc (pc := 3330) (pc' := 3333) (ls' := [(0, .ref 2000), (1, .ref 0), (2, .ref 241), (3, .ref 251), (4, .ref 252), (5, .int (i + 4)), (6, .int (μ2 241 12)), (7, .int b)]) (c := 4) (show z_pt 320 3330 = some (9, .iinc 5 4, []) by decide +kernel) (by decide) rfl rfl ?_
    refine L_pure (pc := 3333) (pc' := 28) (ls' := [(0, .ref 2000), (1, .ref 0), (2, .ref 241), (3, .ref 251), (4, .ref 252), (5, .int (i + 4))]) (st' := []) (show z_pt 320 3333 = some (9, .goto (-3305), [6]) by decide +kernel) rfl (fun _ _ => rfl) ?_
    exact kk _ _
theorem pL_arm17 {sc : Nat × (Nat → Int32)} {D J : Nat} {i c1 c2 : Int32} {b : Int32} {r : Int32 ⊕ Nat} {μ μ1 μ2 : z_Mem} {a : Nat → Int64} {q : Nat → UInt64} {o : z_R} {P : z_LP} (hD : 18 ≤ D) (hb1 : z_inb (i + 1) sc.1 = true) (hc1 : sc.2 (i + 1).toNatClampNeg = c1) (hb2 : z_inb (i + 2) sc.1 = true) (hc2 : sc.2 (i + 2).toNatClampNeg = c2) (h1 : pG_ratioDenominator μ c1 c2 = some (r, μ1)) (h2 : pm_ratioDenominator μ1 c1 c2 = some (b, μ2)) (hag : z_agI [0, 3] r b (μ2 241 12)) (kk : ∀ (a : Nat → Int64) (q : Nat → UInt64), Rl sc D 320 28 [(0, .ref 2000), (1, .ref 0), (2, .ref 241), (3, .ref 251), (4, .ref 252), (5, .int (i + 4))] [] μ2 a q o P J) : Rl sc D 320 1143 [(0, .ref 2000), (1, .ref 0), (2, .ref 241), (3, .ref 251), (4, .ref 252), (5, .int i)] [] μ a q o P (1 + J) := by
  obtain ⟨a1, q1, hz, hR⟩ := pL_ratioDenominator (sc := sc) (a := a) (q := q) h1 hag
  refine L_pure (pc := 1143) (pc' := 1144) (st' := [.ref 0]) (show z_pt 320 1143 = some (9, .aload_n 1, []) by decide +kernel) rfl (fun _ _ => rfl) ?_
  refine L_pure (pc := 1144) (pc' := 1145) (st' := [.ref 2000, .ref 0]) (show z_pt 320 1144 = some (9, .aload_n 0, []) by decide +kernel) rfl (fun _ _ => rfl) ?_
  refine L_pure (pc := 1145) (pc' := 1147) (st' := [.int i, .ref 2000, .ref 0]) (show z_pt 320 1145 = some (9, .iload 5, []) by decide +kernel) rfl (fun _ _ => rfl) ?_
  refine L_const (pc := 1147) (pc' := 1148) (v := 1) (show z_ptc 320 1147 = some (1148, 1) by decide +kernel) ?_
  refine L_pure (pc := 1148) (pc' := 1149) (st' := [.int (i + 1), .ref 2000, .ref 0]) (show z_pt 320 1148 = some (9, .iadd, []) by decide +kernel) rfl (fun _ _ => rfl) ?_
  refine L_scr (pc := 1149) (show z_pt 320 1149 = some (9, .iaload, []) by decide +kernel) hb1 hc1 ?_
  refine L_pure (pc := 1150) (pc' := 1151) (st' := [.ref 2000, .int c1, .ref 0]) (show z_pt 320 1150 = some (9, .aload_n 0, []) by decide +kernel) rfl (fun _ _ => rfl) ?_
  refine L_pure (pc := 1151) (pc' := 1153) (st' := [.int i, .ref 2000, .int c1, .ref 0]) (show z_pt 320 1151 = some (9, .iload 5, []) by decide +kernel) rfl (fun _ _ => rfl) ?_
  refine L_const (pc := 1153) (pc' := 1154) (v := 2) (show z_ptc 320 1153 = some (1154, 2) by decide +kernel) ?_
  refine L_pure (pc := 1154) (pc' := 1155) (st' := [.int (i + 2), .ref 2000, .int c1, .ref 0]) (show z_pt 320 1154 = some (9, .iadd, []) by decide +kernel) rfl (fun _ _ => rfl) ?_
  refine L_scr (pc := 1155) (show z_pt 320 1155 = some (9, .iaload, []) by decide +kernel) hb2 hc2 ?_
  refine L_pure (pc := 1156) (pc' := 1157) (st' := [.ref 251, .int c2, .int c1, .ref 0]) (show z_pt 320 1156 = some (9, .aload_n 3, []) by decide +kernel) rfl (fun _ _ => rfl) ?_
  refine L_callF (pc := 1157) (rr := []) (show z_pt 320 1157 = some (9, .invokestatic 239, [5, 286, 4, 4037, 4038, 0, 1000, 4039]) by decide +kernel) rfl (show z_r3 286 = some (11, 5, true) by decide +kernel) rfl rfl hR (by omega) ?_
  refine L_at (pc := 1160) (st := [.int (μ2 241 12)]) ?_
  refine L_pure (pc := 1160) (pc' := 1162) (ls' := [(0, .ref 2000), (1, .ref 0), (2, .ref 241), (3, .ref 251), (4, .ref 252), (5, .int i), (6, .int (μ2 241 12))]) (st' := []) (show z_pt 320 1160 = some (9, .istore 6, []) by decide +kernel) rfl (fun _ _ => rfl) ?_
  refine L_pure (pc := 1162) (pc' := 1163) (st' := [.ref 241]) (show z_pt 320 1162 = some (9, .aload_n 2, []) by decide +kernel) rfl (fun _ _ => rfl) ?_
  refine L_pure (pc := 1163) (pc' := 1164) (st' := [.ref 2000, .ref 241]) (show z_pt 320 1163 = some (9, .aload_n 0, []) by decide +kernel) rfl (fun _ _ => rfl) ?_
  refine L_pure (pc := 1164) (pc' := 1166) (st' := [.int i, .ref 2000, .ref 241]) (show z_pt 320 1164 = some (9, .iload 5, []) by decide +kernel) rfl (fun _ _ => rfl) ?_
  refine L_const (pc := 1166) (pc' := 1167) (v := 1) (show z_ptc 320 1166 = some (1167, 1) by decide +kernel) ?_
  refine L_pure (pc := 1167) (pc' := 1168) (st' := [.int (i + 1), .ref 2000, .ref 241]) (show z_pt 320 1167 = some (9, .iadd, []) by decide +kernel) rfl (fun _ _ => rfl) ?_
  refine L_scr (pc := 1168) (show z_pt 320 1168 = some (9, .iaload, []) by decide +kernel) hb1 hc1 ?_
  refine L_pure (pc := 1169) (pc' := 1170) (st' := [.ref 2000, .int c1, .ref 241]) (show z_pt 320 1169 = some (9, .aload_n 0, []) by decide +kernel) rfl (fun _ _ => rfl) ?_
  refine L_pure (pc := 1170) (pc' := 1172) (st' := [.int i, .ref 2000, .int c1, .ref 241]) (show z_pt 320 1170 = some (9, .iload 5, []) by decide +kernel) rfl (fun _ _ => rfl) ?_
  refine L_const (pc := 1172) (pc' := 1173) (v := 2) (show z_ptc 320 1172 = some (1173, 2) by decide +kernel) ?_
  refine L_pure (pc := 1173) (pc' := 1174) (st' := [.int (i + 2), .ref 2000, .int c1, .ref 241]) (show z_pt 320 1173 = some (9, .iadd, []) by decide +kernel) rfl (fun _ _ => rfl) ?_
  refine L_scr (pc := 1174) (show z_pt 320 1174 = some (9, .iaload, []) by decide +kernel) hb2 hc2 ?_
  refine L_call (pc := 1175) (rr := []) (show z_pt 320 1175 = some (9, .invokevirtual 241, [0, 207, 2, 7112, 7113, 7114, 1012, 7115]) by decide +kernel) rfl (show z_r2 207 = some (10, 4, true) by decide +kernel) rfl rfl (Or.inr ⟨_, _, rfl, (show z_ci 241 10 = true by decide +kernel)⟩) (pm_ratioDenominator_run (r := (b, μ2)) h2) (by omega) ?_
  refine L_at (pc := 1178) (st := [.int b]) ?_
  refine L_pure (pc := 1178) (pc' := 1180) (ls' := [(0, .ref 2000), (1, .ref 0), (2, .ref 241), (3, .ref 251), (4, .ref 252), (5, .int i), (6, .int (μ2 241 12)), (7, .int b)]) (st' := []) (show z_pt 320 1178 = some (9, .istore 7, []) by decide +kernel) rfl (fun _ _ => rfl) ?_
  refine L_pure (pc := 1180) (pc' := 1181) (st' := [.ref 241]) (show z_pt 320 1180 = some (9, .aload_n 2, []) by decide +kernel) rfl (fun _ _ => rfl) ?_
  refine L_call (pc := 1181) (rr := []) (show z_pt 320 1181 = some (9, .invokevirtual 181, [0, 159, 0, 6173, 6174, 6175, 1012, 6176]) by decide +kernel) rfl (show z_r2 159 = some (10, 1, true) by decide +kernel) rfl rfl (Or.inr ⟨_, _, rfl, (show z_ci 241 10 = true by decide +kernel)⟩) (pm_thrown_run (r := μ2 241 12) rfl) (by omega) ?_
  refine L_at (pc := 1184) (st := [.int (μ2 241 12)]) ?_
  refine L_pure (pc := 1184) (pc' := 1186) (st' := [.int (μ2 241 12), .int (μ2 241 12)]) (show z_pt 320 1184 = some (9, .iload 6, []) by decide +kernel) rfl (fun _ _ => rfl) ?_
  refine L_icT (pc := 1186) (t := 1191) (show z_pt 320 1186 = some (9, .if_icmp .eq 5, []) by decide +kernel) (by decide) (decide_eq_true rfl) ?_
  refine L_pure (pc := 1191) (pc' := 1193) (st' := [.int (μ2 241 12)]) (show z_pt 320 1191 = some (9, .iload 6, []) by decide +kernel) rfl (fun _ _ => rfl) ?_
  by_cases hz0 : μ2 241 12 = 0
  · refine L_ifF (pc := 1193) (t := 1208) (show z_pt 320 1193 = some (9, .ifCond .ne 15, []) by decide +kernel) (by decide) (decide_eq_false (fun h => h hz0)) ?_
    refine L_pure (pc := 1196) (pc' := 1197) (st' := [.ref 251]) (show z_pt 320 1196 = some (9, .aload_n 3, []) by decide +kernel) rfl (fun _ _ => rfl) ?_
    refine L_const (pc := 1197) (pc' := 1198) (v := 0) (show z_ptc 320 1197 = some (1198, 0) by decide +kernel) ?_
    refine L_lald (pc := 1198) (show z_pt 320 1198 = some (9, .laload, []) by decide +kernel) ?_
    refine L_pure (pc := 1199) (pc' := 1201) (st' := [.int b, .long (a1 0)]) (show z_pt 320 1199 = some (9, .iload 7, []) by decide +kernel) rfl (fun _ _ => rfl) ?_
    refine L_pure (pc := 1201) (pc' := 1202) (st' := [.long (Int32.toInt64 b), .long (a1 0)]) (show z_pt 320 1201 = some (9, .i2l, []) by decide +kernel) rfl (fun _ _ => rfl) ?_
    refine L_pure (pc := 1202) (pc' := 1203) (st' := [.int (lg_cmp (a1 0) (Int32.toInt64 b))]) (show z_pt 320 1202 = some (9, .lcmp, []) by decide +kernel) rfl (fun _ _ => rfl) ?_
    refine L_ifT (pc := 1203) (t := 1208) (show z_pt 320 1203 = some (9, .ifCond .eq 5, []) by decide +kernel) (by decide) (z_lc (hz hz0)) ?_
    refine L_pure (pc := 1208) (pc' := 3330) (show z_pt 320 1208 = some (9, .goto 2122, []) by decide +kernel) rfl (fun _ _ => rfl) ?_
    refine L_inc (pc := 3330) (pc' := 3333) (ls' := [(0, .ref 2000), (1, .ref 0), (2, .ref 241), (3, .ref 251), (4, .ref 252), (5, .int (i + 4)), (6, .int (μ2 241 12)), (7, .int b)]) (c := 4) (show z_pt 320 3330 = some (9, .iinc 5 4, []) by decide +kernel) (by decide) rfl rfl ?_
    refine L_pure (pc := 3333) (pc' := 28) (ls' := [(0, .ref 2000), (1, .ref 0), (2, .ref 241), (3, .ref 251), (4, .ref 252), (5, .int (i + 4))]) (st' := []) (show z_pt 320 3333 = some (9, .goto (-3305), [6]) by decide +kernel) rfl (fun _ _ => rfl) ?_
    exact kk _ _
  · refine L_ifT (pc := 1193) (t := 1208) (show z_pt 320 1193 = some (9, .ifCond .ne 15, []) by decide +kernel) (by decide) (decide_eq_true hz0) ?_
    refine L_pure (pc := 1208) (pc' := 3330) (show z_pt 320 1208 = some (9, .goto 2122, []) by decide +kernel) rfl (fun _ _ => rfl) ?_
    refine L_inc (pc := 3330) (pc' := 3333) (ls' := [(0, .ref 2000), (1, .ref 0), (2, .ref 241), (3, .ref 251), (4, .ref 252), (5, .int (i + 4)), (6, .int (μ2 241 12)), (7, .int b)]) (c := 4) (show z_pt 320 3330 = some (9, .iinc 5 4, []) by decide +kernel) (by decide) rfl rfl ?_
    refine L_pure (pc := 3333) (pc' := 28) (ls' := [(0, .ref 2000), (1, .ref 0), (2, .ref 241), (3, .ref 251), (4, .ref 252), (5, .int (i + 4))]) (st' := []) (show z_pt 320 3333 = some (9, .goto (-3305), [6]) by decide +kernel) rfl (fun _ _ => rfl) ?_
    exact kk _ _
theorem pL_arm18 {sc : Nat × (Nat → Int32)} {D J : Nat} {i c1 c2 : Int32} {b : Int32} {r : Int32 ⊕ Nat} {μ μ1 μ2 : z_Mem} {a : Nat → Int64} {q : Nat → UInt64} {o : z_R} {P : z_LP} (hD : 18 ≤ D) (hb1 : z_inb (i + 1) sc.1 = true) (hc1 : sc.2 (i + 1).toNatClampNeg = c1) (hb2 : z_inb (i + 2) sc.1 = true) (hc2 : sc.2 (i + 2).toNatClampNeg = c2) (h1 : pG_ratioNumeratorByChain μ c1 c2 = some (r, μ1)) (h2 : pm_ratioNumeratorByChain μ1 c1 c2 = some (b, μ2)) (hag : z_agI [0, 3] r b (μ2 241 12)) (kk : ∀ (a : Nat → Int64) (q : Nat → UInt64), Rl sc D 320 28 [(0, .ref 2000), (1, .ref 0), (2, .ref 241), (3, .ref 251), (4, .ref 252), (5, .int (i + 4))] [] μ2 a q o P J) : Rl sc D 320 1211 [(0, .ref 2000), (1, .ref 0), (2, .ref 241), (3, .ref 251), (4, .ref 252), (5, .int i)] [] μ a q o P (1 + J) := by
  obtain ⟨a1, q1, hz, hR⟩ := pL_ratioNumeratorByChain (sc := sc) (a := a) (q := q) h1 hag
  refine L_pure (pc := 1211) (pc' := 1212) (st' := [.ref 0]) (show z_pt 320 1211 = some (9, .aload_n 1, []) by decide +kernel) rfl (fun _ _ => rfl) ?_
  refine L_pure (pc := 1212) (pc' := 1213) (st' := [.ref 2000, .ref 0]) (show z_pt 320 1212 = some (9, .aload_n 0, []) by decide +kernel) rfl (fun _ _ => rfl) ?_
  refine L_pure (pc := 1213) (pc' := 1215) (st' := [.int i, .ref 2000, .ref 0]) (show z_pt 320 1213 = some (9, .iload 5, []) by decide +kernel) rfl (fun _ _ => rfl) ?_
  refine L_const (pc := 1215) (pc' := 1216) (v := 1) (show z_ptc 320 1215 = some (1216, 1) by decide +kernel) ?_
  refine L_pure (pc := 1216) (pc' := 1217) (st' := [.int (i + 1), .ref 2000, .ref 0]) (show z_pt 320 1216 = some (9, .iadd, []) by decide +kernel) rfl (fun _ _ => rfl) ?_
  refine L_scr (pc := 1217) (show z_pt 320 1217 = some (9, .iaload, []) by decide +kernel) hb1 hc1 ?_
  refine L_pure (pc := 1218) (pc' := 1219) (st' := [.ref 2000, .int c1, .ref 0]) (show z_pt 320 1218 = some (9, .aload_n 0, []) by decide +kernel) rfl (fun _ _ => rfl) ?_
  refine L_pure (pc := 1219) (pc' := 1221) (st' := [.int i, .ref 2000, .int c1, .ref 0]) (show z_pt 320 1219 = some (9, .iload 5, []) by decide +kernel) rfl (fun _ _ => rfl) ?_
  refine L_const (pc := 1221) (pc' := 1222) (v := 2) (show z_ptc 320 1221 = some (1222, 2) by decide +kernel) ?_
  refine L_pure (pc := 1222) (pc' := 1223) (st' := [.int (i + 2), .ref 2000, .int c1, .ref 0]) (show z_pt 320 1222 = some (9, .iadd, []) by decide +kernel) rfl (fun _ _ => rfl) ?_
  refine L_scr (pc := 1223) (show z_pt 320 1223 = some (9, .iaload, []) by decide +kernel) hb2 hc2 ?_
  refine L_pure (pc := 1224) (pc' := 1225) (st' := [.ref 251, .int c2, .int c1, .ref 0]) (show z_pt 320 1224 = some (9, .aload_n 3, []) by decide +kernel) rfl (fun _ _ => rfl) ?_
  refine L_callF (pc := 1225) (rr := []) (show z_pt 320 1225 = some (9, .invokestatic 242, [5, 287, 4, 4048, 4049, 0, 1000, 4050]) by decide +kernel) rfl (show z_r3 287 = some (11, 5, true) by decide +kernel) rfl rfl hR (by omega) ?_
  refine L_at (pc := 1228) (st := [.int (μ2 241 12)]) ?_
  refine L_pure (pc := 1228) (pc' := 1230) (ls' := [(0, .ref 2000), (1, .ref 0), (2, .ref 241), (3, .ref 251), (4, .ref 252), (5, .int i), (6, .int (μ2 241 12))]) (st' := []) (show z_pt 320 1228 = some (9, .istore 6, []) by decide +kernel) rfl (fun _ _ => rfl) ?_
  refine L_pure (pc := 1230) (pc' := 1231) (st' := [.ref 241]) (show z_pt 320 1230 = some (9, .aload_n 2, []) by decide +kernel) rfl (fun _ _ => rfl) ?_
  refine L_pure (pc := 1231) (pc' := 1232) (st' := [.ref 2000, .ref 241]) (show z_pt 320 1231 = some (9, .aload_n 0, []) by decide +kernel) rfl (fun _ _ => rfl) ?_
  refine L_pure (pc := 1232) (pc' := 1234) (st' := [.int i, .ref 2000, .ref 241]) (show z_pt 320 1232 = some (9, .iload 5, []) by decide +kernel) rfl (fun _ _ => rfl) ?_
  refine L_const (pc := 1234) (pc' := 1235) (v := 1) (show z_ptc 320 1234 = some (1235, 1) by decide +kernel) ?_
  refine L_pure (pc := 1235) (pc' := 1236) (st' := [.int (i + 1), .ref 2000, .ref 241]) (show z_pt 320 1235 = some (9, .iadd, []) by decide +kernel) rfl (fun _ _ => rfl) ?_
  refine L_scr (pc := 1236) (show z_pt 320 1236 = some (9, .iaload, []) by decide +kernel) hb1 hc1 ?_
  refine L_pure (pc := 1237) (pc' := 1238) (st' := [.ref 2000, .int c1, .ref 241]) (show z_pt 320 1237 = some (9, .aload_n 0, []) by decide +kernel) rfl (fun _ _ => rfl) ?_
  refine L_pure (pc := 1238) (pc' := 1240) (st' := [.int i, .ref 2000, .int c1, .ref 241]) (show z_pt 320 1238 = some (9, .iload 5, []) by decide +kernel) rfl (fun _ _ => rfl) ?_
  refine L_const (pc := 1240) (pc' := 1241) (v := 2) (show z_ptc 320 1240 = some (1241, 2) by decide +kernel) ?_
  refine L_pure (pc := 1241) (pc' := 1242) (st' := [.int (i + 2), .ref 2000, .int c1, .ref 241]) (show z_pt 320 1241 = some (9, .iadd, []) by decide +kernel) rfl (fun _ _ => rfl) ?_
  refine L_scr (pc := 1242) (show z_pt 320 1242 = some (9, .iaload, []) by decide +kernel) hb2 hc2 ?_
  refine L_call (pc := 1243) (rr := []) (show z_pt 320 1243 = some (9, .invokevirtual 244, [0, 208, 2, 7116, 7117, 7118, 1012, 7119]) by decide +kernel) rfl (show z_r2 208 = some (10, 3, true) by decide +kernel) rfl rfl (Or.inr ⟨_, _, rfl, (show z_ci 241 10 = true by decide +kernel)⟩) (pm_ratioNumeratorByChain_run (r := (b, μ2)) h2) (by omega) ?_
  refine L_at (pc := 1246) (st := [.int b]) ?_
  refine L_pure (pc := 1246) (pc' := 1248) (ls' := [(0, .ref 2000), (1, .ref 0), (2, .ref 241), (3, .ref 251), (4, .ref 252), (5, .int i), (6, .int (μ2 241 12)), (7, .int b)]) (st' := []) (show z_pt 320 1246 = some (9, .istore 7, []) by decide +kernel) rfl (fun _ _ => rfl) ?_
  refine L_pure (pc := 1248) (pc' := 1249) (st' := [.ref 241]) (show z_pt 320 1248 = some (9, .aload_n 2, []) by decide +kernel) rfl (fun _ _ => rfl) ?_
  refine L_call (pc := 1249) (rr := []) (show z_pt 320 1249 = some (9, .invokevirtual 181, [0, 159, 0, 6173, 6174, 6175, 1012, 6176]) by decide +kernel) rfl (show z_r2 159 = some (10, 1, true) by decide +kernel) rfl rfl (Or.inr ⟨_, _, rfl, (show z_ci 241 10 = true by decide +kernel)⟩) (pm_thrown_run (r := μ2 241 12) rfl) (by omega) ?_
  refine L_at (pc := 1252) (st := [.int (μ2 241 12)]) ?_
  refine L_pure (pc := 1252) (pc' := 1254) (st' := [.int (μ2 241 12), .int (μ2 241 12)]) (show z_pt 320 1252 = some (9, .iload 6, []) by decide +kernel) rfl (fun _ _ => rfl) ?_
  refine L_icT (pc := 1254) (t := 1259) (show z_pt 320 1254 = some (9, .if_icmp .eq 5, []) by decide +kernel) (by decide) (decide_eq_true rfl) ?_
  refine L_pure (pc := 1259) (pc' := 1261) (st' := [.int (μ2 241 12)]) (show z_pt 320 1259 = some (9, .iload 6, []) by decide +kernel) rfl (fun _ _ => rfl) ?_
  by_cases hz0 : μ2 241 12 = 0
  · refine L_ifF (pc := 1261) (t := 1276) (show z_pt 320 1261 = some (9, .ifCond .ne 15, []) by decide +kernel) (by decide) (decide_eq_false (fun h => h hz0)) ?_
    refine L_pure (pc := 1264) (pc' := 1265) (st' := [.ref 251]) (show z_pt 320 1264 = some (9, .aload_n 3, []) by decide +kernel) rfl (fun _ _ => rfl) ?_
    refine L_const (pc := 1265) (pc' := 1266) (v := 0) (show z_ptc 320 1265 = some (1266, 0) by decide +kernel) ?_
    refine L_lald (pc := 1266) (show z_pt 320 1266 = some (9, .laload, []) by decide +kernel) ?_
    refine L_pure (pc := 1267) (pc' := 1269) (st' := [.int b, .long (a1 0)]) (show z_pt 320 1267 = some (9, .iload 7, []) by decide +kernel) rfl (fun _ _ => rfl) ?_
    refine L_pure (pc := 1269) (pc' := 1270) (st' := [.long (Int32.toInt64 b), .long (a1 0)]) (show z_pt 320 1269 = some (9, .i2l, []) by decide +kernel) rfl (fun _ _ => rfl) ?_
    refine L_pure (pc := 1270) (pc' := 1271) (st' := [.int (lg_cmp (a1 0) (Int32.toInt64 b))]) (show z_pt 320 1270 = some (9, .lcmp, []) by decide +kernel) rfl (fun _ _ => rfl) ?_
    refine L_ifT (pc := 1271) (t := 1276) (show z_pt 320 1271 = some (9, .ifCond .eq 5, []) by decide +kernel) (by decide) (z_lc (hz hz0)) ?_
    refine L_pure (pc := 1276) (pc' := 3330) (show z_pt 320 1276 = some (9, .goto 2054, []) by decide +kernel) rfl (fun _ _ => rfl) ?_
    refine L_inc (pc := 3330) (pc' := 3333) (ls' := [(0, .ref 2000), (1, .ref 0), (2, .ref 241), (3, .ref 251), (4, .ref 252), (5, .int (i + 4)), (6, .int (μ2 241 12)), (7, .int b)]) (c := 4) (show z_pt 320 3330 = some (9, .iinc 5 4, []) by decide +kernel) (by decide) rfl rfl ?_
    refine L_pure (pc := 3333) (pc' := 28) (ls' := [(0, .ref 2000), (1, .ref 0), (2, .ref 241), (3, .ref 251), (4, .ref 252), (5, .int (i + 4))]) (st' := []) (show z_pt 320 3333 = some (9, .goto (-3305), [6]) by decide +kernel) rfl (fun _ _ => rfl) ?_
    exact kk _ _
  · refine L_ifT (pc := 1261) (t := 1276) (show z_pt 320 1261 = some (9, .ifCond .ne 15, []) by decide +kernel) (by decide) (decide_eq_true hz0) ?_
    refine L_pure (pc := 1276) (pc' := 3330) (show z_pt 320 1276 = some (9, .goto 2054, []) by decide +kernel) rfl (fun _ _ => rfl) ?_
    refine L_inc (pc := 3330) (pc' := 3333) (ls' := [(0, .ref 2000), (1, .ref 0), (2, .ref 241), (3, .ref 251), (4, .ref 252), (5, .int (i + 4)), (6, .int (μ2 241 12)), (7, .int b)]) (c := 4) (show z_pt 320 3330 = some (9, .iinc 5 4, []) by decide +kernel) (by decide) rfl rfl ?_
    refine L_pure (pc := 3333) (pc' := 28) (ls' := [(0, .ref 2000), (1, .ref 0), (2, .ref 241), (3, .ref 251), (4, .ref 252), (5, .int (i + 4))]) (st' := []) (show z_pt 320 3333 = some (9, .goto (-3305), [6]) by decide +kernel) rfl (fun _ _ => rfl) ?_
    exact kk _ _
theorem pL_arm19 {sc : Nat × (Nat → Int32)} {D J : Nat} {i c1 c2 : Int32} {b : Int32} {r : Int32 ⊕ Nat} {μ μ1 μ2 : z_Mem} {a : Nat → Int64} {q : Nat → UInt64} {o : z_R} {P : z_LP} (hD : 18 ≤ D) (hb1 : z_inb (i + 1) sc.1 = true) (hc1 : sc.2 (i + 1).toNatClampNeg = c1) (hb2 : z_inb (i + 2) sc.1 = true) (hc2 : sc.2 (i + 2).toNatClampNeg = c2) (h1 : pG_freePlay μ c1 c2 = some (r, μ1)) (h2 : pm_freePlay μ1 c1 c2 = some (b, μ2)) (hag : z_agI [0, 3] r b (μ2 241 12)) (kk : ∀ (a : Nat → Int64) (q : Nat → UInt64), Rl sc D 320 28 [(0, .ref 2000), (1, .ref 0), (2, .ref 241), (3, .ref 251), (4, .ref 252), (5, .int (i + 4))] [] μ2 a q o P J) : Rl sc D 320 1279 [(0, .ref 2000), (1, .ref 0), (2, .ref 241), (3, .ref 251), (4, .ref 252), (5, .int i)] [] μ a q o P (1 + J) := by
  obtain ⟨a1, q1, hz, hR⟩ := pL_freePlay (sc := sc) (a := a) (q := q) h1 hag
  refine L_pure (pc := 1279) (pc' := 1280) (st' := [.ref 0]) (show z_pt 320 1279 = some (9, .aload_n 1, []) by decide +kernel) rfl (fun _ _ => rfl) ?_
  refine L_pure (pc := 1280) (pc' := 1281) (st' := [.ref 2000, .ref 0]) (show z_pt 320 1280 = some (9, .aload_n 0, []) by decide +kernel) rfl (fun _ _ => rfl) ?_
  refine L_pure (pc := 1281) (pc' := 1283) (st' := [.int i, .ref 2000, .ref 0]) (show z_pt 320 1281 = some (9, .iload 5, []) by decide +kernel) rfl (fun _ _ => rfl) ?_
  refine L_const (pc := 1283) (pc' := 1284) (v := 1) (show z_ptc 320 1283 = some (1284, 1) by decide +kernel) ?_
  refine L_pure (pc := 1284) (pc' := 1285) (st' := [.int (i + 1), .ref 2000, .ref 0]) (show z_pt 320 1284 = some (9, .iadd, []) by decide +kernel) rfl (fun _ _ => rfl) ?_
  refine L_scr (pc := 1285) (show z_pt 320 1285 = some (9, .iaload, []) by decide +kernel) hb1 hc1 ?_
  refine L_pure (pc := 1286) (pc' := 1287) (st' := [.ref 2000, .int c1, .ref 0]) (show z_pt 320 1286 = some (9, .aload_n 0, []) by decide +kernel) rfl (fun _ _ => rfl) ?_
  refine L_pure (pc := 1287) (pc' := 1289) (st' := [.int i, .ref 2000, .int c1, .ref 0]) (show z_pt 320 1287 = some (9, .iload 5, []) by decide +kernel) rfl (fun _ _ => rfl) ?_
  refine L_const (pc := 1289) (pc' := 1290) (v := 2) (show z_ptc 320 1289 = some (1290, 2) by decide +kernel) ?_
  refine L_pure (pc := 1290) (pc' := 1291) (st' := [.int (i + 2), .ref 2000, .int c1, .ref 0]) (show z_pt 320 1290 = some (9, .iadd, []) by decide +kernel) rfl (fun _ _ => rfl) ?_
  refine L_scr (pc := 1291) (show z_pt 320 1291 = some (9, .iaload, []) by decide +kernel) hb2 hc2 ?_
  refine L_pure (pc := 1292) (pc' := 1293) (st' := [.ref 251, .int c2, .int c1, .ref 0]) (show z_pt 320 1292 = some (9, .aload_n 3, []) by decide +kernel) rfl (fun _ _ => rfl) ?_
  refine L_callF (pc := 1293) (rr := []) (show z_pt 320 1293 = some (9, .invokestatic 245, [5, 288, 4, 4056, 4057, 0, 1000, 4058]) by decide +kernel) rfl (show z_r3 288 = some (11, 5, true) by decide +kernel) rfl rfl hR (by omega) ?_
  refine L_at (pc := 1296) (st := [.int (μ2 241 12)]) ?_
  refine L_pure (pc := 1296) (pc' := 1298) (ls' := [(0, .ref 2000), (1, .ref 0), (2, .ref 241), (3, .ref 251), (4, .ref 252), (5, .int i), (6, .int (μ2 241 12))]) (st' := []) (show z_pt 320 1296 = some (9, .istore 6, []) by decide +kernel) rfl (fun _ _ => rfl) ?_
  refine L_pure (pc := 1298) (pc' := 1299) (st' := [.ref 241]) (show z_pt 320 1298 = some (9, .aload_n 2, []) by decide +kernel) rfl (fun _ _ => rfl) ?_
  refine L_pure (pc := 1299) (pc' := 1300) (st' := [.ref 2000, .ref 241]) (show z_pt 320 1299 = some (9, .aload_n 0, []) by decide +kernel) rfl (fun _ _ => rfl) ?_
  refine L_pure (pc := 1300) (pc' := 1302) (st' := [.int i, .ref 2000, .ref 241]) (show z_pt 320 1300 = some (9, .iload 5, []) by decide +kernel) rfl (fun _ _ => rfl) ?_
  refine L_const (pc := 1302) (pc' := 1303) (v := 1) (show z_ptc 320 1302 = some (1303, 1) by decide +kernel) ?_
  refine L_pure (pc := 1303) (pc' := 1304) (st' := [.int (i + 1), .ref 2000, .ref 241]) (show z_pt 320 1303 = some (9, .iadd, []) by decide +kernel) rfl (fun _ _ => rfl) ?_
  refine L_scr (pc := 1304) (show z_pt 320 1304 = some (9, .iaload, []) by decide +kernel) hb1 hc1 ?_
  refine L_pure (pc := 1305) (pc' := 1306) (st' := [.ref 2000, .int c1, .ref 241]) (show z_pt 320 1305 = some (9, .aload_n 0, []) by decide +kernel) rfl (fun _ _ => rfl) ?_
  refine L_pure (pc := 1306) (pc' := 1308) (st' := [.int i, .ref 2000, .int c1, .ref 241]) (show z_pt 320 1306 = some (9, .iload 5, []) by decide +kernel) rfl (fun _ _ => rfl) ?_
  refine L_const (pc := 1308) (pc' := 1309) (v := 2) (show z_ptc 320 1308 = some (1309, 2) by decide +kernel) ?_
  refine L_pure (pc := 1309) (pc' := 1310) (st' := [.int (i + 2), .ref 2000, .int c1, .ref 241]) (show z_pt 320 1309 = some (9, .iadd, []) by decide +kernel) rfl (fun _ _ => rfl) ?_
  refine L_scr (pc := 1310) (show z_pt 320 1310 = some (9, .iaload, []) by decide +kernel) hb2 hc2 ?_
  refine L_call (pc := 1311) (rr := []) (show z_pt 320 1311 = some (9, .invokevirtual 247, [0, 209, 2, 7121, 7122, 7123, 1012, 7124]) by decide +kernel) rfl (show z_r2 209 = some (10, 8, true) by decide +kernel) rfl rfl (Or.inr ⟨_, _, rfl, (show z_ci 241 10 = true by decide +kernel)⟩) (pm_freePlay_run (r := (b, μ2)) h2) (by omega) ?_
  refine L_at (pc := 1314) (st := [.int b]) ?_
  refine L_pure (pc := 1314) (pc' := 1316) (ls' := [(0, .ref 2000), (1, .ref 0), (2, .ref 241), (3, .ref 251), (4, .ref 252), (5, .int i), (6, .int (μ2 241 12)), (7, .int b)]) (st' := []) (show z_pt 320 1314 = some (9, .istore 7, []) by decide +kernel) rfl (fun _ _ => rfl) ?_
  refine L_pure (pc := 1316) (pc' := 1317) (st' := [.ref 241]) (show z_pt 320 1316 = some (9, .aload_n 2, []) by decide +kernel) rfl (fun _ _ => rfl) ?_
  refine L_call (pc := 1317) (rr := []) (show z_pt 320 1317 = some (9, .invokevirtual 181, [0, 159, 0, 6173, 6174, 6175, 1012, 6176]) by decide +kernel) rfl (show z_r2 159 = some (10, 1, true) by decide +kernel) rfl rfl (Or.inr ⟨_, _, rfl, (show z_ci 241 10 = true by decide +kernel)⟩) (pm_thrown_run (r := μ2 241 12) rfl) (by omega) ?_
  refine L_at (pc := 1320) (st := [.int (μ2 241 12)]) ?_
  refine L_pure (pc := 1320) (pc' := 1322) (st' := [.int (μ2 241 12), .int (μ2 241 12)]) (show z_pt 320 1320 = some (9, .iload 6, []) by decide +kernel) rfl (fun _ _ => rfl) ?_
  refine L_icT (pc := 1322) (t := 1327) (show z_pt 320 1322 = some (9, .if_icmp .eq 5, []) by decide +kernel) (by decide) (decide_eq_true rfl) ?_
  refine L_pure (pc := 1327) (pc' := 1329) (st' := [.int (μ2 241 12)]) (show z_pt 320 1327 = some (9, .iload 6, []) by decide +kernel) rfl (fun _ _ => rfl) ?_
  by_cases hz0 : μ2 241 12 = 0
  · refine L_ifF (pc := 1329) (t := 1344) (show z_pt 320 1329 = some (9, .ifCond .ne 15, []) by decide +kernel) (by decide) (decide_eq_false (fun h => h hz0)) ?_
    refine L_pure (pc := 1332) (pc' := 1333) (st' := [.ref 251]) (show z_pt 320 1332 = some (9, .aload_n 3, []) by decide +kernel) rfl (fun _ _ => rfl) ?_
    refine L_const (pc := 1333) (pc' := 1334) (v := 0) (show z_ptc 320 1333 = some (1334, 0) by decide +kernel) ?_
    refine L_lald (pc := 1334) (show z_pt 320 1334 = some (9, .laload, []) by decide +kernel) ?_
    refine L_pure (pc := 1335) (pc' := 1337) (st' := [.int b, .long (a1 0)]) (show z_pt 320 1335 = some (9, .iload 7, []) by decide +kernel) rfl (fun _ _ => rfl) ?_
    refine L_pure (pc := 1337) (pc' := 1338) (st' := [.long (Int32.toInt64 b), .long (a1 0)]) (show z_pt 320 1337 = some (9, .i2l, []) by decide +kernel) rfl (fun _ _ => rfl) ?_
    refine L_pure (pc := 1338) (pc' := 1339) (st' := [.int (lg_cmp (a1 0) (Int32.toInt64 b))]) (show z_pt 320 1338 = some (9, .lcmp, []) by decide +kernel) rfl (fun _ _ => rfl) ?_
    refine L_ifT (pc := 1339) (t := 1344) (show z_pt 320 1339 = some (9, .ifCond .eq 5, []) by decide +kernel) (by decide) (z_lc (hz hz0)) ?_
    refine L_pure (pc := 1344) (pc' := 3330) (show z_pt 320 1344 = some (9, .goto 1986, []) by decide +kernel) rfl (fun _ _ => rfl) ?_
    refine L_inc (pc := 3330) (pc' := 3333) (ls' := [(0, .ref 2000), (1, .ref 0), (2, .ref 241), (3, .ref 251), (4, .ref 252), (5, .int (i + 4)), (6, .int (μ2 241 12)), (7, .int b)]) (c := 4) (show z_pt 320 3330 = some (9, .iinc 5 4, []) by decide +kernel) (by decide) rfl rfl ?_
    refine L_pure (pc := 3333) (pc' := 28) (ls' := [(0, .ref 2000), (1, .ref 0), (2, .ref 241), (3, .ref 251), (4, .ref 252), (5, .int (i + 4))]) (st' := []) (show z_pt 320 3333 = some (9, .goto (-3305), [6]) by decide +kernel) rfl (fun _ _ => rfl) ?_
    exact kk _ _
  · refine L_ifT (pc := 1329) (t := 1344) (show z_pt 320 1329 = some (9, .ifCond .ne 15, []) by decide +kernel) (by decide) (decide_eq_true hz0) ?_
    refine L_pure (pc := 1344) (pc' := 3330) (show z_pt 320 1344 = some (9, .goto 1986, []) by decide +kernel) rfl (fun _ _ => rfl) ?_
    refine L_inc (pc := 3330) (pc' := 3333) (ls' := [(0, .ref 2000), (1, .ref 0), (2, .ref 241), (3, .ref 251), (4, .ref 252), (5, .int (i + 4)), (6, .int (μ2 241 12)), (7, .int b)]) (c := 4) (show z_pt 320 3330 = some (9, .iinc 5 4, []) by decide +kernel) (by decide) rfl rfl ?_
    refine L_pure (pc := 3333) (pc' := 28) (ls' := [(0, .ref 2000), (1, .ref 0), (2, .ref 241), (3, .ref 251), (4, .ref 252), (5, .int (i + 4))]) (st' := []) (show z_pt 320 3333 = some (9, .goto (-3305), [6]) by decide +kernel) rfl (fun _ _ => rfl) ?_
    exact kk _ _
theorem pL_arm20 {sc : Nat × (Nat → Int32)} {D J : Nat} {i c1 c2 : Int32} {b : Int32} {r : Int32 ⊕ Nat} {μ μ1 μ2 : z_Mem} {a : Nat → Int64} {q : Nat → UInt64} {o : z_R} {P : z_LP} (hD : 19 ≤ D) (hb1 : z_inb (i + 1) sc.1 = true) (hc1 : sc.2 (i + 1).toNatClampNeg = c1) (hb2 : z_inb (i + 2) sc.1 = true) (hc2 : sc.2 (i + 2).toNatClampNeg = c2) (h1 : pG_freePlayByTurning μ c1 c2 = some (r, μ1)) (h2 : pm_freePlayByTurning μ1 c1 c2 = some (b, μ2)) (hag : z_agI [0, 3] r b (μ2 241 12)) (kk : ∀ (a : Nat → Int64) (q : Nat → UInt64), Rl sc D 320 28 [(0, .ref 2000), (1, .ref 0), (2, .ref 241), (3, .ref 251), (4, .ref 252), (5, .int (i + 4))] [] μ2 a q o P J) : Rl sc D 320 1347 [(0, .ref 2000), (1, .ref 0), (2, .ref 241), (3, .ref 251), (4, .ref 252), (5, .int i)] [] μ a q o P (1 + J) := by
  obtain ⟨a1, q1, hz, hR⟩ := pL_freePlayByTurning (sc := sc) (a := a) (q := q) h1 hag
  refine L_pure (pc := 1347) (pc' := 1348) (st' := [.ref 0]) (show z_pt 320 1347 = some (9, .aload_n 1, []) by decide +kernel) rfl (fun _ _ => rfl) ?_
  refine L_pure (pc := 1348) (pc' := 1349) (st' := [.ref 2000, .ref 0]) (show z_pt 320 1348 = some (9, .aload_n 0, []) by decide +kernel) rfl (fun _ _ => rfl) ?_
  refine L_pure (pc := 1349) (pc' := 1351) (st' := [.int i, .ref 2000, .ref 0]) (show z_pt 320 1349 = some (9, .iload 5, []) by decide +kernel) rfl (fun _ _ => rfl) ?_
  refine L_const (pc := 1351) (pc' := 1352) (v := 1) (show z_ptc 320 1351 = some (1352, 1) by decide +kernel) ?_
  refine L_pure (pc := 1352) (pc' := 1353) (st' := [.int (i + 1), .ref 2000, .ref 0]) (show z_pt 320 1352 = some (9, .iadd, []) by decide +kernel) rfl (fun _ _ => rfl) ?_
  refine L_scr (pc := 1353) (show z_pt 320 1353 = some (9, .iaload, []) by decide +kernel) hb1 hc1 ?_
  refine L_pure (pc := 1354) (pc' := 1355) (st' := [.ref 2000, .int c1, .ref 0]) (show z_pt 320 1354 = some (9, .aload_n 0, []) by decide +kernel) rfl (fun _ _ => rfl) ?_
  refine L_pure (pc := 1355) (pc' := 1357) (st' := [.int i, .ref 2000, .int c1, .ref 0]) (show z_pt 320 1355 = some (9, .iload 5, []) by decide +kernel) rfl (fun _ _ => rfl) ?_
  refine L_const (pc := 1357) (pc' := 1358) (v := 2) (show z_ptc 320 1357 = some (1358, 2) by decide +kernel) ?_
  refine L_pure (pc := 1358) (pc' := 1359) (st' := [.int (i + 2), .ref 2000, .int c1, .ref 0]) (show z_pt 320 1358 = some (9, .iadd, []) by decide +kernel) rfl (fun _ _ => rfl) ?_
  refine L_scr (pc := 1359) (show z_pt 320 1359 = some (9, .iaload, []) by decide +kernel) hb2 hc2 ?_
  refine L_pure (pc := 1360) (pc' := 1361) (st' := [.ref 251, .int c2, .int c1, .ref 0]) (show z_pt 320 1360 = some (9, .aload_n 3, []) by decide +kernel) rfl (fun _ _ => rfl) ?_
  refine L_callF (pc := 1361) (rr := []) (show z_pt 320 1361 = some (9, .invokestatic 248, [5, 289, 4, 4064, 4065, 0, 1000, 4066]) by decide +kernel) rfl (show z_r3 289 = some (11, 5, true) by decide +kernel) rfl rfl hR (by omega) ?_
  refine L_at (pc := 1364) (st := [.int (μ2 241 12)]) ?_
  refine L_pure (pc := 1364) (pc' := 1366) (ls' := [(0, .ref 2000), (1, .ref 0), (2, .ref 241), (3, .ref 251), (4, .ref 252), (5, .int i), (6, .int (μ2 241 12))]) (st' := []) (show z_pt 320 1364 = some (9, .istore 6, []) by decide +kernel) rfl (fun _ _ => rfl) ?_
  refine L_pure (pc := 1366) (pc' := 1367) (st' := [.ref 241]) (show z_pt 320 1366 = some (9, .aload_n 2, []) by decide +kernel) rfl (fun _ _ => rfl) ?_
  refine L_pure (pc := 1367) (pc' := 1368) (st' := [.ref 2000, .ref 241]) (show z_pt 320 1367 = some (9, .aload_n 0, []) by decide +kernel) rfl (fun _ _ => rfl) ?_
  refine L_pure (pc := 1368) (pc' := 1370) (st' := [.int i, .ref 2000, .ref 241]) (show z_pt 320 1368 = some (9, .iload 5, []) by decide +kernel) rfl (fun _ _ => rfl) ?_
  refine L_const (pc := 1370) (pc' := 1371) (v := 1) (show z_ptc 320 1370 = some (1371, 1) by decide +kernel) ?_
  refine L_pure (pc := 1371) (pc' := 1372) (st' := [.int (i + 1), .ref 2000, .ref 241]) (show z_pt 320 1371 = some (9, .iadd, []) by decide +kernel) rfl (fun _ _ => rfl) ?_
  refine L_scr (pc := 1372) (show z_pt 320 1372 = some (9, .iaload, []) by decide +kernel) hb1 hc1 ?_
  refine L_pure (pc := 1373) (pc' := 1374) (st' := [.ref 2000, .int c1, .ref 241]) (show z_pt 320 1373 = some (9, .aload_n 0, []) by decide +kernel) rfl (fun _ _ => rfl) ?_
  refine L_pure (pc := 1374) (pc' := 1376) (st' := [.int i, .ref 2000, .int c1, .ref 241]) (show z_pt 320 1374 = some (9, .iload 5, []) by decide +kernel) rfl (fun _ _ => rfl) ?_
  refine L_const (pc := 1376) (pc' := 1377) (v := 2) (show z_ptc 320 1376 = some (1377, 2) by decide +kernel) ?_
  refine L_pure (pc := 1377) (pc' := 1378) (st' := [.int (i + 2), .ref 2000, .int c1, .ref 241]) (show z_pt 320 1377 = some (9, .iadd, []) by decide +kernel) rfl (fun _ _ => rfl) ?_
  refine L_scr (pc := 1378) (show z_pt 320 1378 = some (9, .iaload, []) by decide +kernel) hb2 hc2 ?_
  refine L_call (pc := 1379) (rr := []) (show z_pt 320 1379 = some (9, .invokevirtual 250, [0, 210, 2, 7125, 7126, 7127, 1012, 7128]) by decide +kernel) rfl (show z_r2 210 = some (10, 3, true) by decide +kernel) rfl rfl (Or.inr ⟨_, _, rfl, (show z_ci 241 10 = true by decide +kernel)⟩) (pm_freePlayByTurning_run (r := (b, μ2)) h2) (by omega) ?_
  refine L_at (pc := 1382) (st := [.int b]) ?_
  refine L_pure (pc := 1382) (pc' := 1384) (ls' := [(0, .ref 2000), (1, .ref 0), (2, .ref 241), (3, .ref 251), (4, .ref 252), (5, .int i), (6, .int (μ2 241 12)), (7, .int b)]) (st' := []) (show z_pt 320 1382 = some (9, .istore 7, []) by decide +kernel) rfl (fun _ _ => rfl) ?_
  refine L_pure (pc := 1384) (pc' := 1385) (st' := [.ref 241]) (show z_pt 320 1384 = some (9, .aload_n 2, []) by decide +kernel) rfl (fun _ _ => rfl) ?_
  refine L_call (pc := 1385) (rr := []) (show z_pt 320 1385 = some (9, .invokevirtual 181, [0, 159, 0, 6173, 6174, 6175, 1012, 6176]) by decide +kernel) rfl (show z_r2 159 = some (10, 1, true) by decide +kernel) rfl rfl (Or.inr ⟨_, _, rfl, (show z_ci 241 10 = true by decide +kernel)⟩) (pm_thrown_run (r := μ2 241 12) rfl) (by omega) ?_
  refine L_at (pc := 1388) (st := [.int (μ2 241 12)]) ?_
  refine L_pure (pc := 1388) (pc' := 1390) (st' := [.int (μ2 241 12), .int (μ2 241 12)]) (show z_pt 320 1388 = some (9, .iload 6, []) by decide +kernel) rfl (fun _ _ => rfl) ?_
  refine L_icT (pc := 1390) (t := 1395) (show z_pt 320 1390 = some (9, .if_icmp .eq 5, []) by decide +kernel) (by decide) (decide_eq_true rfl) ?_
  refine L_pure (pc := 1395) (pc' := 1397) (st' := [.int (μ2 241 12)]) (show z_pt 320 1395 = some (9, .iload 6, []) by decide +kernel) rfl (fun _ _ => rfl) ?_
  by_cases hz0 : μ2 241 12 = 0
  · refine L_ifF (pc := 1397) (t := 1412) (show z_pt 320 1397 = some (9, .ifCond .ne 15, []) by decide +kernel) (by decide) (decide_eq_false (fun h => h hz0)) ?_
    refine L_pure (pc := 1400) (pc' := 1401) (st' := [.ref 251]) (show z_pt 320 1400 = some (9, .aload_n 3, []) by decide +kernel) rfl (fun _ _ => rfl) ?_
    refine L_const (pc := 1401) (pc' := 1402) (v := 0) (show z_ptc 320 1401 = some (1402, 0) by decide +kernel) ?_
    refine L_lald (pc := 1402) (show z_pt 320 1402 = some (9, .laload, []) by decide +kernel) ?_
    refine L_pure (pc := 1403) (pc' := 1405) (st' := [.int b, .long (a1 0)]) (show z_pt 320 1403 = some (9, .iload 7, []) by decide +kernel) rfl (fun _ _ => rfl) ?_
    refine L_pure (pc := 1405) (pc' := 1406) (st' := [.long (Int32.toInt64 b), .long (a1 0)]) (show z_pt 320 1405 = some (9, .i2l, []) by decide +kernel) rfl (fun _ _ => rfl) ?_
    refine L_pure (pc := 1406) (pc' := 1407) (st' := [.int (lg_cmp (a1 0) (Int32.toInt64 b))]) (show z_pt 320 1406 = some (9, .lcmp, []) by decide +kernel) rfl (fun _ _ => rfl) ?_
    refine L_ifT (pc := 1407) (t := 1412) (show z_pt 320 1407 = some (9, .ifCond .eq 5, []) by decide +kernel) (by decide) (z_lc (hz hz0)) ?_
    refine L_pure (pc := 1412) (pc' := 3330) (show z_pt 320 1412 = some (9, .goto 1918, []) by decide +kernel) rfl (fun _ _ => rfl) ?_
    refine L_inc (pc := 3330) (pc' := 3333) (ls' := [(0, .ref 2000), (1, .ref 0), (2, .ref 241), (3, .ref 251), (4, .ref 252), (5, .int (i + 4)), (6, .int (μ2 241 12)), (7, .int b)]) (c := 4) (show z_pt 320 3330 = some (9, .iinc 5 4, []) by decide +kernel) (by decide) rfl rfl ?_
    refine L_pure (pc := 3333) (pc' := 28) (ls' := [(0, .ref 2000), (1, .ref 0), (2, .ref 241), (3, .ref 251), (4, .ref 252), (5, .int (i + 4))]) (st' := []) (show z_pt 320 3333 = some (9, .goto (-3305), [6]) by decide +kernel) rfl (fun _ _ => rfl) ?_
    exact kk _ _
  · refine L_ifT (pc := 1397) (t := 1412) (show z_pt 320 1397 = some (9, .ifCond .ne 15, []) by decide +kernel) (by decide) (decide_eq_true hz0) ?_
    refine L_pure (pc := 1412) (pc' := 3330) (show z_pt 320 1412 = some (9, .goto 1918, []) by decide +kernel) rfl (fun _ _ => rfl) ?_
    refine L_inc (pc := 3330) (pc' := 3333) (ls' := [(0, .ref 2000), (1, .ref 0), (2, .ref 241), (3, .ref 251), (4, .ref 252), (5, .int (i + 4)), (6, .int (μ2 241 12)), (7, .int b)]) (c := 4) (show z_pt 320 3330 = some (9, .iinc 5 4, []) by decide +kernel) (by decide) rfl rfl ?_
    refine L_pure (pc := 3333) (pc' := 28) (ls' := [(0, .ref 2000), (1, .ref 0), (2, .ref 241), (3, .ref 251), (4, .ref 252), (5, .int (i + 4))]) (st' := []) (show z_pt 320 3333 = some (9, .goto (-3305), [6]) by decide +kernel) rfl (fun _ _ => rfl) ?_
    exact kk _ _
theorem pL_arm21 {sc : Nat × (Nat → Int32)} {D J : Nat} {i c1 c2 : Int32} {b : Int32} {r : Int32 ⊕ Nat} {μ μ1 μ2 : z_Mem} {a : Nat → Int64} {q : Nat → UInt64} {o : z_R} {P : z_LP} (hD : 9 ≤ D) (hb1 : z_inb (i + 1) sc.1 = true) (hc1 : sc.2 (i + 1).toNatClampNeg = c1) (hb2 : z_inb (i + 2) sc.1 = true) (hc2 : sc.2 (i + 2).toNatClampNeg = c2) (h1 : pG_addWheel μ c1 c2 = some (r, μ1)) (h2 : pm_addWheel μ1 c1 c2 = some (b, μ2)) (hag : z_agI [0, 1, 2] r b (μ2 241 12)) (kk : ∀ (a : Nat → Int64) (q : Nat → UInt64), Rl sc D 320 28 [(0, .ref 2000), (1, .ref 0), (2, .ref 241), (3, .ref 251), (4, .ref 252), (5, .int (i + 4))] [] μ2 a q o P J) : Rl sc D 320 1415 [(0, .ref 2000), (1, .ref 0), (2, .ref 241), (3, .ref 251), (4, .ref 252), (5, .int i)] [] μ a q o P (1 + J) := by
  obtain ⟨a1, q1, hz, hR⟩ := pL_addWheel (sc := sc) (a := a) (q := q) h1 hag
  refine L_pure (pc := 1415) (pc' := 1416) (st' := [.ref 0]) (show z_pt 320 1415 = some (9, .aload_n 1, []) by decide +kernel) rfl (fun _ _ => rfl) ?_
  refine L_pure (pc := 1416) (pc' := 1417) (st' := [.ref 2000, .ref 0]) (show z_pt 320 1416 = some (9, .aload_n 0, []) by decide +kernel) rfl (fun _ _ => rfl) ?_
  refine L_pure (pc := 1417) (pc' := 1419) (st' := [.int i, .ref 2000, .ref 0]) (show z_pt 320 1417 = some (9, .iload 5, []) by decide +kernel) rfl (fun _ _ => rfl) ?_
  refine L_const (pc := 1419) (pc' := 1420) (v := 1) (show z_ptc 320 1419 = some (1420, 1) by decide +kernel) ?_
  refine L_pure (pc := 1420) (pc' := 1421) (st' := [.int (i + 1), .ref 2000, .ref 0]) (show z_pt 320 1420 = some (9, .iadd, []) by decide +kernel) rfl (fun _ _ => rfl) ?_
  refine L_scr (pc := 1421) (show z_pt 320 1421 = some (9, .iaload, []) by decide +kernel) hb1 hc1 ?_
  refine L_pure (pc := 1422) (pc' := 1423) (st' := [.ref 2000, .int c1, .ref 0]) (show z_pt 320 1422 = some (9, .aload_n 0, []) by decide +kernel) rfl (fun _ _ => rfl) ?_
  refine L_pure (pc := 1423) (pc' := 1425) (st' := [.int i, .ref 2000, .int c1, .ref 0]) (show z_pt 320 1423 = some (9, .iload 5, []) by decide +kernel) rfl (fun _ _ => rfl) ?_
  refine L_const (pc := 1425) (pc' := 1426) (v := 2) (show z_ptc 320 1425 = some (1426, 2) by decide +kernel) ?_
  refine L_pure (pc := 1426) (pc' := 1427) (st' := [.int (i + 2), .ref 2000, .int c1, .ref 0]) (show z_pt 320 1426 = some (9, .iadd, []) by decide +kernel) rfl (fun _ _ => rfl) ?_
  refine L_scr (pc := 1427) (show z_pt 320 1427 = some (9, .iaload, []) by decide +kernel) hb2 hc2 ?_
  refine L_pure (pc := 1428) (pc' := 1429) (st' := [.ref 251, .int c2, .int c1, .ref 0]) (show z_pt 320 1428 = some (9, .aload_n 3, []) by decide +kernel) rfl (fun _ _ => rfl) ?_
  refine L_callF (pc := 1429) (rr := []) (show z_pt 320 1429 = some (9, .invokestatic 251, [5, 290, 4, 4072, 4073, 0, 1000, 4074]) by decide +kernel) rfl (show z_r3 290 = some (11, 5, true) by decide +kernel) rfl rfl hR (by omega) ?_
  refine L_at (pc := 1432) (st := [.int (μ2 241 12)]) ?_
  refine L_pure (pc := 1432) (pc' := 1434) (ls' := [(0, .ref 2000), (1, .ref 0), (2, .ref 241), (3, .ref 251), (4, .ref 252), (5, .int i), (6, .int (μ2 241 12))]) (st' := []) (show z_pt 320 1432 = some (9, .istore 6, []) by decide +kernel) rfl (fun _ _ => rfl) ?_
  refine L_pure (pc := 1434) (pc' := 1435) (st' := [.ref 241]) (show z_pt 320 1434 = some (9, .aload_n 2, []) by decide +kernel) rfl (fun _ _ => rfl) ?_
  refine L_pure (pc := 1435) (pc' := 1436) (st' := [.ref 2000, .ref 241]) (show z_pt 320 1435 = some (9, .aload_n 0, []) by decide +kernel) rfl (fun _ _ => rfl) ?_
  refine L_pure (pc := 1436) (pc' := 1438) (st' := [.int i, .ref 2000, .ref 241]) (show z_pt 320 1436 = some (9, .iload 5, []) by decide +kernel) rfl (fun _ _ => rfl) ?_
  refine L_const (pc := 1438) (pc' := 1439) (v := 1) (show z_ptc 320 1438 = some (1439, 1) by decide +kernel) ?_
  refine L_pure (pc := 1439) (pc' := 1440) (st' := [.int (i + 1), .ref 2000, .ref 241]) (show z_pt 320 1439 = some (9, .iadd, []) by decide +kernel) rfl (fun _ _ => rfl) ?_
  refine L_scr (pc := 1440) (show z_pt 320 1440 = some (9, .iaload, []) by decide +kernel) hb1 hc1 ?_
  refine L_pure (pc := 1441) (pc' := 1442) (st' := [.ref 2000, .int c1, .ref 241]) (show z_pt 320 1441 = some (9, .aload_n 0, []) by decide +kernel) rfl (fun _ _ => rfl) ?_
  refine L_pure (pc := 1442) (pc' := 1444) (st' := [.int i, .ref 2000, .int c1, .ref 241]) (show z_pt 320 1442 = some (9, .iload 5, []) by decide +kernel) rfl (fun _ _ => rfl) ?_
  refine L_const (pc := 1444) (pc' := 1445) (v := 2) (show z_ptc 320 1444 = some (1445, 2) by decide +kernel) ?_
  refine L_pure (pc := 1445) (pc' := 1446) (st' := [.int (i + 2), .ref 2000, .int c1, .ref 241]) (show z_pt 320 1445 = some (9, .iadd, []) by decide +kernel) rfl (fun _ _ => rfl) ?_
  refine L_scr (pc := 1446) (show z_pt 320 1446 = some (9, .iaload, []) by decide +kernel) hb2 hc2 ?_
  refine L_call (pc := 1447) (rr := []) (show z_pt 320 1447 = some (9, .invokevirtual 253, [0, 212, 2, 7130, 7131, 7132, 1012, 7133]) by decide +kernel) rfl (show z_r2 212 = some (10, 3, true) by decide +kernel) rfl rfl (Or.inr ⟨_, _, rfl, (show z_ci 241 10 = true by decide +kernel)⟩) (pm_addWheel_run (r := (b, μ2)) h2) (by omega) ?_
  refine L_at (pc := 1450) (st := [.int b]) ?_
  refine L_pure (pc := 1450) (pc' := 1452) (ls' := [(0, .ref 2000), (1, .ref 0), (2, .ref 241), (3, .ref 251), (4, .ref 252), (5, .int i), (6, .int (μ2 241 12)), (7, .int b)]) (st' := []) (show z_pt 320 1450 = some (9, .istore 7, []) by decide +kernel) rfl (fun _ _ => rfl) ?_
  refine L_pure (pc := 1452) (pc' := 1453) (st' := [.ref 241]) (show z_pt 320 1452 = some (9, .aload_n 2, []) by decide +kernel) rfl (fun _ _ => rfl) ?_
  refine L_call (pc := 1453) (rr := []) (show z_pt 320 1453 = some (9, .invokevirtual 181, [0, 159, 0, 6173, 6174, 6175, 1012, 6176]) by decide +kernel) rfl (show z_r2 159 = some (10, 1, true) by decide +kernel) rfl rfl (Or.inr ⟨_, _, rfl, (show z_ci 241 10 = true by decide +kernel)⟩) (pm_thrown_run (r := μ2 241 12) rfl) (by omega) ?_
  refine L_at (pc := 1456) (st := [.int (μ2 241 12)]) ?_
  refine L_pure (pc := 1456) (pc' := 1458) (st' := [.int (μ2 241 12), .int (μ2 241 12)]) (show z_pt 320 1456 = some (9, .iload 6, []) by decide +kernel) rfl (fun _ _ => rfl) ?_
  refine L_icT (pc := 1458) (t := 1463) (show z_pt 320 1458 = some (9, .if_icmp .eq 5, []) by decide +kernel) (by decide) (decide_eq_true rfl) ?_
  refine L_pure (pc := 1463) (pc' := 1465) (st' := [.int (μ2 241 12)]) (show z_pt 320 1463 = some (9, .iload 6, []) by decide +kernel) rfl (fun _ _ => rfl) ?_
  by_cases hz0 : μ2 241 12 = 0
  · refine L_ifF (pc := 1465) (t := 1480) (show z_pt 320 1465 = some (9, .ifCond .ne 15, []) by decide +kernel) (by decide) (decide_eq_false (fun h => h hz0)) ?_
    refine L_pure (pc := 1468) (pc' := 1469) (st' := [.ref 251]) (show z_pt 320 1468 = some (9, .aload_n 3, []) by decide +kernel) rfl (fun _ _ => rfl) ?_
    refine L_const (pc := 1469) (pc' := 1470) (v := 0) (show z_ptc 320 1469 = some (1470, 0) by decide +kernel) ?_
    refine L_lald (pc := 1470) (show z_pt 320 1470 = some (9, .laload, []) by decide +kernel) ?_
    refine L_pure (pc := 1471) (pc' := 1473) (st' := [.int b, .long (a1 0)]) (show z_pt 320 1471 = some (9, .iload 7, []) by decide +kernel) rfl (fun _ _ => rfl) ?_
    refine L_pure (pc := 1473) (pc' := 1474) (st' := [.long (Int32.toInt64 b), .long (a1 0)]) (show z_pt 320 1473 = some (9, .i2l, []) by decide +kernel) rfl (fun _ _ => rfl) ?_
    refine L_pure (pc := 1474) (pc' := 1475) (st' := [.int (lg_cmp (a1 0) (Int32.toInt64 b))]) (show z_pt 320 1474 = some (9, .lcmp, []) by decide +kernel) rfl (fun _ _ => rfl) ?_
    refine L_ifT (pc := 1475) (t := 1480) (show z_pt 320 1475 = some (9, .ifCond .eq 5, []) by decide +kernel) (by decide) (z_lc (hz hz0)) ?_
    refine L_pure (pc := 1480) (pc' := 3330) (show z_pt 320 1480 = some (9, .goto 1850, []) by decide +kernel) rfl (fun _ _ => rfl) ?_
    refine L_inc (pc := 3330) (pc' := 3333) (ls' := [(0, .ref 2000), (1, .ref 0), (2, .ref 241), (3, .ref 251), (4, .ref 252), (5, .int (i + 4)), (6, .int (μ2 241 12)), (7, .int b)]) (c := 4) (show z_pt 320 3330 = some (9, .iinc 5 4, []) by decide +kernel) (by decide) rfl rfl ?_
    refine L_pure (pc := 3333) (pc' := 28) (ls' := [(0, .ref 2000), (1, .ref 0), (2, .ref 241), (3, .ref 251), (4, .ref 252), (5, .int (i + 4))]) (st' := []) (show z_pt 320 3333 = some (9, .goto (-3305), [6]) by decide +kernel) rfl (fun _ _ => rfl) ?_
    exact kk _ _
  · refine L_ifT (pc := 1465) (t := 1480) (show z_pt 320 1465 = some (9, .ifCond .ne 15, []) by decide +kernel) (by decide) (decide_eq_true hz0) ?_
    refine L_pure (pc := 1480) (pc' := 3330) (show z_pt 320 1480 = some (9, .goto 1850, []) by decide +kernel) rfl (fun _ _ => rfl) ?_
    refine L_inc (pc := 3330) (pc' := 3333) (ls' := [(0, .ref 2000), (1, .ref 0), (2, .ref 241), (3, .ref 251), (4, .ref 252), (5, .int (i + 4)), (6, .int (μ2 241 12)), (7, .int b)]) (c := 4) (show z_pt 320 3330 = some (9, .iinc 5 4, []) by decide +kernel) (by decide) rfl rfl ?_
    refine L_pure (pc := 3333) (pc' := 28) (ls' := [(0, .ref 2000), (1, .ref 0), (2, .ref 241), (3, .ref 251), (4, .ref 252), (5, .int (i + 4))]) (st' := []) (show z_pt 320 3333 = some (9, .goto (-3305), [6]) by decide +kernel) rfl (fun _ _ => rfl) ?_
    exact kk _ _
theorem pL_arm22 {sc : Nat × (Nat → Int32)} {D J : Nat} {i b : Int32} {μ μ2 : z_Mem} {a : Nat → Int64} {q : Nat → UInt64} {o : z_R} {P : z_LP} (hD : 2 ≤ D) (h1 : pG_wheelCount μ = some b) (h2 : pm_wheelCount μ = some (b, μ2)) (kk : Rl sc D 320 28 [(0, .ref 2000), (1, .ref 0), (2, .ref 241), (3, .ref 251), (4, .ref 252), (5, .int (i + 4))] [] μ2 a q o P J) : Rl sc D 320 1483 [(0, .ref 2000), (1, .ref 0), (2, .ref 241), (3, .ref 251), (4, .ref 252), (5, .int i)] [] μ a q o P J := by
  refine L_pure (pc := 1483) (pc' := 1484) (st' := [.ref 0]) (show z_pt 320 1483 = some (9, .aload_n 1, []) by decide +kernel) rfl (fun _ _ => rfl) ?_
  refine L_call (pc := 1484) (rr := []) (show z_pt 320 1484 = some (9, .invokevirtual 254, [0, 99, 0, 2117, 2118, 2119, 1001, 2120]) by decide +kernel) rfl (show z_r2 99 = some (9, 1, true) by decide +kernel) rfl rfl (Or.inr ⟨_, _, rfl, (show z_ci 0 9 = true by decide +kernel)⟩) (pG_wheelCount_run h1) (by omega) ?_
  refine L_at (pc := 1487) (st := [.int b]) ?_
  refine L_pure (pc := 1487) (pc' := 1488) (st' := [.ref 241, .int b]) (show z_pt 320 1487 = some (9, .aload_n 2, []) by decide +kernel) rfl (fun _ _ => rfl) ?_
  refine L_call (pc := 1488) (rr := [.int b]) (show z_pt 320 1488 = some (9, .invokevirtual 257, [0, 213, 0, 7138, 7139, 7140, 1012, 7141]) by decide +kernel) rfl (show z_r2 213 = some (10, 1, true) by decide +kernel) rfl rfl (Or.inr ⟨_, _, rfl, (show z_ci 241 10 = true by decide +kernel)⟩) (pm_wheelCount_run (r := (b, μ2)) h2) (by omega) ?_
  refine L_at (pc := 1491) (st := [.int b, .int b]) ?_
  refine L_icT (pc := 1491) (t := 3330) (show z_pt 320 1491 = some (9, .if_icmp .eq 1839, []) by decide +kernel) (by decide) (decide_eq_true rfl) ?_
  refine L_inc (pc := 3330) (pc' := 3333) (ls' := [(0, .ref 2000), (1, .ref 0), (2, .ref 241), (3, .ref 251), (4, .ref 252), (5, .int (i + 4))]) (c := 4) (show z_pt 320 3330 = some (9, .iinc 5 4, []) by decide +kernel) (by decide) rfl rfl ?_
  refine L_pure (pc := 3333) (pc' := 28) (ls' := [(0, .ref 2000), (1, .ref 0), (2, .ref 241), (3, .ref 251), (4, .ref 252), (5, .int (i + 4))]) (st' := []) (show z_pt 320 3333 = some (9, .goto (-3305), [6]) by decide +kernel) rfl (fun _ _ => rfl) ?_
  exact kk
theorem pL_arm23 {sc : Nat × (Nat → Int32)} {D J : Nat} {i c1 : Int32} {b : Int32} {r : Int32 ⊕ Nat} {μ μ2 : z_Mem} {a : Nat → Int64} {q : Nat → UInt64} {o : z_R} {P : z_LP} (hD : 9 ≤ D) (hb1 : z_inb (i + 1) sc.1 = true) (hc1 : sc.2 (i + 1).toNatClampNeg = c1) (h1 : pG_gearOf μ c1 = some r) (h2 : pm_gearOf μ c1 = some (b, μ2)) (hag : z_agI [0] r b (μ2 241 12)) (kk : ∀ (a : Nat → Int64) (q : Nat → UInt64), Rl sc D 320 28 [(0, .ref 2000), (1, .ref 0), (2, .ref 241), (3, .ref 251), (4, .ref 252), (5, .int (i + 4))] [] μ2 a q o P J) : Rl sc D 320 1496 [(0, .ref 2000), (1, .ref 0), (2, .ref 241), (3, .ref 251), (4, .ref 252), (5, .int i)] [] μ a q o P (1 + J) := by
  obtain ⟨a1, q1, hz, hR⟩ := pL_gearOf (sc := sc) (a := a) (q := q) h1 hag
  refine L_pure (pc := 1496) (pc' := 1497) (st' := [.ref 0]) (show z_pt 320 1496 = some (9, .aload_n 1, []) by decide +kernel) rfl (fun _ _ => rfl) ?_
  refine L_pure (pc := 1497) (pc' := 1498) (st' := [.ref 2000, .ref 0]) (show z_pt 320 1497 = some (9, .aload_n 0, []) by decide +kernel) rfl (fun _ _ => rfl) ?_
  refine L_pure (pc := 1498) (pc' := 1500) (st' := [.int i, .ref 2000, .ref 0]) (show z_pt 320 1498 = some (9, .iload 5, []) by decide +kernel) rfl (fun _ _ => rfl) ?_
  refine L_const (pc := 1500) (pc' := 1501) (v := 1) (show z_ptc 320 1500 = some (1501, 1) by decide +kernel) ?_
  refine L_pure (pc := 1501) (pc' := 1502) (st' := [.int (i + 1), .ref 2000, .ref 0]) (show z_pt 320 1501 = some (9, .iadd, []) by decide +kernel) rfl (fun _ _ => rfl) ?_
  refine L_scr (pc := 1502) (show z_pt 320 1502 = some (9, .iaload, []) by decide +kernel) hb1 hc1 ?_
  refine L_pure (pc := 1503) (pc' := 1504) (st' := [.ref 251, .int c1, .ref 0]) (show z_pt 320 1503 = some (9, .aload_n 3, []) by decide +kernel) rfl (fun _ _ => rfl) ?_
  refine L_callF (pc := 1504) (rr := []) (show z_pt 320 1504 = some (9, .invokestatic 258, [5, 291, 3, 4087, 4088, 0, 1000, 4089]) by decide +kernel) rfl (show z_r3 291 = some (11, 4, true) by decide +kernel) rfl rfl hR (by omega) ?_
  refine L_at (pc := 1507) (st := [.int (μ2 241 12)]) ?_
  refine L_pure (pc := 1507) (pc' := 1509) (ls' := [(0, .ref 2000), (1, .ref 0), (2, .ref 241), (3, .ref 251), (4, .ref 252), (5, .int i), (6, .int (μ2 241 12))]) (st' := []) (show z_pt 320 1507 = some (9, .istore 6, []) by decide +kernel) rfl (fun _ _ => rfl) ?_
  refine L_pure (pc := 1509) (pc' := 1510) (st' := [.ref 241]) (show z_pt 320 1509 = some (9, .aload_n 2, []) by decide +kernel) rfl (fun _ _ => rfl) ?_
  refine L_pure (pc := 1510) (pc' := 1511) (st' := [.ref 2000, .ref 241]) (show z_pt 320 1510 = some (9, .aload_n 0, []) by decide +kernel) rfl (fun _ _ => rfl) ?_
  refine L_pure (pc := 1511) (pc' := 1513) (st' := [.int i, .ref 2000, .ref 241]) (show z_pt 320 1511 = some (9, .iload 5, []) by decide +kernel) rfl (fun _ _ => rfl) ?_
  refine L_const (pc := 1513) (pc' := 1514) (v := 1) (show z_ptc 320 1513 = some (1514, 1) by decide +kernel) ?_
  refine L_pure (pc := 1514) (pc' := 1515) (st' := [.int (i + 1), .ref 2000, .ref 241]) (show z_pt 320 1514 = some (9, .iadd, []) by decide +kernel) rfl (fun _ _ => rfl) ?_
  refine L_scr (pc := 1515) (show z_pt 320 1515 = some (9, .iaload, []) by decide +kernel) hb1 hc1 ?_
  refine L_call (pc := 1516) (rr := []) (show z_pt 320 1516 = some (9, .invokevirtual 260, [0, 214, 1, 7142, 7143, 7144, 1012, 7145]) by decide +kernel) rfl (show z_r2 214 = some (10, 2, true) by decide +kernel) rfl rfl (Or.inr ⟨_, _, rfl, (show z_ci 241 10 = true by decide +kernel)⟩) (pm_gearOf_run (r := (b, μ2)) h2) (by omega) ?_
  refine L_at (pc := 1519) (st := [.int b]) ?_
  refine L_pure (pc := 1519) (pc' := 1521) (ls' := [(0, .ref 2000), (1, .ref 0), (2, .ref 241), (3, .ref 251), (4, .ref 252), (5, .int i), (6, .int (μ2 241 12)), (7, .int b)]) (st' := []) (show z_pt 320 1519 = some (9, .istore 7, []) by decide +kernel) rfl (fun _ _ => rfl) ?_
  refine L_pure (pc := 1521) (pc' := 1522) (st' := [.ref 241]) (show z_pt 320 1521 = some (9, .aload_n 2, []) by decide +kernel) rfl (fun _ _ => rfl) ?_
  refine L_call (pc := 1522) (rr := []) (show z_pt 320 1522 = some (9, .invokevirtual 181, [0, 159, 0, 6173, 6174, 6175, 1012, 6176]) by decide +kernel) rfl (show z_r2 159 = some (10, 1, true) by decide +kernel) rfl rfl (Or.inr ⟨_, _, rfl, (show z_ci 241 10 = true by decide +kernel)⟩) (pm_thrown_run (r := μ2 241 12) rfl) (by omega) ?_
  refine L_at (pc := 1525) (st := [.int (μ2 241 12)]) ?_
  refine L_pure (pc := 1525) (pc' := 1527) (st' := [.int (μ2 241 12), .int (μ2 241 12)]) (show z_pt 320 1525 = some (9, .iload 6, []) by decide +kernel) rfl (fun _ _ => rfl) ?_
  refine L_icT (pc := 1527) (t := 1532) (show z_pt 320 1527 = some (9, .if_icmp .eq 5, []) by decide +kernel) (by decide) (decide_eq_true rfl) ?_
  refine L_pure (pc := 1532) (pc' := 1534) (st' := [.int (μ2 241 12)]) (show z_pt 320 1532 = some (9, .iload 6, []) by decide +kernel) rfl (fun _ _ => rfl) ?_
  by_cases hz0 : μ2 241 12 = 0
  · refine L_ifF (pc := 1534) (t := 1549) (show z_pt 320 1534 = some (9, .ifCond .ne 15, []) by decide +kernel) (by decide) (decide_eq_false (fun h => h hz0)) ?_
    refine L_pure (pc := 1537) (pc' := 1538) (st' := [.ref 251]) (show z_pt 320 1537 = some (9, .aload_n 3, []) by decide +kernel) rfl (fun _ _ => rfl) ?_
    refine L_const (pc := 1538) (pc' := 1539) (v := 0) (show z_ptc 320 1538 = some (1539, 0) by decide +kernel) ?_
    refine L_lald (pc := 1539) (show z_pt 320 1539 = some (9, .laload, []) by decide +kernel) ?_
    refine L_pure (pc := 1540) (pc' := 1542) (st' := [.int b, .long (a1 0)]) (show z_pt 320 1540 = some (9, .iload 7, []) by decide +kernel) rfl (fun _ _ => rfl) ?_
    refine L_pure (pc := 1542) (pc' := 1543) (st' := [.long (Int32.toInt64 b), .long (a1 0)]) (show z_pt 320 1542 = some (9, .i2l, []) by decide +kernel) rfl (fun _ _ => rfl) ?_
    refine L_pure (pc := 1543) (pc' := 1544) (st' := [.int (lg_cmp (a1 0) (Int32.toInt64 b))]) (show z_pt 320 1543 = some (9, .lcmp, []) by decide +kernel) rfl (fun _ _ => rfl) ?_
    refine L_ifT (pc := 1544) (t := 1549) (show z_pt 320 1544 = some (9, .ifCond .eq 5, []) by decide +kernel) (by decide) (z_lc (hz hz0)) ?_
    refine L_pure (pc := 1549) (pc' := 3330) (show z_pt 320 1549 = some (9, .goto 1781, []) by decide +kernel) rfl (fun _ _ => rfl) ?_
    refine L_inc (pc := 3330) (pc' := 3333) (ls' := [(0, .ref 2000), (1, .ref 0), (2, .ref 241), (3, .ref 251), (4, .ref 252), (5, .int (i + 4)), (6, .int (μ2 241 12)), (7, .int b)]) (c := 4) (show z_pt 320 3330 = some (9, .iinc 5 4, []) by decide +kernel) (by decide) rfl rfl ?_
    refine L_pure (pc := 3333) (pc' := 28) (ls' := [(0, .ref 2000), (1, .ref 0), (2, .ref 241), (3, .ref 251), (4, .ref 252), (5, .int (i + 4))]) (st' := []) (show z_pt 320 3333 = some (9, .goto (-3305), [6]) by decide +kernel) rfl (fun _ _ => rfl) ?_
    exact kk _ _
  · refine L_ifT (pc := 1534) (t := 1549) (show z_pt 320 1534 = some (9, .ifCond .ne 15, []) by decide +kernel) (by decide) (decide_eq_true hz0) ?_
    refine L_pure (pc := 1549) (pc' := 3330) (show z_pt 320 1549 = some (9, .goto 1781, []) by decide +kernel) rfl (fun _ _ => rfl) ?_
    refine L_inc (pc := 3330) (pc' := 3333) (ls' := [(0, .ref 2000), (1, .ref 0), (2, .ref 241), (3, .ref 251), (4, .ref 252), (5, .int (i + 4)), (6, .int (μ2 241 12)), (7, .int b)]) (c := 4) (show z_pt 320 3330 = some (9, .iinc 5 4, []) by decide +kernel) (by decide) rfl rfl ?_
    refine L_pure (pc := 3333) (pc' := 28) (ls' := [(0, .ref 2000), (1, .ref 0), (2, .ref 241), (3, .ref 251), (4, .ref 252), (5, .int (i + 4))]) (st' := []) (show z_pt 320 3333 = some (9, .goto (-3305), [6]) by decide +kernel) rfl (fun _ _ => rfl) ?_
    exact kk _ _
theorem pL_arm24 {sc : Nat × (Nat → Int32)} {D J : Nat} {i c1 c2 : Int32} {b : Int32} {r : Int32 ⊕ Nat} {μ μ2 : z_Mem} {a : Nat → Int64} {q : Nat → UInt64} {o : z_R} {P : z_LP} (hD : 9 ≤ D) (hb1 : z_inb (i + 1) sc.1 = true) (hc1 : sc.2 (i + 1).toNatClampNeg = c1) (hb2 : z_inb (i + 2) sc.1 = true) (hc2 : sc.2 (i + 2).toNatClampNeg = c2) (h1 : pG_spokeDirection μ c1 c2 = some r) (h2 : pm_spokeDirection μ c1 c2 = some (b, μ2)) (hag : z_agI [0, 1] r b (μ2 241 12)) (kk : ∀ (a : Nat → Int64) (q : Nat → UInt64), Rl sc D 320 28 [(0, .ref 2000), (1, .ref 0), (2, .ref 241), (3, .ref 251), (4, .ref 252), (5, .int (i + 4))] [] μ2 a q o P J) : Rl sc D 320 1552 [(0, .ref 2000), (1, .ref 0), (2, .ref 241), (3, .ref 251), (4, .ref 252), (5, .int i)] [] μ a q o P (1 + J) := by
  obtain ⟨a1, q1, hz, hR⟩ := pL_spokeDirection (sc := sc) (a := a) (q := q) h1 hag
  refine L_pure (pc := 1552) (pc' := 1553) (st' := [.ref 0]) (show z_pt 320 1552 = some (9, .aload_n 1, []) by decide +kernel) rfl (fun _ _ => rfl) ?_
  refine L_pure (pc := 1553) (pc' := 1554) (st' := [.ref 2000, .ref 0]) (show z_pt 320 1553 = some (9, .aload_n 0, []) by decide +kernel) rfl (fun _ _ => rfl) ?_
  refine L_pure (pc := 1554) (pc' := 1556) (st' := [.int i, .ref 2000, .ref 0]) (show z_pt 320 1554 = some (9, .iload 5, []) by decide +kernel) rfl (fun _ _ => rfl) ?_
  refine L_const (pc := 1556) (pc' := 1557) (v := 1) (show z_ptc 320 1556 = some (1557, 1) by decide +kernel) ?_
  refine L_pure (pc := 1557) (pc' := 1558) (st' := [.int (i + 1), .ref 2000, .ref 0]) (show z_pt 320 1557 = some (9, .iadd, []) by decide +kernel) rfl (fun _ _ => rfl) ?_
  refine L_scr (pc := 1558) (show z_pt 320 1558 = some (9, .iaload, []) by decide +kernel) hb1 hc1 ?_
  refine L_pure (pc := 1559) (pc' := 1560) (st' := [.ref 2000, .int c1, .ref 0]) (show z_pt 320 1559 = some (9, .aload_n 0, []) by decide +kernel) rfl (fun _ _ => rfl) ?_
  refine L_pure (pc := 1560) (pc' := 1562) (st' := [.int i, .ref 2000, .int c1, .ref 0]) (show z_pt 320 1560 = some (9, .iload 5, []) by decide +kernel) rfl (fun _ _ => rfl) ?_
  refine L_const (pc := 1562) (pc' := 1563) (v := 2) (show z_ptc 320 1562 = some (1563, 2) by decide +kernel) ?_
  refine L_pure (pc := 1563) (pc' := 1564) (st' := [.int (i + 2), .ref 2000, .int c1, .ref 0]) (show z_pt 320 1563 = some (9, .iadd, []) by decide +kernel) rfl (fun _ _ => rfl) ?_
  refine L_scr (pc := 1564) (show z_pt 320 1564 = some (9, .iaload, []) by decide +kernel) hb2 hc2 ?_
  refine L_pure (pc := 1565) (pc' := 1566) (st' := [.ref 251, .int c2, .int c1, .ref 0]) (show z_pt 320 1565 = some (9, .aload_n 3, []) by decide +kernel) rfl (fun _ _ => rfl) ?_
  refine L_callF (pc := 1566) (rr := []) (show z_pt 320 1566 = some (9, .invokestatic 261, [5, 292, 4, 4102, 4103, 0, 1000, 4104]) by decide +kernel) rfl (show z_r3 292 = some (11, 5, true) by decide +kernel) rfl rfl hR (by omega) ?_
  refine L_at (pc := 1569) (st := [.int (μ2 241 12)]) ?_
  refine L_pure (pc := 1569) (pc' := 1571) (ls' := [(0, .ref 2000), (1, .ref 0), (2, .ref 241), (3, .ref 251), (4, .ref 252), (5, .int i), (6, .int (μ2 241 12))]) (st' := []) (show z_pt 320 1569 = some (9, .istore 6, []) by decide +kernel) rfl (fun _ _ => rfl) ?_
  refine L_pure (pc := 1571) (pc' := 1572) (st' := [.ref 241]) (show z_pt 320 1571 = some (9, .aload_n 2, []) by decide +kernel) rfl (fun _ _ => rfl) ?_
  refine L_pure (pc := 1572) (pc' := 1573) (st' := [.ref 2000, .ref 241]) (show z_pt 320 1572 = some (9, .aload_n 0, []) by decide +kernel) rfl (fun _ _ => rfl) ?_
  refine L_pure (pc := 1573) (pc' := 1575) (st' := [.int i, .ref 2000, .ref 241]) (show z_pt 320 1573 = some (9, .iload 5, []) by decide +kernel) rfl (fun _ _ => rfl) ?_
  refine L_const (pc := 1575) (pc' := 1576) (v := 1) (show z_ptc 320 1575 = some (1576, 1) by decide +kernel) ?_
  refine L_pure (pc := 1576) (pc' := 1577) (st' := [.int (i + 1), .ref 2000, .ref 241]) (show z_pt 320 1576 = some (9, .iadd, []) by decide +kernel) rfl (fun _ _ => rfl) ?_
  refine L_scr (pc := 1577) (show z_pt 320 1577 = some (9, .iaload, []) by decide +kernel) hb1 hc1 ?_
  refine L_pure (pc := 1578) (pc' := 1579) (st' := [.ref 2000, .int c1, .ref 241]) (show z_pt 320 1578 = some (9, .aload_n 0, []) by decide +kernel) rfl (fun _ _ => rfl) ?_
  refine L_pure (pc := 1579) (pc' := 1581) (st' := [.int i, .ref 2000, .int c1, .ref 241]) (show z_pt 320 1579 = some (9, .iload 5, []) by decide +kernel) rfl (fun _ _ => rfl) ?_
  refine L_const (pc := 1581) (pc' := 1582) (v := 2) (show z_ptc 320 1581 = some (1582, 2) by decide +kernel) ?_
  refine L_pure (pc := 1582) (pc' := 1583) (st' := [.int (i + 2), .ref 2000, .int c1, .ref 241]) (show z_pt 320 1582 = some (9, .iadd, []) by decide +kernel) rfl (fun _ _ => rfl) ?_
  refine L_scr (pc := 1583) (show z_pt 320 1583 = some (9, .iaload, []) by decide +kernel) hb2 hc2 ?_
  refine L_call (pc := 1584) (rr := []) (show z_pt 320 1584 = some (9, .invokevirtual 263, [0, 216, 2, 7150, 7151, 7152, 1012, 7153]) by decide +kernel) rfl (show z_r2 216 = some (10, 3, true) by decide +kernel) rfl rfl (Or.inr ⟨_, _, rfl, (show z_ci 241 10 = true by decide +kernel)⟩) (pm_spokeDirection_run (r := (b, μ2)) h2) (by omega) ?_
  refine L_at (pc := 1587) (st := [.int b]) ?_
  refine L_pure (pc := 1587) (pc' := 1589) (ls' := [(0, .ref 2000), (1, .ref 0), (2, .ref 241), (3, .ref 251), (4, .ref 252), (5, .int i), (6, .int (μ2 241 12)), (7, .int b)]) (st' := []) (show z_pt 320 1587 = some (9, .istore 7, []) by decide +kernel) rfl (fun _ _ => rfl) ?_
  refine L_pure (pc := 1589) (pc' := 1590) (st' := [.ref 241]) (show z_pt 320 1589 = some (9, .aload_n 2, []) by decide +kernel) rfl (fun _ _ => rfl) ?_
  refine L_call (pc := 1590) (rr := []) (show z_pt 320 1590 = some (9, .invokevirtual 181, [0, 159, 0, 6173, 6174, 6175, 1012, 6176]) by decide +kernel) rfl (show z_r2 159 = some (10, 1, true) by decide +kernel) rfl rfl (Or.inr ⟨_, _, rfl, (show z_ci 241 10 = true by decide +kernel)⟩) (pm_thrown_run (r := μ2 241 12) rfl) (by omega) ?_
  refine L_at (pc := 1593) (st := [.int (μ2 241 12)]) ?_
  refine L_pure (pc := 1593) (pc' := 1595) (st' := [.int (μ2 241 12), .int (μ2 241 12)]) (show z_pt 320 1593 = some (9, .iload 6, []) by decide +kernel) rfl (fun _ _ => rfl) ?_
  refine L_icT (pc := 1595) (t := 1600) (show z_pt 320 1595 = some (9, .if_icmp .eq 5, []) by decide +kernel) (by decide) (decide_eq_true rfl) ?_
  refine L_pure (pc := 1600) (pc' := 1602) (st' := [.int (μ2 241 12)]) (show z_pt 320 1600 = some (9, .iload 6, []) by decide +kernel) rfl (fun _ _ => rfl) ?_
  by_cases hz0 : μ2 241 12 = 0
  · refine L_ifF (pc := 1602) (t := 1617) (show z_pt 320 1602 = some (9, .ifCond .ne 15, []) by decide +kernel) (by decide) (decide_eq_false (fun h => h hz0)) ?_
    refine L_pure (pc := 1605) (pc' := 1606) (st' := [.ref 251]) (show z_pt 320 1605 = some (9, .aload_n 3, []) by decide +kernel) rfl (fun _ _ => rfl) ?_
    refine L_const (pc := 1606) (pc' := 1607) (v := 0) (show z_ptc 320 1606 = some (1607, 0) by decide +kernel) ?_
    refine L_lald (pc := 1607) (show z_pt 320 1607 = some (9, .laload, []) by decide +kernel) ?_
    refine L_pure (pc := 1608) (pc' := 1610) (st' := [.int b, .long (a1 0)]) (show z_pt 320 1608 = some (9, .iload 7, []) by decide +kernel) rfl (fun _ _ => rfl) ?_
    refine L_pure (pc := 1610) (pc' := 1611) (st' := [.long (Int32.toInt64 b), .long (a1 0)]) (show z_pt 320 1610 = some (9, .i2l, []) by decide +kernel) rfl (fun _ _ => rfl) ?_
    refine L_pure (pc := 1611) (pc' := 1612) (st' := [.int (lg_cmp (a1 0) (Int32.toInt64 b))]) (show z_pt 320 1611 = some (9, .lcmp, []) by decide +kernel) rfl (fun _ _ => rfl) ?_
    refine L_ifT (pc := 1612) (t := 1617) (show z_pt 320 1612 = some (9, .ifCond .eq 5, []) by decide +kernel) (by decide) (z_lc (hz hz0)) ?_
    refine L_pure (pc := 1617) (pc' := 3330) (show z_pt 320 1617 = some (9, .goto 1713, []) by decide +kernel) rfl (fun _ _ => rfl) ?_
    refine L_inc (pc := 3330) (pc' := 3333) (ls' := [(0, .ref 2000), (1, .ref 0), (2, .ref 241), (3, .ref 251), (4, .ref 252), (5, .int (i + 4)), (6, .int (μ2 241 12)), (7, .int b)]) (c := 4) (show z_pt 320 3330 = some (9, .iinc 5 4, []) by decide +kernel) (by decide) rfl rfl ?_
    refine L_pure (pc := 3333) (pc' := 28) (ls' := [(0, .ref 2000), (1, .ref 0), (2, .ref 241), (3, .ref 251), (4, .ref 252), (5, .int (i + 4))]) (st' := []) (show z_pt 320 3333 = some (9, .goto (-3305), [6]) by decide +kernel) rfl (fun _ _ => rfl) ?_
    exact kk _ _
  · refine L_ifT (pc := 1602) (t := 1617) (show z_pt 320 1602 = some (9, .ifCond .ne 15, []) by decide +kernel) (by decide) (decide_eq_true hz0) ?_
    refine L_pure (pc := 1617) (pc' := 3330) (show z_pt 320 1617 = some (9, .goto 1713, []) by decide +kernel) rfl (fun _ _ => rfl) ?_
    refine L_inc (pc := 3330) (pc' := 3333) (ls' := [(0, .ref 2000), (1, .ref 0), (2, .ref 241), (3, .ref 251), (4, .ref 252), (5, .int (i + 4)), (6, .int (μ2 241 12)), (7, .int b)]) (c := 4) (show z_pt 320 3330 = some (9, .iinc 5 4, []) by decide +kernel) (by decide) rfl rfl ?_
    refine L_pure (pc := 3333) (pc' := 28) (ls' := [(0, .ref 2000), (1, .ref 0), (2, .ref 241), (3, .ref 251), (4, .ref 252), (5, .int (i + 4))]) (st' := []) (show z_pt 320 3333 = some (9, .goto (-3305), [6]) by decide +kernel) rfl (fun _ _ => rfl) ?_
    exact kk _ _
theorem pL_arm25 {sc : Nat × (Nat → Int32)} {D J : Nat} {i c1 c2 : Int32} {b : Int32} {r : Int32 ⊕ Nat} {μ μ2 : z_Mem} {a : Nat → Int64} {q : Nat → UInt64} {o : z_R} {P : z_LP} (hD : 9 ≤ D) (hb1 : z_inb (i + 1) sc.1 = true) (hc1 : sc.2 (i + 1).toNatClampNeg = c1) (hb2 : z_inb (i + 2) sc.1 = true) (hc2 : sc.2 (i + 2).toNatClampNeg = c2) (h1 : pG_nearestSpoke μ c1 c2 = some r) (h2 : pm_nearestSpoke μ c1 c2 = some (b, μ2)) (hag : z_agI [0, 3] r b (μ2 241 12)) (kk : ∀ (a : Nat → Int64) (q : Nat → UInt64), Rl sc D 320 28 [(0, .ref 2000), (1, .ref 0), (2, .ref 241), (3, .ref 251), (4, .ref 252), (5, .int (i + 4))] [] μ2 a q o P J) : Rl sc D 320 1620 [(0, .ref 2000), (1, .ref 0), (2, .ref 241), (3, .ref 251), (4, .ref 252), (5, .int i)] [] μ a q o P (1 + J) := by
  obtain ⟨a1, q1, hz, hR⟩ := pL_nearestSpoke (sc := sc) (a := a) (q := q) h1 hag
  refine L_pure (pc := 1620) (pc' := 1621) (st' := [.ref 0]) (show z_pt 320 1620 = some (9, .aload_n 1, []) by decide +kernel) rfl (fun _ _ => rfl) ?_
  refine L_pure (pc := 1621) (pc' := 1622) (st' := [.ref 2000, .ref 0]) (show z_pt 320 1621 = some (9, .aload_n 0, []) by decide +kernel) rfl (fun _ _ => rfl) ?_
  refine L_pure (pc := 1622) (pc' := 1624) (st' := [.int i, .ref 2000, .ref 0]) (show z_pt 320 1622 = some (9, .iload 5, []) by decide +kernel) rfl (fun _ _ => rfl) ?_
  refine L_const (pc := 1624) (pc' := 1625) (v := 1) (show z_ptc 320 1624 = some (1625, 1) by decide +kernel) ?_
  refine L_pure (pc := 1625) (pc' := 1626) (st' := [.int (i + 1), .ref 2000, .ref 0]) (show z_pt 320 1625 = some (9, .iadd, []) by decide +kernel) rfl (fun _ _ => rfl) ?_
  refine L_scr (pc := 1626) (show z_pt 320 1626 = some (9, .iaload, []) by decide +kernel) hb1 hc1 ?_
  refine L_pure (pc := 1627) (pc' := 1628) (st' := [.ref 2000, .int c1, .ref 0]) (show z_pt 320 1627 = some (9, .aload_n 0, []) by decide +kernel) rfl (fun _ _ => rfl) ?_
  refine L_pure (pc := 1628) (pc' := 1630) (st' := [.int i, .ref 2000, .int c1, .ref 0]) (show z_pt 320 1628 = some (9, .iload 5, []) by decide +kernel) rfl (fun _ _ => rfl) ?_
  refine L_const (pc := 1630) (pc' := 1631) (v := 2) (show z_ptc 320 1630 = some (1631, 2) by decide +kernel) ?_
  refine L_pure (pc := 1631) (pc' := 1632) (st' := [.int (i + 2), .ref 2000, .int c1, .ref 0]) (show z_pt 320 1631 = some (9, .iadd, []) by decide +kernel) rfl (fun _ _ => rfl) ?_
  refine L_scr (pc := 1632) (show z_pt 320 1632 = some (9, .iaload, []) by decide +kernel) hb2 hc2 ?_
  refine L_pure (pc := 1633) (pc' := 1634) (st' := [.ref 251, .int c2, .int c1, .ref 0]) (show z_pt 320 1633 = some (9, .aload_n 3, []) by decide +kernel) rfl (fun _ _ => rfl) ?_
  refine L_callF (pc := 1634) (rr := []) (show z_pt 320 1634 = some (9, .invokestatic 264, [5, 293, 4, 4116, 4117, 0, 1000, 4118]) by decide +kernel) rfl (show z_r3 293 = some (11, 5, true) by decide +kernel) rfl rfl hR (by omega) ?_
  refine L_at (pc := 1637) (st := [.int (μ2 241 12)]) ?_
  refine L_pure (pc := 1637) (pc' := 1639) (ls' := [(0, .ref 2000), (1, .ref 0), (2, .ref 241), (3, .ref 251), (4, .ref 252), (5, .int i), (6, .int (μ2 241 12))]) (st' := []) (show z_pt 320 1637 = some (9, .istore 6, []) by decide +kernel) rfl (fun _ _ => rfl) ?_
  refine L_pure (pc := 1639) (pc' := 1640) (st' := [.ref 241]) (show z_pt 320 1639 = some (9, .aload_n 2, []) by decide +kernel) rfl (fun _ _ => rfl) ?_
  refine L_pure (pc := 1640) (pc' := 1641) (st' := [.ref 2000, .ref 241]) (show z_pt 320 1640 = some (9, .aload_n 0, []) by decide +kernel) rfl (fun _ _ => rfl) ?_
  refine L_pure (pc := 1641) (pc' := 1643) (st' := [.int i, .ref 2000, .ref 241]) (show z_pt 320 1641 = some (9, .iload 5, []) by decide +kernel) rfl (fun _ _ => rfl) ?_
  refine L_const (pc := 1643) (pc' := 1644) (v := 1) (show z_ptc 320 1643 = some (1644, 1) by decide +kernel) ?_
  refine L_pure (pc := 1644) (pc' := 1645) (st' := [.int (i + 1), .ref 2000, .ref 241]) (show z_pt 320 1644 = some (9, .iadd, []) by decide +kernel) rfl (fun _ _ => rfl) ?_
  refine L_scr (pc := 1645) (show z_pt 320 1645 = some (9, .iaload, []) by decide +kernel) hb1 hc1 ?_
  refine L_pure (pc := 1646) (pc' := 1647) (st' := [.ref 2000, .int c1, .ref 241]) (show z_pt 320 1646 = some (9, .aload_n 0, []) by decide +kernel) rfl (fun _ _ => rfl) ?_
  refine L_pure (pc := 1647) (pc' := 1649) (st' := [.int i, .ref 2000, .int c1, .ref 241]) (show z_pt 320 1647 = some (9, .iload 5, []) by decide +kernel) rfl (fun _ _ => rfl) ?_
  refine L_const (pc := 1649) (pc' := 1650) (v := 2) (show z_ptc 320 1649 = some (1650, 2) by decide +kernel) ?_
  refine L_pure (pc := 1650) (pc' := 1651) (st' := [.int (i + 2), .ref 2000, .int c1, .ref 241]) (show z_pt 320 1650 = some (9, .iadd, []) by decide +kernel) rfl (fun _ _ => rfl) ?_
  refine L_scr (pc := 1651) (show z_pt 320 1651 = some (9, .iaload, []) by decide +kernel) hb2 hc2 ?_
  refine L_call (pc := 1652) (rr := []) (show z_pt 320 1652 = some (9, .invokevirtual 266, [0, 222, 2, 7161, 7162, 7163, 1012, 7164]) by decide +kernel) rfl (show z_r2 222 = some (10, 4, true) by decide +kernel) rfl rfl (Or.inr ⟨_, _, rfl, (show z_ci 241 10 = true by decide +kernel)⟩) (pm_nearestSpoke_run (r := (b, μ2)) h2) (by omega) ?_
  refine L_at (pc := 1655) (st := [.int b]) ?_
  refine L_pure (pc := 1655) (pc' := 1657) (ls' := [(0, .ref 2000), (1, .ref 0), (2, .ref 241), (3, .ref 251), (4, .ref 252), (5, .int i), (6, .int (μ2 241 12)), (7, .int b)]) (st' := []) (show z_pt 320 1655 = some (9, .istore 7, []) by decide +kernel) rfl (fun _ _ => rfl) ?_
  refine L_pure (pc := 1657) (pc' := 1658) (st' := [.ref 241]) (show z_pt 320 1657 = some (9, .aload_n 2, []) by decide +kernel) rfl (fun _ _ => rfl) ?_
  refine L_call (pc := 1658) (rr := []) (show z_pt 320 1658 = some (9, .invokevirtual 181, [0, 159, 0, 6173, 6174, 6175, 1012, 6176]) by decide +kernel) rfl (show z_r2 159 = some (10, 1, true) by decide +kernel) rfl rfl (Or.inr ⟨_, _, rfl, (show z_ci 241 10 = true by decide +kernel)⟩) (pm_thrown_run (r := μ2 241 12) rfl) (by omega) ?_
  refine L_at (pc := 1661) (st := [.int (μ2 241 12)]) ?_
  refine L_pure (pc := 1661) (pc' := 1663) (st' := [.int (μ2 241 12), .int (μ2 241 12)]) (show z_pt 320 1661 = some (9, .iload 6, []) by decide +kernel) rfl (fun _ _ => rfl) ?_
  refine L_icT (pc := 1663) (t := 1668) (show z_pt 320 1663 = some (9, .if_icmp .eq 5, []) by decide +kernel) (by decide) (decide_eq_true rfl) ?_
  refine L_pure (pc := 1668) (pc' := 1670) (st' := [.int (μ2 241 12)]) (show z_pt 320 1668 = some (9, .iload 6, []) by decide +kernel) rfl (fun _ _ => rfl) ?_
  by_cases hz0 : μ2 241 12 = 0
  · refine L_ifF (pc := 1670) (t := 1685) (show z_pt 320 1670 = some (9, .ifCond .ne 15, []) by decide +kernel) (by decide) (decide_eq_false (fun h => h hz0)) ?_
    refine L_pure (pc := 1673) (pc' := 1674) (st' := [.ref 251]) (show z_pt 320 1673 = some (9, .aload_n 3, []) by decide +kernel) rfl (fun _ _ => rfl) ?_
    refine L_const (pc := 1674) (pc' := 1675) (v := 0) (show z_ptc 320 1674 = some (1675, 0) by decide +kernel) ?_
    refine L_lald (pc := 1675) (show z_pt 320 1675 = some (9, .laload, []) by decide +kernel) ?_
    refine L_pure (pc := 1676) (pc' := 1678) (st' := [.int b, .long (a1 0)]) (show z_pt 320 1676 = some (9, .iload 7, []) by decide +kernel) rfl (fun _ _ => rfl) ?_
    refine L_pure (pc := 1678) (pc' := 1679) (st' := [.long (Int32.toInt64 b), .long (a1 0)]) (show z_pt 320 1678 = some (9, .i2l, []) by decide +kernel) rfl (fun _ _ => rfl) ?_
    refine L_pure (pc := 1679) (pc' := 1680) (st' := [.int (lg_cmp (a1 0) (Int32.toInt64 b))]) (show z_pt 320 1679 = some (9, .lcmp, []) by decide +kernel) rfl (fun _ _ => rfl) ?_
    refine L_ifT (pc := 1680) (t := 1685) (show z_pt 320 1680 = some (9, .ifCond .eq 5, []) by decide +kernel) (by decide) (z_lc (hz hz0)) ?_
    refine L_pure (pc := 1685) (pc' := 3330) (show z_pt 320 1685 = some (9, .goto 1645, []) by decide +kernel) rfl (fun _ _ => rfl) ?_
    refine L_inc (pc := 3330) (pc' := 3333) (ls' := [(0, .ref 2000), (1, .ref 0), (2, .ref 241), (3, .ref 251), (4, .ref 252), (5, .int (i + 4)), (6, .int (μ2 241 12)), (7, .int b)]) (c := 4) (show z_pt 320 3330 = some (9, .iinc 5 4, []) by decide +kernel) (by decide) rfl rfl ?_
    refine L_pure (pc := 3333) (pc' := 28) (ls' := [(0, .ref 2000), (1, .ref 0), (2, .ref 241), (3, .ref 251), (4, .ref 252), (5, .int (i + 4))]) (st' := []) (show z_pt 320 3333 = some (9, .goto (-3305), [6]) by decide +kernel) rfl (fun _ _ => rfl) ?_
    exact kk _ _
  · refine L_ifT (pc := 1670) (t := 1685) (show z_pt 320 1670 = some (9, .ifCond .ne 15, []) by decide +kernel) (by decide) (decide_eq_true hz0) ?_
    refine L_pure (pc := 1685) (pc' := 3330) (show z_pt 320 1685 = some (9, .goto 1645, []) by decide +kernel) rfl (fun _ _ => rfl) ?_
    refine L_inc (pc := 3330) (pc' := 3333) (ls' := [(0, .ref 2000), (1, .ref 0), (2, .ref 241), (3, .ref 251), (4, .ref 252), (5, .int (i + 4)), (6, .int (μ2 241 12)), (7, .int b)]) (c := 4) (show z_pt 320 3330 = some (9, .iinc 5 4, []) by decide +kernel) (by decide) rfl rfl ?_
    refine L_pure (pc := 3333) (pc' := 28) (ls' := [(0, .ref 2000), (1, .ref 0), (2, .ref 241), (3, .ref 251), (4, .ref 252), (5, .int (i + 4))]) (st' := []) (show z_pt 320 3333 = some (9, .goto (-3305), [6]) by decide +kernel) rfl (fun _ _ => rfl) ?_
    exact kk _ _
theorem pL_arm26 {sc : Nat × (Nat → Int32)} {D J : Nat} {i c1 c2 : Int32} {b : Int32} {r : Int32 ⊕ Nat} {μ μ2 : z_Mem} {a : Nat → Int64} {q : Nat → UInt64} {o : z_R} {P : z_LP} (hD : 9 ≤ D) (hb1 : z_inb (i + 1) sc.1 = true) (hc1 : sc.2 (i + 1).toNatClampNeg = c1) (hb2 : z_inb (i + 2) sc.1 = true) (hc2 : sc.2 (i + 2).toNatClampNeg = c2) (h1 : pG_distanceToStar μ c1 c2 = some r) (h2 : pm_distanceToStar μ c1 c2 = some (b, μ2)) (hag : z_agI [0, 3] r b (μ2 241 12)) (kk : ∀ (a : Nat → Int64) (q : Nat → UInt64), Rl sc D 320 28 [(0, .ref 2000), (1, .ref 0), (2, .ref 241), (3, .ref 251), (4, .ref 252), (5, .int (i + 4))] [] μ2 a q o P J) : Rl sc D 320 1688 [(0, .ref 2000), (1, .ref 0), (2, .ref 241), (3, .ref 251), (4, .ref 252), (5, .int i)] [] μ a q o P (1 + J) := by
  obtain ⟨a1, q1, hz, hR⟩ := pL_distanceToStar (sc := sc) (a := a) (q := q) h1 hag
  refine L_pure (pc := 1688) (pc' := 1689) (st' := [.ref 0]) (show z_pt 320 1688 = some (9, .aload_n 1, []) by decide +kernel) rfl (fun _ _ => rfl) ?_
  refine L_pure (pc := 1689) (pc' := 1690) (st' := [.ref 2000, .ref 0]) (show z_pt 320 1689 = some (9, .aload_n 0, []) by decide +kernel) rfl (fun _ _ => rfl) ?_
  refine L_pure (pc := 1690) (pc' := 1692) (st' := [.int i, .ref 2000, .ref 0]) (show z_pt 320 1690 = some (9, .iload 5, []) by decide +kernel) rfl (fun _ _ => rfl) ?_
  refine L_const (pc := 1692) (pc' := 1693) (v := 1) (show z_ptc 320 1692 = some (1693, 1) by decide +kernel) ?_
  refine L_pure (pc := 1693) (pc' := 1694) (st' := [.int (i + 1), .ref 2000, .ref 0]) (show z_pt 320 1693 = some (9, .iadd, []) by decide +kernel) rfl (fun _ _ => rfl) ?_
  refine L_scr (pc := 1694) (show z_pt 320 1694 = some (9, .iaload, []) by decide +kernel) hb1 hc1 ?_
  refine L_pure (pc := 1695) (pc' := 1696) (st' := [.ref 2000, .int c1, .ref 0]) (show z_pt 320 1695 = some (9, .aload_n 0, []) by decide +kernel) rfl (fun _ _ => rfl) ?_
  refine L_pure (pc := 1696) (pc' := 1698) (st' := [.int i, .ref 2000, .int c1, .ref 0]) (show z_pt 320 1696 = some (9, .iload 5, []) by decide +kernel) rfl (fun _ _ => rfl) ?_
  refine L_const (pc := 1698) (pc' := 1699) (v := 2) (show z_ptc 320 1698 = some (1699, 2) by decide +kernel) ?_
  refine L_pure (pc := 1699) (pc' := 1700) (st' := [.int (i + 2), .ref 2000, .int c1, .ref 0]) (show z_pt 320 1699 = some (9, .iadd, []) by decide +kernel) rfl (fun _ _ => rfl) ?_
  refine L_scr (pc := 1700) (show z_pt 320 1700 = some (9, .iaload, []) by decide +kernel) hb2 hc2 ?_
  refine L_pure (pc := 1701) (pc' := 1702) (st' := [.ref 251, .int c2, .int c1, .ref 0]) (show z_pt 320 1701 = some (9, .aload_n 3, []) by decide +kernel) rfl (fun _ _ => rfl) ?_
  refine L_callF (pc := 1702) (rr := []) (show z_pt 320 1702 = some (9, .invokestatic 267, [5, 294, 4, 4141, 4142, 0, 1000, 4143]) by decide +kernel) rfl (show z_r3 294 = some (11, 5, true) by decide +kernel) rfl rfl hR (by omega) ?_
  refine L_at (pc := 1705) (st := [.int (μ2 241 12)]) ?_
  refine L_pure (pc := 1705) (pc' := 1707) (ls' := [(0, .ref 2000), (1, .ref 0), (2, .ref 241), (3, .ref 251), (4, .ref 252), (5, .int i), (6, .int (μ2 241 12))]) (st' := []) (show z_pt 320 1705 = some (9, .istore 6, []) by decide +kernel) rfl (fun _ _ => rfl) ?_
  refine L_pure (pc := 1707) (pc' := 1708) (st' := [.ref 241]) (show z_pt 320 1707 = some (9, .aload_n 2, []) by decide +kernel) rfl (fun _ _ => rfl) ?_
  refine L_pure (pc := 1708) (pc' := 1709) (st' := [.ref 2000, .ref 241]) (show z_pt 320 1708 = some (9, .aload_n 0, []) by decide +kernel) rfl (fun _ _ => rfl) ?_
  refine L_pure (pc := 1709) (pc' := 1711) (st' := [.int i, .ref 2000, .ref 241]) (show z_pt 320 1709 = some (9, .iload 5, []) by decide +kernel) rfl (fun _ _ => rfl) ?_
  refine L_const (pc := 1711) (pc' := 1712) (v := 1) (show z_ptc 320 1711 = some (1712, 1) by decide +kernel) ?_
  refine L_pure (pc := 1712) (pc' := 1713) (st' := [.int (i + 1), .ref 2000, .ref 241]) (show z_pt 320 1712 = some (9, .iadd, []) by decide +kernel) rfl (fun _ _ => rfl) ?_
  refine L_scr (pc := 1713) (show z_pt 320 1713 = some (9, .iaload, []) by decide +kernel) hb1 hc1 ?_
  refine L_pure (pc := 1714) (pc' := 1715) (st' := [.ref 2000, .int c1, .ref 241]) (show z_pt 320 1714 = some (9, .aload_n 0, []) by decide +kernel) rfl (fun _ _ => rfl) ?_
  refine L_pure (pc := 1715) (pc' := 1717) (st' := [.int i, .ref 2000, .int c1, .ref 241]) (show z_pt 320 1715 = some (9, .iload 5, []) by decide +kernel) rfl (fun _ _ => rfl) ?_
  refine L_const (pc := 1717) (pc' := 1718) (v := 2) (show z_ptc 320 1717 = some (1718, 2) by decide +kernel) ?_
  refine L_pure (pc := 1718) (pc' := 1719) (st' := [.int (i + 2), .ref 2000, .int c1, .ref 241]) (show z_pt 320 1718 = some (9, .iadd, []) by decide +kernel) rfl (fun _ _ => rfl) ?_
  refine L_scr (pc := 1719) (show z_pt 320 1719 = some (9, .iaload, []) by decide +kernel) hb2 hc2 ?_
  refine L_call (pc := 1720) (rr := []) (show z_pt 320 1720 = some (9, .invokevirtual 269, [0, 223, 2, 7180, 7181, 7182, 1012, 7183]) by decide +kernel) rfl (show z_r2 223 = some (10, 4, true) by decide +kernel) rfl rfl (Or.inr ⟨_, _, rfl, (show z_ci 241 10 = true by decide +kernel)⟩) (pm_distanceToStar_run (r := (b, μ2)) h2) (by omega) ?_
  refine L_at (pc := 1723) (st := [.int b]) ?_
  refine L_pure (pc := 1723) (pc' := 1725) (ls' := [(0, .ref 2000), (1, .ref 0), (2, .ref 241), (3, .ref 251), (4, .ref 252), (5, .int i), (6, .int (μ2 241 12)), (7, .int b)]) (st' := []) (show z_pt 320 1723 = some (9, .istore 7, []) by decide +kernel) rfl (fun _ _ => rfl) ?_
  refine L_pure (pc := 1725) (pc' := 1726) (st' := [.ref 241]) (show z_pt 320 1725 = some (9, .aload_n 2, []) by decide +kernel) rfl (fun _ _ => rfl) ?_
  refine L_call (pc := 1726) (rr := []) (show z_pt 320 1726 = some (9, .invokevirtual 181, [0, 159, 0, 6173, 6174, 6175, 1012, 6176]) by decide +kernel) rfl (show z_r2 159 = some (10, 1, true) by decide +kernel) rfl rfl (Or.inr ⟨_, _, rfl, (show z_ci 241 10 = true by decide +kernel)⟩) (pm_thrown_run (r := μ2 241 12) rfl) (by omega) ?_
  refine L_at (pc := 1729) (st := [.int (μ2 241 12)]) ?_
  refine L_pure (pc := 1729) (pc' := 1731) (st' := [.int (μ2 241 12), .int (μ2 241 12)]) (show z_pt 320 1729 = some (9, .iload 6, []) by decide +kernel) rfl (fun _ _ => rfl) ?_
  refine L_icT (pc := 1731) (t := 1736) (show z_pt 320 1731 = some (9, .if_icmp .eq 5, []) by decide +kernel) (by decide) (decide_eq_true rfl) ?_
  refine L_pure (pc := 1736) (pc' := 1738) (st' := [.int (μ2 241 12)]) (show z_pt 320 1736 = some (9, .iload 6, []) by decide +kernel) rfl (fun _ _ => rfl) ?_
  by_cases hz0 : μ2 241 12 = 0
  · refine L_ifF (pc := 1738) (t := 1753) (show z_pt 320 1738 = some (9, .ifCond .ne 15, []) by decide +kernel) (by decide) (decide_eq_false (fun h => h hz0)) ?_
    refine L_pure (pc := 1741) (pc' := 1742) (st' := [.ref 251]) (show z_pt 320 1741 = some (9, .aload_n 3, []) by decide +kernel) rfl (fun _ _ => rfl) ?_
    refine L_const (pc := 1742) (pc' := 1743) (v := 0) (show z_ptc 320 1742 = some (1743, 0) by decide +kernel) ?_
    refine L_lald (pc := 1743) (show z_pt 320 1743 = some (9, .laload, []) by decide +kernel) ?_
    refine L_pure (pc := 1744) (pc' := 1746) (st' := [.int b, .long (a1 0)]) (show z_pt 320 1744 = some (9, .iload 7, []) by decide +kernel) rfl (fun _ _ => rfl) ?_
    refine L_pure (pc := 1746) (pc' := 1747) (st' := [.long (Int32.toInt64 b), .long (a1 0)]) (show z_pt 320 1746 = some (9, .i2l, []) by decide +kernel) rfl (fun _ _ => rfl) ?_
    refine L_pure (pc := 1747) (pc' := 1748) (st' := [.int (lg_cmp (a1 0) (Int32.toInt64 b))]) (show z_pt 320 1747 = some (9, .lcmp, []) by decide +kernel) rfl (fun _ _ => rfl) ?_
    refine L_ifT (pc := 1748) (t := 1753) (show z_pt 320 1748 = some (9, .ifCond .eq 5, []) by decide +kernel) (by decide) (z_lc (hz hz0)) ?_
    refine L_pure (pc := 1753) (pc' := 3330) (show z_pt 320 1753 = some (9, .goto 1577, []) by decide +kernel) rfl (fun _ _ => rfl) ?_
    refine L_inc (pc := 3330) (pc' := 3333) (ls' := [(0, .ref 2000), (1, .ref 0), (2, .ref 241), (3, .ref 251), (4, .ref 252), (5, .int (i + 4)), (6, .int (μ2 241 12)), (7, .int b)]) (c := 4) (show z_pt 320 3330 = some (9, .iinc 5 4, []) by decide +kernel) (by decide) rfl rfl ?_
    refine L_pure (pc := 3333) (pc' := 28) (ls' := [(0, .ref 2000), (1, .ref 0), (2, .ref 241), (3, .ref 251), (4, .ref 252), (5, .int (i + 4))]) (st' := []) (show z_pt 320 3333 = some (9, .goto (-3305), [6]) by decide +kernel) rfl (fun _ _ => rfl) ?_
    exact kk _ _
  · refine L_ifT (pc := 1738) (t := 1753) (show z_pt 320 1738 = some (9, .ifCond .ne 15, []) by decide +kernel) (by decide) (decide_eq_true hz0) ?_
    refine L_pure (pc := 1753) (pc' := 3330) (show z_pt 320 1753 = some (9, .goto 1577, []) by decide +kernel) rfl (fun _ _ => rfl) ?_
    refine L_inc (pc := 3330) (pc' := 3333) (ls' := [(0, .ref 2000), (1, .ref 0), (2, .ref 241), (3, .ref 251), (4, .ref 252), (5, .int (i + 4)), (6, .int (μ2 241 12)), (7, .int b)]) (c := 4) (show z_pt 320 3330 = some (9, .iinc 5 4, []) by decide +kernel) (by decide) rfl rfl ?_
    refine L_pure (pc := 3333) (pc' := 28) (ls' := [(0, .ref 2000), (1, .ref 0), (2, .ref 241), (3, .ref 251), (4, .ref 252), (5, .int (i + 4))]) (st' := []) (show z_pt 320 3333 = some (9, .goto (-3305), [6]) by decide +kernel) rfl (fun _ _ => rfl) ?_
    exact kk _ _
theorem pL_arm27 {sc : Nat × (Nat → Int32)} {D J : Nat} {i c1 c2 : Int32} {b : Int32} {r : Int32 ⊕ Nat} {μ μ2 : z_Mem} {a : Nat → Int64} {q : Nat → UInt64} {o : z_R} {P : z_LP} (hD : 9 ≤ D) (hb1 : z_inb (i + 1) sc.1 = true) (hc1 : sc.2 (i + 1).toNatClampNeg = c1) (hb2 : z_inb (i + 2) sc.1 = true) (hc2 : sc.2 (i + 2).toNatClampNeg = c2) (h1 : pG_teethToFollow μ c1 c2 = some r) (h2 : pm_teethToFollow μ c1 c2 = some (b, μ2)) (hag : z_agI [0, 3] r b (μ2 241 12)) (kk : ∀ (a : Nat → Int64) (q : Nat → UInt64), Rl sc D 320 28 [(0, .ref 2000), (1, .ref 0), (2, .ref 241), (3, .ref 251), (4, .ref 252), (5, .int (i + 4))] [] μ2 a q o P J) : Rl sc D 320 1756 [(0, .ref 2000), (1, .ref 0), (2, .ref 241), (3, .ref 251), (4, .ref 252), (5, .int i)] [] μ a q o P (1 + J) := by
  obtain ⟨a1, q1, hz, hR⟩ := pL_teethToFollow (sc := sc) (a := a) (q := q) h1 hag
  refine L_pure (pc := 1756) (pc' := 1757) (st' := [.ref 0]) (show z_pt 320 1756 = some (9, .aload_n 1, []) by decide +kernel) rfl (fun _ _ => rfl) ?_
  refine L_pure (pc := 1757) (pc' := 1758) (st' := [.ref 2000, .ref 0]) (show z_pt 320 1757 = some (9, .aload_n 0, []) by decide +kernel) rfl (fun _ _ => rfl) ?_
  refine L_pure (pc := 1758) (pc' := 1760) (st' := [.int i, .ref 2000, .ref 0]) (show z_pt 320 1758 = some (9, .iload 5, []) by decide +kernel) rfl (fun _ _ => rfl) ?_
  refine L_const (pc := 1760) (pc' := 1761) (v := 1) (show z_ptc 320 1760 = some (1761, 1) by decide +kernel) ?_
  refine L_pure (pc := 1761) (pc' := 1762) (st' := [.int (i + 1), .ref 2000, .ref 0]) (show z_pt 320 1761 = some (9, .iadd, []) by decide +kernel) rfl (fun _ _ => rfl) ?_
  refine L_scr (pc := 1762) (show z_pt 320 1762 = some (9, .iaload, []) by decide +kernel) hb1 hc1 ?_
  refine L_pure (pc := 1763) (pc' := 1764) (st' := [.ref 2000, .int c1, .ref 0]) (show z_pt 320 1763 = some (9, .aload_n 0, []) by decide +kernel) rfl (fun _ _ => rfl) ?_
  refine L_pure (pc := 1764) (pc' := 1766) (st' := [.int i, .ref 2000, .int c1, .ref 0]) (show z_pt 320 1764 = some (9, .iload 5, []) by decide +kernel) rfl (fun _ _ => rfl) ?_
  refine L_const (pc := 1766) (pc' := 1767) (v := 2) (show z_ptc 320 1766 = some (1767, 2) by decide +kernel) ?_
  refine L_pure (pc := 1767) (pc' := 1768) (st' := [.int (i + 2), .ref 2000, .int c1, .ref 0]) (show z_pt 320 1767 = some (9, .iadd, []) by decide +kernel) rfl (fun _ _ => rfl) ?_
  refine L_scr (pc := 1768) (show z_pt 320 1768 = some (9, .iaload, []) by decide +kernel) hb2 hc2 ?_
  refine L_pure (pc := 1769) (pc' := 1770) (st' := [.ref 251, .int c2, .int c1, .ref 0]) (show z_pt 320 1769 = some (9, .aload_n 3, []) by decide +kernel) rfl (fun _ _ => rfl) ?_
  refine L_callF (pc := 1770) (rr := []) (show z_pt 320 1770 = some (9, .invokestatic 270, [5, 295, 4, 4153, 4154, 0, 1000, 4155]) by decide +kernel) rfl (show z_r3 295 = some (11, 5, true) by decide +kernel) rfl rfl hR (by omega) ?_
  refine L_at (pc := 1773) (st := [.int (μ2 241 12)]) ?_
  refine L_pure (pc := 1773) (pc' := 1775) (ls' := [(0, .ref 2000), (1, .ref 0), (2, .ref 241), (3, .ref 251), (4, .ref 252), (5, .int i), (6, .int (μ2 241 12))]) (st' := []) (show z_pt 320 1773 = some (9, .istore 6, []) by decide +kernel) rfl (fun _ _ => rfl) ?_
  refine L_pure (pc := 1775) (pc' := 1776) (st' := [.ref 241]) (show z_pt 320 1775 = some (9, .aload_n 2, []) by decide +kernel) rfl (fun _ _ => rfl) ?_
  refine L_pure (pc := 1776) (pc' := 1777) (st' := [.ref 2000, .ref 241]) (show z_pt 320 1776 = some (9, .aload_n 0, []) by decide +kernel) rfl (fun _ _ => rfl) ?_
  refine L_pure (pc := 1777) (pc' := 1779) (st' := [.int i, .ref 2000, .ref 241]) (show z_pt 320 1777 = some (9, .iload 5, []) by decide +kernel) rfl (fun _ _ => rfl) ?_
  refine L_const (pc := 1779) (pc' := 1780) (v := 1) (show z_ptc 320 1779 = some (1780, 1) by decide +kernel) ?_
  refine L_pure (pc := 1780) (pc' := 1781) (st' := [.int (i + 1), .ref 2000, .ref 241]) (show z_pt 320 1780 = some (9, .iadd, []) by decide +kernel) rfl (fun _ _ => rfl) ?_
  refine L_scr (pc := 1781) (show z_pt 320 1781 = some (9, .iaload, []) by decide +kernel) hb1 hc1 ?_
  refine L_pure (pc := 1782) (pc' := 1783) (st' := [.ref 2000, .int c1, .ref 241]) (show z_pt 320 1782 = some (9, .aload_n 0, []) by decide +kernel) rfl (fun _ _ => rfl) ?_
  refine L_pure (pc := 1783) (pc' := 1785) (st' := [.int i, .ref 2000, .int c1, .ref 241]) (show z_pt 320 1783 = some (9, .iload 5, []) by decide +kernel) rfl (fun _ _ => rfl) ?_
  refine L_const (pc := 1785) (pc' := 1786) (v := 2) (show z_ptc 320 1785 = some (1786, 2) by decide +kernel) ?_
  refine L_pure (pc := 1786) (pc' := 1787) (st' := [.int (i + 2), .ref 2000, .int c1, .ref 241]) (show z_pt 320 1786 = some (9, .iadd, []) by decide +kernel) rfl (fun _ _ => rfl) ?_
  refine L_scr (pc := 1787) (show z_pt 320 1787 = some (9, .iaload, []) by decide +kernel) hb2 hc2 ?_
  refine L_call (pc := 1788) (rr := []) (show z_pt 320 1788 = some (9, .invokevirtual 272, [0, 225, 2, 7188, 7189, 7190, 1012, 7191]) by decide +kernel) rfl (show z_r2 225 = some (10, 4, true) by decide +kernel) rfl rfl (Or.inr ⟨_, _, rfl, (show z_ci 241 10 = true by decide +kernel)⟩) (pm_teethToFollow_run (r := (b, μ2)) h2) (by omega) ?_
  refine L_at (pc := 1791) (st := [.int b]) ?_
  refine L_pure (pc := 1791) (pc' := 1793) (ls' := [(0, .ref 2000), (1, .ref 0), (2, .ref 241), (3, .ref 251), (4, .ref 252), (5, .int i), (6, .int (μ2 241 12)), (7, .int b)]) (st' := []) (show z_pt 320 1791 = some (9, .istore 7, []) by decide +kernel) rfl (fun _ _ => rfl) ?_
  refine L_pure (pc := 1793) (pc' := 1794) (st' := [.ref 241]) (show z_pt 320 1793 = some (9, .aload_n 2, []) by decide +kernel) rfl (fun _ _ => rfl) ?_
  refine L_call (pc := 1794) (rr := []) (show z_pt 320 1794 = some (9, .invokevirtual 181, [0, 159, 0, 6173, 6174, 6175, 1012, 6176]) by decide +kernel) rfl (show z_r2 159 = some (10, 1, true) by decide +kernel) rfl rfl (Or.inr ⟨_, _, rfl, (show z_ci 241 10 = true by decide +kernel)⟩) (pm_thrown_run (r := μ2 241 12) rfl) (by omega) ?_
  refine L_at (pc := 1797) (st := [.int (μ2 241 12)]) ?_
  refine L_pure (pc := 1797) (pc' := 1799) (st' := [.int (μ2 241 12), .int (μ2 241 12)]) (show z_pt 320 1797 = some (9, .iload 6, []) by decide +kernel) rfl (fun _ _ => rfl) ?_
  refine L_icT (pc := 1799) (t := 1804) (show z_pt 320 1799 = some (9, .if_icmp .eq 5, []) by decide +kernel) (by decide) (decide_eq_true rfl) ?_
  refine L_pure (pc := 1804) (pc' := 1806) (st' := [.int (μ2 241 12)]) (show z_pt 320 1804 = some (9, .iload 6, []) by decide +kernel) rfl (fun _ _ => rfl) ?_
  by_cases hz0 : μ2 241 12 = 0
  · refine L_ifF (pc := 1806) (t := 1821) (show z_pt 320 1806 = some (9, .ifCond .ne 15, []) by decide +kernel) (by decide) (decide_eq_false (fun h => h hz0)) ?_
    refine L_pure (pc := 1809) (pc' := 1810) (st' := [.ref 251]) (show z_pt 320 1809 = some (9, .aload_n 3, []) by decide +kernel) rfl (fun _ _ => rfl) ?_
    refine L_const (pc := 1810) (pc' := 1811) (v := 0) (show z_ptc 320 1810 = some (1811, 0) by decide +kernel) ?_
    refine L_lald (pc := 1811) (show z_pt 320 1811 = some (9, .laload, []) by decide +kernel) ?_
    refine L_pure (pc := 1812) (pc' := 1814) (st' := [.int b, .long (a1 0)]) (show z_pt 320 1812 = some (9, .iload 7, []) by decide +kernel) rfl (fun _ _ => rfl) ?_
    refine L_pure (pc := 1814) (pc' := 1815) (st' := [.long (Int32.toInt64 b), .long (a1 0)]) (show z_pt 320 1814 = some (9, .i2l, []) by decide +kernel) rfl (fun _ _ => rfl) ?_
    refine L_pure (pc := 1815) (pc' := 1816) (st' := [.int (lg_cmp (a1 0) (Int32.toInt64 b))]) (show z_pt 320 1815 = some (9, .lcmp, []) by decide +kernel) rfl (fun _ _ => rfl) ?_
    refine L_ifT (pc := 1816) (t := 1821) (show z_pt 320 1816 = some (9, .ifCond .eq 5, []) by decide +kernel) (by decide) (z_lc (hz hz0)) ?_
    refine L_pure (pc := 1821) (pc' := 3330) (show z_pt 320 1821 = some (9, .goto 1509, []) by decide +kernel) rfl (fun _ _ => rfl) ?_
    refine L_inc (pc := 3330) (pc' := 3333) (ls' := [(0, .ref 2000), (1, .ref 0), (2, .ref 241), (3, .ref 251), (4, .ref 252), (5, .int (i + 4)), (6, .int (μ2 241 12)), (7, .int b)]) (c := 4) (show z_pt 320 3330 = some (9, .iinc 5 4, []) by decide +kernel) (by decide) rfl rfl ?_
    refine L_pure (pc := 3333) (pc' := 28) (ls' := [(0, .ref 2000), (1, .ref 0), (2, .ref 241), (3, .ref 251), (4, .ref 252), (5, .int (i + 4))]) (st' := []) (show z_pt 320 3333 = some (9, .goto (-3305), [6]) by decide +kernel) rfl (fun _ _ => rfl) ?_
    exact kk _ _
  · refine L_ifT (pc := 1806) (t := 1821) (show z_pt 320 1806 = some (9, .ifCond .ne 15, []) by decide +kernel) (by decide) (decide_eq_true hz0) ?_
    refine L_pure (pc := 1821) (pc' := 3330) (show z_pt 320 1821 = some (9, .goto 1509, []) by decide +kernel) rfl (fun _ _ => rfl) ?_
    refine L_inc (pc := 3330) (pc' := 3333) (ls' := [(0, .ref 2000), (1, .ref 0), (2, .ref 241), (3, .ref 251), (4, .ref 252), (5, .int (i + 4)), (6, .int (μ2 241 12)), (7, .int b)]) (c := 4) (show z_pt 320 3330 = some (9, .iinc 5 4, []) by decide +kernel) (by decide) rfl rfl ?_
    refine L_pure (pc := 3333) (pc' := 28) (ls' := [(0, .ref 2000), (1, .ref 0), (2, .ref 241), (3, .ref 251), (4, .ref 252), (5, .int (i + 4))]) (st' := []) (show z_pt 320 3333 = some (9, .goto (-3305), [6]) by decide +kernel) rfl (fun _ _ => rfl) ?_
    exact kk _ _
theorem pL_arm28 {sc : Nat × (Nat → Int32)} {D J : Nat} {i c1 c2 : Int32} {b : Int32} {r : Int32 ⊕ Nat} {μ μ1 μ2 : z_Mem} {a : Nat → Int64} {q : Nat → UInt64} {o : z_R} {P : z_LP} (hD : 19 ≤ D) (hb1 : z_inb (i + 1) sc.1 = true) (hc1 : sc.2 (i + 1).toNatClampNeg = c1) (hb2 : z_inb (i + 2) sc.1 = true) (hc2 : sc.2 (i + 2).toNatClampNeg = c2) (h1 : pG_follow μ c1 c2 = some (r, μ1)) (h2 : pm_follow μ1 c1 c2 = some (b, μ2)) (hag : z_agI [0, 3] r b (μ2 241 12)) (kk : ∀ (a : Nat → Int64) (q : Nat → UInt64), Rl sc D 320 28 [(0, .ref 2000), (1, .ref 0), (2, .ref 241), (3, .ref 251), (4, .ref 252), (5, .int (i + 4))] [] μ2 a q o P J) : Rl sc D 320 1824 [(0, .ref 2000), (1, .ref 0), (2, .ref 241), (3, .ref 251), (4, .ref 252), (5, .int i)] [] μ a q o P (1 + J) := by
  obtain ⟨a1, q1, hz, hR⟩ := pL_follow (sc := sc) (a := a) (q := q) h1 hag
  refine L_pure (pc := 1824) (pc' := 1825) (st' := [.ref 0]) (show z_pt 320 1824 = some (9, .aload_n 1, []) by decide +kernel) rfl (fun _ _ => rfl) ?_
  refine L_pure (pc := 1825) (pc' := 1826) (st' := [.ref 2000, .ref 0]) (show z_pt 320 1825 = some (9, .aload_n 0, []) by decide +kernel) rfl (fun _ _ => rfl) ?_
  refine L_pure (pc := 1826) (pc' := 1828) (st' := [.int i, .ref 2000, .ref 0]) (show z_pt 320 1826 = some (9, .iload 5, []) by decide +kernel) rfl (fun _ _ => rfl) ?_
  refine L_const (pc := 1828) (pc' := 1829) (v := 1) (show z_ptc 320 1828 = some (1829, 1) by decide +kernel) ?_
  refine L_pure (pc := 1829) (pc' := 1830) (st' := [.int (i + 1), .ref 2000, .ref 0]) (show z_pt 320 1829 = some (9, .iadd, []) by decide +kernel) rfl (fun _ _ => rfl) ?_
  refine L_scr (pc := 1830) (show z_pt 320 1830 = some (9, .iaload, []) by decide +kernel) hb1 hc1 ?_
  refine L_pure (pc := 1831) (pc' := 1832) (st' := [.ref 2000, .int c1, .ref 0]) (show z_pt 320 1831 = some (9, .aload_n 0, []) by decide +kernel) rfl (fun _ _ => rfl) ?_
  refine L_pure (pc := 1832) (pc' := 1834) (st' := [.int i, .ref 2000, .int c1, .ref 0]) (show z_pt 320 1832 = some (9, .iload 5, []) by decide +kernel) rfl (fun _ _ => rfl) ?_
  refine L_const (pc := 1834) (pc' := 1835) (v := 2) (show z_ptc 320 1834 = some (1835, 2) by decide +kernel) ?_
  refine L_pure (pc := 1835) (pc' := 1836) (st' := [.int (i + 2), .ref 2000, .int c1, .ref 0]) (show z_pt 320 1835 = some (9, .iadd, []) by decide +kernel) rfl (fun _ _ => rfl) ?_
  refine L_scr (pc := 1836) (show z_pt 320 1836 = some (9, .iaload, []) by decide +kernel) hb2 hc2 ?_
  refine L_pure (pc := 1837) (pc' := 1838) (st' := [.ref 251, .int c2, .int c1, .ref 0]) (show z_pt 320 1837 = some (9, .aload_n 3, []) by decide +kernel) rfl (fun _ _ => rfl) ?_
  refine L_callF (pc := 1838) (rr := []) (show z_pt 320 1838 = some (9, .invokestatic 273, [5, 296, 4, 4165, 4166, 0, 1000, 4167]) by decide +kernel) rfl (show z_r3 296 = some (11, 5, true) by decide +kernel) rfl rfl hR (by omega) ?_
  refine L_at (pc := 1841) (st := [.int (μ2 241 12)]) ?_
  refine L_pure (pc := 1841) (pc' := 1843) (ls' := [(0, .ref 2000), (1, .ref 0), (2, .ref 241), (3, .ref 251), (4, .ref 252), (5, .int i), (6, .int (μ2 241 12))]) (st' := []) (show z_pt 320 1841 = some (9, .istore 6, []) by decide +kernel) rfl (fun _ _ => rfl) ?_
  refine L_pure (pc := 1843) (pc' := 1844) (st' := [.ref 241]) (show z_pt 320 1843 = some (9, .aload_n 2, []) by decide +kernel) rfl (fun _ _ => rfl) ?_
  refine L_pure (pc := 1844) (pc' := 1845) (st' := [.ref 2000, .ref 241]) (show z_pt 320 1844 = some (9, .aload_n 0, []) by decide +kernel) rfl (fun _ _ => rfl) ?_
  refine L_pure (pc := 1845) (pc' := 1847) (st' := [.int i, .ref 2000, .ref 241]) (show z_pt 320 1845 = some (9, .iload 5, []) by decide +kernel) rfl (fun _ _ => rfl) ?_
  refine L_const (pc := 1847) (pc' := 1848) (v := 1) (show z_ptc 320 1847 = some (1848, 1) by decide +kernel) ?_
  refine L_pure (pc := 1848) (pc' := 1849) (st' := [.int (i + 1), .ref 2000, .ref 241]) (show z_pt 320 1848 = some (9, .iadd, []) by decide +kernel) rfl (fun _ _ => rfl) ?_
  refine L_scr (pc := 1849) (show z_pt 320 1849 = some (9, .iaload, []) by decide +kernel) hb1 hc1 ?_
  refine L_pure (pc := 1850) (pc' := 1851) (st' := [.ref 2000, .int c1, .ref 241]) (show z_pt 320 1850 = some (9, .aload_n 0, []) by decide +kernel) rfl (fun _ _ => rfl) ?_
  refine L_pure (pc := 1851) (pc' := 1853) (st' := [.int i, .ref 2000, .int c1, .ref 241]) (show z_pt 320 1851 = some (9, .iload 5, []) by decide +kernel) rfl (fun _ _ => rfl) ?_
  refine L_const (pc := 1853) (pc' := 1854) (v := 2) (show z_ptc 320 1853 = some (1854, 2) by decide +kernel) ?_
  refine L_pure (pc := 1854) (pc' := 1855) (st' := [.int (i + 2), .ref 2000, .int c1, .ref 241]) (show z_pt 320 1854 = some (9, .iadd, []) by decide +kernel) rfl (fun _ _ => rfl) ?_
  refine L_scr (pc := 1855) (show z_pt 320 1855 = some (9, .iaload, []) by decide +kernel) hb2 hc2 ?_
  refine L_call (pc := 1856) (rr := []) (show z_pt 320 1856 = some (9, .invokevirtual 275, [0, 227, 2, 7196, 7197, 7198, 1012, 7199]) by decide +kernel) rfl (show z_r2 227 = some (10, 3, true) by decide +kernel) rfl rfl (Or.inr ⟨_, _, rfl, (show z_ci 241 10 = true by decide +kernel)⟩) (pm_follow_run (r := (b, μ2)) h2) (by omega) ?_
  refine L_at (pc := 1859) (st := [.int b]) ?_
  refine L_pure (pc := 1859) (pc' := 1861) (ls' := [(0, .ref 2000), (1, .ref 0), (2, .ref 241), (3, .ref 251), (4, .ref 252), (5, .int i), (6, .int (μ2 241 12)), (7, .int b)]) (st' := []) (show z_pt 320 1859 = some (9, .istore 7, []) by decide +kernel) rfl (fun _ _ => rfl) ?_
  refine L_pure (pc := 1861) (pc' := 1862) (st' := [.ref 241]) (show z_pt 320 1861 = some (9, .aload_n 2, []) by decide +kernel) rfl (fun _ _ => rfl) ?_
  refine L_call (pc := 1862) (rr := []) (show z_pt 320 1862 = some (9, .invokevirtual 181, [0, 159, 0, 6173, 6174, 6175, 1012, 6176]) by decide +kernel) rfl (show z_r2 159 = some (10, 1, true) by decide +kernel) rfl rfl (Or.inr ⟨_, _, rfl, (show z_ci 241 10 = true by decide +kernel)⟩) (pm_thrown_run (r := μ2 241 12) rfl) (by omega) ?_
  refine L_at (pc := 1865) (st := [.int (μ2 241 12)]) ?_
  refine L_pure (pc := 1865) (pc' := 1867) (st' := [.int (μ2 241 12), .int (μ2 241 12)]) (show z_pt 320 1865 = some (9, .iload 6, []) by decide +kernel) rfl (fun _ _ => rfl) ?_
  refine L_icT (pc := 1867) (t := 1872) (show z_pt 320 1867 = some (9, .if_icmp .eq 5, []) by decide +kernel) (by decide) (decide_eq_true rfl) ?_
  refine L_pure (pc := 1872) (pc' := 1874) (st' := [.int (μ2 241 12)]) (show z_pt 320 1872 = some (9, .iload 6, []) by decide +kernel) rfl (fun _ _ => rfl) ?_
  by_cases hz0 : μ2 241 12 = 0
  · refine L_ifF (pc := 1874) (t := 1889) (show z_pt 320 1874 = some (9, .ifCond .ne 15, []) by decide +kernel) (by decide) (decide_eq_false (fun h => h hz0)) ?_
    refine L_pure (pc := 1877) (pc' := 1878) (st' := [.ref 251]) (show z_pt 320 1877 = some (9, .aload_n 3, []) by decide +kernel) rfl (fun _ _ => rfl) ?_
    refine L_const (pc := 1878) (pc' := 1879) (v := 0) (show z_ptc 320 1878 = some (1879, 0) by decide +kernel) ?_
    refine L_lald (pc := 1879) (show z_pt 320 1879 = some (9, .laload, []) by decide +kernel) ?_
    refine L_pure (pc := 1880) (pc' := 1882) (st' := [.int b, .long (a1 0)]) (show z_pt 320 1880 = some (9, .iload 7, []) by decide +kernel) rfl (fun _ _ => rfl) ?_
    refine L_pure (pc := 1882) (pc' := 1883) (st' := [.long (Int32.toInt64 b), .long (a1 0)]) (show z_pt 320 1882 = some (9, .i2l, []) by decide +kernel) rfl (fun _ _ => rfl) ?_
    refine L_pure (pc := 1883) (pc' := 1884) (st' := [.int (lg_cmp (a1 0) (Int32.toInt64 b))]) (show z_pt 320 1883 = some (9, .lcmp, []) by decide +kernel) rfl (fun _ _ => rfl) ?_
    refine L_ifT (pc := 1884) (t := 1889) (show z_pt 320 1884 = some (9, .ifCond .eq 5, []) by decide +kernel) (by decide) (z_lc (hz hz0)) ?_
    refine L_pure (pc := 1889) (pc' := 3330) (show z_pt 320 1889 = some (9, .goto 1441, []) by decide +kernel) rfl (fun _ _ => rfl) ?_
    refine L_inc (pc := 3330) (pc' := 3333) (ls' := [(0, .ref 2000), (1, .ref 0), (2, .ref 241), (3, .ref 251), (4, .ref 252), (5, .int (i + 4)), (6, .int (μ2 241 12)), (7, .int b)]) (c := 4) (show z_pt 320 3330 = some (9, .iinc 5 4, []) by decide +kernel) (by decide) rfl rfl ?_
    refine L_pure (pc := 3333) (pc' := 28) (ls' := [(0, .ref 2000), (1, .ref 0), (2, .ref 241), (3, .ref 251), (4, .ref 252), (5, .int (i + 4))]) (st' := []) (show z_pt 320 3333 = some (9, .goto (-3305), [6]) by decide +kernel) rfl (fun _ _ => rfl) ?_
    exact kk _ _
  · refine L_ifT (pc := 1874) (t := 1889) (show z_pt 320 1874 = some (9, .ifCond .ne 15, []) by decide +kernel) (by decide) (decide_eq_true hz0) ?_
    refine L_pure (pc := 1889) (pc' := 3330) (show z_pt 320 1889 = some (9, .goto 1441, []) by decide +kernel) rfl (fun _ _ => rfl) ?_
    refine L_inc (pc := 3330) (pc' := 3333) (ls' := [(0, .ref 2000), (1, .ref 0), (2, .ref 241), (3, .ref 251), (4, .ref 252), (5, .int (i + 4)), (6, .int (μ2 241 12)), (7, .int b)]) (c := 4) (show z_pt 320 3330 = some (9, .iinc 5 4, []) by decide +kernel) (by decide) rfl rfl ?_
    refine L_pure (pc := 3333) (pc' := 28) (ls' := [(0, .ref 2000), (1, .ref 0), (2, .ref 241), (3, .ref 251), (4, .ref 252), (5, .int (i + 4))]) (st' := []) (show z_pt 320 3333 = some (9, .goto (-3305), [6]) by decide +kernel) rfl (fun _ _ => rfl) ?_
    exact kk _ _
theorem pL_arm29 {sc : Nat × (Nat → Int32)} {D J : Nat} {i c1 c2 : Int32} {b : Int32} {r : Int32 ⊕ Nat} {μ μ1 μ2 : z_Mem} {a : Nat → Int64} {q : Nat → UInt64} {o : z_R} {P : z_LP} (hD : 9 ≤ D) (hb1 : z_inb (i + 1) sc.1 = true) (hc1 : sc.2 (i + 1).toNatClampNeg = c1) (hb2 : z_inb (i + 2) sc.1 = true) (hc2 : sc.2 (i + 2).toNatClampNeg = c2) (h1 : pG_addStar μ c1 c2 = some (r, μ1)) (h2 : pm_addStar μ1 c1 c2 = some (b, μ2)) (hag : z_agI [1, 2] r b (μ2 241 12)) (kk : ∀ (a : Nat → Int64) (q : Nat → UInt64), Rl sc D 320 28 [(0, .ref 2000), (1, .ref 0), (2, .ref 241), (3, .ref 251), (4, .ref 252), (5, .int (i + 4))] [] μ2 a q o P J) : Rl sc D 320 1892 [(0, .ref 2000), (1, .ref 0), (2, .ref 241), (3, .ref 251), (4, .ref 252), (5, .int i)] [] μ a q o P (1 + J) := by
  obtain ⟨a1, q1, hz, hR⟩ := pL_addStar (sc := sc) (a := a) (q := q) h1 hag
  refine L_pure (pc := 1892) (pc' := 1893) (st' := [.ref 0]) (show z_pt 320 1892 = some (9, .aload_n 1, []) by decide +kernel) rfl (fun _ _ => rfl) ?_
  refine L_pure (pc := 1893) (pc' := 1894) (st' := [.ref 2000, .ref 0]) (show z_pt 320 1893 = some (9, .aload_n 0, []) by decide +kernel) rfl (fun _ _ => rfl) ?_
  refine L_pure (pc := 1894) (pc' := 1896) (st' := [.int i, .ref 2000, .ref 0]) (show z_pt 320 1894 = some (9, .iload 5, []) by decide +kernel) rfl (fun _ _ => rfl) ?_
  refine L_const (pc := 1896) (pc' := 1897) (v := 1) (show z_ptc 320 1896 = some (1897, 1) by decide +kernel) ?_
  refine L_pure (pc := 1897) (pc' := 1898) (st' := [.int (i + 1), .ref 2000, .ref 0]) (show z_pt 320 1897 = some (9, .iadd, []) by decide +kernel) rfl (fun _ _ => rfl) ?_
  refine L_scr (pc := 1898) (show z_pt 320 1898 = some (9, .iaload, []) by decide +kernel) hb1 hc1 ?_
  refine L_pure (pc := 1899) (pc' := 1900) (st' := [.ref 2000, .int c1, .ref 0]) (show z_pt 320 1899 = some (9, .aload_n 0, []) by decide +kernel) rfl (fun _ _ => rfl) ?_
  refine L_pure (pc := 1900) (pc' := 1902) (st' := [.int i, .ref 2000, .int c1, .ref 0]) (show z_pt 320 1900 = some (9, .iload 5, []) by decide +kernel) rfl (fun _ _ => rfl) ?_
  refine L_const (pc := 1902) (pc' := 1903) (v := 2) (show z_ptc 320 1902 = some (1903, 2) by decide +kernel) ?_
  refine L_pure (pc := 1903) (pc' := 1904) (st' := [.int (i + 2), .ref 2000, .int c1, .ref 0]) (show z_pt 320 1903 = some (9, .iadd, []) by decide +kernel) rfl (fun _ _ => rfl) ?_
  refine L_scr (pc := 1904) (show z_pt 320 1904 = some (9, .iaload, []) by decide +kernel) hb2 hc2 ?_
  refine L_pure (pc := 1905) (pc' := 1906) (st' := [.ref 251, .int c2, .int c1, .ref 0]) (show z_pt 320 1905 = some (9, .aload_n 3, []) by decide +kernel) rfl (fun _ _ => rfl) ?_
  refine L_callF (pc := 1906) (rr := []) (show z_pt 320 1906 = some (9, .invokestatic 276, [5, 297, 4, 4176, 4177, 0, 1000, 4178]) by decide +kernel) rfl (show z_r3 297 = some (11, 5, true) by decide +kernel) rfl rfl hR (by omega) ?_
  refine L_at (pc := 1909) (st := [.int (μ2 241 12)]) ?_
  refine L_pure (pc := 1909) (pc' := 1911) (ls' := [(0, .ref 2000), (1, .ref 0), (2, .ref 241), (3, .ref 251), (4, .ref 252), (5, .int i), (6, .int (μ2 241 12))]) (st' := []) (show z_pt 320 1909 = some (9, .istore 6, []) by decide +kernel) rfl (fun _ _ => rfl) ?_
  refine L_pure (pc := 1911) (pc' := 1912) (st' := [.ref 241]) (show z_pt 320 1911 = some (9, .aload_n 2, []) by decide +kernel) rfl (fun _ _ => rfl) ?_
  refine L_pure (pc := 1912) (pc' := 1913) (st' := [.ref 2000, .ref 241]) (show z_pt 320 1912 = some (9, .aload_n 0, []) by decide +kernel) rfl (fun _ _ => rfl) ?_
  refine L_pure (pc := 1913) (pc' := 1915) (st' := [.int i, .ref 2000, .ref 241]) (show z_pt 320 1913 = some (9, .iload 5, []) by decide +kernel) rfl (fun _ _ => rfl) ?_
  refine L_const (pc := 1915) (pc' := 1916) (v := 1) (show z_ptc 320 1915 = some (1916, 1) by decide +kernel) ?_
  refine L_pure (pc := 1916) (pc' := 1917) (st' := [.int (i + 1), .ref 2000, .ref 241]) (show z_pt 320 1916 = some (9, .iadd, []) by decide +kernel) rfl (fun _ _ => rfl) ?_
  refine L_scr (pc := 1917) (show z_pt 320 1917 = some (9, .iaload, []) by decide +kernel) hb1 hc1 ?_
  refine L_pure (pc := 1918) (pc' := 1919) (st' := [.ref 2000, .int c1, .ref 241]) (show z_pt 320 1918 = some (9, .aload_n 0, []) by decide +kernel) rfl (fun _ _ => rfl) ?_
  refine L_pure (pc := 1919) (pc' := 1921) (st' := [.int i, .ref 2000, .int c1, .ref 241]) (show z_pt 320 1919 = some (9, .iload 5, []) by decide +kernel) rfl (fun _ _ => rfl) ?_
  refine L_const (pc := 1921) (pc' := 1922) (v := 2) (show z_ptc 320 1921 = some (1922, 2) by decide +kernel) ?_
  refine L_pure (pc := 1922) (pc' := 1923) (st' := [.int (i + 2), .ref 2000, .int c1, .ref 241]) (show z_pt 320 1922 = some (9, .iadd, []) by decide +kernel) rfl (fun _ _ => rfl) ?_
  refine L_scr (pc := 1923) (show z_pt 320 1923 = some (9, .iaload, []) by decide +kernel) hb2 hc2 ?_
  refine L_call (pc := 1924) (rr := []) (show z_pt 320 1924 = some (9, .invokevirtual 278, [0, 229, 2, 7204, 7205, 7206, 1012, 7207]) by decide +kernel) rfl (show z_r2 229 = some (10, 3, true) by decide +kernel) rfl rfl (Or.inr ⟨_, _, rfl, (show z_ci 241 10 = true by decide +kernel)⟩) (pm_addStar_run (r := (b, μ2)) h2) (by omega) ?_
  refine L_at (pc := 1927) (st := [.int b]) ?_
  refine L_pure (pc := 1927) (pc' := 1929) (ls' := [(0, .ref 2000), (1, .ref 0), (2, .ref 241), (3, .ref 251), (4, .ref 252), (5, .int i), (6, .int (μ2 241 12)), (7, .int b)]) (st' := []) (show z_pt 320 1927 = some (9, .istore 7, []) by decide +kernel) rfl (fun _ _ => rfl) ?_
  refine L_pure (pc := 1929) (pc' := 1930) (st' := [.ref 241]) (show z_pt 320 1929 = some (9, .aload_n 2, []) by decide +kernel) rfl (fun _ _ => rfl) ?_
  refine L_call (pc := 1930) (rr := []) (show z_pt 320 1930 = some (9, .invokevirtual 181, [0, 159, 0, 6173, 6174, 6175, 1012, 6176]) by decide +kernel) rfl (show z_r2 159 = some (10, 1, true) by decide +kernel) rfl rfl (Or.inr ⟨_, _, rfl, (show z_ci 241 10 = true by decide +kernel)⟩) (pm_thrown_run (r := μ2 241 12) rfl) (by omega) ?_
  refine L_at (pc := 1933) (st := [.int (μ2 241 12)]) ?_
  refine L_pure (pc := 1933) (pc' := 1935) (st' := [.int (μ2 241 12), .int (μ2 241 12)]) (show z_pt 320 1933 = some (9, .iload 6, []) by decide +kernel) rfl (fun _ _ => rfl) ?_
  refine L_icT (pc := 1935) (t := 1940) (show z_pt 320 1935 = some (9, .if_icmp .eq 5, []) by decide +kernel) (by decide) (decide_eq_true rfl) ?_
  refine L_pure (pc := 1940) (pc' := 1942) (st' := [.int (μ2 241 12)]) (show z_pt 320 1940 = some (9, .iload 6, []) by decide +kernel) rfl (fun _ _ => rfl) ?_
  by_cases hz0 : μ2 241 12 = 0
  · refine L_ifF (pc := 1942) (t := 1957) (show z_pt 320 1942 = some (9, .ifCond .ne 15, []) by decide +kernel) (by decide) (decide_eq_false (fun h => h hz0)) ?_
    refine L_pure (pc := 1945) (pc' := 1946) (st' := [.ref 251]) (show z_pt 320 1945 = some (9, .aload_n 3, []) by decide +kernel) rfl (fun _ _ => rfl) ?_
    refine L_const (pc := 1946) (pc' := 1947) (v := 0) (show z_ptc 320 1946 = some (1947, 0) by decide +kernel) ?_
    refine L_lald (pc := 1947) (show z_pt 320 1947 = some (9, .laload, []) by decide +kernel) ?_
    refine L_pure (pc := 1948) (pc' := 1950) (st' := [.int b, .long (a1 0)]) (show z_pt 320 1948 = some (9, .iload 7, []) by decide +kernel) rfl (fun _ _ => rfl) ?_
    refine L_pure (pc := 1950) (pc' := 1951) (st' := [.long (Int32.toInt64 b), .long (a1 0)]) (show z_pt 320 1950 = some (9, .i2l, []) by decide +kernel) rfl (fun _ _ => rfl) ?_
    refine L_pure (pc := 1951) (pc' := 1952) (st' := [.int (lg_cmp (a1 0) (Int32.toInt64 b))]) (show z_pt 320 1951 = some (9, .lcmp, []) by decide +kernel) rfl (fun _ _ => rfl) ?_
    refine L_ifT (pc := 1952) (t := 1957) (show z_pt 320 1952 = some (9, .ifCond .eq 5, []) by decide +kernel) (by decide) (z_lc (hz hz0)) ?_
    refine L_pure (pc := 1957) (pc' := 3330) (show z_pt 320 1957 = some (9, .goto 1373, []) by decide +kernel) rfl (fun _ _ => rfl) ?_
    refine L_inc (pc := 3330) (pc' := 3333) (ls' := [(0, .ref 2000), (1, .ref 0), (2, .ref 241), (3, .ref 251), (4, .ref 252), (5, .int (i + 4)), (6, .int (μ2 241 12)), (7, .int b)]) (c := 4) (show z_pt 320 3330 = some (9, .iinc 5 4, []) by decide +kernel) (by decide) rfl rfl ?_
    refine L_pure (pc := 3333) (pc' := 28) (ls' := [(0, .ref 2000), (1, .ref 0), (2, .ref 241), (3, .ref 251), (4, .ref 252), (5, .int (i + 4))]) (st' := []) (show z_pt 320 3333 = some (9, .goto (-3305), [6]) by decide +kernel) rfl (fun _ _ => rfl) ?_
    exact kk _ _
  · refine L_ifT (pc := 1942) (t := 1957) (show z_pt 320 1942 = some (9, .ifCond .ne 15, []) by decide +kernel) (by decide) (decide_eq_true hz0) ?_
    refine L_pure (pc := 1957) (pc' := 3330) (show z_pt 320 1957 = some (9, .goto 1373, []) by decide +kernel) rfl (fun _ _ => rfl) ?_
    refine L_inc (pc := 3330) (pc' := 3333) (ls' := [(0, .ref 2000), (1, .ref 0), (2, .ref 241), (3, .ref 251), (4, .ref 252), (5, .int (i + 4)), (6, .int (μ2 241 12)), (7, .int b)]) (c := 4) (show z_pt 320 3330 = some (9, .iinc 5 4, []) by decide +kernel) (by decide) rfl rfl ?_
    refine L_pure (pc := 3333) (pc' := 28) (ls' := [(0, .ref 2000), (1, .ref 0), (2, .ref 241), (3, .ref 251), (4, .ref 252), (5, .int (i + 4))]) (st' := []) (show z_pt 320 3333 = some (9, .goto (-3305), [6]) by decide +kernel) rfl (fun _ _ => rfl) ?_
    exact kk _ _
theorem pL_arm30 {sc : Nat × (Nat → Int32)} {D J : Nat} {i c1 : Int32} {b : Int32} {r : Int32 ⊕ Nat} {μ μ1 μ2 : z_Mem} {a : Nat → Int64} {q : Nat → UInt64} {o : z_R} {P : z_LP} (hD : 9 ≤ D) (hb1 : z_inb (i + 1) sc.1 = true) (hc1 : sc.2 (i + 1).toNatClampNeg = c1) (h1 : pG_removeStar μ c1 = some (r, μ1)) (h2 : pm_removeStar μ1 c1 = some (b, μ2)) (hag : z_agI [3] r b (μ2 241 12)) (kk : ∀ (a : Nat → Int64) (q : Nat → UInt64), Rl sc D 320 28 [(0, .ref 2000), (1, .ref 0), (2, .ref 241), (3, .ref 251), (4, .ref 252), (5, .int (i + 4))] [] μ2 a q o P J) : Rl sc D 320 1960 [(0, .ref 2000), (1, .ref 0), (2, .ref 241), (3, .ref 251), (4, .ref 252), (5, .int i)] [] μ a q o P (1 + J) := by
  obtain ⟨a1, q1, hz, hR⟩ := pL_removeStar (sc := sc) (a := a) (q := q) h1 hag
  refine L_pure (pc := 1960) (pc' := 1961) (st' := [.ref 0]) (show z_pt 320 1960 = some (9, .aload_n 1, []) by decide +kernel) rfl (fun _ _ => rfl) ?_
  refine L_pure (pc := 1961) (pc' := 1962) (st' := [.ref 2000, .ref 0]) (show z_pt 320 1961 = some (9, .aload_n 0, []) by decide +kernel) rfl (fun _ _ => rfl) ?_
  refine L_pure (pc := 1962) (pc' := 1964) (st' := [.int i, .ref 2000, .ref 0]) (show z_pt 320 1962 = some (9, .iload 5, []) by decide +kernel) rfl (fun _ _ => rfl) ?_
  refine L_const (pc := 1964) (pc' := 1965) (v := 1) (show z_ptc 320 1964 = some (1965, 1) by decide +kernel) ?_
  refine L_pure (pc := 1965) (pc' := 1966) (st' := [.int (i + 1), .ref 2000, .ref 0]) (show z_pt 320 1965 = some (9, .iadd, []) by decide +kernel) rfl (fun _ _ => rfl) ?_
  refine L_scr (pc := 1966) (show z_pt 320 1966 = some (9, .iaload, []) by decide +kernel) hb1 hc1 ?_
  refine L_pure (pc := 1967) (pc' := 1968) (st' := [.ref 251, .int c1, .ref 0]) (show z_pt 320 1967 = some (9, .aload_n 3, []) by decide +kernel) rfl (fun _ _ => rfl) ?_
  refine L_callF (pc := 1968) (rr := []) (show z_pt 320 1968 = some (9, .invokestatic 279, [5, 298, 3, 4191, 4192, 0, 1000, 4193]) by decide +kernel) rfl (show z_r3 298 = some (11, 4, true) by decide +kernel) rfl rfl hR (by omega) ?_
  refine L_at (pc := 1971) (st := [.int (μ2 241 12)]) ?_
  refine L_pure (pc := 1971) (pc' := 1973) (ls' := [(0, .ref 2000), (1, .ref 0), (2, .ref 241), (3, .ref 251), (4, .ref 252), (5, .int i), (6, .int (μ2 241 12))]) (st' := []) (show z_pt 320 1971 = some (9, .istore 6, []) by decide +kernel) rfl (fun _ _ => rfl) ?_
  refine L_pure (pc := 1973) (pc' := 1974) (st' := [.ref 241]) (show z_pt 320 1973 = some (9, .aload_n 2, []) by decide +kernel) rfl (fun _ _ => rfl) ?_
  refine L_pure (pc := 1974) (pc' := 1975) (st' := [.ref 2000, .ref 241]) (show z_pt 320 1974 = some (9, .aload_n 0, []) by decide +kernel) rfl (fun _ _ => rfl) ?_
  refine L_pure (pc := 1975) (pc' := 1977) (st' := [.int i, .ref 2000, .ref 241]) (show z_pt 320 1975 = some (9, .iload 5, []) by decide +kernel) rfl (fun _ _ => rfl) ?_
  refine L_const (pc := 1977) (pc' := 1978) (v := 1) (show z_ptc 320 1977 = some (1978, 1) by decide +kernel) ?_
  refine L_pure (pc := 1978) (pc' := 1979) (st' := [.int (i + 1), .ref 2000, .ref 241]) (show z_pt 320 1978 = some (9, .iadd, []) by decide +kernel) rfl (fun _ _ => rfl) ?_
  refine L_scr (pc := 1979) (show z_pt 320 1979 = some (9, .iaload, []) by decide +kernel) hb1 hc1 ?_
  refine L_call (pc := 1980) (rr := []) (show z_pt 320 1980 = some (9, .invokevirtual 281, [0, 231, 1, 7212, 7213, 7214, 1012, 7215]) by decide +kernel) rfl (show z_r2 231 = some (10, 2, true) by decide +kernel) rfl rfl (Or.inr ⟨_, _, rfl, (show z_ci 241 10 = true by decide +kernel)⟩) (pm_removeStar_run (r := (b, μ2)) h2) (by omega) ?_
  refine L_at (pc := 1983) (st := [.int b]) ?_
  refine L_pure (pc := 1983) (pc' := 1985) (ls' := [(0, .ref 2000), (1, .ref 0), (2, .ref 241), (3, .ref 251), (4, .ref 252), (5, .int i), (6, .int (μ2 241 12)), (7, .int b)]) (st' := []) (show z_pt 320 1983 = some (9, .istore 7, []) by decide +kernel) rfl (fun _ _ => rfl) ?_
  refine L_pure (pc := 1985) (pc' := 1986) (st' := [.ref 241]) (show z_pt 320 1985 = some (9, .aload_n 2, []) by decide +kernel) rfl (fun _ _ => rfl) ?_
  refine L_call (pc := 1986) (rr := []) (show z_pt 320 1986 = some (9, .invokevirtual 181, [0, 159, 0, 6173, 6174, 6175, 1012, 6176]) by decide +kernel) rfl (show z_r2 159 = some (10, 1, true) by decide +kernel) rfl rfl (Or.inr ⟨_, _, rfl, (show z_ci 241 10 = true by decide +kernel)⟩) (pm_thrown_run (r := μ2 241 12) rfl) (by omega) ?_
  refine L_at (pc := 1989) (st := [.int (μ2 241 12)]) ?_
  refine L_pure (pc := 1989) (pc' := 1991) (st' := [.int (μ2 241 12), .int (μ2 241 12)]) (show z_pt 320 1989 = some (9, .iload 6, []) by decide +kernel) rfl (fun _ _ => rfl) ?_
  refine L_icT (pc := 1991) (t := 1996) (show z_pt 320 1991 = some (9, .if_icmp .eq 5, []) by decide +kernel) (by decide) (decide_eq_true rfl) ?_
  refine L_pure (pc := 1996) (pc' := 1998) (st' := [.int (μ2 241 12)]) (show z_pt 320 1996 = some (9, .iload 6, []) by decide +kernel) rfl (fun _ _ => rfl) ?_
  by_cases hz0 : μ2 241 12 = 0
  · refine L_ifF (pc := 1998) (t := 2013) (show z_pt 320 1998 = some (9, .ifCond .ne 15, []) by decide +kernel) (by decide) (decide_eq_false (fun h => h hz0)) ?_
    refine L_pure (pc := 2001) (pc' := 2002) (st' := [.ref 251]) (show z_pt 320 2001 = some (9, .aload_n 3, []) by decide +kernel) rfl (fun _ _ => rfl) ?_
    refine L_const (pc := 2002) (pc' := 2003) (v := 0) (show z_ptc 320 2002 = some (2003, 0) by decide +kernel) ?_
    refine L_lald (pc := 2003) (show z_pt 320 2003 = some (9, .laload, []) by decide +kernel) ?_
    refine L_pure (pc := 2004) (pc' := 2006) (st' := [.int b, .long (a1 0)]) (show z_pt 320 2004 = some (9, .iload 7, []) by decide +kernel) rfl (fun _ _ => rfl) ?_
    refine L_pure (pc := 2006) (pc' := 2007) (st' := [.long (Int32.toInt64 b), .long (a1 0)]) (show z_pt 320 2006 = some (9, .i2l, []) by decide +kernel) rfl (fun _ _ => rfl) ?_
    refine L_pure (pc := 2007) (pc' := 2008) (st' := [.int (lg_cmp (a1 0) (Int32.toInt64 b))]) (show z_pt 320 2007 = some (9, .lcmp, []) by decide +kernel) rfl (fun _ _ => rfl) ?_
    refine L_ifT (pc := 2008) (t := 2013) (show z_pt 320 2008 = some (9, .ifCond .eq 5, []) by decide +kernel) (by decide) (z_lc (hz hz0)) ?_
    refine L_pure (pc := 2013) (pc' := 3330) (show z_pt 320 2013 = some (9, .goto 1317, []) by decide +kernel) rfl (fun _ _ => rfl) ?_
    refine L_inc (pc := 3330) (pc' := 3333) (ls' := [(0, .ref 2000), (1, .ref 0), (2, .ref 241), (3, .ref 251), (4, .ref 252), (5, .int (i + 4)), (6, .int (μ2 241 12)), (7, .int b)]) (c := 4) (show z_pt 320 3330 = some (9, .iinc 5 4, []) by decide +kernel) (by decide) rfl rfl ?_
    refine L_pure (pc := 3333) (pc' := 28) (ls' := [(0, .ref 2000), (1, .ref 0), (2, .ref 241), (3, .ref 251), (4, .ref 252), (5, .int (i + 4))]) (st' := []) (show z_pt 320 3333 = some (9, .goto (-3305), [6]) by decide +kernel) rfl (fun _ _ => rfl) ?_
    exact kk _ _
  · refine L_ifT (pc := 1998) (t := 2013) (show z_pt 320 1998 = some (9, .ifCond .ne 15, []) by decide +kernel) (by decide) (decide_eq_true hz0) ?_
    refine L_pure (pc := 2013) (pc' := 3330) (show z_pt 320 2013 = some (9, .goto 1317, []) by decide +kernel) rfl (fun _ _ => rfl) ?_
    refine L_inc (pc := 3330) (pc' := 3333) (ls' := [(0, .ref 2000), (1, .ref 0), (2, .ref 241), (3, .ref 251), (4, .ref 252), (5, .int (i + 4)), (6, .int (μ2 241 12)), (7, .int b)]) (c := 4) (show z_pt 320 3330 = some (9, .iinc 5 4, []) by decide +kernel) (by decide) rfl rfl ?_
    refine L_pure (pc := 3333) (pc' := 28) (ls' := [(0, .ref 2000), (1, .ref 0), (2, .ref 241), (3, .ref 251), (4, .ref 252), (5, .int (i + 4))]) (st' := []) (show z_pt 320 3333 = some (9, .goto (-3305), [6]) by decide +kernel) rfl (fun _ _ => rfl) ?_
    exact kk _ _
theorem pL_arm31 {sc : Nat × (Nat → Int32)} {D J : Nat} {i b : Int32} {μ μ2 : z_Mem} {a : Nat → Int64} {q : Nat → UInt64} {o : z_R} {P : z_LP} (hD : 2 ≤ D) (h1 : pG_starCount μ = some b) (h2 : pm_starCount μ = some (b, μ2)) (kk : Rl sc D 320 28 [(0, .ref 2000), (1, .ref 0), (2, .ref 241), (3, .ref 251), (4, .ref 252), (5, .int (i + 4))] [] μ2 a q o P J) : Rl sc D 320 2016 [(0, .ref 2000), (1, .ref 0), (2, .ref 241), (3, .ref 251), (4, .ref 252), (5, .int i)] [] μ a q o P J := by
  refine L_pure (pc := 2016) (pc' := 2017) (st' := [.ref 0]) (show z_pt 320 2016 = some (9, .aload_n 1, []) by decide +kernel) rfl (fun _ _ => rfl) ?_
  refine L_call (pc := 2017) (rr := []) (show z_pt 320 2017 = some (9, .invokevirtual 282, [0, 108, 0, 2121, 2122, 2123, 1001, 2124]) by decide +kernel) rfl (show z_r2 108 = some (9, 1, true) by decide +kernel) rfl rfl (Or.inr ⟨_, _, rfl, (show z_ci 0 9 = true by decide +kernel)⟩) (pG_starCount_run h1) (by omega) ?_
  refine L_at (pc := 2020) (st := [.int b]) ?_
  refine L_pure (pc := 2020) (pc' := 2021) (st' := [.ref 241, .int b]) (show z_pt 320 2020 = some (9, .aload_n 2, []) by decide +kernel) rfl (fun _ _ => rfl) ?_
  refine L_call (pc := 2021) (rr := [.int b]) (show z_pt 320 2021 = some (9, .invokevirtual 285, [0, 232, 0, 7220, 7221, 7222, 1012, 7223]) by decide +kernel) rfl (show z_r2 232 = some (10, 1, true) by decide +kernel) rfl rfl (Or.inr ⟨_, _, rfl, (show z_ci 241 10 = true by decide +kernel)⟩) (pm_starCount_run (r := (b, μ2)) h2) (by omega) ?_
  refine L_at (pc := 2024) (st := [.int b, .int b]) ?_
  refine L_icT (pc := 2024) (t := 3330) (show z_pt 320 2024 = some (9, .if_icmp .eq 1306, []) by decide +kernel) (by decide) (decide_eq_true rfl) ?_
  refine L_inc (pc := 3330) (pc' := 3333) (ls' := [(0, .ref 2000), (1, .ref 0), (2, .ref 241), (3, .ref 251), (4, .ref 252), (5, .int (i + 4))]) (c := 4) (show z_pt 320 3330 = some (9, .iinc 5 4, []) by decide +kernel) (by decide) rfl rfl ?_
  refine L_pure (pc := 3333) (pc' := 28) (ls' := [(0, .ref 2000), (1, .ref 0), (2, .ref 241), (3, .ref 251), (4, .ref 252), (5, .int (i + 4))]) (st' := []) (show z_pt 320 3333 = some (9, .goto (-3305), [6]) by decide +kernel) rfl (fun _ _ => rfl) ?_
  exact kk
theorem pL_arm32 {sc : Nat × (Nat → Int32)} {D J : Nat} {i c1 : Int32} {b : Int32} {r : Int32 ⊕ Nat} {μ μ2 : z_Mem} {a : Nat → Int64} {q : Nat → UInt64} {o : z_R} {P : z_LP} (hD : 8 ≤ D) (hb1 : z_inb (i + 1) sc.1 = true) (hc1 : sc.2 (i + 1).toNatClampNeg = c1) (h1 : pG_star μ c1 = some r) (h2 : pm_star μ c1 = some (b, μ2)) (hag : z_agI [0] r b (μ2 241 12)) (kk : ∀ (a : Nat → Int64) (q : Nat → UInt64), Rl sc D 320 28 [(0, .ref 2000), (1, .ref 0), (2, .ref 241), (3, .ref 251), (4, .ref 252), (5, .int (i + 4))] [] μ2 a q o P J) : Rl sc D 320 2029 [(0, .ref 2000), (1, .ref 0), (2, .ref 241), (3, .ref 251), (4, .ref 252), (5, .int i)] [] μ a q o P (1 + J) := by
  obtain ⟨a1, q1, hz, hR⟩ := pL_star (sc := sc) (a := a) (q := q) h1 hag
  refine L_pure (pc := 2029) (pc' := 2030) (st' := [.ref 0]) (show z_pt 320 2029 = some (9, .aload_n 1, []) by decide +kernel) rfl (fun _ _ => rfl) ?_
  refine L_pure (pc := 2030) (pc' := 2031) (st' := [.ref 2000, .ref 0]) (show z_pt 320 2030 = some (9, .aload_n 0, []) by decide +kernel) rfl (fun _ _ => rfl) ?_
  refine L_pure (pc := 2031) (pc' := 2033) (st' := [.int i, .ref 2000, .ref 0]) (show z_pt 320 2031 = some (9, .iload 5, []) by decide +kernel) rfl (fun _ _ => rfl) ?_
  refine L_const (pc := 2033) (pc' := 2034) (v := 1) (show z_ptc 320 2033 = some (2034, 1) by decide +kernel) ?_
  refine L_pure (pc := 2034) (pc' := 2035) (st' := [.int (i + 1), .ref 2000, .ref 0]) (show z_pt 320 2034 = some (9, .iadd, []) by decide +kernel) rfl (fun _ _ => rfl) ?_
  refine L_scr (pc := 2035) (show z_pt 320 2035 = some (9, .iaload, []) by decide +kernel) hb1 hc1 ?_
  refine L_pure (pc := 2036) (pc' := 2037) (st' := [.ref 251, .int c1, .ref 0]) (show z_pt 320 2036 = some (9, .aload_n 3, []) by decide +kernel) rfl (fun _ _ => rfl) ?_
  refine L_callF (pc := 2037) (rr := []) (show z_pt 320 2037 = some (9, .invokestatic 286, [5, 299, 3, 4206, 4207, 0, 1000, 4208]) by decide +kernel) rfl (show z_r3 299 = some (11, 4, true) by decide +kernel) rfl rfl hR (by omega) ?_
  refine L_at (pc := 2040) (st := [.int (μ2 241 12)]) ?_
  refine L_pure (pc := 2040) (pc' := 2042) (ls' := [(0, .ref 2000), (1, .ref 0), (2, .ref 241), (3, .ref 251), (4, .ref 252), (5, .int i), (6, .int (μ2 241 12))]) (st' := []) (show z_pt 320 2040 = some (9, .istore 6, []) by decide +kernel) rfl (fun _ _ => rfl) ?_
  refine L_pure (pc := 2042) (pc' := 2043) (st' := [.ref 241]) (show z_pt 320 2042 = some (9, .aload_n 2, []) by decide +kernel) rfl (fun _ _ => rfl) ?_
  refine L_pure (pc := 2043) (pc' := 2044) (st' := [.ref 2000, .ref 241]) (show z_pt 320 2043 = some (9, .aload_n 0, []) by decide +kernel) rfl (fun _ _ => rfl) ?_
  refine L_pure (pc := 2044) (pc' := 2046) (st' := [.int i, .ref 2000, .ref 241]) (show z_pt 320 2044 = some (9, .iload 5, []) by decide +kernel) rfl (fun _ _ => rfl) ?_
  refine L_const (pc := 2046) (pc' := 2047) (v := 1) (show z_ptc 320 2046 = some (2047, 1) by decide +kernel) ?_
  refine L_pure (pc := 2047) (pc' := 2048) (st' := [.int (i + 1), .ref 2000, .ref 241]) (show z_pt 320 2047 = some (9, .iadd, []) by decide +kernel) rfl (fun _ _ => rfl) ?_
  refine L_scr (pc := 2048) (show z_pt 320 2048 = some (9, .iaload, []) by decide +kernel) hb1 hc1 ?_
  refine L_call (pc := 2049) (rr := []) (show z_pt 320 2049 = some (9, .invokevirtual 288, [0, 233, 1, 7224, 7225, 7226, 1012, 7227]) by decide +kernel) rfl (show z_r2 233 = some (10, 2, true) by decide +kernel) rfl rfl (Or.inr ⟨_, _, rfl, (show z_ci 241 10 = true by decide +kernel)⟩) (pm_star_run (r := (b, μ2)) h2) (by omega) ?_
  refine L_at (pc := 2052) (st := [.int b]) ?_
  refine L_pure (pc := 2052) (pc' := 2054) (ls' := [(0, .ref 2000), (1, .ref 0), (2, .ref 241), (3, .ref 251), (4, .ref 252), (5, .int i), (6, .int (μ2 241 12)), (7, .int b)]) (st' := []) (show z_pt 320 2052 = some (9, .istore 7, []) by decide +kernel) rfl (fun _ _ => rfl) ?_
  refine L_pure (pc := 2054) (pc' := 2055) (st' := [.ref 241]) (show z_pt 320 2054 = some (9, .aload_n 2, []) by decide +kernel) rfl (fun _ _ => rfl) ?_
  refine L_call (pc := 2055) (rr := []) (show z_pt 320 2055 = some (9, .invokevirtual 181, [0, 159, 0, 6173, 6174, 6175, 1012, 6176]) by decide +kernel) rfl (show z_r2 159 = some (10, 1, true) by decide +kernel) rfl rfl (Or.inr ⟨_, _, rfl, (show z_ci 241 10 = true by decide +kernel)⟩) (pm_thrown_run (r := μ2 241 12) rfl) (by omega) ?_
  refine L_at (pc := 2058) (st := [.int (μ2 241 12)]) ?_
  refine L_pure (pc := 2058) (pc' := 2060) (st' := [.int (μ2 241 12), .int (μ2 241 12)]) (show z_pt 320 2058 = some (9, .iload 6, []) by decide +kernel) rfl (fun _ _ => rfl) ?_
  refine L_icT (pc := 2060) (t := 2065) (show z_pt 320 2060 = some (9, .if_icmp .eq 5, []) by decide +kernel) (by decide) (decide_eq_true rfl) ?_
  refine L_pure (pc := 2065) (pc' := 2067) (st' := [.int (μ2 241 12)]) (show z_pt 320 2065 = some (9, .iload 6, []) by decide +kernel) rfl (fun _ _ => rfl) ?_
  by_cases hz0 : μ2 241 12 = 0
  · refine L_ifF (pc := 2067) (t := 2082) (show z_pt 320 2067 = some (9, .ifCond .ne 15, []) by decide +kernel) (by decide) (decide_eq_false (fun h => h hz0)) ?_
    refine L_pure (pc := 2070) (pc' := 2071) (st' := [.ref 251]) (show z_pt 320 2070 = some (9, .aload_n 3, []) by decide +kernel) rfl (fun _ _ => rfl) ?_
    refine L_const (pc := 2071) (pc' := 2072) (v := 0) (show z_ptc 320 2071 = some (2072, 0) by decide +kernel) ?_
    refine L_lald (pc := 2072) (show z_pt 320 2072 = some (9, .laload, []) by decide +kernel) ?_
    refine L_pure (pc := 2073) (pc' := 2075) (st' := [.int b, .long (a1 0)]) (show z_pt 320 2073 = some (9, .iload 7, []) by decide +kernel) rfl (fun _ _ => rfl) ?_
    refine L_pure (pc := 2075) (pc' := 2076) (st' := [.long (Int32.toInt64 b), .long (a1 0)]) (show z_pt 320 2075 = some (9, .i2l, []) by decide +kernel) rfl (fun _ _ => rfl) ?_
    refine L_pure (pc := 2076) (pc' := 2077) (st' := [.int (lg_cmp (a1 0) (Int32.toInt64 b))]) (show z_pt 320 2076 = some (9, .lcmp, []) by decide +kernel) rfl (fun _ _ => rfl) ?_
    refine L_ifT (pc := 2077) (t := 2082) (show z_pt 320 2077 = some (9, .ifCond .eq 5, []) by decide +kernel) (by decide) (z_lc (hz hz0)) ?_
    refine L_pure (pc := 2082) (pc' := 3330) (show z_pt 320 2082 = some (9, .goto 1248, []) by decide +kernel) rfl (fun _ _ => rfl) ?_
    refine L_inc (pc := 3330) (pc' := 3333) (ls' := [(0, .ref 2000), (1, .ref 0), (2, .ref 241), (3, .ref 251), (4, .ref 252), (5, .int (i + 4)), (6, .int (μ2 241 12)), (7, .int b)]) (c := 4) (show z_pt 320 3330 = some (9, .iinc 5 4, []) by decide +kernel) (by decide) rfl rfl ?_
    refine L_pure (pc := 3333) (pc' := 28) (ls' := [(0, .ref 2000), (1, .ref 0), (2, .ref 241), (3, .ref 251), (4, .ref 252), (5, .int (i + 4))]) (st' := []) (show z_pt 320 3333 = some (9, .goto (-3305), [6]) by decide +kernel) rfl (fun _ _ => rfl) ?_
    exact kk _ _
  · refine L_ifT (pc := 2067) (t := 2082) (show z_pt 320 2067 = some (9, .ifCond .ne 15, []) by decide +kernel) (by decide) (decide_eq_true hz0) ?_
    refine L_pure (pc := 2082) (pc' := 3330) (show z_pt 320 2082 = some (9, .goto 1248, []) by decide +kernel) rfl (fun _ _ => rfl) ?_
    refine L_inc (pc := 3330) (pc' := 3333) (ls' := [(0, .ref 2000), (1, .ref 0), (2, .ref 241), (3, .ref 251), (4, .ref 252), (5, .int (i + 4)), (6, .int (μ2 241 12)), (7, .int b)]) (c := 4) (show z_pt 320 3330 = some (9, .iinc 5 4, []) by decide +kernel) (by decide) rfl rfl ?_
    refine L_pure (pc := 3333) (pc' := 28) (ls' := [(0, .ref 2000), (1, .ref 0), (2, .ref 241), (3, .ref 251), (4, .ref 252), (5, .int (i + 4))]) (st' := []) (show z_pt 320 3333 = some (9, .goto (-3305), [6]) by decide +kernel) rfl (fun _ _ => rfl) ?_
    exact kk _ _
theorem pL_arm33 {sc : Nat × (Nat → Int32)} {D J : Nat} {i c1 : Int32} {b : Int32} {r : Int32 ⊕ Nat} {μ μ2 : z_Mem} {a : Nat → Int64} {q : Nat → UInt64} {o : z_R} {P : z_LP} (hD : 9 ≤ D) (hb1 : z_inb (i + 1) sc.1 = true) (hc1 : sc.2 (i + 1).toNatClampNeg = c1) (h1 : pG_direction μ c1 = some r) (h2 : pm_direction μ c1 = some (b, μ2)) (hag : z_agI [3] r b (μ2 241 12)) (kk : ∀ (a : Nat → Int64) (q : Nat → UInt64), Rl sc D 320 28 [(0, .ref 2000), (1, .ref 0), (2, .ref 241), (3, .ref 251), (4, .ref 252), (5, .int (i + 4))] [] μ2 a q o P J) : Rl sc D 320 2085 [(0, .ref 2000), (1, .ref 0), (2, .ref 241), (3, .ref 251), (4, .ref 252), (5, .int i)] [] μ a q o P (1 + J) := by
  obtain ⟨a1, q1, hz, hR⟩ := pL_direction (sc := sc) (a := a) (q := q) h1 hag
  refine L_pure (pc := 2085) (pc' := 2086) (st' := [.ref 0]) (show z_pt 320 2085 = some (9, .aload_n 1, []) by decide +kernel) rfl (fun _ _ => rfl) ?_
  refine L_pure (pc := 2086) (pc' := 2087) (st' := [.ref 2000, .ref 0]) (show z_pt 320 2086 = some (9, .aload_n 0, []) by decide +kernel) rfl (fun _ _ => rfl) ?_
  refine L_pure (pc := 2087) (pc' := 2089) (st' := [.int i, .ref 2000, .ref 0]) (show z_pt 320 2087 = some (9, .iload 5, []) by decide +kernel) rfl (fun _ _ => rfl) ?_
  refine L_const (pc := 2089) (pc' := 2090) (v := 1) (show z_ptc 320 2089 = some (2090, 1) by decide +kernel) ?_
  refine L_pure (pc := 2090) (pc' := 2091) (st' := [.int (i + 1), .ref 2000, .ref 0]) (show z_pt 320 2090 = some (9, .iadd, []) by decide +kernel) rfl (fun _ _ => rfl) ?_
  refine L_scr (pc := 2091) (show z_pt 320 2091 = some (9, .iaload, []) by decide +kernel) hb1 hc1 ?_
  refine L_pure (pc := 2092) (pc' := 2093) (st' := [.ref 251, .int c1, .ref 0]) (show z_pt 320 2092 = some (9, .aload_n 3, []) by decide +kernel) rfl (fun _ _ => rfl) ?_
  refine L_callF (pc := 2093) (rr := []) (show z_pt 320 2093 = some (9, .invokestatic 289, [5, 300, 3, 4213, 4214, 0, 1000, 4215]) by decide +kernel) rfl (show z_r3 300 = some (11, 4, true) by decide +kernel) rfl rfl hR (by omega) ?_
  refine L_at (pc := 2096) (st := [.int (μ2 241 12)]) ?_
  refine L_pure (pc := 2096) (pc' := 2098) (ls' := [(0, .ref 2000), (1, .ref 0), (2, .ref 241), (3, .ref 251), (4, .ref 252), (5, .int i), (6, .int (μ2 241 12))]) (st' := []) (show z_pt 320 2096 = some (9, .istore 6, []) by decide +kernel) rfl (fun _ _ => rfl) ?_
  refine L_pure (pc := 2098) (pc' := 2099) (st' := [.ref 241]) (show z_pt 320 2098 = some (9, .aload_n 2, []) by decide +kernel) rfl (fun _ _ => rfl) ?_
  refine L_pure (pc := 2099) (pc' := 2100) (st' := [.ref 2000, .ref 241]) (show z_pt 320 2099 = some (9, .aload_n 0, []) by decide +kernel) rfl (fun _ _ => rfl) ?_
  refine L_pure (pc := 2100) (pc' := 2102) (st' := [.int i, .ref 2000, .ref 241]) (show z_pt 320 2100 = some (9, .iload 5, []) by decide +kernel) rfl (fun _ _ => rfl) ?_
  refine L_const (pc := 2102) (pc' := 2103) (v := 1) (show z_ptc 320 2102 = some (2103, 1) by decide +kernel) ?_
  refine L_pure (pc := 2103) (pc' := 2104) (st' := [.int (i + 1), .ref 2000, .ref 241]) (show z_pt 320 2103 = some (9, .iadd, []) by decide +kernel) rfl (fun _ _ => rfl) ?_
  refine L_scr (pc := 2104) (show z_pt 320 2104 = some (9, .iaload, []) by decide +kernel) hb1 hc1 ?_
  refine L_call (pc := 2105) (rr := []) (show z_pt 320 2105 = some (9, .invokevirtual 291, [0, 234, 1, 7228, 7229, 7230, 1012, 7231]) by decide +kernel) rfl (show z_r2 234 = some (10, 3, true) by decide +kernel) rfl rfl (Or.inr ⟨_, _, rfl, (show z_ci 241 10 = true by decide +kernel)⟩) (pm_direction_run (r := (b, μ2)) h2) (by omega) ?_
  refine L_at (pc := 2108) (st := [.int b]) ?_
  refine L_pure (pc := 2108) (pc' := 2110) (ls' := [(0, .ref 2000), (1, .ref 0), (2, .ref 241), (3, .ref 251), (4, .ref 252), (5, .int i), (6, .int (μ2 241 12)), (7, .int b)]) (st' := []) (show z_pt 320 2108 = some (9, .istore 7, []) by decide +kernel) rfl (fun _ _ => rfl) ?_
  refine L_pure (pc := 2110) (pc' := 2111) (st' := [.ref 241]) (show z_pt 320 2110 = some (9, .aload_n 2, []) by decide +kernel) rfl (fun _ _ => rfl) ?_
  refine L_call (pc := 2111) (rr := []) (show z_pt 320 2111 = some (9, .invokevirtual 181, [0, 159, 0, 6173, 6174, 6175, 1012, 6176]) by decide +kernel) rfl (show z_r2 159 = some (10, 1, true) by decide +kernel) rfl rfl (Or.inr ⟨_, _, rfl, (show z_ci 241 10 = true by decide +kernel)⟩) (pm_thrown_run (r := μ2 241 12) rfl) (by omega) ?_
  refine L_at (pc := 2114) (st := [.int (μ2 241 12)]) ?_
  refine L_pure (pc := 2114) (pc' := 2116) (st' := [.int (μ2 241 12), .int (μ2 241 12)]) (show z_pt 320 2114 = some (9, .iload 6, []) by decide +kernel) rfl (fun _ _ => rfl) ?_
  refine L_icT (pc := 2116) (t := 2121) (show z_pt 320 2116 = some (9, .if_icmp .eq 5, []) by decide +kernel) (by decide) (decide_eq_true rfl) ?_
  refine L_pure (pc := 2121) (pc' := 2123) (st' := [.int (μ2 241 12)]) (show z_pt 320 2121 = some (9, .iload 6, []) by decide +kernel) rfl (fun _ _ => rfl) ?_
  by_cases hz0 : μ2 241 12 = 0
  · refine L_ifF (pc := 2123) (t := 2138) (show z_pt 320 2123 = some (9, .ifCond .ne 15, []) by decide +kernel) (by decide) (decide_eq_false (fun h => h hz0)) ?_
    refine L_pure (pc := 2126) (pc' := 2127) (st' := [.ref 251]) (show z_pt 320 2126 = some (9, .aload_n 3, []) by decide +kernel) rfl (fun _ _ => rfl) ?_
    refine L_const (pc := 2127) (pc' := 2128) (v := 0) (show z_ptc 320 2127 = some (2128, 0) by decide +kernel) ?_
    refine L_lald (pc := 2128) (show z_pt 320 2128 = some (9, .laload, []) by decide +kernel) ?_
    refine L_pure (pc := 2129) (pc' := 2131) (st' := [.int b, .long (a1 0)]) (show z_pt 320 2129 = some (9, .iload 7, []) by decide +kernel) rfl (fun _ _ => rfl) ?_
    refine L_pure (pc := 2131) (pc' := 2132) (st' := [.long (Int32.toInt64 b), .long (a1 0)]) (show z_pt 320 2131 = some (9, .i2l, []) by decide +kernel) rfl (fun _ _ => rfl) ?_
    refine L_pure (pc := 2132) (pc' := 2133) (st' := [.int (lg_cmp (a1 0) (Int32.toInt64 b))]) (show z_pt 320 2132 = some (9, .lcmp, []) by decide +kernel) rfl (fun _ _ => rfl) ?_
    refine L_ifT (pc := 2133) (t := 2138) (show z_pt 320 2133 = some (9, .ifCond .eq 5, []) by decide +kernel) (by decide) (z_lc (hz hz0)) ?_
    refine L_pure (pc := 2138) (pc' := 3330) (show z_pt 320 2138 = some (9, .goto 1192, []) by decide +kernel) rfl (fun _ _ => rfl) ?_
    refine L_inc (pc := 3330) (pc' := 3333) (ls' := [(0, .ref 2000), (1, .ref 0), (2, .ref 241), (3, .ref 251), (4, .ref 252), (5, .int (i + 4)), (6, .int (μ2 241 12)), (7, .int b)]) (c := 4) (show z_pt 320 3330 = some (9, .iinc 5 4, []) by decide +kernel) (by decide) rfl rfl ?_
    refine L_pure (pc := 3333) (pc' := 28) (ls' := [(0, .ref 2000), (1, .ref 0), (2, .ref 241), (3, .ref 251), (4, .ref 252), (5, .int (i + 4))]) (st' := []) (show z_pt 320 3333 = some (9, .goto (-3305), [6]) by decide +kernel) rfl (fun _ _ => rfl) ?_
    exact kk _ _
  · refine L_ifT (pc := 2123) (t := 2138) (show z_pt 320 2123 = some (9, .ifCond .ne 15, []) by decide +kernel) (by decide) (decide_eq_true hz0) ?_
    refine L_pure (pc := 2138) (pc' := 3330) (show z_pt 320 2138 = some (9, .goto 1192, []) by decide +kernel) rfl (fun _ _ => rfl) ?_
    refine L_inc (pc := 3330) (pc' := 3333) (ls' := [(0, .ref 2000), (1, .ref 0), (2, .ref 241), (3, .ref 251), (4, .ref 252), (5, .int (i + 4)), (6, .int (μ2 241 12)), (7, .int b)]) (c := 4) (show z_pt 320 3330 = some (9, .iinc 5 4, []) by decide +kernel) (by decide) rfl rfl ?_
    refine L_pure (pc := 3333) (pc' := 28) (ls' := [(0, .ref 2000), (1, .ref 0), (2, .ref 241), (3, .ref 251), (4, .ref 252), (5, .int (i + 4))]) (st' := []) (show z_pt 320 3333 = some (9, .goto (-3305), [6]) by decide +kernel) rfl (fun _ _ => rfl) ?_
    exact kk _ _
theorem pL_arm34 {sc : Nat × (Nat → Int32)} {D J : Nat} {i c1 : Int32} {b : Int32} {r : Int32 ⊕ Nat} {μ μ1 μ2 : z_Mem} {a : Nat → Int64} {q : Nat → UInt64} {o : z_R} {P : z_LP} (hD : 9 ≤ D) (hb1 : z_inb (i + 1) sc.1 = true) (hc1 : sc.2 (i + 1).toNatClampNeg = c1) (h1 : pG_passHours μ c1 = some (r, μ1)) (h2 : pm_passHours μ1 c1 = some (b, μ2)) (hag : z_agI [1] r b (μ2 241 12)) (kk : ∀ (a : Nat → Int64) (q : Nat → UInt64), Rl sc D 320 28 [(0, .ref 2000), (1, .ref 0), (2, .ref 241), (3, .ref 251), (4, .ref 252), (5, .int (i + 4))] [] μ2 a q o P J) : Rl sc D 320 2141 [(0, .ref 2000), (1, .ref 0), (2, .ref 241), (3, .ref 251), (4, .ref 252), (5, .int i)] [] μ a q o P (1 + J) := by
  obtain ⟨a1, q1, hz, hR⟩ := pL_passHours (sc := sc) (a := a) (q := q) h1 hag
  refine L_pure (pc := 2141) (pc' := 2142) (st' := [.ref 0]) (show z_pt 320 2141 = some (9, .aload_n 1, []) by decide +kernel) rfl (fun _ _ => rfl) ?_
  refine L_pure (pc := 2142) (pc' := 2143) (st' := [.ref 2000, .ref 0]) (show z_pt 320 2142 = some (9, .aload_n 0, []) by decide +kernel) rfl (fun _ _ => rfl) ?_
  refine L_pure (pc := 2143) (pc' := 2145) (st' := [.int i, .ref 2000, .ref 0]) (show z_pt 320 2143 = some (9, .iload 5, []) by decide +kernel) rfl (fun _ _ => rfl) ?_
  refine L_const (pc := 2145) (pc' := 2146) (v := 1) (show z_ptc 320 2145 = some (2146, 1) by decide +kernel) ?_
  refine L_pure (pc := 2146) (pc' := 2147) (st' := [.int (i + 1), .ref 2000, .ref 0]) (show z_pt 320 2146 = some (9, .iadd, []) by decide +kernel) rfl (fun _ _ => rfl) ?_
  refine L_scr (pc := 2147) (show z_pt 320 2147 = some (9, .iaload, []) by decide +kernel) hb1 hc1 ?_
  refine L_pure (pc := 2148) (pc' := 2149) (st' := [.ref 251, .int c1, .ref 0]) (show z_pt 320 2148 = some (9, .aload_n 3, []) by decide +kernel) rfl (fun _ _ => rfl) ?_
  refine L_callF (pc := 2149) (rr := []) (show z_pt 320 2149 = some (9, .invokestatic 292, [5, 301, 3, 4220, 4221, 0, 1000, 4222]) by decide +kernel) rfl (show z_r3 301 = some (11, 4, true) by decide +kernel) rfl rfl hR (by omega) ?_
  refine L_at (pc := 2152) (st := [.int (μ2 241 12)]) ?_
  refine L_pure (pc := 2152) (pc' := 2154) (ls' := [(0, .ref 2000), (1, .ref 0), (2, .ref 241), (3, .ref 251), (4, .ref 252), (5, .int i), (6, .int (μ2 241 12))]) (st' := []) (show z_pt 320 2152 = some (9, .istore 6, []) by decide +kernel) rfl (fun _ _ => rfl) ?_
  refine L_pure (pc := 2154) (pc' := 2155) (st' := [.ref 241]) (show z_pt 320 2154 = some (9, .aload_n 2, []) by decide +kernel) rfl (fun _ _ => rfl) ?_
  refine L_pure (pc := 2155) (pc' := 2156) (st' := [.ref 2000, .ref 241]) (show z_pt 320 2155 = some (9, .aload_n 0, []) by decide +kernel) rfl (fun _ _ => rfl) ?_
  refine L_pure (pc := 2156) (pc' := 2158) (st' := [.int i, .ref 2000, .ref 241]) (show z_pt 320 2156 = some (9, .iload 5, []) by decide +kernel) rfl (fun _ _ => rfl) ?_
  refine L_const (pc := 2158) (pc' := 2159) (v := 1) (show z_ptc 320 2158 = some (2159, 1) by decide +kernel) ?_
  refine L_pure (pc := 2159) (pc' := 2160) (st' := [.int (i + 1), .ref 2000, .ref 241]) (show z_pt 320 2159 = some (9, .iadd, []) by decide +kernel) rfl (fun _ _ => rfl) ?_
  refine L_scr (pc := 2160) (show z_pt 320 2160 = some (9, .iaload, []) by decide +kernel) hb1 hc1 ?_
  refine L_call (pc := 2161) (rr := []) (show z_pt 320 2161 = some (9, .invokevirtual 294, [0, 236, 1, 7232, 7233, 7234, 1012, 7235]) by decide +kernel) rfl (show z_r2 236 = some (10, 2, true) by decide +kernel) rfl rfl (Or.inr ⟨_, _, rfl, (show z_ci 241 10 = true by decide +kernel)⟩) (pm_passHours_run (r := (b, μ2)) h2) (by omega) ?_
  refine L_at (pc := 2164) (st := [.int b]) ?_
  refine L_pure (pc := 2164) (pc' := 2166) (ls' := [(0, .ref 2000), (1, .ref 0), (2, .ref 241), (3, .ref 251), (4, .ref 252), (5, .int i), (6, .int (μ2 241 12)), (7, .int b)]) (st' := []) (show z_pt 320 2164 = some (9, .istore 7, []) by decide +kernel) rfl (fun _ _ => rfl) ?_
  refine L_pure (pc := 2166) (pc' := 2167) (st' := [.ref 241]) (show z_pt 320 2166 = some (9, .aload_n 2, []) by decide +kernel) rfl (fun _ _ => rfl) ?_
  refine L_call (pc := 2167) (rr := []) (show z_pt 320 2167 = some (9, .invokevirtual 181, [0, 159, 0, 6173, 6174, 6175, 1012, 6176]) by decide +kernel) rfl (show z_r2 159 = some (10, 1, true) by decide +kernel) rfl rfl (Or.inr ⟨_, _, rfl, (show z_ci 241 10 = true by decide +kernel)⟩) (pm_thrown_run (r := μ2 241 12) rfl) (by omega) ?_
  refine L_at (pc := 2170) (st := [.int (μ2 241 12)]) ?_
  refine L_pure (pc := 2170) (pc' := 2172) (st' := [.int (μ2 241 12), .int (μ2 241 12)]) (show z_pt 320 2170 = some (9, .iload 6, []) by decide +kernel) rfl (fun _ _ => rfl) ?_
  refine L_icT (pc := 2172) (t := 2177) (show z_pt 320 2172 = some (9, .if_icmp .eq 5, []) by decide +kernel) (by decide) (decide_eq_true rfl) ?_
  refine L_pure (pc := 2177) (pc' := 2179) (st' := [.int (μ2 241 12)]) (show z_pt 320 2177 = some (9, .iload 6, []) by decide +kernel) rfl (fun _ _ => rfl) ?_
  by_cases hz0 : μ2 241 12 = 0
  · refine L_ifF (pc := 2179) (t := 2194) (show z_pt 320 2179 = some (9, .ifCond .ne 15, []) by decide +kernel) (by decide) (decide_eq_false (fun h => h hz0)) ?_
    refine L_pure (pc := 2182) (pc' := 2183) (st' := [.ref 251]) (show z_pt 320 2182 = some (9, .aload_n 3, []) by decide +kernel) rfl (fun _ _ => rfl) ?_
    refine L_const (pc := 2183) (pc' := 2184) (v := 0) (show z_ptc 320 2183 = some (2184, 0) by decide +kernel) ?_
    refine L_lald (pc := 2184) (show z_pt 320 2184 = some (9, .laload, []) by decide +kernel) ?_
    refine L_pure (pc := 2185) (pc' := 2187) (st' := [.int b, .long (a1 0)]) (show z_pt 320 2185 = some (9, .iload 7, []) by decide +kernel) rfl (fun _ _ => rfl) ?_
    refine L_pure (pc := 2187) (pc' := 2188) (st' := [.long (Int32.toInt64 b), .long (a1 0)]) (show z_pt 320 2187 = some (9, .i2l, []) by decide +kernel) rfl (fun _ _ => rfl) ?_
    refine L_pure (pc := 2188) (pc' := 2189) (st' := [.int (lg_cmp (a1 0) (Int32.toInt64 b))]) (show z_pt 320 2188 = some (9, .lcmp, []) by decide +kernel) rfl (fun _ _ => rfl) ?_
    refine L_ifT (pc := 2189) (t := 2194) (show z_pt 320 2189 = some (9, .ifCond .eq 5, []) by decide +kernel) (by decide) (z_lc (hz hz0)) ?_
    refine L_pure (pc := 2194) (pc' := 3330) (show z_pt 320 2194 = some (9, .goto 1136, []) by decide +kernel) rfl (fun _ _ => rfl) ?_
    refine L_inc (pc := 3330) (pc' := 3333) (ls' := [(0, .ref 2000), (1, .ref 0), (2, .ref 241), (3, .ref 251), (4, .ref 252), (5, .int (i + 4)), (6, .int (μ2 241 12)), (7, .int b)]) (c := 4) (show z_pt 320 3330 = some (9, .iinc 5 4, []) by decide +kernel) (by decide) rfl rfl ?_
    refine L_pure (pc := 3333) (pc' := 28) (ls' := [(0, .ref 2000), (1, .ref 0), (2, .ref 241), (3, .ref 251), (4, .ref 252), (5, .int (i + 4))]) (st' := []) (show z_pt 320 3333 = some (9, .goto (-3305), [6]) by decide +kernel) rfl (fun _ _ => rfl) ?_
    exact kk _ _
  · refine L_ifT (pc := 2179) (t := 2194) (show z_pt 320 2179 = some (9, .ifCond .ne 15, []) by decide +kernel) (by decide) (decide_eq_true hz0) ?_
    refine L_pure (pc := 2194) (pc' := 3330) (show z_pt 320 2194 = some (9, .goto 1136, []) by decide +kernel) rfl (fun _ _ => rfl) ?_
    refine L_inc (pc := 3330) (pc' := 3333) (ls' := [(0, .ref 2000), (1, .ref 0), (2, .ref 241), (3, .ref 251), (4, .ref 252), (5, .int (i + 4)), (6, .int (μ2 241 12)), (7, .int b)]) (c := 4) (show z_pt 320 3330 = some (9, .iinc 5 4, []) by decide +kernel) (by decide) rfl rfl ?_
    refine L_pure (pc := 3333) (pc' := 28) (ls' := [(0, .ref 2000), (1, .ref 0), (2, .ref 241), (3, .ref 251), (4, .ref 252), (5, .int (i + 4))]) (st' := []) (show z_pt 320 3333 = some (9, .goto (-3305), [6]) by decide +kernel) rfl (fun _ _ => rfl) ?_
    exact kk _ _
theorem pL_arm35 {sc : Nat × (Nat → Int32)} {D J : Nat} {i c1 c2 : Int32} {b : Int32} {r : Int32 ⊕ Nat} {μ μ2 : z_Mem} {a : Nat → Int64} {q : Nat → UInt64} {o : z_R} {P : z_LP} (hD : 9 ≤ D) (hb1 : z_inb (i + 1) sc.1 = true) (hc1 : sc.2 (i + 1).toNatClampNeg = c1) (hb2 : z_inb (i + 2) sc.1 = true) (hc2 : sc.2 (i + 2).toNatClampNeg = c2) (h1 : pG_directionAfter μ c1 c2 = some r) (h2 : pm_directionAfter μ c1 c2 = some (b, μ2)) (hag : z_agI [3, 1] r b (μ2 241 12)) (kk : ∀ (a : Nat → Int64) (q : Nat → UInt64), Rl sc D 320 28 [(0, .ref 2000), (1, .ref 0), (2, .ref 241), (3, .ref 251), (4, .ref 252), (5, .int (i + 4))] [] μ2 a q o P J) : Rl sc D 320 2197 [(0, .ref 2000), (1, .ref 0), (2, .ref 241), (3, .ref 251), (4, .ref 252), (5, .int i)] [] μ a q o P (1 + J) := by
  obtain ⟨a1, q1, hz, hR⟩ := pL_directionAfter (sc := sc) (a := a) (q := q) h1 hag
  refine L_pure (pc := 2197) (pc' := 2198) (st' := [.ref 0]) (show z_pt 320 2197 = some (9, .aload_n 1, []) by decide +kernel) rfl (fun _ _ => rfl) ?_
  refine L_pure (pc := 2198) (pc' := 2199) (st' := [.ref 2000, .ref 0]) (show z_pt 320 2198 = some (9, .aload_n 0, []) by decide +kernel) rfl (fun _ _ => rfl) ?_
  refine L_pure (pc := 2199) (pc' := 2201) (st' := [.int i, .ref 2000, .ref 0]) (show z_pt 320 2199 = some (9, .iload 5, []) by decide +kernel) rfl (fun _ _ => rfl) ?_
  refine L_const (pc := 2201) (pc' := 2202) (v := 1) (show z_ptc 320 2201 = some (2202, 1) by decide +kernel) ?_
  refine L_pure (pc := 2202) (pc' := 2203) (st' := [.int (i + 1), .ref 2000, .ref 0]) (show z_pt 320 2202 = some (9, .iadd, []) by decide +kernel) rfl (fun _ _ => rfl) ?_
  refine L_scr (pc := 2203) (show z_pt 320 2203 = some (9, .iaload, []) by decide +kernel) hb1 hc1 ?_
  refine L_pure (pc := 2204) (pc' := 2205) (st' := [.ref 2000, .int c1, .ref 0]) (show z_pt 320 2204 = some (9, .aload_n 0, []) by decide +kernel) rfl (fun _ _ => rfl) ?_
  refine L_pure (pc := 2205) (pc' := 2207) (st' := [.int i, .ref 2000, .int c1, .ref 0]) (show z_pt 320 2205 = some (9, .iload 5, []) by decide +kernel) rfl (fun _ _ => rfl) ?_
  refine L_const (pc := 2207) (pc' := 2208) (v := 2) (show z_ptc 320 2207 = some (2208, 2) by decide +kernel) ?_
  refine L_pure (pc := 2208) (pc' := 2209) (st' := [.int (i + 2), .ref 2000, .int c1, .ref 0]) (show z_pt 320 2208 = some (9, .iadd, []) by decide +kernel) rfl (fun _ _ => rfl) ?_
  refine L_scr (pc := 2209) (show z_pt 320 2209 = some (9, .iaload, []) by decide +kernel) hb2 hc2 ?_
  refine L_pure (pc := 2210) (pc' := 2211) (st' := [.ref 251, .int c2, .int c1, .ref 0]) (show z_pt 320 2210 = some (9, .aload_n 3, []) by decide +kernel) rfl (fun _ _ => rfl) ?_
  refine L_callF (pc := 2211) (rr := []) (show z_pt 320 2211 = some (9, .invokestatic 295, [5, 302, 4, 5000, 5001, 0, 1000, 5002]) by decide +kernel) rfl (show z_r3 302 = some (11, 5, true) by decide +kernel) rfl rfl hR (by omega) ?_
  refine L_at (pc := 2214) (st := [.int (μ2 241 12)]) ?_
  refine L_pure (pc := 2214) (pc' := 2216) (ls' := [(0, .ref 2000), (1, .ref 0), (2, .ref 241), (3, .ref 251), (4, .ref 252), (5, .int i), (6, .int (μ2 241 12))]) (st' := []) (show z_pt 320 2214 = some (9, .istore 6, []) by decide +kernel) rfl (fun _ _ => rfl) ?_
  refine L_pure (pc := 2216) (pc' := 2217) (st' := [.ref 241]) (show z_pt 320 2216 = some (9, .aload_n 2, []) by decide +kernel) rfl (fun _ _ => rfl) ?_
  refine L_pure (pc := 2217) (pc' := 2218) (st' := [.ref 2000, .ref 241]) (show z_pt 320 2217 = some (9, .aload_n 0, []) by decide +kernel) rfl (fun _ _ => rfl) ?_
  refine L_pure (pc := 2218) (pc' := 2220) (st' := [.int i, .ref 2000, .ref 241]) (show z_pt 320 2218 = some (9, .iload 5, []) by decide +kernel) rfl (fun _ _ => rfl) ?_
  refine L_const (pc := 2220) (pc' := 2221) (v := 1) (show z_ptc 320 2220 = some (2221, 1) by decide +kernel) ?_
  refine L_pure (pc := 2221) (pc' := 2222) (st' := [.int (i + 1), .ref 2000, .ref 241]) (show z_pt 320 2221 = some (9, .iadd, []) by decide +kernel) rfl (fun _ _ => rfl) ?_
  refine L_scr (pc := 2222) (show z_pt 320 2222 = some (9, .iaload, []) by decide +kernel) hb1 hc1 ?_
  refine L_pure (pc := 2223) (pc' := 2224) (st' := [.ref 2000, .int c1, .ref 241]) (show z_pt 320 2223 = some (9, .aload_n 0, []) by decide +kernel) rfl (fun _ _ => rfl) ?_
  refine L_pure (pc := 2224) (pc' := 2226) (st' := [.int i, .ref 2000, .int c1, .ref 241]) (show z_pt 320 2224 = some (9, .iload 5, []) by decide +kernel) rfl (fun _ _ => rfl) ?_
  refine L_const (pc := 2226) (pc' := 2227) (v := 2) (show z_ptc 320 2226 = some (2227, 2) by decide +kernel) ?_
  refine L_pure (pc := 2227) (pc' := 2228) (st' := [.int (i + 2), .ref 2000, .int c1, .ref 241]) (show z_pt 320 2227 = some (9, .iadd, []) by decide +kernel) rfl (fun _ _ => rfl) ?_
  refine L_scr (pc := 2228) (show z_pt 320 2228 = some (9, .iaload, []) by decide +kernel) hb2 hc2 ?_
  refine L_call (pc := 2229) (rr := []) (show z_pt 320 2229 = some (9, .invokevirtual 297, [0, 237, 2, 8000, 8001, 8002, 1012, 8003]) by decide +kernel) rfl (show z_r2 237 = some (10, 4, true) by decide +kernel) rfl rfl (Or.inr ⟨_, _, rfl, (show z_ci 241 10 = true by decide +kernel)⟩) (pm_directionAfter_run (r := (b, μ2)) h2) (by omega) ?_
  refine L_at (pc := 2232) (st := [.int b]) ?_
  refine L_pure (pc := 2232) (pc' := 2234) (ls' := [(0, .ref 2000), (1, .ref 0), (2, .ref 241), (3, .ref 251), (4, .ref 252), (5, .int i), (6, .int (μ2 241 12)), (7, .int b)]) (st' := []) (show z_pt 320 2232 = some (9, .istore 7, []) by decide +kernel) rfl (fun _ _ => rfl) ?_
  refine L_pure (pc := 2234) (pc' := 2235) (st' := [.ref 241]) (show z_pt 320 2234 = some (9, .aload_n 2, []) by decide +kernel) rfl (fun _ _ => rfl) ?_
  refine L_call (pc := 2235) (rr := []) (show z_pt 320 2235 = some (9, .invokevirtual 181, [0, 159, 0, 6173, 6174, 6175, 1012, 6176]) by decide +kernel) rfl (show z_r2 159 = some (10, 1, true) by decide +kernel) rfl rfl (Or.inr ⟨_, _, rfl, (show z_ci 241 10 = true by decide +kernel)⟩) (pm_thrown_run (r := μ2 241 12) rfl) (by omega) ?_
  refine L_at (pc := 2238) (st := [.int (μ2 241 12)]) ?_
  refine L_pure (pc := 2238) (pc' := 2240) (st' := [.int (μ2 241 12), .int (μ2 241 12)]) (show z_pt 320 2238 = some (9, .iload 6, []) by decide +kernel) rfl (fun _ _ => rfl) ?_
  refine L_icT (pc := 2240) (t := 2245) (show z_pt 320 2240 = some (9, .if_icmp .eq 5, []) by decide +kernel) (by decide) (decide_eq_true rfl) ?_
  refine L_pure (pc := 2245) (pc' := 2247) (st' := [.int (μ2 241 12)]) (show z_pt 320 2245 = some (9, .iload 6, []) by decide +kernel) rfl (fun _ _ => rfl) ?_
  by_cases hz0 : μ2 241 12 = 0
  · refine L_ifF (pc := 2247) (t := 2262) (show z_pt 320 2247 = some (9, .ifCond .ne 15, []) by decide +kernel) (by decide) (decide_eq_false (fun h => h hz0)) ?_
    refine L_pure (pc := 2250) (pc' := 2251) (st' := [.ref 251]) (show z_pt 320 2250 = some (9, .aload_n 3, []) by decide +kernel) rfl (fun _ _ => rfl) ?_
    refine L_const (pc := 2251) (pc' := 2252) (v := 0) (show z_ptc 320 2251 = some (2252, 0) by decide +kernel) ?_
    refine L_lald (pc := 2252) (show z_pt 320 2252 = some (9, .laload, []) by decide +kernel) ?_
    refine L_pure (pc := 2253) (pc' := 2255) (st' := [.int b, .long (a1 0)]) (show z_pt 320 2253 = some (9, .iload 7, []) by decide +kernel) rfl (fun _ _ => rfl) ?_
    refine L_pure (pc := 2255) (pc' := 2256) (st' := [.long (Int32.toInt64 b), .long (a1 0)]) (show z_pt 320 2255 = some (9, .i2l, []) by decide +kernel) rfl (fun _ _ => rfl) ?_
    refine L_pure (pc := 2256) (pc' := 2257) (st' := [.int (lg_cmp (a1 0) (Int32.toInt64 b))]) (show z_pt 320 2256 = some (9, .lcmp, []) by decide +kernel) rfl (fun _ _ => rfl) ?_
    refine L_ifT (pc := 2257) (t := 2262) (show z_pt 320 2257 = some (9, .ifCond .eq 5, []) by decide +kernel) (by decide) (z_lc (hz hz0)) ?_
    refine L_pure (pc := 2262) (pc' := 3330) (show z_pt 320 2262 = some (9, .goto 1068, []) by decide +kernel) rfl (fun _ _ => rfl) ?_
    refine L_inc (pc := 3330) (pc' := 3333) (ls' := [(0, .ref 2000), (1, .ref 0), (2, .ref 241), (3, .ref 251), (4, .ref 252), (5, .int (i + 4)), (6, .int (μ2 241 12)), (7, .int b)]) (c := 4) (show z_pt 320 3330 = some (9, .iinc 5 4, []) by decide +kernel) (by decide) rfl rfl ?_
    refine L_pure (pc := 3333) (pc' := 28) (ls' := [(0, .ref 2000), (1, .ref 0), (2, .ref 241), (3, .ref 251), (4, .ref 252), (5, .int (i + 4))]) (st' := []) (show z_pt 320 3333 = some (9, .goto (-3305), [6]) by decide +kernel) rfl (fun _ _ => rfl) ?_
    exact kk _ _
  · refine L_ifT (pc := 2247) (t := 2262) (show z_pt 320 2247 = some (9, .ifCond .ne 15, []) by decide +kernel) (by decide) (decide_eq_true hz0) ?_
    refine L_pure (pc := 2262) (pc' := 3330) (show z_pt 320 2262 = some (9, .goto 1068, []) by decide +kernel) rfl (fun _ _ => rfl) ?_
    refine L_inc (pc := 3330) (pc' := 3333) (ls' := [(0, .ref 2000), (1, .ref 0), (2, .ref 241), (3, .ref 251), (4, .ref 252), (5, .int (i + 4)), (6, .int (μ2 241 12)), (7, .int b)]) (c := 4) (show z_pt 320 3330 = some (9, .iinc 5 4, []) by decide +kernel) (by decide) rfl rfl ?_
    refine L_pure (pc := 3333) (pc' := 28) (ls' := [(0, .ref 2000), (1, .ref 0), (2, .ref 241), (3, .ref 251), (4, .ref 252), (5, .int (i + 4))]) (st' := []) (show z_pt 320 3333 = some (9, .goto (-3305), [6]) by decide +kernel) rfl (fun _ _ => rfl) ?_
    exact kk _ _
theorem pL_arm36 {sc : Nat × (Nat → Int32)} {D J : Nat} {i c1 c2 : Int32} {b : Int32} {r : Int32 ⊕ Nat} {μ μ2 : z_Mem} {a : Nat → Int64} {q : Nat → UInt64} {o : z_R} {P : z_LP} (hD : 9 ≤ D) (hb1 : z_inb (i + 1) sc.1 = true) (hc1 : sc.2 (i + 1).toNatClampNeg = c1) (hb2 : z_inb (i + 2) sc.1 = true) (hc2 : sc.2 (i + 2).toNatClampNeg = c2) (h1 : pG_directionAfterAtOnce μ c1 c2 = some r) (h2 : pm_directionAfterAtOnce μ c1 c2 = some (b, μ2)) (hag : z_agI [3, 1] r b (μ2 241 12)) (kk : ∀ (a : Nat → Int64) (q : Nat → UInt64), Rl sc D 320 28 [(0, .ref 2000), (1, .ref 0), (2, .ref 241), (3, .ref 251), (4, .ref 252), (5, .int (i + 4))] [] μ2 a q o P J) : Rl sc D 320 2265 [(0, .ref 2000), (1, .ref 0), (2, .ref 241), (3, .ref 251), (4, .ref 252), (5, .int i)] [] μ a q o P (1 + J) := by
  obtain ⟨a1, q1, hz, hR⟩ := pL_directionAfterAtOnce (sc := sc) (a := a) (q := q) h1 hag
  refine L_pure (pc := 2265) (pc' := 2266) (st' := [.ref 0]) (show z_pt 320 2265 = some (9, .aload_n 1, []) by decide +kernel) rfl (fun _ _ => rfl) ?_
  refine L_pure (pc := 2266) (pc' := 2267) (st' := [.ref 2000, .ref 0]) (show z_pt 320 2266 = some (9, .aload_n 0, []) by decide +kernel) rfl (fun _ _ => rfl) ?_
  refine L_pure (pc := 2267) (pc' := 2269) (st' := [.int i, .ref 2000, .ref 0]) (show z_pt 320 2267 = some (9, .iload 5, []) by decide +kernel) rfl (fun _ _ => rfl) ?_
  refine L_const (pc := 2269) (pc' := 2270) (v := 1) (show z_ptc 320 2269 = some (2270, 1) by decide +kernel) ?_
  refine L_pure (pc := 2270) (pc' := 2271) (st' := [.int (i + 1), .ref 2000, .ref 0]) (show z_pt 320 2270 = some (9, .iadd, []) by decide +kernel) rfl (fun _ _ => rfl) ?_
  refine L_scr (pc := 2271) (show z_pt 320 2271 = some (9, .iaload, []) by decide +kernel) hb1 hc1 ?_
  refine L_pure (pc := 2272) (pc' := 2273) (st' := [.ref 2000, .int c1, .ref 0]) (show z_pt 320 2272 = some (9, .aload_n 0, []) by decide +kernel) rfl (fun _ _ => rfl) ?_
  refine L_pure (pc := 2273) (pc' := 2275) (st' := [.int i, .ref 2000, .int c1, .ref 0]) (show z_pt 320 2273 = some (9, .iload 5, []) by decide +kernel) rfl (fun _ _ => rfl) ?_
  refine L_const (pc := 2275) (pc' := 2276) (v := 2) (show z_ptc 320 2275 = some (2276, 2) by decide +kernel) ?_
  refine L_pure (pc := 2276) (pc' := 2277) (st' := [.int (i + 2), .ref 2000, .int c1, .ref 0]) (show z_pt 320 2276 = some (9, .iadd, []) by decide +kernel) rfl (fun _ _ => rfl) ?_
  refine L_scr (pc := 2277) (show z_pt 320 2277 = some (9, .iaload, []) by decide +kernel) hb2 hc2 ?_
  refine L_pure (pc := 2278) (pc' := 2279) (st' := [.ref 251, .int c2, .int c1, .ref 0]) (show z_pt 320 2278 = some (9, .aload_n 3, []) by decide +kernel) rfl (fun _ _ => rfl) ?_
  refine L_callF (pc := 2279) (rr := []) (show z_pt 320 2279 = some (9, .invokestatic 298, [5, 303, 4, 5010, 5011, 0, 1000, 5012]) by decide +kernel) rfl (show z_r3 303 = some (11, 5, true) by decide +kernel) rfl rfl hR (by omega) ?_
  refine L_at (pc := 2282) (st := [.int (μ2 241 12)]) ?_
  refine L_pure (pc := 2282) (pc' := 2284) (ls' := [(0, .ref 2000), (1, .ref 0), (2, .ref 241), (3, .ref 251), (4, .ref 252), (5, .int i), (6, .int (μ2 241 12))]) (st' := []) (show z_pt 320 2282 = some (9, .istore 6, []) by decide +kernel) rfl (fun _ _ => rfl) ?_
  refine L_pure (pc := 2284) (pc' := 2285) (st' := [.ref 241]) (show z_pt 320 2284 = some (9, .aload_n 2, []) by decide +kernel) rfl (fun _ _ => rfl) ?_
  refine L_pure (pc := 2285) (pc' := 2286) (st' := [.ref 2000, .ref 241]) (show z_pt 320 2285 = some (9, .aload_n 0, []) by decide +kernel) rfl (fun _ _ => rfl) ?_
  refine L_pure (pc := 2286) (pc' := 2288) (st' := [.int i, .ref 2000, .ref 241]) (show z_pt 320 2286 = some (9, .iload 5, []) by decide +kernel) rfl (fun _ _ => rfl) ?_
  refine L_const (pc := 2288) (pc' := 2289) (v := 1) (show z_ptc 320 2288 = some (2289, 1) by decide +kernel) ?_
  refine L_pure (pc := 2289) (pc' := 2290) (st' := [.int (i + 1), .ref 2000, .ref 241]) (show z_pt 320 2289 = some (9, .iadd, []) by decide +kernel) rfl (fun _ _ => rfl) ?_
  refine L_scr (pc := 2290) (show z_pt 320 2290 = some (9, .iaload, []) by decide +kernel) hb1 hc1 ?_
  refine L_pure (pc := 2291) (pc' := 2292) (st' := [.ref 2000, .int c1, .ref 241]) (show z_pt 320 2291 = some (9, .aload_n 0, []) by decide +kernel) rfl (fun _ _ => rfl) ?_
  refine L_pure (pc := 2292) (pc' := 2294) (st' := [.int i, .ref 2000, .int c1, .ref 241]) (show z_pt 320 2292 = some (9, .iload 5, []) by decide +kernel) rfl (fun _ _ => rfl) ?_
  refine L_const (pc := 2294) (pc' := 2295) (v := 2) (show z_ptc 320 2294 = some (2295, 2) by decide +kernel) ?_
  refine L_pure (pc := 2295) (pc' := 2296) (st' := [.int (i + 2), .ref 2000, .int c1, .ref 241]) (show z_pt 320 2295 = some (9, .iadd, []) by decide +kernel) rfl (fun _ _ => rfl) ?_
  refine L_scr (pc := 2296) (show z_pt 320 2296 = some (9, .iaload, []) by decide +kernel) hb2 hc2 ?_
  refine L_call (pc := 2297) (rr := []) (show z_pt 320 2297 = some (9, .invokevirtual 300, [0, 238, 2, 8004, 8005, 8006, 1012, 8007]) by decide +kernel) rfl (show z_r2 238 = some (10, 3, true) by decide +kernel) rfl rfl (Or.inr ⟨_, _, rfl, (show z_ci 241 10 = true by decide +kernel)⟩) (pm_directionAfterAtOnce_run (r := (b, μ2)) h2) (by omega) ?_
  refine L_at (pc := 2300) (st := [.int b]) ?_
  refine L_pure (pc := 2300) (pc' := 2302) (ls' := [(0, .ref 2000), (1, .ref 0), (2, .ref 241), (3, .ref 251), (4, .ref 252), (5, .int i), (6, .int (μ2 241 12)), (7, .int b)]) (st' := []) (show z_pt 320 2300 = some (9, .istore 7, []) by decide +kernel) rfl (fun _ _ => rfl) ?_
  refine L_pure (pc := 2302) (pc' := 2303) (st' := [.ref 241]) (show z_pt 320 2302 = some (9, .aload_n 2, []) by decide +kernel) rfl (fun _ _ => rfl) ?_
  refine L_call (pc := 2303) (rr := []) (show z_pt 320 2303 = some (9, .invokevirtual 181, [0, 159, 0, 6173, 6174, 6175, 1012, 6176]) by decide +kernel) rfl (show z_r2 159 = some (10, 1, true) by decide +kernel) rfl rfl (Or.inr ⟨_, _, rfl, (show z_ci 241 10 = true by decide +kernel)⟩) (pm_thrown_run (r := μ2 241 12) rfl) (by omega) ?_
  refine L_at (pc := 2306) (st := [.int (μ2 241 12)]) ?_
  refine L_pure (pc := 2306) (pc' := 2308) (st' := [.int (μ2 241 12), .int (μ2 241 12)]) (show z_pt 320 2306 = some (9, .iload 6, []) by decide +kernel) rfl (fun _ _ => rfl) ?_
  refine L_icT (pc := 2308) (t := 2313) (show z_pt 320 2308 = some (9, .if_icmp .eq 5, []) by decide +kernel) (by decide) (decide_eq_true rfl) ?_
  refine L_pure (pc := 2313) (pc' := 2315) (st' := [.int (μ2 241 12)]) (show z_pt 320 2313 = some (9, .iload 6, []) by decide +kernel) rfl (fun _ _ => rfl) ?_
  by_cases hz0 : μ2 241 12 = 0
  · refine L_ifF (pc := 2315) (t := 2330) (show z_pt 320 2315 = some (9, .ifCond .ne 15, []) by decide +kernel) (by decide) (decide_eq_false (fun h => h hz0)) ?_
    refine L_pure (pc := 2318) (pc' := 2319) (st' := [.ref 251]) (show z_pt 320 2318 = some (9, .aload_n 3, []) by decide +kernel) rfl (fun _ _ => rfl) ?_
    refine L_const (pc := 2319) (pc' := 2320) (v := 0) (show z_ptc 320 2319 = some (2320, 0) by decide +kernel) ?_
    refine L_lald (pc := 2320) (show z_pt 320 2320 = some (9, .laload, []) by decide +kernel) ?_
    refine L_pure (pc := 2321) (pc' := 2323) (st' := [.int b, .long (a1 0)]) (show z_pt 320 2321 = some (9, .iload 7, []) by decide +kernel) rfl (fun _ _ => rfl) ?_
    refine L_pure (pc := 2323) (pc' := 2324) (st' := [.long (Int32.toInt64 b), .long (a1 0)]) (show z_pt 320 2323 = some (9, .i2l, []) by decide +kernel) rfl (fun _ _ => rfl) ?_
    refine L_pure (pc := 2324) (pc' := 2325) (st' := [.int (lg_cmp (a1 0) (Int32.toInt64 b))]) (show z_pt 320 2324 = some (9, .lcmp, []) by decide +kernel) rfl (fun _ _ => rfl) ?_
    refine L_ifT (pc := 2325) (t := 2330) (show z_pt 320 2325 = some (9, .ifCond .eq 5, []) by decide +kernel) (by decide) (z_lc (hz hz0)) ?_
    refine L_pure (pc := 2330) (pc' := 3330) (show z_pt 320 2330 = some (9, .goto 1000, []) by decide +kernel) rfl (fun _ _ => rfl) ?_
    refine L_inc (pc := 3330) (pc' := 3333) (ls' := [(0, .ref 2000), (1, .ref 0), (2, .ref 241), (3, .ref 251), (4, .ref 252), (5, .int (i + 4)), (6, .int (μ2 241 12)), (7, .int b)]) (c := 4) (show z_pt 320 3330 = some (9, .iinc 5 4, []) by decide +kernel) (by decide) rfl rfl ?_
    refine L_pure (pc := 3333) (pc' := 28) (ls' := [(0, .ref 2000), (1, .ref 0), (2, .ref 241), (3, .ref 251), (4, .ref 252), (5, .int (i + 4))]) (st' := []) (show z_pt 320 3333 = some (9, .goto (-3305), [6]) by decide +kernel) rfl (fun _ _ => rfl) ?_
    exact kk _ _
  · refine L_ifT (pc := 2315) (t := 2330) (show z_pt 320 2315 = some (9, .ifCond .ne 15, []) by decide +kernel) (by decide) (decide_eq_true hz0) ?_
    refine L_pure (pc := 2330) (pc' := 3330) (show z_pt 320 2330 = some (9, .goto 1000, []) by decide +kernel) rfl (fun _ _ => rfl) ?_
    refine L_inc (pc := 3330) (pc' := 3333) (ls' := [(0, .ref 2000), (1, .ref 0), (2, .ref 241), (3, .ref 251), (4, .ref 252), (5, .int (i + 4)), (6, .int (μ2 241 12)), (7, .int b)]) (c := 4) (show z_pt 320 3330 = some (9, .iinc 5 4, []) by decide +kernel) (by decide) rfl rfl ?_
    refine L_pure (pc := 3333) (pc' := 28) (ls' := [(0, .ref 2000), (1, .ref 0), (2, .ref 241), (3, .ref 251), (4, .ref 252), (5, .int (i + 4))]) (st' := []) (show z_pt 320 3333 = some (9, .goto (-3305), [6]) by decide +kernel) rfl (fun _ _ => rfl) ?_
    exact kk _ _
theorem pL_arm37 {sc : Nat × (Nat → Int32)} {D J : Nat} {i c1 : Int32} {b : Int32} {r : Int32 ⊕ Nat} {μ μ2 : z_Mem} {a : Nat → Int64} {q : Nat → UInt64} {o : z_R} {P : z_LP} (hD : 8 ≤ D) (hb1 : z_inb (i + 1) sc.1 = true) (hc1 : sc.2 (i + 1).toNatClampNeg = c1) (h1 : pG_nearestStar μ c1 = some r) (h2 : pm_nearestStar μ c1 = some (b, μ2)) (hag : z_agI [1, 3] r b (μ2 241 12)) (kk : ∀ (a : Nat → Int64) (q : Nat → UInt64), Rl sc D 320 28 [(0, .ref 2000), (1, .ref 0), (2, .ref 241), (3, .ref 251), (4, .ref 252), (5, .int (i + 4))] [] μ2 a q o P J) : Rl sc D 320 2333 [(0, .ref 2000), (1, .ref 0), (2, .ref 241), (3, .ref 251), (4, .ref 252), (5, .int i)] [] μ a q o P (1 + J) := by
  obtain ⟨a1, q1, hz, hR⟩ := pL_nearestStar (sc := sc) (a := a) (q := q) h1 hag
  refine L_pure (pc := 2333) (pc' := 2334) (st' := [.ref 0]) (show z_pt 320 2333 = some (9, .aload_n 1, []) by decide +kernel) rfl (fun _ _ => rfl) ?_
  refine L_pure (pc := 2334) (pc' := 2335) (st' := [.ref 2000, .ref 0]) (show z_pt 320 2334 = some (9, .aload_n 0, []) by decide +kernel) rfl (fun _ _ => rfl) ?_
  refine L_pure (pc := 2335) (pc' := 2337) (st' := [.int i, .ref 2000, .ref 0]) (show z_pt 320 2335 = some (9, .iload 5, []) by decide +kernel) rfl (fun _ _ => rfl) ?_
  refine L_const (pc := 2337) (pc' := 2338) (v := 1) (show z_ptc 320 2337 = some (2338, 1) by decide +kernel) ?_
  refine L_pure (pc := 2338) (pc' := 2339) (st' := [.int (i + 1), .ref 2000, .ref 0]) (show z_pt 320 2338 = some (9, .iadd, []) by decide +kernel) rfl (fun _ _ => rfl) ?_
  refine L_scr (pc := 2339) (show z_pt 320 2339 = some (9, .iaload, []) by decide +kernel) hb1 hc1 ?_
  refine L_pure (pc := 2340) (pc' := 2341) (st' := [.ref 251, .int c1, .ref 0]) (show z_pt 320 2340 = some (9, .aload_n 3, []) by decide +kernel) rfl (fun _ _ => rfl) ?_
  refine L_callF (pc := 2341) (rr := []) (show z_pt 320 2341 = some (9, .invokestatic 301, [5, 304, 3, 5018, 5019, 0, 1000, 5020]) by decide +kernel) rfl (show z_r3 304 = some (11, 4, true) by decide +kernel) rfl rfl hR (by omega) ?_
  refine L_at (pc := 2344) (st := [.int (μ2 241 12)]) ?_
  refine L_pure (pc := 2344) (pc' := 2346) (ls' := [(0, .ref 2000), (1, .ref 0), (2, .ref 241), (3, .ref 251), (4, .ref 252), (5, .int i), (6, .int (μ2 241 12))]) (st' := []) (show z_pt 320 2344 = some (9, .istore 6, []) by decide +kernel) rfl (fun _ _ => rfl) ?_
  refine L_pure (pc := 2346) (pc' := 2347) (st' := [.ref 241]) (show z_pt 320 2346 = some (9, .aload_n 2, []) by decide +kernel) rfl (fun _ _ => rfl) ?_
  refine L_pure (pc := 2347) (pc' := 2348) (st' := [.ref 2000, .ref 241]) (show z_pt 320 2347 = some (9, .aload_n 0, []) by decide +kernel) rfl (fun _ _ => rfl) ?_
  refine L_pure (pc := 2348) (pc' := 2350) (st' := [.int i, .ref 2000, .ref 241]) (show z_pt 320 2348 = some (9, .iload 5, []) by decide +kernel) rfl (fun _ _ => rfl) ?_
  refine L_const (pc := 2350) (pc' := 2351) (v := 1) (show z_ptc 320 2350 = some (2351, 1) by decide +kernel) ?_
  refine L_pure (pc := 2351) (pc' := 2352) (st' := [.int (i + 1), .ref 2000, .ref 241]) (show z_pt 320 2351 = some (9, .iadd, []) by decide +kernel) rfl (fun _ _ => rfl) ?_
  refine L_scr (pc := 2352) (show z_pt 320 2352 = some (9, .iaload, []) by decide +kernel) hb1 hc1 ?_
  refine L_call (pc := 2353) (rr := []) (show z_pt 320 2353 = some (9, .invokevirtual 303, [0, 239, 1, 8009, 8010, 8011, 1012, 8012]) by decide +kernel) rfl (show z_r2 239 = some (10, 4, true) by decide +kernel) rfl rfl (Or.inr ⟨_, _, rfl, (show z_ci 241 10 = true by decide +kernel)⟩) (pm_nearestStar_run (r := (b, μ2)) h2) (by omega) ?_
  refine L_at (pc := 2356) (st := [.int b]) ?_
  refine L_pure (pc := 2356) (pc' := 2358) (ls' := [(0, .ref 2000), (1, .ref 0), (2, .ref 241), (3, .ref 251), (4, .ref 252), (5, .int i), (6, .int (μ2 241 12)), (7, .int b)]) (st' := []) (show z_pt 320 2356 = some (9, .istore 7, []) by decide +kernel) rfl (fun _ _ => rfl) ?_
  refine L_pure (pc := 2358) (pc' := 2359) (st' := [.ref 241]) (show z_pt 320 2358 = some (9, .aload_n 2, []) by decide +kernel) rfl (fun _ _ => rfl) ?_
  refine L_call (pc := 2359) (rr := []) (show z_pt 320 2359 = some (9, .invokevirtual 181, [0, 159, 0, 6173, 6174, 6175, 1012, 6176]) by decide +kernel) rfl (show z_r2 159 = some (10, 1, true) by decide +kernel) rfl rfl (Or.inr ⟨_, _, rfl, (show z_ci 241 10 = true by decide +kernel)⟩) (pm_thrown_run (r := μ2 241 12) rfl) (by omega) ?_
  refine L_at (pc := 2362) (st := [.int (μ2 241 12)]) ?_
  refine L_pure (pc := 2362) (pc' := 2364) (st' := [.int (μ2 241 12), .int (μ2 241 12)]) (show z_pt 320 2362 = some (9, .iload 6, []) by decide +kernel) rfl (fun _ _ => rfl) ?_
  refine L_icT (pc := 2364) (t := 2369) (show z_pt 320 2364 = some (9, .if_icmp .eq 5, []) by decide +kernel) (by decide) (decide_eq_true rfl) ?_
  refine L_pure (pc := 2369) (pc' := 2371) (st' := [.int (μ2 241 12)]) (show z_pt 320 2369 = some (9, .iload 6, []) by decide +kernel) rfl (fun _ _ => rfl) ?_
  by_cases hz0 : μ2 241 12 = 0
  · refine L_ifF (pc := 2371) (t := 2386) (show z_pt 320 2371 = some (9, .ifCond .ne 15, []) by decide +kernel) (by decide) (decide_eq_false (fun h => h hz0)) ?_
    refine L_pure (pc := 2374) (pc' := 2375) (st' := [.ref 251]) (show z_pt 320 2374 = some (9, .aload_n 3, []) by decide +kernel) rfl (fun _ _ => rfl) ?_
    refine L_const (pc := 2375) (pc' := 2376) (v := 0) (show z_ptc 320 2375 = some (2376, 0) by decide +kernel) ?_
    refine L_lald (pc := 2376) (show z_pt 320 2376 = some (9, .laload, []) by decide +kernel) ?_
    refine L_pure (pc := 2377) (pc' := 2379) (st' := [.int b, .long (a1 0)]) (show z_pt 320 2377 = some (9, .iload 7, []) by decide +kernel) rfl (fun _ _ => rfl) ?_
    refine L_pure (pc := 2379) (pc' := 2380) (st' := [.long (Int32.toInt64 b), .long (a1 0)]) (show z_pt 320 2379 = some (9, .i2l, []) by decide +kernel) rfl (fun _ _ => rfl) ?_
    refine L_pure (pc := 2380) (pc' := 2381) (st' := [.int (lg_cmp (a1 0) (Int32.toInt64 b))]) (show z_pt 320 2380 = some (9, .lcmp, []) by decide +kernel) rfl (fun _ _ => rfl) ?_
    refine L_ifT (pc := 2381) (t := 2386) (show z_pt 320 2381 = some (9, .ifCond .eq 5, []) by decide +kernel) (by decide) (z_lc (hz hz0)) ?_
    refine L_pure (pc := 2386) (pc' := 3330) (show z_pt 320 2386 = some (9, .goto 944, []) by decide +kernel) rfl (fun _ _ => rfl) ?_
    refine L_inc (pc := 3330) (pc' := 3333) (ls' := [(0, .ref 2000), (1, .ref 0), (2, .ref 241), (3, .ref 251), (4, .ref 252), (5, .int (i + 4)), (6, .int (μ2 241 12)), (7, .int b)]) (c := 4) (show z_pt 320 3330 = some (9, .iinc 5 4, []) by decide +kernel) (by decide) rfl rfl ?_
    refine L_pure (pc := 3333) (pc' := 28) (ls' := [(0, .ref 2000), (1, .ref 0), (2, .ref 241), (3, .ref 251), (4, .ref 252), (5, .int (i + 4))]) (st' := []) (show z_pt 320 3333 = some (9, .goto (-3305), [6]) by decide +kernel) rfl (fun _ _ => rfl) ?_
    exact kk _ _
  · refine L_ifT (pc := 2371) (t := 2386) (show z_pt 320 2371 = some (9, .ifCond .ne 15, []) by decide +kernel) (by decide) (decide_eq_true hz0) ?_
    refine L_pure (pc := 2386) (pc' := 3330) (show z_pt 320 2386 = some (9, .goto 944, []) by decide +kernel) rfl (fun _ _ => rfl) ?_
    refine L_inc (pc := 3330) (pc' := 3333) (ls' := [(0, .ref 2000), (1, .ref 0), (2, .ref 241), (3, .ref 251), (4, .ref 252), (5, .int (i + 4)), (6, .int (μ2 241 12)), (7, .int b)]) (c := 4) (show z_pt 320 3330 = some (9, .iinc 5 4, []) by decide +kernel) (by decide) rfl rfl ?_
    refine L_pure (pc := 3333) (pc' := 28) (ls' := [(0, .ref 2000), (1, .ref 0), (2, .ref 241), (3, .ref 251), (4, .ref 252), (5, .int (i + 4))]) (st' := []) (show z_pt 320 3333 = some (9, .goto (-3305), [6]) by decide +kernel) rfl (fun _ _ => rfl) ?_
    exact kk _ _
theorem pL_arm38 {sc : Nat × (Nat → Int32)} {D J : Nat} {i c1 c2 : Int32} {b : Int32} {r : Int32 ⊕ Nat} {μ μ1 μ2 : z_Mem} {a : Nat → Int64} {q : Nat → UInt64} {o : z_R} {P : z_LP} (hD : 9 ≤ D) (hb1 : z_inb (i + 1) sc.1 = true) (hc1 : sc.2 (i + 1).toNatClampNeg = c1) (hb2 : z_inb (i + 2) sc.1 = true) (hc2 : sc.2 (i + 2).toNatClampNeg = c2) (h1 : pG_catalogue μ (z_toC c1) c2 = some (r, μ1)) (h2 : pm_catalogue μ1 (z_toC c1) c2 = some (b, μ2)) (hag : z_agI [1, 2] r b (μ2 241 12)) (kk : ∀ (a : Nat → Int64) (q : Nat → UInt64), Rl sc D 320 28 [(0, .ref 2000), (1, .ref 0), (2, .ref 241), (3, .ref 251), (4, .ref 252), (5, .int (i + 4))] [] μ2 a q o P J) : Rl sc D 320 2389 [(0, .ref 2000), (1, .ref 0), (2, .ref 241), (3, .ref 251), (4, .ref 252), (5, .int i)] [] μ a q o P (1 + J) := by
  obtain ⟨a1, q1, hz, hR⟩ := pL_catalogue (sc := sc) (a := a) (q := q) h1 hag
  refine L_pure (pc := 2389) (pc' := 2390) (st' := [.ref 0]) (show z_pt 320 2389 = some (9, .aload_n 1, []) by decide +kernel) rfl (fun _ _ => rfl) ?_
  refine L_pure (pc := 2390) (pc' := 2391) (st' := [.ref 2000, .ref 0]) (show z_pt 320 2390 = some (9, .aload_n 0, []) by decide +kernel) rfl (fun _ _ => rfl) ?_
  refine L_pure (pc := 2391) (pc' := 2393) (st' := [.int i, .ref 2000, .ref 0]) (show z_pt 320 2391 = some (9, .iload 5, []) by decide +kernel) rfl (fun _ _ => rfl) ?_
  refine L_const (pc := 2393) (pc' := 2394) (v := 1) (show z_ptc 320 2393 = some (2394, 1) by decide +kernel) ?_
  refine L_pure (pc := 2394) (pc' := 2395) (st' := [.int (i + 1), .ref 2000, .ref 0]) (show z_pt 320 2394 = some (9, .iadd, []) by decide +kernel) rfl (fun _ _ => rfl) ?_
  refine L_scr (pc := 2395) (show z_pt 320 2395 = some (9, .iaload, []) by decide +kernel) hb1 hc1 ?_
  refine L_pure (pc := 2396) (pc' := 2397) (st' := [.int (z_toC c1), .ref 0]) (show z_pt 320 2396 = some (9, .i2c, []) by decide +kernel) rfl (fun _ _ => rfl) ?_
  refine L_pure (pc := 2397) (pc' := 2398) (st' := [.ref 2000, .int (z_toC c1), .ref 0]) (show z_pt 320 2397 = some (9, .aload_n 0, []) by decide +kernel) rfl (fun _ _ => rfl) ?_
  refine L_pure (pc := 2398) (pc' := 2400) (st' := [.int i, .ref 2000, .int (z_toC c1), .ref 0]) (show z_pt 320 2398 = some (9, .iload 5, []) by decide +kernel) rfl (fun _ _ => rfl) ?_
  refine L_const (pc := 2400) (pc' := 2401) (v := 2) (show z_ptc 320 2400 = some (2401, 2) by decide +kernel) ?_
  refine L_pure (pc := 2401) (pc' := 2402) (st' := [.int (i + 2), .ref 2000, .int (z_toC c1), .ref 0]) (show z_pt 320 2401 = some (9, .iadd, []) by decide +kernel) rfl (fun _ _ => rfl) ?_
  refine L_scr (pc := 2402) (show z_pt 320 2402 = some (9, .iaload, []) by decide +kernel) hb2 hc2 ?_
  refine L_pure (pc := 2403) (pc' := 2404) (st' := [.ref 251, .int c2, .int (z_toC c1), .ref 0]) (show z_pt 320 2403 = some (9, .aload_n 3, []) by decide +kernel) rfl (fun _ _ => rfl) ?_
  refine L_callF (pc := 2404) (rr := []) (show z_pt 320 2404 = some (9, .invokestatic 304, [5, 305, 4, 5030, 5031, 0, 1000, 5032]) by decide +kernel) rfl (show z_r3 305 = some (11, 5, true) by decide +kernel) rfl rfl hR (by omega) ?_
  refine L_at (pc := 2407) (st := [.int (μ2 241 12)]) ?_
  refine L_pure (pc := 2407) (pc' := 2409) (ls' := [(0, .ref 2000), (1, .ref 0), (2, .ref 241), (3, .ref 251), (4, .ref 252), (5, .int i), (6, .int (μ2 241 12))]) (st' := []) (show z_pt 320 2407 = some (9, .istore 6, []) by decide +kernel) rfl (fun _ _ => rfl) ?_
  refine L_pure (pc := 2409) (pc' := 2410) (st' := [.ref 241]) (show z_pt 320 2409 = some (9, .aload_n 2, []) by decide +kernel) rfl (fun _ _ => rfl) ?_
  refine L_pure (pc := 2410) (pc' := 2411) (st' := [.ref 2000, .ref 241]) (show z_pt 320 2410 = some (9, .aload_n 0, []) by decide +kernel) rfl (fun _ _ => rfl) ?_
  refine L_pure (pc := 2411) (pc' := 2413) (st' := [.int i, .ref 2000, .ref 241]) (show z_pt 320 2411 = some (9, .iload 5, []) by decide +kernel) rfl (fun _ _ => rfl) ?_
  refine L_const (pc := 2413) (pc' := 2414) (v := 1) (show z_ptc 320 2413 = some (2414, 1) by decide +kernel) ?_
  refine L_pure (pc := 2414) (pc' := 2415) (st' := [.int (i + 1), .ref 2000, .ref 241]) (show z_pt 320 2414 = some (9, .iadd, []) by decide +kernel) rfl (fun _ _ => rfl) ?_
  refine L_scr (pc := 2415) (show z_pt 320 2415 = some (9, .iaload, []) by decide +kernel) hb1 hc1 ?_
  refine L_pure (pc := 2416) (pc' := 2417) (st' := [.int (z_toC c1), .ref 241]) (show z_pt 320 2416 = some (9, .i2c, []) by decide +kernel) rfl (fun _ _ => rfl) ?_
  refine L_pure (pc := 2417) (pc' := 2418) (st' := [.ref 2000, .int (z_toC c1), .ref 241]) (show z_pt 320 2417 = some (9, .aload_n 0, []) by decide +kernel) rfl (fun _ _ => rfl) ?_
  refine L_pure (pc := 2418) (pc' := 2420) (st' := [.int i, .ref 2000, .int (z_toC c1), .ref 241]) (show z_pt 320 2418 = some (9, .iload 5, []) by decide +kernel) rfl (fun _ _ => rfl) ?_
  refine L_const (pc := 2420) (pc' := 2421) (v := 2) (show z_ptc 320 2420 = some (2421, 2) by decide +kernel) ?_
  refine L_pure (pc := 2421) (pc' := 2422) (st' := [.int (i + 2), .ref 2000, .int (z_toC c1), .ref 241]) (show z_pt 320 2421 = some (9, .iadd, []) by decide +kernel) rfl (fun _ _ => rfl) ?_
  refine L_scr (pc := 2422) (show z_pt 320 2422 = some (9, .iaload, []) by decide +kernel) hb2 hc2 ?_
  refine L_call (pc := 2423) (rr := []) (show z_pt 320 2423 = some (9, .invokevirtual 307, [0, 243, 2, 8013, 8014, 8015, 1012, 8016]) by decide +kernel) rfl (show z_r2 243 = some (10, 3, true) by decide +kernel) rfl rfl (Or.inr ⟨_, _, rfl, (show z_ci 241 10 = true by decide +kernel)⟩) (pm_catalogue_run (r := (b, μ2)) h2) (by omega) ?_
  refine L_at (pc := 2426) (st := [.int b]) ?_
  refine L_pure (pc := 2426) (pc' := 2428) (ls' := [(0, .ref 2000), (1, .ref 0), (2, .ref 241), (3, .ref 251), (4, .ref 252), (5, .int i), (6, .int (μ2 241 12)), (7, .int b)]) (st' := []) (show z_pt 320 2426 = some (9, .istore 7, []) by decide +kernel) rfl (fun _ _ => rfl) ?_
  refine L_pure (pc := 2428) (pc' := 2429) (st' := [.ref 241]) (show z_pt 320 2428 = some (9, .aload_n 2, []) by decide +kernel) rfl (fun _ _ => rfl) ?_
  refine L_call (pc := 2429) (rr := []) (show z_pt 320 2429 = some (9, .invokevirtual 181, [0, 159, 0, 6173, 6174, 6175, 1012, 6176]) by decide +kernel) rfl (show z_r2 159 = some (10, 1, true) by decide +kernel) rfl rfl (Or.inr ⟨_, _, rfl, (show z_ci 241 10 = true by decide +kernel)⟩) (pm_thrown_run (r := μ2 241 12) rfl) (by omega) ?_
  refine L_at (pc := 2432) (st := [.int (μ2 241 12)]) ?_
  refine L_pure (pc := 2432) (pc' := 2434) (st' := [.int (μ2 241 12), .int (μ2 241 12)]) (show z_pt 320 2432 = some (9, .iload 6, []) by decide +kernel) rfl (fun _ _ => rfl) ?_
  refine L_icT (pc := 2434) (t := 2439) (show z_pt 320 2434 = some (9, .if_icmp .eq 5, []) by decide +kernel) (by decide) (decide_eq_true rfl) ?_
  refine L_pure (pc := 2439) (pc' := 2441) (st' := [.int (μ2 241 12)]) (show z_pt 320 2439 = some (9, .iload 6, []) by decide +kernel) rfl (fun _ _ => rfl) ?_
  by_cases hz0 : μ2 241 12 = 0
  · refine L_ifF (pc := 2441) (t := 2456) (show z_pt 320 2441 = some (9, .ifCond .ne 15, []) by decide +kernel) (by decide) (decide_eq_false (fun h => h hz0)) ?_
    refine L_pure (pc := 2444) (pc' := 2445) (st' := [.ref 251]) (show z_pt 320 2444 = some (9, .aload_n 3, []) by decide +kernel) rfl (fun _ _ => rfl) ?_
    refine L_const (pc := 2445) (pc' := 2446) (v := 0) (show z_ptc 320 2445 = some (2446, 0) by decide +kernel) ?_
    refine L_lald (pc := 2446) (show z_pt 320 2446 = some (9, .laload, []) by decide +kernel) ?_
    refine L_pure (pc := 2447) (pc' := 2449) (st' := [.int b, .long (a1 0)]) (show z_pt 320 2447 = some (9, .iload 7, []) by decide +kernel) rfl (fun _ _ => rfl) ?_
    refine L_pure (pc := 2449) (pc' := 2450) (st' := [.long (Int32.toInt64 b), .long (a1 0)]) (show z_pt 320 2449 = some (9, .i2l, []) by decide +kernel) rfl (fun _ _ => rfl) ?_
    refine L_pure (pc := 2450) (pc' := 2451) (st' := [.int (lg_cmp (a1 0) (Int32.toInt64 b))]) (show z_pt 320 2450 = some (9, .lcmp, []) by decide +kernel) rfl (fun _ _ => rfl) ?_
    refine L_ifT (pc := 2451) (t := 2456) (show z_pt 320 2451 = some (9, .ifCond .eq 5, []) by decide +kernel) (by decide) (z_lc (hz hz0)) ?_
    refine L_pure (pc := 2456) (pc' := 3330) (show z_pt 320 2456 = some (9, .goto 874, []) by decide +kernel) rfl (fun _ _ => rfl) ?_
    refine L_inc (pc := 3330) (pc' := 3333) (ls' := [(0, .ref 2000), (1, .ref 0), (2, .ref 241), (3, .ref 251), (4, .ref 252), (5, .int (i + 4)), (6, .int (μ2 241 12)), (7, .int b)]) (c := 4) (show z_pt 320 3330 = some (9, .iinc 5 4, []) by decide +kernel) (by decide) rfl rfl ?_
    refine L_pure (pc := 3333) (pc' := 28) (ls' := [(0, .ref 2000), (1, .ref 0), (2, .ref 241), (3, .ref 251), (4, .ref 252), (5, .int (i + 4))]) (st' := []) (show z_pt 320 3333 = some (9, .goto (-3305), [6]) by decide +kernel) rfl (fun _ _ => rfl) ?_
    exact kk _ _
  · refine L_ifT (pc := 2441) (t := 2456) (show z_pt 320 2441 = some (9, .ifCond .ne 15, []) by decide +kernel) (by decide) (decide_eq_true hz0) ?_
    refine L_pure (pc := 2456) (pc' := 3330) (show z_pt 320 2456 = some (9, .goto 874, []) by decide +kernel) rfl (fun _ _ => rfl) ?_
    refine L_inc (pc := 3330) (pc' := 3333) (ls' := [(0, .ref 2000), (1, .ref 0), (2, .ref 241), (3, .ref 251), (4, .ref 252), (5, .int (i + 4)), (6, .int (μ2 241 12)), (7, .int b)]) (c := 4) (show z_pt 320 3330 = some (9, .iinc 5 4, []) by decide +kernel) (by decide) rfl rfl ?_
    refine L_pure (pc := 3333) (pc' := 28) (ls' := [(0, .ref 2000), (1, .ref 0), (2, .ref 241), (3, .ref 251), (4, .ref 252), (5, .int (i + 4))]) (st' := []) (show z_pt 320 3333 = some (9, .goto (-3305), [6]) by decide +kernel) rfl (fun _ _ => rfl) ?_
    exact kk _ _
theorem pL_arm39 {sc : Nat × (Nat → Int32)} {D J : Nat} {i c1 c2 : Int32} {b : Int32} {r : Int32 ⊕ Nat} {μ μ1 μ2 : z_Mem} {a : Nat → Int64} {q : Nat → UInt64} {o : z_R} {P : z_LP} (hD : 9 ≤ D) (hb1 : z_inb (i + 1) sc.1 = true) (hc1 : sc.2 (i + 1).toNatClampNeg = c1) (hb2 : z_inb (i + 2) sc.1 = true) (hc2 : sc.2 (i + 2).toNatClampNeg = c2) (h1 : pG_forget μ (z_toC c1) c2 = some (r, μ1)) (h2 : pm_forget μ1 (z_toC c1) c2 = some (b, μ2)) (hag : z_agI [1, 3] r b (μ2 241 12)) (kk : ∀ (a : Nat → Int64) (q : Nat → UInt64), Rl sc D 320 28 [(0, .ref 2000), (1, .ref 0), (2, .ref 241), (3, .ref 251), (4, .ref 252), (5, .int (i + 4))] [] μ2 a q o P J) : Rl sc D 320 2459 [(0, .ref 2000), (1, .ref 0), (2, .ref 241), (3, .ref 251), (4, .ref 252), (5, .int i)] [] μ a q o P (1 + J) := by
  obtain ⟨a1, q1, hz, hR⟩ := pL_forget (sc := sc) (a := a) (q := q) h1 hag
  refine L_pure (pc := 2459) (pc' := 2460) (st' := [.ref 0]) (show z_pt 320 2459 = some (9, .aload_n 1, []) by decide +kernel) rfl (fun _ _ => rfl) ?_
  refine L_pure (pc := 2460) (pc' := 2461) (st' := [.ref 2000, .ref 0]) (show z_pt 320 2460 = some (9, .aload_n 0, []) by decide +kernel) rfl (fun _ _ => rfl) ?_
  refine L_pure (pc := 2461) (pc' := 2463) (st' := [.int i, .ref 2000, .ref 0]) (show z_pt 320 2461 = some (9, .iload 5, []) by decide +kernel) rfl (fun _ _ => rfl) ?_
  refine L_const (pc := 2463) (pc' := 2464) (v := 1) (show z_ptc 320 2463 = some (2464, 1) by decide +kernel) ?_
  refine L_pure (pc := 2464) (pc' := 2465) (st' := [.int (i + 1), .ref 2000, .ref 0]) (show z_pt 320 2464 = some (9, .iadd, []) by decide +kernel) rfl (fun _ _ => rfl) ?_
  refine L_scr (pc := 2465) (show z_pt 320 2465 = some (9, .iaload, []) by decide +kernel) hb1 hc1 ?_
  refine L_pure (pc := 2466) (pc' := 2467) (st' := [.int (z_toC c1), .ref 0]) (show z_pt 320 2466 = some (9, .i2c, []) by decide +kernel) rfl (fun _ _ => rfl) ?_
  refine L_pure (pc := 2467) (pc' := 2468) (st' := [.ref 2000, .int (z_toC c1), .ref 0]) (show z_pt 320 2467 = some (9, .aload_n 0, []) by decide +kernel) rfl (fun _ _ => rfl) ?_
  refine L_pure (pc := 2468) (pc' := 2470) (st' := [.int i, .ref 2000, .int (z_toC c1), .ref 0]) (show z_pt 320 2468 = some (9, .iload 5, []) by decide +kernel) rfl (fun _ _ => rfl) ?_
  refine L_const (pc := 2470) (pc' := 2471) (v := 2) (show z_ptc 320 2470 = some (2471, 2) by decide +kernel) ?_
  refine L_pure (pc := 2471) (pc' := 2472) (st' := [.int (i + 2), .ref 2000, .int (z_toC c1), .ref 0]) (show z_pt 320 2471 = some (9, .iadd, []) by decide +kernel) rfl (fun _ _ => rfl) ?_
  refine L_scr (pc := 2472) (show z_pt 320 2472 = some (9, .iaload, []) by decide +kernel) hb2 hc2 ?_
  refine L_pure (pc := 2473) (pc' := 2474) (st' := [.ref 251, .int c2, .int (z_toC c1), .ref 0]) (show z_pt 320 2473 = some (9, .aload_n 3, []) by decide +kernel) rfl (fun _ _ => rfl) ?_
  refine L_callF (pc := 2474) (rr := []) (show z_pt 320 2474 = some (9, .invokestatic 308, [5, 306, 4, 5053, 5054, 0, 1000, 5055]) by decide +kernel) rfl (show z_r3 306 = some (11, 5, true) by decide +kernel) rfl rfl hR (by omega) ?_
  refine L_at (pc := 2477) (st := [.int (μ2 241 12)]) ?_
  refine L_pure (pc := 2477) (pc' := 2479) (ls' := [(0, .ref 2000), (1, .ref 0), (2, .ref 241), (3, .ref 251), (4, .ref 252), (5, .int i), (6, .int (μ2 241 12))]) (st' := []) (show z_pt 320 2477 = some (9, .istore 6, []) by decide +kernel) rfl (fun _ _ => rfl) ?_
  refine L_pure (pc := 2479) (pc' := 2480) (st' := [.ref 241]) (show z_pt 320 2479 = some (9, .aload_n 2, []) by decide +kernel) rfl (fun _ _ => rfl) ?_
  refine L_pure (pc := 2480) (pc' := 2481) (st' := [.ref 2000, .ref 241]) (show z_pt 320 2480 = some (9, .aload_n 0, []) by decide +kernel) rfl (fun _ _ => rfl) ?_
  refine L_pure (pc := 2481) (pc' := 2483) (st' := [.int i, .ref 2000, .ref 241]) (show z_pt 320 2481 = some (9, .iload 5, []) by decide +kernel) rfl (fun _ _ => rfl) ?_
  refine L_const (pc := 2483) (pc' := 2484) (v := 1) (show z_ptc 320 2483 = some (2484, 1) by decide +kernel) ?_
  refine L_pure (pc := 2484) (pc' := 2485) (st' := [.int (i + 1), .ref 2000, .ref 241]) (show z_pt 320 2484 = some (9, .iadd, []) by decide +kernel) rfl (fun _ _ => rfl) ?_
  refine L_scr (pc := 2485) (show z_pt 320 2485 = some (9, .iaload, []) by decide +kernel) hb1 hc1 ?_
  refine L_pure (pc := 2486) (pc' := 2487) (st' := [.int (z_toC c1), .ref 241]) (show z_pt 320 2486 = some (9, .i2c, []) by decide +kernel) rfl (fun _ _ => rfl) ?_
  refine L_pure (pc := 2487) (pc' := 2488) (st' := [.ref 2000, .int (z_toC c1), .ref 241]) (show z_pt 320 2487 = some (9, .aload_n 0, []) by decide +kernel) rfl (fun _ _ => rfl) ?_
  refine L_pure (pc := 2488) (pc' := 2490) (st' := [.int i, .ref 2000, .int (z_toC c1), .ref 241]) (show z_pt 320 2488 = some (9, .iload 5, []) by decide +kernel) rfl (fun _ _ => rfl) ?_
  refine L_const (pc := 2490) (pc' := 2491) (v := 2) (show z_ptc 320 2490 = some (2491, 2) by decide +kernel) ?_
  refine L_pure (pc := 2491) (pc' := 2492) (st' := [.int (i + 2), .ref 2000, .int (z_toC c1), .ref 241]) (show z_pt 320 2491 = some (9, .iadd, []) by decide +kernel) rfl (fun _ _ => rfl) ?_
  refine L_scr (pc := 2492) (show z_pt 320 2492 = some (9, .iaload, []) by decide +kernel) hb2 hc2 ?_
  refine L_call (pc := 2493) (rr := []) (show z_pt 320 2493 = some (9, .invokevirtual 310, [0, 245, 2, 8028, 8029, 8030, 1012, 8031]) by decide +kernel) rfl (show z_r2 245 = some (10, 3, true) by decide +kernel) rfl rfl (Or.inr ⟨_, _, rfl, (show z_ci 241 10 = true by decide +kernel)⟩) (pm_forget_run (r := (b, μ2)) h2) (by omega) ?_
  refine L_at (pc := 2496) (st := [.int b]) ?_
  refine L_pure (pc := 2496) (pc' := 2498) (ls' := [(0, .ref 2000), (1, .ref 0), (2, .ref 241), (3, .ref 251), (4, .ref 252), (5, .int i), (6, .int (μ2 241 12)), (7, .int b)]) (st' := []) (show z_pt 320 2496 = some (9, .istore 7, []) by decide +kernel) rfl (fun _ _ => rfl) ?_
  refine L_pure (pc := 2498) (pc' := 2499) (st' := [.ref 241]) (show z_pt 320 2498 = some (9, .aload_n 2, []) by decide +kernel) rfl (fun _ _ => rfl) ?_
  refine L_call (pc := 2499) (rr := []) (show z_pt 320 2499 = some (9, .invokevirtual 181, [0, 159, 0, 6173, 6174, 6175, 1012, 6176]) by decide +kernel) rfl (show z_r2 159 = some (10, 1, true) by decide +kernel) rfl rfl (Or.inr ⟨_, _, rfl, (show z_ci 241 10 = true by decide +kernel)⟩) (pm_thrown_run (r := μ2 241 12) rfl) (by omega) ?_
  refine L_at (pc := 2502) (st := [.int (μ2 241 12)]) ?_
  refine L_pure (pc := 2502) (pc' := 2504) (st' := [.int (μ2 241 12), .int (μ2 241 12)]) (show z_pt 320 2502 = some (9, .iload 6, []) by decide +kernel) rfl (fun _ _ => rfl) ?_
  refine L_icT (pc := 2504) (t := 2509) (show z_pt 320 2504 = some (9, .if_icmp .eq 5, []) by decide +kernel) (by decide) (decide_eq_true rfl) ?_
  refine L_pure (pc := 2509) (pc' := 2511) (st' := [.int (μ2 241 12)]) (show z_pt 320 2509 = some (9, .iload 6, []) by decide +kernel) rfl (fun _ _ => rfl) ?_
  by_cases hz0 : μ2 241 12 = 0
  · refine L_ifF (pc := 2511) (t := 2526) (show z_pt 320 2511 = some (9, .ifCond .ne 15, []) by decide +kernel) (by decide) (decide_eq_false (fun h => h hz0)) ?_
    refine L_pure (pc := 2514) (pc' := 2515) (st' := [.ref 251]) (show z_pt 320 2514 = some (9, .aload_n 3, []) by decide +kernel) rfl (fun _ _ => rfl) ?_
    refine L_const (pc := 2515) (pc' := 2516) (v := 0) (show z_ptc 320 2515 = some (2516, 0) by decide +kernel) ?_
    refine L_lald (pc := 2516) (show z_pt 320 2516 = some (9, .laload, []) by decide +kernel) ?_
    refine L_pure (pc := 2517) (pc' := 2519) (st' := [.int b, .long (a1 0)]) (show z_pt 320 2517 = some (9, .iload 7, []) by decide +kernel) rfl (fun _ _ => rfl) ?_
    refine L_pure (pc := 2519) (pc' := 2520) (st' := [.long (Int32.toInt64 b), .long (a1 0)]) (show z_pt 320 2519 = some (9, .i2l, []) by decide +kernel) rfl (fun _ _ => rfl) ?_
    refine L_pure (pc := 2520) (pc' := 2521) (st' := [.int (lg_cmp (a1 0) (Int32.toInt64 b))]) (show z_pt 320 2520 = some (9, .lcmp, []) by decide +kernel) rfl (fun _ _ => rfl) ?_
    refine L_ifT (pc := 2521) (t := 2526) (show z_pt 320 2521 = some (9, .ifCond .eq 5, []) by decide +kernel) (by decide) (z_lc (hz hz0)) ?_
    refine L_pure (pc := 2526) (pc' := 3330) (show z_pt 320 2526 = some (9, .goto 804, []) by decide +kernel) rfl (fun _ _ => rfl) ?_
    refine L_inc (pc := 3330) (pc' := 3333) (ls' := [(0, .ref 2000), (1, .ref 0), (2, .ref 241), (3, .ref 251), (4, .ref 252), (5, .int (i + 4)), (6, .int (μ2 241 12)), (7, .int b)]) (c := 4) (show z_pt 320 3330 = some (9, .iinc 5 4, []) by decide +kernel) (by decide) rfl rfl ?_
    refine L_pure (pc := 3333) (pc' := 28) (ls' := [(0, .ref 2000), (1, .ref 0), (2, .ref 241), (3, .ref 251), (4, .ref 252), (5, .int (i + 4))]) (st' := []) (show z_pt 320 3333 = some (9, .goto (-3305), [6]) by decide +kernel) rfl (fun _ _ => rfl) ?_
    exact kk _ _
  · refine L_ifT (pc := 2511) (t := 2526) (show z_pt 320 2511 = some (9, .ifCond .ne 15, []) by decide +kernel) (by decide) (decide_eq_true hz0) ?_
    refine L_pure (pc := 2526) (pc' := 3330) (show z_pt 320 2526 = some (9, .goto 804, []) by decide +kernel) rfl (fun _ _ => rfl) ?_
    refine L_inc (pc := 3330) (pc' := 3333) (ls' := [(0, .ref 2000), (1, .ref 0), (2, .ref 241), (3, .ref 251), (4, .ref 252), (5, .int (i + 4)), (6, .int (μ2 241 12)), (7, .int b)]) (c := 4) (show z_pt 320 3330 = some (9, .iinc 5 4, []) by decide +kernel) (by decide) rfl rfl ?_
    refine L_pure (pc := 3333) (pc' := 28) (ls' := [(0, .ref 2000), (1, .ref 0), (2, .ref 241), (3, .ref 251), (4, .ref 252), (5, .int (i + 4))]) (st' := []) (show z_pt 320 3333 = some (9, .goto (-3305), [6]) by decide +kernel) rfl (fun _ _ => rfl) ?_
    exact kk _ _
theorem pL_arm40 {sc : Nat × (Nat → Int32)} {D J : Nat} {i c1 c2 : Int32} {b : Int32} {r : Int32 ⊕ Nat} {μ μ2 : z_Mem} {a : Nat → Int64} {q : Nat → UInt64} {o : z_R} {P : z_LP} (hD : 9 ≤ D) (hb1 : z_inb (i + 1) sc.1 = true) (hc1 : sc.2 (i + 1).toNatClampNeg = c1) (hb2 : z_inb (i + 2) sc.1 = true) (hc2 : sc.2 (i + 2).toNatClampNeg = c2) (h1 : pG_isCatalogued μ (z_toC c1) c2 = some r) (h2 : pm_isCatalogued μ (z_toC c1) c2 = some (b, μ2)) (hag : z_agI [1] r b (μ2 241 12)) (kk : ∀ (a : Nat → Int64) (q : Nat → UInt64), Rl sc D 320 28 [(0, .ref 2000), (1, .ref 0), (2, .ref 241), (3, .ref 251), (4, .ref 252), (5, .int (i + 4))] [] μ2 a q o P J) : Rl sc D 320 2529 [(0, .ref 2000), (1, .ref 0), (2, .ref 241), (3, .ref 251), (4, .ref 252), (5, .int i)] [] μ a q o P (1 + J) := by
  obtain ⟨a1, q1, hz, hR⟩ := pL_isCatalogued (sc := sc) (a := a) (q := q) h1 hag
  refine L_pure (pc := 2529) (pc' := 2530) (st' := [.ref 0]) (show z_pt 320 2529 = some (9, .aload_n 1, []) by decide +kernel) rfl (fun _ _ => rfl) ?_
  refine L_pure (pc := 2530) (pc' := 2531) (st' := [.ref 2000, .ref 0]) (show z_pt 320 2530 = some (9, .aload_n 0, []) by decide +kernel) rfl (fun _ _ => rfl) ?_
  refine L_pure (pc := 2531) (pc' := 2533) (st' := [.int i, .ref 2000, .ref 0]) (show z_pt 320 2531 = some (9, .iload 5, []) by decide +kernel) rfl (fun _ _ => rfl) ?_
  refine L_const (pc := 2533) (pc' := 2534) (v := 1) (show z_ptc 320 2533 = some (2534, 1) by decide +kernel) ?_
  refine L_pure (pc := 2534) (pc' := 2535) (st' := [.int (i + 1), .ref 2000, .ref 0]) (show z_pt 320 2534 = some (9, .iadd, []) by decide +kernel) rfl (fun _ _ => rfl) ?_
  refine L_scr (pc := 2535) (show z_pt 320 2535 = some (9, .iaload, []) by decide +kernel) hb1 hc1 ?_
  refine L_pure (pc := 2536) (pc' := 2537) (st' := [.int (z_toC c1), .ref 0]) (show z_pt 320 2536 = some (9, .i2c, []) by decide +kernel) rfl (fun _ _ => rfl) ?_
  refine L_pure (pc := 2537) (pc' := 2538) (st' := [.ref 2000, .int (z_toC c1), .ref 0]) (show z_pt 320 2537 = some (9, .aload_n 0, []) by decide +kernel) rfl (fun _ _ => rfl) ?_
  refine L_pure (pc := 2538) (pc' := 2540) (st' := [.int i, .ref 2000, .int (z_toC c1), .ref 0]) (show z_pt 320 2538 = some (9, .iload 5, []) by decide +kernel) rfl (fun _ _ => rfl) ?_
  refine L_const (pc := 2540) (pc' := 2541) (v := 2) (show z_ptc 320 2540 = some (2541, 2) by decide +kernel) ?_
  refine L_pure (pc := 2541) (pc' := 2542) (st' := [.int (i + 2), .ref 2000, .int (z_toC c1), .ref 0]) (show z_pt 320 2541 = some (9, .iadd, []) by decide +kernel) rfl (fun _ _ => rfl) ?_
  refine L_scr (pc := 2542) (show z_pt 320 2542 = some (9, .iaload, []) by decide +kernel) hb2 hc2 ?_
  refine L_pure (pc := 2543) (pc' := 2544) (st' := [.ref 251, .int c2, .int (z_toC c1), .ref 0]) (show z_pt 320 2543 = some (9, .aload_n 3, []) by decide +kernel) rfl (fun _ _ => rfl) ?_
  refine L_callF (pc := 2544) (rr := []) (show z_pt 320 2544 = some (9, .invokestatic 311, [5, 307, 4, 5068, 5069, 0, 1000, 5070]) by decide +kernel) rfl (show z_r3 307 = some (11, 5, true) by decide +kernel) rfl rfl hR (by omega) ?_
  refine L_at (pc := 2547) (st := [.int (μ2 241 12)]) ?_
  refine L_pure (pc := 2547) (pc' := 2549) (ls' := [(0, .ref 2000), (1, .ref 0), (2, .ref 241), (3, .ref 251), (4, .ref 252), (5, .int i), (6, .int (μ2 241 12))]) (st' := []) (show z_pt 320 2547 = some (9, .istore 6, []) by decide +kernel) rfl (fun _ _ => rfl) ?_
  refine L_pure (pc := 2549) (pc' := 2550) (st' := [.ref 241]) (show z_pt 320 2549 = some (9, .aload_n 2, []) by decide +kernel) rfl (fun _ _ => rfl) ?_
  refine L_pure (pc := 2550) (pc' := 2551) (st' := [.ref 2000, .ref 241]) (show z_pt 320 2550 = some (9, .aload_n 0, []) by decide +kernel) rfl (fun _ _ => rfl) ?_
  refine L_pure (pc := 2551) (pc' := 2553) (st' := [.int i, .ref 2000, .ref 241]) (show z_pt 320 2551 = some (9, .iload 5, []) by decide +kernel) rfl (fun _ _ => rfl) ?_
  refine L_const (pc := 2553) (pc' := 2554) (v := 1) (show z_ptc 320 2553 = some (2554, 1) by decide +kernel) ?_
  refine L_pure (pc := 2554) (pc' := 2555) (st' := [.int (i + 1), .ref 2000, .ref 241]) (show z_pt 320 2554 = some (9, .iadd, []) by decide +kernel) rfl (fun _ _ => rfl) ?_
  refine L_scr (pc := 2555) (show z_pt 320 2555 = some (9, .iaload, []) by decide +kernel) hb1 hc1 ?_
  refine L_pure (pc := 2556) (pc' := 2557) (st' := [.int (z_toC c1), .ref 241]) (show z_pt 320 2556 = some (9, .i2c, []) by decide +kernel) rfl (fun _ _ => rfl) ?_
  refine L_pure (pc := 2557) (pc' := 2558) (st' := [.ref 2000, .int (z_toC c1), .ref 241]) (show z_pt 320 2557 = some (9, .aload_n 0, []) by decide +kernel) rfl (fun _ _ => rfl) ?_
  refine L_pure (pc := 2558) (pc' := 2560) (st' := [.int i, .ref 2000, .int (z_toC c1), .ref 241]) (show z_pt 320 2558 = some (9, .iload 5, []) by decide +kernel) rfl (fun _ _ => rfl) ?_
  refine L_const (pc := 2560) (pc' := 2561) (v := 2) (show z_ptc 320 2560 = some (2561, 2) by decide +kernel) ?_
  refine L_pure (pc := 2561) (pc' := 2562) (st' := [.int (i + 2), .ref 2000, .int (z_toC c1), .ref 241]) (show z_pt 320 2561 = some (9, .iadd, []) by decide +kernel) rfl (fun _ _ => rfl) ?_
  refine L_scr (pc := 2562) (show z_pt 320 2562 = some (9, .iaload, []) by decide +kernel) hb2 hc2 ?_
  refine L_call (pc := 2563) (rr := []) (show z_pt 320 2563 = some (9, .invokevirtual 313, [0, 246, 2, 8036, 8037, 8038, 1012, 8039]) by decide +kernel) rfl (show z_r2 246 = some (10, 3, true) by decide +kernel) rfl rfl (Or.inr ⟨_, _, rfl, (show z_ci 241 10 = true by decide +kernel)⟩) (pm_isCatalogued_run (r := (b, μ2)) h2) (by omega) ?_
  refine L_at (pc := 2566) (st := [.int b]) ?_
  refine L_pure (pc := 2566) (pc' := 2568) (ls' := [(0, .ref 2000), (1, .ref 0), (2, .ref 241), (3, .ref 251), (4, .ref 252), (5, .int i), (6, .int (μ2 241 12)), (7, .int b)]) (st' := []) (show z_pt 320 2566 = some (9, .istore 7, []) by decide +kernel) rfl (fun _ _ => rfl) ?_
  refine L_pure (pc := 2568) (pc' := 2569) (st' := [.ref 241]) (show z_pt 320 2568 = some (9, .aload_n 2, []) by decide +kernel) rfl (fun _ _ => rfl) ?_
  refine L_call (pc := 2569) (rr := []) (show z_pt 320 2569 = some (9, .invokevirtual 181, [0, 159, 0, 6173, 6174, 6175, 1012, 6176]) by decide +kernel) rfl (show z_r2 159 = some (10, 1, true) by decide +kernel) rfl rfl (Or.inr ⟨_, _, rfl, (show z_ci 241 10 = true by decide +kernel)⟩) (pm_thrown_run (r := μ2 241 12) rfl) (by omega) ?_
  refine L_at (pc := 2572) (st := [.int (μ2 241 12)]) ?_
  refine L_pure (pc := 2572) (pc' := 2574) (st' := [.int (μ2 241 12), .int (μ2 241 12)]) (show z_pt 320 2572 = some (9, .iload 6, []) by decide +kernel) rfl (fun _ _ => rfl) ?_
  refine L_icT (pc := 2574) (t := 2579) (show z_pt 320 2574 = some (9, .if_icmp .eq 5, []) by decide +kernel) (by decide) (decide_eq_true rfl) ?_
  refine L_pure (pc := 2579) (pc' := 2581) (st' := [.int (μ2 241 12)]) (show z_pt 320 2579 = some (9, .iload 6, []) by decide +kernel) rfl (fun _ _ => rfl) ?_
  by_cases hz0 : μ2 241 12 = 0
  · by_cases hb0 : b = 0
    · refine L_ifF (pc := 2581) (t := 2603) (show z_pt 320 2581 = some (9, .ifCond .ne 22, []) by decide +kernel) (by decide) (decide_eq_false (fun h => h hz0)) ?_
      refine L_pure (pc := 2584) (pc' := 2585) (st' := [.ref 251]) (show z_pt 320 2584 = some (9, .aload_n 3, []) by decide +kernel) rfl (fun _ _ => rfl) ?_
      refine L_const (pc := 2585) (pc' := 2586) (v := 0) (show z_ptc 320 2585 = some (2586, 0) by decide +kernel) ?_
      refine L_lald (pc := 2586) (show z_pt 320 2586 = some (9, .laload, []) by decide +kernel) ?_
      refine L_pure (pc := 2587) (pc' := 2589) (st' := [.int b, .long (a1 0)]) (show z_pt 320 2587 = some (9, .iload 7, []) by decide +kernel) rfl (fun _ _ => rfl) ?_
      refine L_ifT (pc := 2589) (t := 2596) (show z_pt 320 2589 = some (9, .ifCond .eq 7, []) by decide +kernel) (by decide) (decide_eq_true hb0) ?_
      refine L_pure (pc := 2596) (pc' := 2597) (st' := [.long (Int64.ofNat 0), .long (a1 0)]) (show z_pt 320 2596 = some (9, .lconst 0, []) by decide +kernel) rfl (fun _ _ => rfl) ?_
      refine L_pure (pc := 2597) (pc' := 2598) (st' := [.int (lg_cmp (a1 0) (Int64.ofNat 0))]) (show z_pt 320 2597 = some (9, .lcmp, []) by decide +kernel) rfl (fun _ _ => rfl) ?_
      refine L_ifT (pc := 2598) (t := 2603) (show z_pt 320 2598 = some (9, .ifCond .eq 5, []) by decide +kernel) (by decide) (z_lc ((hz hz0).trans (if_pos hb0))) ?_
      refine L_pure (pc := 2603) (pc' := 3330) (show z_pt 320 2603 = some (9, .goto 727, []) by decide +kernel) rfl (fun _ _ => rfl) ?_
      refine L_inc (pc := 3330) (pc' := 3333) (ls' := [(0, .ref 2000), (1, .ref 0), (2, .ref 241), (3, .ref 251), (4, .ref 252), (5, .int (i + 4)), (6, .int (μ2 241 12)), (7, .int b)]) (c := 4) (show z_pt 320 3330 = some (9, .iinc 5 4, []) by decide +kernel) (by decide) rfl rfl ?_
      refine L_pure (pc := 3333) (pc' := 28) (ls' := [(0, .ref 2000), (1, .ref 0), (2, .ref 241), (3, .ref 251), (4, .ref 252), (5, .int (i + 4))]) (st' := []) (show z_pt 320 3333 = some (9, .goto (-3305), [6]) by decide +kernel) rfl (fun _ _ => rfl) ?_
      exact kk _ _
    · refine L_ifF (pc := 2581) (t := 2603) (show z_pt 320 2581 = some (9, .ifCond .ne 22, []) by decide +kernel) (by decide) (decide_eq_false (fun h => h hz0)) ?_
      refine L_pure (pc := 2584) (pc' := 2585) (st' := [.ref 251]) (show z_pt 320 2584 = some (9, .aload_n 3, []) by decide +kernel) rfl (fun _ _ => rfl) ?_
      refine L_const (pc := 2585) (pc' := 2586) (v := 0) (show z_ptc 320 2585 = some (2586, 0) by decide +kernel) ?_
      refine L_lald (pc := 2586) (show z_pt 320 2586 = some (9, .laload, []) by decide +kernel) ?_
      refine L_pure (pc := 2587) (pc' := 2589) (st' := [.int b, .long (a1 0)]) (show z_pt 320 2587 = some (9, .iload 7, []) by decide +kernel) rfl (fun _ _ => rfl) ?_
      refine L_ifF (pc := 2589) (t := 2596) (show z_pt 320 2589 = some (9, .ifCond .eq 7, []) by decide +kernel) (by decide) (decide_eq_false hb0) ?_
      refine L_pure (pc := 2592) (pc' := 2593) (st' := [.long (Int64.ofNat 1), .long (a1 0)]) (show z_pt 320 2592 = some (9, .lconst 1, []) by decide +kernel) rfl (fun _ _ => rfl) ?_
      refine L_pure (pc := 2593) (pc' := 2597) (show z_pt 320 2593 = some (9, .goto 4, []) by decide +kernel) rfl (fun _ _ => rfl) ?_
      refine L_pure (pc := 2597) (pc' := 2598) (st' := [.int (lg_cmp (a1 0) (Int64.ofNat 1))]) (show z_pt 320 2597 = some (9, .lcmp, []) by decide +kernel) rfl (fun _ _ => rfl) ?_
      refine L_ifT (pc := 2598) (t := 2603) (show z_pt 320 2598 = some (9, .ifCond .eq 5, []) by decide +kernel) (by decide) (z_lc ((hz hz0).trans (if_neg hb0))) ?_
      refine L_pure (pc := 2603) (pc' := 3330) (show z_pt 320 2603 = some (9, .goto 727, []) by decide +kernel) rfl (fun _ _ => rfl) ?_
      refine L_inc (pc := 3330) (pc' := 3333) (ls' := [(0, .ref 2000), (1, .ref 0), (2, .ref 241), (3, .ref 251), (4, .ref 252), (5, .int (i + 4)), (6, .int (μ2 241 12)), (7, .int b)]) (c := 4) (show z_pt 320 3330 = some (9, .iinc 5 4, []) by decide +kernel) (by decide) rfl rfl ?_
      refine L_pure (pc := 3333) (pc' := 28) (ls' := [(0, .ref 2000), (1, .ref 0), (2, .ref 241), (3, .ref 251), (4, .ref 252), (5, .int (i + 4))]) (st' := []) (show z_pt 320 3333 = some (9, .goto (-3305), [6]) by decide +kernel) rfl (fun _ _ => rfl) ?_
      exact kk _ _
  · refine L_ifT (pc := 2581) (t := 2603) (show z_pt 320 2581 = some (9, .ifCond .ne 22, []) by decide +kernel) (by decide) (decide_eq_true hz0) ?_
    refine L_pure (pc := 2603) (pc' := 3330) (show z_pt 320 2603 = some (9, .goto 727, []) by decide +kernel) rfl (fun _ _ => rfl) ?_
    refine L_inc (pc := 3330) (pc' := 3333) (ls' := [(0, .ref 2000), (1, .ref 0), (2, .ref 241), (3, .ref 251), (4, .ref 252), (5, .int (i + 4)), (6, .int (μ2 241 12)), (7, .int b)]) (c := 4) (show z_pt 320 3330 = some (9, .iinc 5 4, []) by decide +kernel) (by decide) rfl rfl ?_
    refine L_pure (pc := 3333) (pc' := 28) (ls' := [(0, .ref 2000), (1, .ref 0), (2, .ref 241), (3, .ref 251), (4, .ref 252), (5, .int (i + 4))]) (st' := []) (show z_pt 320 3333 = some (9, .goto (-3305), [6]) by decide +kernel) rfl (fun _ _ => rfl) ?_
    exact kk _ _
theorem pL_arm41 {sc : Nat × (Nat → Int32)} {D J : Nat} {i c1 c2 c3 : Int32} {b : Int32} {r : Int32 ⊕ Nat} {μ μ2 : z_Mem} {a : Nat → Int64} {q : Nat → UInt64} {o : z_R} {P : z_LP} (hD : 10 ≤ D) (hb1 : z_inb (i + 1) sc.1 = true) (hc1 : sc.2 (i + 1).toNatClampNeg = c1) (hb2 : z_inb (i + 2) sc.1 = true) (hc2 : sc.2 (i + 2).toNatClampNeg = c2) (hb3 : z_inb (i + 3) sc.1 = true) (hc3 : sc.2 (i + 3).toNatClampNeg = c3) (h1 : pG_entryPosition μ (z_toC c1) c2 c3 = some r) (h2 : pm_entryPosition μ (z_toC c1) c2 c3 = some (b, μ2)) (hag : z_agI [1, 3] r b (μ2 241 12)) (kk : ∀ (a : Nat → Int64) (q : Nat → UInt64), Rl sc D 320 28 [(0, .ref 2000), (1, .ref 0), (2, .ref 241), (3, .ref 251), (4, .ref 252), (5, .int (i + 4))] [] μ2 a q o P J) : Rl sc D 320 2606 [(0, .ref 2000), (1, .ref 0), (2, .ref 241), (3, .ref 251), (4, .ref 252), (5, .int i)] [] μ a q o P (1 + J) := by
  obtain ⟨a1, q1, hz, hR⟩ := pL_entryPosition (sc := sc) (a := a) (q := q) h1 hag
  refine L_pure (pc := 2606) (pc' := 2607) (st' := [.ref 0]) (show z_pt 320 2606 = some (9, .aload_n 1, []) by decide +kernel) rfl (fun _ _ => rfl) ?_
  refine L_pure (pc := 2607) (pc' := 2608) (st' := [.ref 2000, .ref 0]) (show z_pt 320 2607 = some (9, .aload_n 0, []) by decide +kernel) rfl (fun _ _ => rfl) ?_
  refine L_pure (pc := 2608) (pc' := 2610) (st' := [.int i, .ref 2000, .ref 0]) (show z_pt 320 2608 = some (9, .iload 5, []) by decide +kernel) rfl (fun _ _ => rfl) ?_
  refine L_const (pc := 2610) (pc' := 2611) (v := 1) (show z_ptc 320 2610 = some (2611, 1) by decide +kernel) ?_
  refine L_pure (pc := 2611) (pc' := 2612) (st' := [.int (i + 1), .ref 2000, .ref 0]) (show z_pt 320 2611 = some (9, .iadd, []) by decide +kernel) rfl (fun _ _ => rfl) ?_
  refine L_scr (pc := 2612) (show z_pt 320 2612 = some (9, .iaload, []) by decide +kernel) hb1 hc1 ?_
  refine L_pure (pc := 2613) (pc' := 2614) (st' := [.int (z_toC c1), .ref 0]) (show z_pt 320 2613 = some (9, .i2c, []) by decide +kernel) rfl (fun _ _ => rfl) ?_
  refine L_pure (pc := 2614) (pc' := 2615) (st' := [.ref 2000, .int (z_toC c1), .ref 0]) (show z_pt 320 2614 = some (9, .aload_n 0, []) by decide +kernel) rfl (fun _ _ => rfl) ?_
  refine L_pure (pc := 2615) (pc' := 2617) (st' := [.int i, .ref 2000, .int (z_toC c1), .ref 0]) (show z_pt 320 2615 = some (9, .iload 5, []) by decide +kernel) rfl (fun _ _ => rfl) ?_
  refine L_const (pc := 2617) (pc' := 2618) (v := 2) (show z_ptc 320 2617 = some (2618, 2) by decide +kernel) ?_
  refine L_pure (pc := 2618) (pc' := 2619) (st' := [.int (i + 2), .ref 2000, .int (z_toC c1), .ref 0]) (show z_pt 320 2618 = some (9, .iadd, []) by decide +kernel) rfl (fun _ _ => rfl) ?_
  refine L_scr (pc := 2619) (show z_pt 320 2619 = some (9, .iaload, []) by decide +kernel) hb2 hc2 ?_
  refine L_pure (pc := 2620) (pc' := 2621) (st' := [.ref 2000, .int c2, .int (z_toC c1), .ref 0]) (show z_pt 320 2620 = some (9, .aload_n 0, []) by decide +kernel) rfl (fun _ _ => rfl) ?_
  refine L_pure (pc := 2621) (pc' := 2623) (st' := [.int i, .ref 2000, .int c2, .int (z_toC c1), .ref 0]) (show z_pt 320 2621 = some (9, .iload 5, []) by decide +kernel) rfl (fun _ _ => rfl) ?_
  refine L_const (pc := 2623) (pc' := 2624) (v := 3) (show z_ptc 320 2623 = some (2624, 3) by decide +kernel) ?_
  refine L_pure (pc := 2624) (pc' := 2625) (st' := [.int (i + 3), .ref 2000, .int c2, .int (z_toC c1), .ref 0]) (show z_pt 320 2624 = some (9, .iadd, []) by decide +kernel) rfl (fun _ _ => rfl) ?_
  refine L_scr (pc := 2625) (show z_pt 320 2625 = some (9, .iaload, []) by decide +kernel) hb3 hc3 ?_
  refine L_pure (pc := 2626) (pc' := 2627) (st' := [.ref 251, .int c3, .int c2, .int (z_toC c1), .ref 0]) (show z_pt 320 2626 = some (9, .aload_n 3, []) by decide +kernel) rfl (fun _ _ => rfl) ?_
  refine L_callF (pc := 2627) (rr := []) (show z_pt 320 2627 = some (9, .invokestatic 314, [5, 308, 5, 5078, 5079, 0, 1000, 5080]) by decide +kernel) rfl (show z_r3 308 = some (11, 6, true) by decide +kernel) rfl rfl hR (by omega) ?_
  refine L_at (pc := 2630) (st := [.int (μ2 241 12)]) ?_
  refine L_pure (pc := 2630) (pc' := 2632) (ls' := [(0, .ref 2000), (1, .ref 0), (2, .ref 241), (3, .ref 251), (4, .ref 252), (5, .int i), (6, .int (μ2 241 12))]) (st' := []) (show z_pt 320 2630 = some (9, .istore 6, []) by decide +kernel) rfl (fun _ _ => rfl) ?_
  refine L_pure (pc := 2632) (pc' := 2633) (st' := [.ref 241]) (show z_pt 320 2632 = some (9, .aload_n 2, []) by decide +kernel) rfl (fun _ _ => rfl) ?_
  refine L_pure (pc := 2633) (pc' := 2634) (st' := [.ref 2000, .ref 241]) (show z_pt 320 2633 = some (9, .aload_n 0, []) by decide +kernel) rfl (fun _ _ => rfl) ?_
  refine L_pure (pc := 2634) (pc' := 2636) (st' := [.int i, .ref 2000, .ref 241]) (show z_pt 320 2634 = some (9, .iload 5, []) by decide +kernel) rfl (fun _ _ => rfl) ?_
  refine L_const (pc := 2636) (pc' := 2637) (v := 1) (show z_ptc 320 2636 = some (2637, 1) by decide +kernel) ?_
  refine L_pure (pc := 2637) (pc' := 2638) (st' := [.int (i + 1), .ref 2000, .ref 241]) (show z_pt 320 2637 = some (9, .iadd, []) by decide +kernel) rfl (fun _ _ => rfl) ?_
  refine L_scr (pc := 2638) (show z_pt 320 2638 = some (9, .iaload, []) by decide +kernel) hb1 hc1 ?_
  refine L_pure (pc := 2639) (pc' := 2640) (st' := [.int (z_toC c1), .ref 241]) (show z_pt 320 2639 = some (9, .i2c, []) by decide +kernel) rfl (fun _ _ => rfl) ?_
  refine L_pure (pc := 2640) (pc' := 2641) (st' := [.ref 2000, .int (z_toC c1), .ref 241]) (show z_pt 320 2640 = some (9, .aload_n 0, []) by decide +kernel) rfl (fun _ _ => rfl) ?_
  refine L_pure (pc := 2641) (pc' := 2643) (st' := [.int i, .ref 2000, .int (z_toC c1), .ref 241]) (show z_pt 320 2641 = some (9, .iload 5, []) by decide +kernel) rfl (fun _ _ => rfl) ?_
  refine L_const (pc := 2643) (pc' := 2644) (v := 2) (show z_ptc 320 2643 = some (2644, 2) by decide +kernel) ?_
  refine L_pure (pc := 2644) (pc' := 2645) (st' := [.int (i + 2), .ref 2000, .int (z_toC c1), .ref 241]) (show z_pt 320 2644 = some (9, .iadd, []) by decide +kernel) rfl (fun _ _ => rfl) ?_
  refine L_scr (pc := 2645) (show z_pt 320 2645 = some (9, .iaload, []) by decide +kernel) hb2 hc2 ?_
  refine L_pure (pc := 2646) (pc' := 2647) (st' := [.ref 2000, .int c2, .int (z_toC c1), .ref 241]) (show z_pt 320 2646 = some (9, .aload_n 0, []) by decide +kernel) rfl (fun _ _ => rfl) ?_
  refine L_pure (pc := 2647) (pc' := 2649) (st' := [.int i, .ref 2000, .int c2, .int (z_toC c1), .ref 241]) (show z_pt 320 2647 = some (9, .iload 5, []) by decide +kernel) rfl (fun _ _ => rfl) ?_
  refine L_const (pc := 2649) (pc' := 2650) (v := 3) (show z_ptc 320 2649 = some (2650, 3) by decide +kernel) ?_
  refine L_pure (pc := 2650) (pc' := 2651) (st' := [.int (i + 3), .ref 2000, .int c2, .int (z_toC c1), .ref 241]) (show z_pt 320 2650 = some (9, .iadd, []) by decide +kernel) rfl (fun _ _ => rfl) ?_
  refine L_scr (pc := 2651) (show z_pt 320 2651 = some (9, .iaload, []) by decide +kernel) hb3 hc3 ?_
  refine L_call (pc := 2652) (rr := []) (show z_pt 320 2652 = some (9, .invokevirtual 317, [0, 247, 3, 8040, 8041, 8042, 1012, 8043]) by decide +kernel) rfl (show z_r2 247 = some (10, 6, true) by decide +kernel) rfl rfl (Or.inr ⟨_, _, rfl, (show z_ci 241 10 = true by decide +kernel)⟩) (pm_entryPosition_run (r := (b, μ2)) h2) (by omega) ?_
  refine L_at (pc := 2655) (st := [.int b]) ?_
  refine L_pure (pc := 2655) (pc' := 2657) (ls' := [(0, .ref 2000), (1, .ref 0), (2, .ref 241), (3, .ref 251), (4, .ref 252), (5, .int i), (6, .int (μ2 241 12)), (7, .int b)]) (st' := []) (show z_pt 320 2655 = some (9, .istore 7, []) by decide +kernel) rfl (fun _ _ => rfl) ?_
  refine L_pure (pc := 2657) (pc' := 2658) (st' := [.ref 241]) (show z_pt 320 2657 = some (9, .aload_n 2, []) by decide +kernel) rfl (fun _ _ => rfl) ?_
  refine L_call (pc := 2658) (rr := []) (show z_pt 320 2658 = some (9, .invokevirtual 181, [0, 159, 0, 6173, 6174, 6175, 1012, 6176]) by decide +kernel) rfl (show z_r2 159 = some (10, 1, true) by decide +kernel) rfl rfl (Or.inr ⟨_, _, rfl, (show z_ci 241 10 = true by decide +kernel)⟩) (pm_thrown_run (r := μ2 241 12) rfl) (by omega) ?_
  refine L_at (pc := 2661) (st := [.int (μ2 241 12)]) ?_
  refine L_pure (pc := 2661) (pc' := 2663) (st' := [.int (μ2 241 12), .int (μ2 241 12)]) (show z_pt 320 2661 = some (9, .iload 6, []) by decide +kernel) rfl (fun _ _ => rfl) ?_
  refine L_icT (pc := 2663) (t := 2668) (show z_pt 320 2663 = some (9, .if_icmp .eq 5, []) by decide +kernel) (by decide) (decide_eq_true rfl) ?_
  refine L_pure (pc := 2668) (pc' := 2670) (st' := [.int (μ2 241 12)]) (show z_pt 320 2668 = some (9, .iload 6, []) by decide +kernel) rfl (fun _ _ => rfl) ?_
  by_cases hz0 : μ2 241 12 = 0
  · refine L_ifF (pc := 2670) (t := 2685) (show z_pt 320 2670 = some (9, .ifCond .ne 15, []) by decide +kernel) (by decide) (decide_eq_false (fun h => h hz0)) ?_
    refine L_pure (pc := 2673) (pc' := 2674) (st' := [.ref 251]) (show z_pt 320 2673 = some (9, .aload_n 3, []) by decide +kernel) rfl (fun _ _ => rfl) ?_
    refine L_const (pc := 2674) (pc' := 2675) (v := 0) (show z_ptc 320 2674 = some (2675, 0) by decide +kernel) ?_
    refine L_lald (pc := 2675) (show z_pt 320 2675 = some (9, .laload, []) by decide +kernel) ?_
    refine L_pure (pc := 2676) (pc' := 2678) (st' := [.int b, .long (a1 0)]) (show z_pt 320 2676 = some (9, .iload 7, []) by decide +kernel) rfl (fun _ _ => rfl) ?_
    refine L_pure (pc := 2678) (pc' := 2679) (st' := [.long (Int32.toInt64 b), .long (a1 0)]) (show z_pt 320 2678 = some (9, .i2l, []) by decide +kernel) rfl (fun _ _ => rfl) ?_
    refine L_pure (pc := 2679) (pc' := 2680) (st' := [.int (lg_cmp (a1 0) (Int32.toInt64 b))]) (show z_pt 320 2679 = some (9, .lcmp, []) by decide +kernel) rfl (fun _ _ => rfl) ?_
    refine L_ifT (pc := 2680) (t := 2685) (show z_pt 320 2680 = some (9, .ifCond .eq 5, []) by decide +kernel) (by decide) (z_lc (hz hz0)) ?_
    refine L_pure (pc := 2685) (pc' := 3330) (show z_pt 320 2685 = some (9, .goto 645, []) by decide +kernel) rfl (fun _ _ => rfl) ?_
    refine L_inc (pc := 3330) (pc' := 3333) (ls' := [(0, .ref 2000), (1, .ref 0), (2, .ref 241), (3, .ref 251), (4, .ref 252), (5, .int (i + 4)), (6, .int (μ2 241 12)), (7, .int b)]) (c := 4) (show z_pt 320 3330 = some (9, .iinc 5 4, []) by decide +kernel) (by decide) rfl rfl ?_
    refine L_pure (pc := 3333) (pc' := 28) (ls' := [(0, .ref 2000), (1, .ref 0), (2, .ref 241), (3, .ref 251), (4, .ref 252), (5, .int (i + 4))]) (st' := []) (show z_pt 320 3333 = some (9, .goto (-3305), [6]) by decide +kernel) rfl (fun _ _ => rfl) ?_
    exact kk _ _
  · refine L_ifT (pc := 2670) (t := 2685) (show z_pt 320 2670 = some (9, .ifCond .ne 15, []) by decide +kernel) (by decide) (decide_eq_true hz0) ?_
    refine L_pure (pc := 2685) (pc' := 3330) (show z_pt 320 2685 = some (9, .goto 645, []) by decide +kernel) rfl (fun _ _ => rfl) ?_
    refine L_inc (pc := 3330) (pc' := 3333) (ls' := [(0, .ref 2000), (1, .ref 0), (2, .ref 241), (3, .ref 251), (4, .ref 252), (5, .int (i + 4)), (6, .int (μ2 241 12)), (7, .int b)]) (c := 4) (show z_pt 320 3330 = some (9, .iinc 5 4, []) by decide +kernel) (by decide) rfl rfl ?_
    refine L_pure (pc := 3333) (pc' := 28) (ls' := [(0, .ref 2000), (1, .ref 0), (2, .ref 241), (3, .ref 251), (4, .ref 252), (5, .int (i + 4))]) (st' := []) (show z_pt 320 3333 = some (9, .goto (-3305), [6]) by decide +kernel) rfl (fun _ _ => rfl) ?_
    exact kk _ _
theorem pL_arm42 {sc : Nat × (Nat → Int32)} {D J : Nat} {i c1 c2 : Int32} {b : Int32} {r : Int32 ⊕ Nat} {μ μ2 : z_Mem} {a : Nat → Int64} {q : Nat → UInt64} {o : z_R} {P : z_LP} (hD : 10 ≤ D) (hb1 : z_inb (i + 1) sc.1 = true) (hc1 : sc.2 (i + 1).toNatClampNeg = c1) (hb2 : z_inb (i + 2) sc.1 = true) (hc2 : sc.2 (i + 2).toNatClampNeg = c2) (h1 : pG_changedSince μ (z_toC c1) c2 = some r) (h2 : pm_changedSince μ (z_toC c1) c2 = some (b, μ2)) (hag : z_agI [1, 3] r b (μ2 241 12)) (kk : ∀ (a : Nat → Int64) (q : Nat → UInt64), Rl sc D 320 28 [(0, .ref 2000), (1, .ref 0), (2, .ref 241), (3, .ref 251), (4, .ref 252), (5, .int (i + 4))] [] μ2 a q o P J) : Rl sc D 320 2688 [(0, .ref 2000), (1, .ref 0), (2, .ref 241), (3, .ref 251), (4, .ref 252), (5, .int i)] [] μ a q o P (1 + J) := by
  obtain ⟨a1, q1, hz, hR⟩ := pL_changedSince (sc := sc) (a := a) (q := q) h1 hag
  refine L_pure (pc := 2688) (pc' := 2689) (st' := [.ref 0]) (show z_pt 320 2688 = some (9, .aload_n 1, []) by decide +kernel) rfl (fun _ _ => rfl) ?_
  refine L_pure (pc := 2689) (pc' := 2690) (st' := [.ref 2000, .ref 0]) (show z_pt 320 2689 = some (9, .aload_n 0, []) by decide +kernel) rfl (fun _ _ => rfl) ?_
  refine L_pure (pc := 2690) (pc' := 2692) (st' := [.int i, .ref 2000, .ref 0]) (show z_pt 320 2690 = some (9, .iload 5, []) by decide +kernel) rfl (fun _ _ => rfl) ?_
  refine L_const (pc := 2692) (pc' := 2693) (v := 1) (show z_ptc 320 2692 = some (2693, 1) by decide +kernel) ?_
  refine L_pure (pc := 2693) (pc' := 2694) (st' := [.int (i + 1), .ref 2000, .ref 0]) (show z_pt 320 2693 = some (9, .iadd, []) by decide +kernel) rfl (fun _ _ => rfl) ?_
  refine L_scr (pc := 2694) (show z_pt 320 2694 = some (9, .iaload, []) by decide +kernel) hb1 hc1 ?_
  refine L_pure (pc := 2695) (pc' := 2696) (st' := [.int (z_toC c1), .ref 0]) (show z_pt 320 2695 = some (9, .i2c, []) by decide +kernel) rfl (fun _ _ => rfl) ?_
  refine L_pure (pc := 2696) (pc' := 2697) (st' := [.ref 2000, .int (z_toC c1), .ref 0]) (show z_pt 320 2696 = some (9, .aload_n 0, []) by decide +kernel) rfl (fun _ _ => rfl) ?_
  refine L_pure (pc := 2697) (pc' := 2699) (st' := [.int i, .ref 2000, .int (z_toC c1), .ref 0]) (show z_pt 320 2697 = some (9, .iload 5, []) by decide +kernel) rfl (fun _ _ => rfl) ?_
  refine L_const (pc := 2699) (pc' := 2700) (v := 2) (show z_ptc 320 2699 = some (2700, 2) by decide +kernel) ?_
  refine L_pure (pc := 2700) (pc' := 2701) (st' := [.int (i + 2), .ref 2000, .int (z_toC c1), .ref 0]) (show z_pt 320 2700 = some (9, .iadd, []) by decide +kernel) rfl (fun _ _ => rfl) ?_
  refine L_scr (pc := 2701) (show z_pt 320 2701 = some (9, .iaload, []) by decide +kernel) hb2 hc2 ?_
  refine L_pure (pc := 2702) (pc' := 2703) (st' := [.ref 251, .int c2, .int (z_toC c1), .ref 0]) (show z_pt 320 2702 = some (9, .aload_n 3, []) by decide +kernel) rfl (fun _ _ => rfl) ?_
  refine L_callF (pc := 2703) (rr := []) (show z_pt 320 2703 = some (9, .invokestatic 318, [5, 309, 4, 5093, 5094, 0, 1000, 5095]) by decide +kernel) rfl (show z_r3 309 = some (11, 5, true) by decide +kernel) rfl rfl hR (by omega) ?_
  refine L_at (pc := 2706) (st := [.int (μ2 241 12)]) ?_
  refine L_pure (pc := 2706) (pc' := 2708) (ls' := [(0, .ref 2000), (1, .ref 0), (2, .ref 241), (3, .ref 251), (4, .ref 252), (5, .int i), (6, .int (μ2 241 12))]) (st' := []) (show z_pt 320 2706 = some (9, .istore 6, []) by decide +kernel) rfl (fun _ _ => rfl) ?_
  refine L_pure (pc := 2708) (pc' := 2709) (st' := [.ref 241]) (show z_pt 320 2708 = some (9, .aload_n 2, []) by decide +kernel) rfl (fun _ _ => rfl) ?_
  refine L_pure (pc := 2709) (pc' := 2710) (st' := [.ref 2000, .ref 241]) (show z_pt 320 2709 = some (9, .aload_n 0, []) by decide +kernel) rfl (fun _ _ => rfl) ?_
  refine L_pure (pc := 2710) (pc' := 2712) (st' := [.int i, .ref 2000, .ref 241]) (show z_pt 320 2710 = some (9, .iload 5, []) by decide +kernel) rfl (fun _ _ => rfl) ?_
  refine L_const (pc := 2712) (pc' := 2713) (v := 1) (show z_ptc 320 2712 = some (2713, 1) by decide +kernel) ?_
  refine L_pure (pc := 2713) (pc' := 2714) (st' := [.int (i + 1), .ref 2000, .ref 241]) (show z_pt 320 2713 = some (9, .iadd, []) by decide +kernel) rfl (fun _ _ => rfl) ?_
  refine L_scr (pc := 2714) (show z_pt 320 2714 = some (9, .iaload, []) by decide +kernel) hb1 hc1 ?_
  refine L_pure (pc := 2715) (pc' := 2716) (st' := [.int (z_toC c1), .ref 241]) (show z_pt 320 2715 = some (9, .i2c, []) by decide +kernel) rfl (fun _ _ => rfl) ?_
  refine L_pure (pc := 2716) (pc' := 2717) (st' := [.ref 2000, .int (z_toC c1), .ref 241]) (show z_pt 320 2716 = some (9, .aload_n 0, []) by decide +kernel) rfl (fun _ _ => rfl) ?_
  refine L_pure (pc := 2717) (pc' := 2719) (st' := [.int i, .ref 2000, .int (z_toC c1), .ref 241]) (show z_pt 320 2717 = some (9, .iload 5, []) by decide +kernel) rfl (fun _ _ => rfl) ?_
  refine L_const (pc := 2719) (pc' := 2720) (v := 2) (show z_ptc 320 2719 = some (2720, 2) by decide +kernel) ?_
  refine L_pure (pc := 2720) (pc' := 2721) (st' := [.int (i + 2), .ref 2000, .int (z_toC c1), .ref 241]) (show z_pt 320 2720 = some (9, .iadd, []) by decide +kernel) rfl (fun _ _ => rfl) ?_
  refine L_scr (pc := 2721) (show z_pt 320 2721 = some (9, .iaload, []) by decide +kernel) hb2 hc2 ?_
  refine L_call (pc := 2722) (rr := []) (show z_pt 320 2722 = some (9, .invokevirtual 320, [0, 248, 2, 8044, 8045, 8046, 1012, 8047]) by decide +kernel) rfl (show z_r2 248 = some (10, 6, true) by decide +kernel) rfl rfl (Or.inr ⟨_, _, rfl, (show z_ci 241 10 = true by decide +kernel)⟩) (pm_changedSince_run (r := (b, μ2)) h2) (by omega) ?_
  refine L_at (pc := 2725) (st := [.int b]) ?_
  refine L_pure (pc := 2725) (pc' := 2727) (ls' := [(0, .ref 2000), (1, .ref 0), (2, .ref 241), (3, .ref 251), (4, .ref 252), (5, .int i), (6, .int (μ2 241 12)), (7, .int b)]) (st' := []) (show z_pt 320 2725 = some (9, .istore 7, []) by decide +kernel) rfl (fun _ _ => rfl) ?_
  refine L_pure (pc := 2727) (pc' := 2728) (st' := [.ref 241]) (show z_pt 320 2727 = some (9, .aload_n 2, []) by decide +kernel) rfl (fun _ _ => rfl) ?_
  refine L_call (pc := 2728) (rr := []) (show z_pt 320 2728 = some (9, .invokevirtual 181, [0, 159, 0, 6173, 6174, 6175, 1012, 6176]) by decide +kernel) rfl (show z_r2 159 = some (10, 1, true) by decide +kernel) rfl rfl (Or.inr ⟨_, _, rfl, (show z_ci 241 10 = true by decide +kernel)⟩) (pm_thrown_run (r := μ2 241 12) rfl) (by omega) ?_
  refine L_at (pc := 2731) (st := [.int (μ2 241 12)]) ?_
  refine L_pure (pc := 2731) (pc' := 2733) (st' := [.int (μ2 241 12), .int (μ2 241 12)]) (show z_pt 320 2731 = some (9, .iload 6, []) by decide +kernel) rfl (fun _ _ => rfl) ?_
  refine L_icT (pc := 2733) (t := 2738) (show z_pt 320 2733 = some (9, .if_icmp .eq 5, []) by decide +kernel) (by decide) (decide_eq_true rfl) ?_
  refine L_pure (pc := 2738) (pc' := 2740) (st' := [.int (μ2 241 12)]) (show z_pt 320 2738 = some (9, .iload 6, []) by decide +kernel) rfl (fun _ _ => rfl) ?_
  by_cases hz0 : μ2 241 12 = 0
  · refine L_ifF (pc := 2740) (t := 2755) (show z_pt 320 2740 = some (9, .ifCond .ne 15, []) by decide +kernel) (by decide) (decide_eq_false (fun h => h hz0)) ?_
    refine L_pure (pc := 2743) (pc' := 2744) (st' := [.ref 251]) (show z_pt 320 2743 = some (9, .aload_n 3, []) by decide +kernel) rfl (fun _ _ => rfl) ?_
    refine L_const (pc := 2744) (pc' := 2745) (v := 0) (show z_ptc 320 2744 = some (2745, 0) by decide +kernel) ?_
    refine L_lald (pc := 2745) (show z_pt 320 2745 = some (9, .laload, []) by decide +kernel) ?_
    refine L_pure (pc := 2746) (pc' := 2748) (st' := [.int b, .long (a1 0)]) (show z_pt 320 2746 = some (9, .iload 7, []) by decide +kernel) rfl (fun _ _ => rfl) ?_
    refine L_pure (pc := 2748) (pc' := 2749) (st' := [.long (Int32.toInt64 b), .long (a1 0)]) (show z_pt 320 2748 = some (9, .i2l, []) by decide +kernel) rfl (fun _ _ => rfl) ?_
    refine L_pure (pc := 2749) (pc' := 2750) (st' := [.int (lg_cmp (a1 0) (Int32.toInt64 b))]) (show z_pt 320 2749 = some (9, .lcmp, []) by decide +kernel) rfl (fun _ _ => rfl) ?_
    refine L_ifT (pc := 2750) (t := 2755) (show z_pt 320 2750 = some (9, .ifCond .eq 5, []) by decide +kernel) (by decide) (z_lc (hz hz0)) ?_
    refine L_pure (pc := 2755) (pc' := 3330) (show z_pt 320 2755 = some (9, .goto 575, []) by decide +kernel) rfl (fun _ _ => rfl) ?_
    refine L_inc (pc := 3330) (pc' := 3333) (ls' := [(0, .ref 2000), (1, .ref 0), (2, .ref 241), (3, .ref 251), (4, .ref 252), (5, .int (i + 4)), (6, .int (μ2 241 12)), (7, .int b)]) (c := 4) (show z_pt 320 3330 = some (9, .iinc 5 4, []) by decide +kernel) (by decide) rfl rfl ?_
    refine L_pure (pc := 3333) (pc' := 28) (ls' := [(0, .ref 2000), (1, .ref 0), (2, .ref 241), (3, .ref 251), (4, .ref 252), (5, .int (i + 4))]) (st' := []) (show z_pt 320 3333 = some (9, .goto (-3305), [6]) by decide +kernel) rfl (fun _ _ => rfl) ?_
    exact kk _ _
  · refine L_ifT (pc := 2740) (t := 2755) (show z_pt 320 2740 = some (9, .ifCond .ne 15, []) by decide +kernel) (by decide) (decide_eq_true hz0) ?_
    refine L_pure (pc := 2755) (pc' := 3330) (show z_pt 320 2755 = some (9, .goto 575, []) by decide +kernel) rfl (fun _ _ => rfl) ?_
    refine L_inc (pc := 3330) (pc' := 3333) (ls' := [(0, .ref 2000), (1, .ref 0), (2, .ref 241), (3, .ref 251), (4, .ref 252), (5, .int (i + 4)), (6, .int (μ2 241 12)), (7, .int b)]) (c := 4) (show z_pt 320 3330 = some (9, .iinc 5 4, []) by decide +kernel) (by decide) rfl rfl ?_
    refine L_pure (pc := 3333) (pc' := 28) (ls' := [(0, .ref 2000), (1, .ref 0), (2, .ref 241), (3, .ref 251), (4, .ref 252), (5, .int (i + 4))]) (st' := []) (show z_pt 320 3333 = some (9, .goto (-3305), [6]) by decide +kernel) rfl (fun _ _ => rfl) ?_
    exact kk _ _
theorem pL_arm43 {sc : Nat × (Nat → Int32)} {D J : Nat} {i  : Int32} {b : UInt64} {r : UInt64 ⊕ Nat} {μ μ2 : z_Mem} {a : Nat → Int64} {q : Nat → UInt64} {o : z_R} {P : z_LP} (hD : 8 ≤ D)  (h1 : pG_meanTeeth μ  = some r) (h2 : pm_meanTeeth μ  = some (b, μ2)) (hag : z_agD [4] r b (μ2 241 12)) (kk : ∀ (a : Nat → Int64) (q : Nat → UInt64), Rl sc D 320 28 [(0, .ref 2000), (1, .ref 0), (2, .ref 241), (3, .ref 251), (4, .ref 252), (5, .int (i + 4))] [] μ2 a q o P J) : Rl sc D 320 2758 [(0, .ref 2000), (1, .ref 0), (2, .ref 241), (3, .ref 251), (4, .ref 252), (5, .int i)] [] μ a q o P (1 + J) := by
  obtain ⟨a1, q1, hz, hR⟩ := pL_meanTeeth (sc := sc) (a := a) (q := q) h1 hag
  refine L_pure (pc := 2758) (pc' := 2759) (st' := [.ref 0]) (show z_pt 320 2758 = some (9, .aload_n 1, []) by decide +kernel) rfl (fun _ _ => rfl) ?_
  refine L_pure (pc := 2759) (pc' := 2761) (st' := [.ref 252, .ref 0]) (show z_pt 320 2759 = some (9, .aload 4, []) by decide +kernel) rfl (fun _ _ => rfl) ?_
  refine L_callF (pc := 2761) (rr := []) (show z_pt 320 2761 = some (9, .invokestatic 321, [5, 310, 2, 5105, 5106, 0, 1000, 5107]) by decide +kernel) rfl (show z_r3 310 = some (11, 3, true) by decide +kernel) rfl rfl hR (by omega) ?_
  refine L_at (pc := 2764) (st := [.int (μ2 241 12)]) ?_
  refine L_pure (pc := 2764) (pc' := 2766) (ls' := [(0, .ref 2000), (1, .ref 0), (2, .ref 241), (3, .ref 251), (4, .ref 252), (5, .int i), (6, .int (μ2 241 12))]) (st' := []) (show z_pt 320 2764 = some (9, .istore 6, []) by decide +kernel) rfl (fun _ _ => rfl) ?_
  refine L_pure (pc := 2766) (pc' := 2767) (st' := [.ref 241]) (show z_pt 320 2766 = some (9, .aload_n 2, []) by decide +kernel) rfl (fun _ _ => rfl) ?_
  refine L_call (pc := 2767) (rr := []) (show z_pt 320 2767 = some (9, .invokevirtual 324, [0, 249, 0, 8048, 8049, 8050, 1012, 8051]) by decide +kernel) rfl (show z_r2 249 = some (10, 3, true) by decide +kernel) rfl rfl (Or.inr ⟨_, _, rfl, (show z_ci 241 10 = true by decide +kernel)⟩) (pm_meanTeeth_run (r := (b, μ2)) h2) (by omega) ?_
  refine L_at (pc := 2770) (st := [.double b]) ?_
  refine L_pure (pc := 2770) (pc' := 2772) (ls' := [(0, .ref 2000), (1, .ref 0), (2, .ref 241), (3, .ref 251), (4, .ref 252), (5, .int i), (6, .int (μ2 241 12)), (7, .double b)]) (st' := []) (show z_pt 320 2770 = some (9, .dstore 7, []) by decide +kernel) rfl (fun _ _ => rfl) ?_
  refine L_pure (pc := 2772) (pc' := 2773) (st' := [.ref 241]) (show z_pt 320 2772 = some (9, .aload_n 2, []) by decide +kernel) rfl (fun _ _ => rfl) ?_
  refine L_call (pc := 2773) (rr := []) (show z_pt 320 2773 = some (9, .invokevirtual 181, [0, 159, 0, 6173, 6174, 6175, 1012, 6176]) by decide +kernel) rfl (show z_r2 159 = some (10, 1, true) by decide +kernel) rfl rfl (Or.inr ⟨_, _, rfl, (show z_ci 241 10 = true by decide +kernel)⟩) (pm_thrown_run (r := μ2 241 12) rfl) (by omega) ?_
  refine L_at (pc := 2776) (st := [.int (μ2 241 12)]) ?_
  refine L_pure (pc := 2776) (pc' := 2778) (st' := [.int (μ2 241 12), .int (μ2 241 12)]) (show z_pt 320 2776 = some (9, .iload 6, []) by decide +kernel) rfl (fun _ _ => rfl) ?_
  refine L_icT (pc := 2778) (t := 2783) (show z_pt 320 2778 = some (9, .if_icmp .eq 5, []) by decide +kernel) (by decide) (decide_eq_true rfl) ?_
  refine L_pure (pc := 2783) (pc' := 2785) (st' := [.int (μ2 241 12)]) (show z_pt 320 2783 = some (9, .iload 6, []) by decide +kernel) rfl (fun _ _ => rfl) ?_
  by_cases hz0 : μ2 241 12 = 0
  · by_cases hd0 : Op.cmpValue (FP.dcmp (q1 0) b) .l = 0
    · refine L_ifF (pc := 2785) (t := 2820) (show z_pt 320 2785 = some (9, .ifCond .ne 35, []) by decide +kernel) (by decide) (decide_eq_false (fun h => h hz0)) ?_
      refine L_pure (pc := 2788) (pc' := 2790) (st' := [.ref 252]) (show z_pt 320 2788 = some (9, .aload 4, []) by decide +kernel) rfl (fun _ _ => rfl) ?_
      refine L_const (pc := 2790) (pc' := 2791) (v := 0) (show z_ptc 320 2790 = some (2791, 0) by decide +kernel) ?_
      refine L_dald (pc := 2791) (show z_pt 320 2791 = some (9, .daload, []) by decide +kernel) ?_
      refine L_pure (pc := 2792) (pc' := 2794) (st' := [.double b, .double (q1 0)]) (show z_pt 320 2792 = some (9, .dload 7, []) by decide +kernel) rfl (fun _ _ => rfl) ?_
      refine L_pure (pc := 2794) (pc' := 2795) (st' := [.int (Op.cmpValue (FP.dcmp (q1 0) b) .l)]) (show z_pt 320 2794 = some (9, .dcmp .l, []) by decide +kernel) rfl (fun _ _ => rfl) ?_
      refine L_ifT (pc := 2795) (t := 2820) (show z_pt 320 2795 = some (9, .ifCond .eq 25, []) by decide +kernel) (by decide) (decide_eq_true hd0) ?_
      refine L_pure (pc := 2820) (pc' := 3330) (show z_pt 320 2820 = some (9, .goto 510, []) by decide +kernel) rfl (fun _ _ => rfl) ?_
      refine L_inc (pc := 3330) (pc' := 3333) (ls' := [(0, .ref 2000), (1, .ref 0), (2, .ref 241), (3, .ref 251), (4, .ref 252), (5, .int (i + 4)), (6, .int (μ2 241 12)), (7, .double b)]) (c := 4) (show z_pt 320 3330 = some (9, .iinc 5 4, []) by decide +kernel) (by decide) rfl rfl ?_
      refine L_pure (pc := 3333) (pc' := 28) (ls' := [(0, .ref 2000), (1, .ref 0), (2, .ref 241), (3, .ref 251), (4, .ref 252), (5, .int (i + 4))]) (st' := []) (show z_pt 320 3333 = some (9, .goto (-3305), [6]) by decide +kernel) rfl (fun _ _ => rfl) ?_
      exact kk _ _
    · refine L_ifF (pc := 2785) (t := 2820) (show z_pt 320 2785 = some (9, .ifCond .ne 35, []) by decide +kernel) (by decide) (decide_eq_false (fun h => h hz0)) ?_
      refine L_pure (pc := 2788) (pc' := 2790) (st' := [.ref 252]) (show z_pt 320 2788 = some (9, .aload 4, []) by decide +kernel) rfl (fun _ _ => rfl) ?_
      refine L_const (pc := 2790) (pc' := 2791) (v := 0) (show z_ptc 320 2790 = some (2791, 0) by decide +kernel) ?_
      refine L_dald (pc := 2791) (show z_pt 320 2791 = some (9, .daload, []) by decide +kernel) ?_
      refine L_pure (pc := 2792) (pc' := 2794) (st' := [.double b, .double (q1 0)]) (show z_pt 320 2792 = some (9, .dload 7, []) by decide +kernel) rfl (fun _ _ => rfl) ?_
      refine L_pure (pc := 2794) (pc' := 2795) (st' := [.int (Op.cmpValue (FP.dcmp (q1 0) b) .l)]) (show z_pt 320 2794 = some (9, .dcmp .l, []) by decide +kernel) rfl (fun _ _ => rfl) ?_
      refine L_ifF (pc := 2795) (t := 2820) (show z_pt 320 2795 = some (9, .ifCond .eq 25, []) by decide +kernel) (by decide) (decide_eq_false hd0) ?_
      refine L_pure (pc := 2798) (pc' := 2800) (st' := [.ref 252]) (show z_pt 320 2798 = some (9, .aload 4, []) by decide +kernel) rfl (fun _ _ => rfl) ?_
      refine L_const (pc := 2800) (pc' := 2801) (v := 0) (show z_ptc 320 2800 = some (2801, 0) by decide +kernel) ?_
      refine L_dald (pc := 2801) (show z_pt 320 2801 = some (9, .daload, []) by decide +kernel) ?_
      refine L_pure (pc := 2802) (pc' := 2804) (st' := [.ref 252, .double (q1 0)]) (show z_pt 320 2802 = some (9, .aload 4, []) by decide +kernel) rfl (fun _ _ => rfl) ?_
      refine L_const (pc := 2804) (pc' := 2805) (v := 0) (show z_ptc 320 2804 = some (2805, 0) by decide +kernel) ?_
      refine L_dald (pc := 2805) (show z_pt 320 2805 = some (9, .daload, []) by decide +kernel) ?_
      refine L_pure (pc := 2806) (pc' := 2807) (st' := [.int (Op.cmpValue (FP.dcmp (q1 0) (q1 0)) .l)]) (show z_pt 320 2806 = some (9, .dcmp .l, []) by decide +kernel) rfl (fun _ _ => rfl) ?_
      refine L_ifF (pc := 2807) (t := 2818) (show z_pt 320 2807 = some (9, .ifCond .eq 11, []) by decide +kernel) (by decide) (decide_eq_false (by rw [hz hz0] at hd0 ⊢; exact hd0)) ?_
      refine L_pure (pc := 2810) (pc' := 2812) (st' := [.double b]) (show z_pt 320 2810 = some (9, .dload 7, []) by decide +kernel) rfl (fun _ _ => rfl) ?_
      refine L_pure (pc := 2812) (pc' := 2814) (st' := [.double b, .double b]) (show z_pt 320 2812 = some (9, .dload 7, []) by decide +kernel) rfl (fun _ _ => rfl) ?_
      refine L_pure (pc := 2814) (pc' := 2815) (st' := [.int (Op.cmpValue (FP.dcmp b b) .l)]) (show z_pt 320 2814 = some (9, .dcmp .l, []) by decide +kernel) rfl (fun _ _ => rfl) ?_
      refine L_ifT (pc := 2815) (t := 2820) (show z_pt 320 2815 = some (9, .ifCond .ne 5, []) by decide +kernel) (by decide) (decide_eq_true (by rw [hz hz0] at hd0; exact hd0)) ?_
      refine L_pure (pc := 2820) (pc' := 3330) (show z_pt 320 2820 = some (9, .goto 510, []) by decide +kernel) rfl (fun _ _ => rfl) ?_
      refine L_inc (pc := 3330) (pc' := 3333) (ls' := [(0, .ref 2000), (1, .ref 0), (2, .ref 241), (3, .ref 251), (4, .ref 252), (5, .int (i + 4)), (6, .int (μ2 241 12)), (7, .double b)]) (c := 4) (show z_pt 320 3330 = some (9, .iinc 5 4, []) by decide +kernel) (by decide) rfl rfl ?_
      refine L_pure (pc := 3333) (pc' := 28) (ls' := [(0, .ref 2000), (1, .ref 0), (2, .ref 241), (3, .ref 251), (4, .ref 252), (5, .int (i + 4))]) (st' := []) (show z_pt 320 3333 = some (9, .goto (-3305), [6]) by decide +kernel) rfl (fun _ _ => rfl) ?_
      exact kk _ _
  · refine L_ifT (pc := 2785) (t := 2820) (show z_pt 320 2785 = some (9, .ifCond .ne 35, []) by decide +kernel) (by decide) (decide_eq_true hz0) ?_
    refine L_pure (pc := 2820) (pc' := 3330) (show z_pt 320 2820 = some (9, .goto 510, []) by decide +kernel) rfl (fun _ _ => rfl) ?_
    refine L_inc (pc := 3330) (pc' := 3333) (ls' := [(0, .ref 2000), (1, .ref 0), (2, .ref 241), (3, .ref 251), (4, .ref 252), (5, .int (i + 4)), (6, .int (μ2 241 12)), (7, .double b)]) (c := 4) (show z_pt 320 3330 = some (9, .iinc 5 4, []) by decide +kernel) (by decide) rfl rfl ?_
    refine L_pure (pc := 3333) (pc' := 28) (ls' := [(0, .ref 2000), (1, .ref 0), (2, .ref 241), (3, .ref 251), (4, .ref 252), (5, .int (i + 4))]) (st' := []) (show z_pt 320 3333 = some (9, .goto (-3305), [6]) by decide +kernel) rfl (fun _ _ => rfl) ?_
    exact kk _ _
theorem pL_arm44 {sc : Nat × (Nat → Int32)} {D J : Nat} {i c1 : Int32} {b : UInt32} {r : UInt32 ⊕ Nat} {μ μ2 : z_Mem} {a : Nat → Int64} {q : Nat → UInt64} {o : z_R} {P : z_LP} (hD : 8 ≤ D) (hb1 : z_inb (i + 1) sc.1 = true) (hc1 : sc.2 (i + 1).toNatClampNeg = c1) (h1 : pG_alignedFraction μ c1 = some r) (h2 : pm_alignedFraction μ c1 = some (b, μ2)) (hag : z_agF [1, 4] r b (μ2 241 12)) (hn64 : ∀ v, r = .inl v → z_n64 (FP.f2d v) = true) (hn64b : μ2 241 12 = 0 → z_n64 (FP.f2d b) = true) (hcm : μ2 241 12 = 0 → Op.cmpValue (FP.dcmp (FP.f2d b) (FP.f2d b)) .l = 0) (kk : ∀ (a : Nat → Int64) (q : Nat → UInt64), Rl sc D 320 28 [(0, .ref 2000), (1, .ref 0), (2, .ref 241), (3, .ref 251), (4, .ref 252), (5, .int (i + 4))] [] μ2 a q o P J) : Rl sc D 320 2823 [(0, .ref 2000), (1, .ref 0), (2, .ref 241), (3, .ref 251), (4, .ref 252), (5, .int i)] [] μ a q o P (1 + J) := by
  obtain ⟨a1, q1, hz, hR⟩ := pL_alignedFraction (sc := sc) (a := a) (q := q) h1 hag hn64
  refine L_pure (pc := 2823) (pc' := 2824) (st' := [.ref 0]) (show z_pt 320 2823 = some (9, .aload_n 1, []) by decide +kernel) rfl (fun _ _ => rfl) ?_
  refine L_pure (pc := 2824) (pc' := 2825) (st' := [.ref 2000, .ref 0]) (show z_pt 320 2824 = some (9, .aload_n 0, []) by decide +kernel) rfl (fun _ _ => rfl) ?_
  refine L_pure (pc := 2825) (pc' := 2827) (st' := [.int i, .ref 2000, .ref 0]) (show z_pt 320 2825 = some (9, .iload 5, []) by decide +kernel) rfl (fun _ _ => rfl) ?_
  refine L_const (pc := 2827) (pc' := 2828) (v := 1) (show z_ptc 320 2827 = some (2828, 1) by decide +kernel) ?_
  refine L_pure (pc := 2828) (pc' := 2829) (st' := [.int (i + 1), .ref 2000, .ref 0]) (show z_pt 320 2828 = some (9, .iadd, []) by decide +kernel) rfl (fun _ _ => rfl) ?_
  refine L_scr (pc := 2829) (show z_pt 320 2829 = some (9, .iaload, []) by decide +kernel) hb1 hc1 ?_
  refine L_pure (pc := 2830) (pc' := 2832) (st' := [.ref 252, .int c1, .ref 0]) (show z_pt 320 2830 = some (9, .aload 4, []) by decide +kernel) rfl (fun _ _ => rfl) ?_
  refine L_callF (pc := 2832) (rr := []) (show z_pt 320 2832 = some (9, .invokestatic 325, [5, 311, 3, 5131, 5132, 0, 1000, 5133]) by decide +kernel) rfl (show z_r3 311 = some (11, 4, true) by decide +kernel) rfl rfl hR (by omega) ?_
  refine L_at (pc := 2835) (st := [.int (μ2 241 12)]) ?_
  refine L_pure (pc := 2835) (pc' := 2837) (ls' := [(0, .ref 2000), (1, .ref 0), (2, .ref 241), (3, .ref 251), (4, .ref 252), (5, .int i), (6, .int (μ2 241 12))]) (st' := []) (show z_pt 320 2835 = some (9, .istore 6, []) by decide +kernel) rfl (fun _ _ => rfl) ?_
  refine L_pure (pc := 2837) (pc' := 2838) (st' := [.ref 241]) (show z_pt 320 2837 = some (9, .aload_n 2, []) by decide +kernel) rfl (fun _ _ => rfl) ?_
  refine L_pure (pc := 2838) (pc' := 2839) (st' := [.ref 2000, .ref 241]) (show z_pt 320 2838 = some (9, .aload_n 0, []) by decide +kernel) rfl (fun _ _ => rfl) ?_
  refine L_pure (pc := 2839) (pc' := 2841) (st' := [.int i, .ref 2000, .ref 241]) (show z_pt 320 2839 = some (9, .iload 5, []) by decide +kernel) rfl (fun _ _ => rfl) ?_
  refine L_const (pc := 2841) (pc' := 2842) (v := 1) (show z_ptc 320 2841 = some (2842, 1) by decide +kernel) ?_
  refine L_pure (pc := 2842) (pc' := 2843) (st' := [.int (i + 1), .ref 2000, .ref 241]) (show z_pt 320 2842 = some (9, .iadd, []) by decide +kernel) rfl (fun _ _ => rfl) ?_
  refine L_scr (pc := 2843) (show z_pt 320 2843 = some (9, .iaload, []) by decide +kernel) hb1 hc1 ?_
  refine L_call (pc := 2844) (rr := []) (show z_pt 320 2844 = some (9, .invokevirtual 328, [0, 251, 1, 8052, 8053, 8054, 1012, 8055]) by decide +kernel) rfl (show z_r2 251 = some (10, 4, true) by decide +kernel) rfl rfl (Or.inr ⟨_, _, rfl, (show z_ci 241 10 = true by decide +kernel)⟩) (pm_alignedFraction_run (r := (b, μ2)) h2) (by omega) ?_
  refine L_at (pc := 2847) (st := [.float b]) ?_
  refine L_pure (pc := 2847) (pc' := 2849) (ls' := [(0, .ref 2000), (1, .ref 0), (2, .ref 241), (3, .ref 251), (4, .ref 252), (5, .int i), (6, .int (μ2 241 12)), (7, .float b)]) (st' := []) (show z_pt 320 2847 = some (9, .fstore 7, []) by decide +kernel) rfl (fun _ _ => rfl) ?_
  refine L_pure (pc := 2849) (pc' := 2850) (st' := [.ref 241]) (show z_pt 320 2849 = some (9, .aload_n 2, []) by decide +kernel) rfl (fun _ _ => rfl) ?_
  refine L_call (pc := 2850) (rr := []) (show z_pt 320 2850 = some (9, .invokevirtual 181, [0, 159, 0, 6173, 6174, 6175, 1012, 6176]) by decide +kernel) rfl (show z_r2 159 = some (10, 1, true) by decide +kernel) rfl rfl (Or.inr ⟨_, _, rfl, (show z_ci 241 10 = true by decide +kernel)⟩) (pm_thrown_run (r := μ2 241 12) rfl) (by omega) ?_
  refine L_at (pc := 2853) (st := [.int (μ2 241 12)]) ?_
  refine L_pure (pc := 2853) (pc' := 2855) (st' := [.int (μ2 241 12), .int (μ2 241 12)]) (show z_pt 320 2853 = some (9, .iload 6, []) by decide +kernel) rfl (fun _ _ => rfl) ?_
  refine L_icT (pc := 2855) (t := 2860) (show z_pt 320 2855 = some (9, .if_icmp .eq 5, []) by decide +kernel) (by decide) (decide_eq_true rfl) ?_
  refine L_pure (pc := 2860) (pc' := 2862) (st' := [.int (μ2 241 12)]) (show z_pt 320 2860 = some (9, .iload 6, []) by decide +kernel) rfl (fun _ _ => rfl) ?_
  by_cases hz0 : μ2 241 12 = 0
  · have hn64 := hn64b hz0
    refine L_ifF (pc := 2862) (t := 2898) (show z_pt 320 2862 = some (9, .ifCond .ne 36, []) by decide +kernel) (by decide) (decide_eq_false (fun h => h hz0)) ?_
    refine L_pure (pc := 2865) (pc' := 2867) (st' := [.ref 252]) (show z_pt 320 2865 = some (9, .aload 4, []) by decide +kernel) rfl (fun _ _ => rfl) ?_
    refine L_const (pc := 2867) (pc' := 2868) (v := 0) (show z_ptc 320 2867 = some (2868, 0) by decide +kernel) ?_
    refine L_dald (pc := 2868) (show z_pt 320 2868 = some (9, .daload, []) by decide +kernel) ?_
    refine L_pure (pc := 2869) (pc' := 2871) (st' := [.float b, .double (q1 0)]) (show z_pt 320 2869 = some (9, .fload 7, []) by decide +kernel) rfl (fun _ _ => rfl) ?_
    refine L_f2d (pc := 2871) (show z_pt 320 2871 = some (9, .f2d, []) by decide +kernel) hn64 ?_
    refine L_pure (pc := 2872) (pc' := 2873) (st' := [.int (Op.cmpValue (FP.dcmp (q1 0) (FP.f2d b)) .l)]) (show z_pt 320 2872 = some (9, .dcmp .l, []) by decide +kernel) rfl (fun _ _ => rfl) ?_
    refine L_ifT (pc := 2873) (t := 2898) (show z_pt 320 2873 = some (9, .ifCond .eq 25, []) by decide +kernel) (by decide) (decide_eq_true (by rw [hz hz0]; exact hcm hz0)) ?_
    refine L_pure (pc := 2898) (pc' := 3330) (show z_pt 320 2898 = some (9, .goto 432, []) by decide +kernel) rfl (fun _ _ => rfl) ?_
    refine L_inc (pc := 3330) (pc' := 3333) (ls' := [(0, .ref 2000), (1, .ref 0), (2, .ref 241), (3, .ref 251), (4, .ref 252), (5, .int (i + 4)), (6, .int (μ2 241 12)), (7, .float b)]) (c := 4) (show z_pt 320 3330 = some (9, .iinc 5 4, []) by decide +kernel) (by decide) rfl rfl ?_
    refine L_pure (pc := 3333) (pc' := 28) (ls' := [(0, .ref 2000), (1, .ref 0), (2, .ref 241), (3, .ref 251), (4, .ref 252), (5, .int (i + 4))]) (st' := []) (show z_pt 320 3333 = some (9, .goto (-3305), [6]) by decide +kernel) rfl (fun _ _ => rfl) ?_
    exact kk _ _
  · refine L_ifT (pc := 2862) (t := 2898) (show z_pt 320 2862 = some (9, .ifCond .ne 36, []) by decide +kernel) (by decide) (decide_eq_true hz0) ?_
    refine L_pure (pc := 2898) (pc' := 3330) (show z_pt 320 2898 = some (9, .goto 432, []) by decide +kernel) rfl (fun _ _ => rfl) ?_
    refine L_inc (pc := 3330) (pc' := 3333) (ls' := [(0, .ref 2000), (1, .ref 0), (2, .ref 241), (3, .ref 251), (4, .ref 252), (5, .int (i + 4)), (6, .int (μ2 241 12)), (7, .float b)]) (c := 4) (show z_pt 320 3330 = some (9, .iinc 5 4, []) by decide +kernel) (by decide) rfl rfl ?_
    refine L_pure (pc := 3333) (pc' := 28) (ls' := [(0, .ref 2000), (1, .ref 0), (2, .ref 241), (3, .ref 251), (4, .ref 252), (5, .int (i + 4))]) (st' := []) (show z_pt 320 3333 = some (9, .goto (-3305), [6]) by decide +kernel) rfl (fun _ _ => rfl) ?_
    exact kk _ _
theorem pL_arm45 {sc : Nat × (Nat → Int32)} {D J : Nat} {i c1 : Int32} {b : Int32} {r : Int32 ⊕ Nat} {μ μ1 μ2 : z_Mem} {a : Nat → Int64} {q : Nat → UInt64} {o : z_R} {P : z_LP} (hD : 9 ≤ D) (hb1 : z_inb (i + 1) sc.1 = true) (hc1 : sc.2 (i + 1).toNatClampNeg = c1) (h1 : pG_writeGear μ c1 = some (r, μ1)) (h2 : pm_writeGear μ1 c1 = some (b, μ2)) (hag : z_agI [0] r b (μ2 241 12)) (kk : ∀ (a : Nat → Int64) (q : Nat → UInt64), Rl sc D 320 28 [(0, .ref 2000), (1, .ref 0), (2, .ref 241), (3, .ref 251), (4, .ref 252), (5, .int (i + 4))] [] μ2 a q o P J) : Rl sc D 320 2901 [(0, .ref 2000), (1, .ref 0), (2, .ref 241), (3, .ref 251), (4, .ref 252), (5, .int i)] [] μ a q o P (1 + J) := by
  obtain ⟨a1, q1, hz, hR⟩ := pL_writeGear (sc := sc) (a := a) (q := q) h1 hag
  refine L_pure (pc := 2901) (pc' := 2902) (st' := [.ref 0]) (show z_pt 320 2901 = some (9, .aload_n 1, []) by decide +kernel) rfl (fun _ _ => rfl) ?_
  refine L_pure (pc := 2902) (pc' := 2903) (st' := [.ref 2000, .ref 0]) (show z_pt 320 2902 = some (9, .aload_n 0, []) by decide +kernel) rfl (fun _ _ => rfl) ?_
  refine L_pure (pc := 2903) (pc' := 2905) (st' := [.int i, .ref 2000, .ref 0]) (show z_pt 320 2903 = some (9, .iload 5, []) by decide +kernel) rfl (fun _ _ => rfl) ?_
  refine L_const (pc := 2905) (pc' := 2906) (v := 1) (show z_ptc 320 2905 = some (2906, 1) by decide +kernel) ?_
  refine L_pure (pc := 2906) (pc' := 2907) (st' := [.int (i + 1), .ref 2000, .ref 0]) (show z_pt 320 2906 = some (9, .iadd, []) by decide +kernel) rfl (fun _ _ => rfl) ?_
  refine L_scr (pc := 2907) (show z_pt 320 2907 = some (9, .iaload, []) by decide +kernel) hb1 hc1 ?_
  refine L_pure (pc := 2908) (pc' := 2909) (st' := [.ref 251, .int c1, .ref 0]) (show z_pt 320 2908 = some (9, .aload_n 3, []) by decide +kernel) rfl (fun _ _ => rfl) ?_
  refine L_callF (pc := 2909) (rr := []) (show z_pt 320 2909 = some (9, .invokestatic 329, [5, 312, 3, 5142, 5143, 0, 1000, 5144]) by decide +kernel) rfl (show z_r3 312 = some (11, 4, true) by decide +kernel) rfl rfl hR (by omega) ?_
  refine L_at (pc := 2912) (st := [.int (μ2 241 12)]) ?_
  refine L_pure (pc := 2912) (pc' := 2914) (ls' := [(0, .ref 2000), (1, .ref 0), (2, .ref 241), (3, .ref 251), (4, .ref 252), (5, .int i), (6, .int (μ2 241 12))]) (st' := []) (show z_pt 320 2912 = some (9, .istore 6, []) by decide +kernel) rfl (fun _ _ => rfl) ?_
  refine L_pure (pc := 2914) (pc' := 2915) (st' := [.ref 241]) (show z_pt 320 2914 = some (9, .aload_n 2, []) by decide +kernel) rfl (fun _ _ => rfl) ?_
  refine L_pure (pc := 2915) (pc' := 2916) (st' := [.ref 2000, .ref 241]) (show z_pt 320 2915 = some (9, .aload_n 0, []) by decide +kernel) rfl (fun _ _ => rfl) ?_
  refine L_pure (pc := 2916) (pc' := 2918) (st' := [.int i, .ref 2000, .ref 241]) (show z_pt 320 2916 = some (9, .iload 5, []) by decide +kernel) rfl (fun _ _ => rfl) ?_
  refine L_const (pc := 2918) (pc' := 2919) (v := 1) (show z_ptc 320 2918 = some (2919, 1) by decide +kernel) ?_
  refine L_pure (pc := 2919) (pc' := 2920) (st' := [.int (i + 1), .ref 2000, .ref 241]) (show z_pt 320 2919 = some (9, .iadd, []) by decide +kernel) rfl (fun _ _ => rfl) ?_
  refine L_scr (pc := 2920) (show z_pt 320 2920 = some (9, .iaload, []) by decide +kernel) hb1 hc1 ?_
  refine L_call (pc := 2921) (rr := []) (show z_pt 320 2921 = some (9, .invokevirtual 331, [0, 254, 1, 8060, 8061, 8062, 1012, 8063]) by decide +kernel) rfl (show z_r2 254 = some (10, 3, true) by decide +kernel) rfl rfl (Or.inr ⟨_, _, rfl, (show z_ci 241 10 = true by decide +kernel)⟩) (pm_writeGear_run (r := (b, μ2)) h2) (by omega) ?_
  refine L_at (pc := 2924) (st := [.int b]) ?_
  refine L_pure (pc := 2924) (pc' := 2926) (ls' := [(0, .ref 2000), (1, .ref 0), (2, .ref 241), (3, .ref 251), (4, .ref 252), (5, .int i), (6, .int (μ2 241 12)), (7, .int b)]) (st' := []) (show z_pt 320 2924 = some (9, .istore 7, []) by decide +kernel) rfl (fun _ _ => rfl) ?_
  refine L_pure (pc := 2926) (pc' := 2927) (st' := [.ref 241]) (show z_pt 320 2926 = some (9, .aload_n 2, []) by decide +kernel) rfl (fun _ _ => rfl) ?_
  refine L_call (pc := 2927) (rr := []) (show z_pt 320 2927 = some (9, .invokevirtual 181, [0, 159, 0, 6173, 6174, 6175, 1012, 6176]) by decide +kernel) rfl (show z_r2 159 = some (10, 1, true) by decide +kernel) rfl rfl (Or.inr ⟨_, _, rfl, (show z_ci 241 10 = true by decide +kernel)⟩) (pm_thrown_run (r := μ2 241 12) rfl) (by omega) ?_
  refine L_at (pc := 2930) (st := [.int (μ2 241 12)]) ?_
  refine L_pure (pc := 2930) (pc' := 2932) (st' := [.int (μ2 241 12), .int (μ2 241 12)]) (show z_pt 320 2930 = some (9, .iload 6, []) by decide +kernel) rfl (fun _ _ => rfl) ?_
  refine L_icT (pc := 2932) (t := 2937) (show z_pt 320 2932 = some (9, .if_icmp .eq 5, []) by decide +kernel) (by decide) (decide_eq_true rfl) ?_
  refine L_pure (pc := 2937) (pc' := 2939) (st' := [.int (μ2 241 12)]) (show z_pt 320 2937 = some (9, .iload 6, []) by decide +kernel) rfl (fun _ _ => rfl) ?_
  by_cases hz0 : μ2 241 12 = 0
  · refine L_ifF (pc := 2939) (t := 2954) (show z_pt 320 2939 = some (9, .ifCond .ne 15, []) by decide +kernel) (by decide) (decide_eq_false (fun h => h hz0)) ?_
    refine L_pure (pc := 2942) (pc' := 2943) (st' := [.ref 251]) (show z_pt 320 2942 = some (9, .aload_n 3, []) by decide +kernel) rfl (fun _ _ => rfl) ?_
    refine L_const (pc := 2943) (pc' := 2944) (v := 0) (show z_ptc 320 2943 = some (2944, 0) by decide +kernel) ?_
    refine L_lald (pc := 2944) (show z_pt 320 2944 = some (9, .laload, []) by decide +kernel) ?_
    refine L_pure (pc := 2945) (pc' := 2947) (st' := [.int b, .long (a1 0)]) (show z_pt 320 2945 = some (9, .iload 7, []) by decide +kernel) rfl (fun _ _ => rfl) ?_
    refine L_pure (pc := 2947) (pc' := 2948) (st' := [.long (Int32.toInt64 b), .long (a1 0)]) (show z_pt 320 2947 = some (9, .i2l, []) by decide +kernel) rfl (fun _ _ => rfl) ?_
    refine L_pure (pc := 2948) (pc' := 2949) (st' := [.int (lg_cmp (a1 0) (Int32.toInt64 b))]) (show z_pt 320 2948 = some (9, .lcmp, []) by decide +kernel) rfl (fun _ _ => rfl) ?_
    refine L_ifT (pc := 2949) (t := 2954) (show z_pt 320 2949 = some (9, .ifCond .eq 5, []) by decide +kernel) (by decide) (z_lc (hz hz0)) ?_
    refine L_pure (pc := 2954) (pc' := 3330) (show z_pt 320 2954 = some (9, .goto 376, []) by decide +kernel) rfl (fun _ _ => rfl) ?_
    refine L_inc (pc := 3330) (pc' := 3333) (ls' := [(0, .ref 2000), (1, .ref 0), (2, .ref 241), (3, .ref 251), (4, .ref 252), (5, .int (i + 4)), (6, .int (μ2 241 12)), (7, .int b)]) (c := 4) (show z_pt 320 3330 = some (9, .iinc 5 4, []) by decide +kernel) (by decide) rfl rfl ?_
    refine L_pure (pc := 3333) (pc' := 28) (ls' := [(0, .ref 2000), (1, .ref 0), (2, .ref 241), (3, .ref 251), (4, .ref 252), (5, .int (i + 4))]) (st' := []) (show z_pt 320 3333 = some (9, .goto (-3305), [6]) by decide +kernel) rfl (fun _ _ => rfl) ?_
    exact kk _ _
  · refine L_ifT (pc := 2939) (t := 2954) (show z_pt 320 2939 = some (9, .ifCond .ne 15, []) by decide +kernel) (by decide) (decide_eq_true hz0) ?_
    refine L_pure (pc := 2954) (pc' := 3330) (show z_pt 320 2954 = some (9, .goto 376, []) by decide +kernel) rfl (fun _ _ => rfl) ?_
    refine L_inc (pc := 3330) (pc' := 3333) (ls' := [(0, .ref 2000), (1, .ref 0), (2, .ref 241), (3, .ref 251), (4, .ref 252), (5, .int (i + 4)), (6, .int (μ2 241 12)), (7, .int b)]) (c := 4) (show z_pt 320 3330 = some (9, .iinc 5 4, []) by decide +kernel) (by decide) rfl rfl ?_
    refine L_pure (pc := 3333) (pc' := 28) (ls' := [(0, .ref 2000), (1, .ref 0), (2, .ref 241), (3, .ref 251), (4, .ref 252), (5, .int (i + 4))]) (st' := []) (show z_pt 320 3333 = some (9, .goto (-3305), [6]) by decide +kernel) rfl (fun _ _ => rfl) ?_
    exact kk _ _
theorem pL_arm46 {sc : Nat × (Nat → Int32)} {D J : Nat} {i c1 : Int32} {b : Int32} {r : Int32 ⊕ Nat} {μ μ2 : z_Mem} {a : Nat → Int64} {q : Nat → UInt64} {o : z_R} {P : z_LP} (hD : 8 ≤ D) (hb1 : z_inb (i + 1) sc.1 = true) (hc1 : sc.2 (i + 1).toNatClampNeg = c1) (h1 : pG_outputCharacter μ c1 = some r) (h2 : pm_outputCharacter μ c1 = some (b, μ2)) (hag : z_agI [0] r b (μ2 241 12)) (kk : ∀ (a : Nat → Int64) (q : Nat → UInt64), Rl sc D 320 28 [(0, .ref 2000), (1, .ref 0), (2, .ref 241), (3, .ref 251), (4, .ref 252), (5, .int (i + 4))] [] μ2 a q o P J) : Rl sc D 320 2957 [(0, .ref 2000), (1, .ref 0), (2, .ref 241), (3, .ref 251), (4, .ref 252), (5, .int i)] [] μ a q o P (1 + J) := by
  obtain ⟨a1, q1, hz, hR⟩ := pL_outputCharacter (sc := sc) (a := a) (q := q) h1 hag
  refine L_pure (pc := 2957) (pc' := 2958) (st' := [.ref 0]) (show z_pt 320 2957 = some (9, .aload_n 1, []) by decide +kernel) rfl (fun _ _ => rfl) ?_
  refine L_pure (pc := 2958) (pc' := 2959) (st' := [.ref 2000, .ref 0]) (show z_pt 320 2958 = some (9, .aload_n 0, []) by decide +kernel) rfl (fun _ _ => rfl) ?_
  refine L_pure (pc := 2959) (pc' := 2961) (st' := [.int i, .ref 2000, .ref 0]) (show z_pt 320 2959 = some (9, .iload 5, []) by decide +kernel) rfl (fun _ _ => rfl) ?_
  refine L_const (pc := 2961) (pc' := 2962) (v := 1) (show z_ptc 320 2961 = some (2962, 1) by decide +kernel) ?_
  refine L_pure (pc := 2962) (pc' := 2963) (st' := [.int (i + 1), .ref 2000, .ref 0]) (show z_pt 320 2962 = some (9, .iadd, []) by decide +kernel) rfl (fun _ _ => rfl) ?_
  refine L_scr (pc := 2963) (show z_pt 320 2963 = some (9, .iaload, []) by decide +kernel) hb1 hc1 ?_
  refine L_pure (pc := 2964) (pc' := 2965) (st' := [.ref 251, .int c1, .ref 0]) (show z_pt 320 2964 = some (9, .aload_n 3, []) by decide +kernel) rfl (fun _ _ => rfl) ?_
  refine L_callF (pc := 2965) (rr := []) (show z_pt 320 2965 = some (9, .invokestatic 332, [5, 313, 3, 5164, 5165, 0, 1000, 5166]) by decide +kernel) rfl (show z_r3 313 = some (11, 4, true) by decide +kernel) rfl rfl hR (by omega) ?_
  refine L_at (pc := 2968) (st := [.int (μ2 241 12)]) ?_
  refine L_pure (pc := 2968) (pc' := 2970) (ls' := [(0, .ref 2000), (1, .ref 0), (2, .ref 241), (3, .ref 251), (4, .ref 252), (5, .int i), (6, .int (μ2 241 12))]) (st' := []) (show z_pt 320 2968 = some (9, .istore 6, []) by decide +kernel) rfl (fun _ _ => rfl) ?_
  refine L_pure (pc := 2970) (pc' := 2971) (st' := [.ref 241]) (show z_pt 320 2970 = some (9, .aload_n 2, []) by decide +kernel) rfl (fun _ _ => rfl) ?_
  refine L_pure (pc := 2971) (pc' := 2972) (st' := [.ref 2000, .ref 241]) (show z_pt 320 2971 = some (9, .aload_n 0, []) by decide +kernel) rfl (fun _ _ => rfl) ?_
  refine L_pure (pc := 2972) (pc' := 2974) (st' := [.int i, .ref 2000, .ref 241]) (show z_pt 320 2972 = some (9, .iload 5, []) by decide +kernel) rfl (fun _ _ => rfl) ?_
  refine L_const (pc := 2974) (pc' := 2975) (v := 1) (show z_ptc 320 2974 = some (2975, 1) by decide +kernel) ?_
  refine L_pure (pc := 2975) (pc' := 2976) (st' := [.int (i + 1), .ref 2000, .ref 241]) (show z_pt 320 2975 = some (9, .iadd, []) by decide +kernel) rfl (fun _ _ => rfl) ?_
  refine L_scr (pc := 2976) (show z_pt 320 2976 = some (9, .iaload, []) by decide +kernel) hb1 hc1 ?_
  refine L_call (pc := 2977) (rr := []) (show z_pt 320 2977 = some (9, .invokevirtual 334, [0, 255, 1, 8073, 8074, 8075, 1012, 8076]) by decide +kernel) rfl (show z_r2 255 = some (10, 2, true) by decide +kernel) rfl rfl (Or.inr ⟨_, _, rfl, (show z_ci 241 10 = true by decide +kernel)⟩) (pm_outputCharacter_run (r := (b, μ2)) h2) (by omega) ?_
  refine L_at (pc := 2980) (st := [.int b]) ?_
  refine L_pure (pc := 2980) (pc' := 2982) (ls' := [(0, .ref 2000), (1, .ref 0), (2, .ref 241), (3, .ref 251), (4, .ref 252), (5, .int i), (6, .int (μ2 241 12)), (7, .int b)]) (st' := []) (show z_pt 320 2980 = some (9, .istore 7, []) by decide +kernel) rfl (fun _ _ => rfl) ?_
  refine L_pure (pc := 2982) (pc' := 2983) (st' := [.ref 241]) (show z_pt 320 2982 = some (9, .aload_n 2, []) by decide +kernel) rfl (fun _ _ => rfl) ?_
  refine L_call (pc := 2983) (rr := []) (show z_pt 320 2983 = some (9, .invokevirtual 181, [0, 159, 0, 6173, 6174, 6175, 1012, 6176]) by decide +kernel) rfl (show z_r2 159 = some (10, 1, true) by decide +kernel) rfl rfl (Or.inr ⟨_, _, rfl, (show z_ci 241 10 = true by decide +kernel)⟩) (pm_thrown_run (r := μ2 241 12) rfl) (by omega) ?_
  refine L_at (pc := 2986) (st := [.int (μ2 241 12)]) ?_
  refine L_pure (pc := 2986) (pc' := 2988) (st' := [.int (μ2 241 12), .int (μ2 241 12)]) (show z_pt 320 2986 = some (9, .iload 6, []) by decide +kernel) rfl (fun _ _ => rfl) ?_
  refine L_icT (pc := 2988) (t := 2993) (show z_pt 320 2988 = some (9, .if_icmp .eq 5, []) by decide +kernel) (by decide) (decide_eq_true rfl) ?_
  refine L_pure (pc := 2993) (pc' := 2995) (st' := [.int (μ2 241 12)]) (show z_pt 320 2993 = some (9, .iload 6, []) by decide +kernel) rfl (fun _ _ => rfl) ?_
  by_cases hz0 : μ2 241 12 = 0
  · refine L_ifF (pc := 2995) (t := 3010) (show z_pt 320 2995 = some (9, .ifCond .ne 15, []) by decide +kernel) (by decide) (decide_eq_false (fun h => h hz0)) ?_
    refine L_pure (pc := 2998) (pc' := 2999) (st' := [.ref 251]) (show z_pt 320 2998 = some (9, .aload_n 3, []) by decide +kernel) rfl (fun _ _ => rfl) ?_
    refine L_const (pc := 2999) (pc' := 3000) (v := 0) (show z_ptc 320 2999 = some (3000, 0) by decide +kernel) ?_
    refine L_lald (pc := 3000) (show z_pt 320 3000 = some (9, .laload, []) by decide +kernel) ?_
    refine L_pure (pc := 3001) (pc' := 3003) (st' := [.int b, .long (a1 0)]) (show z_pt 320 3001 = some (9, .iload 7, []) by decide +kernel) rfl (fun _ _ => rfl) ?_
    refine L_pure (pc := 3003) (pc' := 3004) (st' := [.long (Int32.toInt64 b), .long (a1 0)]) (show z_pt 320 3003 = some (9, .i2l, []) by decide +kernel) rfl (fun _ _ => rfl) ?_
    refine L_pure (pc := 3004) (pc' := 3005) (st' := [.int (lg_cmp (a1 0) (Int32.toInt64 b))]) (show z_pt 320 3004 = some (9, .lcmp, []) by decide +kernel) rfl (fun _ _ => rfl) ?_
    refine L_ifT (pc := 3005) (t := 3010) (show z_pt 320 3005 = some (9, .ifCond .eq 5, []) by decide +kernel) (by decide) (z_lc (hz hz0)) ?_
    refine L_pure (pc := 3010) (pc' := 3330) (show z_pt 320 3010 = some (9, .goto 320, []) by decide +kernel) rfl (fun _ _ => rfl) ?_
    refine L_inc (pc := 3330) (pc' := 3333) (ls' := [(0, .ref 2000), (1, .ref 0), (2, .ref 241), (3, .ref 251), (4, .ref 252), (5, .int (i + 4)), (6, .int (μ2 241 12)), (7, .int b)]) (c := 4) (show z_pt 320 3330 = some (9, .iinc 5 4, []) by decide +kernel) (by decide) rfl rfl ?_
    refine L_pure (pc := 3333) (pc' := 28) (ls' := [(0, .ref 2000), (1, .ref 0), (2, .ref 241), (3, .ref 251), (4, .ref 252), (5, .int (i + 4))]) (st' := []) (show z_pt 320 3333 = some (9, .goto (-3305), [6]) by decide +kernel) rfl (fun _ _ => rfl) ?_
    exact kk _ _
  · refine L_ifT (pc := 2995) (t := 3010) (show z_pt 320 2995 = some (9, .ifCond .ne 15, []) by decide +kernel) (by decide) (decide_eq_true hz0) ?_
    refine L_pure (pc := 3010) (pc' := 3330) (show z_pt 320 3010 = some (9, .goto 320, []) by decide +kernel) rfl (fun _ _ => rfl) ?_
    refine L_inc (pc := 3330) (pc' := 3333) (ls' := [(0, .ref 2000), (1, .ref 0), (2, .ref 241), (3, .ref 251), (4, .ref 252), (5, .int (i + 4)), (6, .int (μ2 241 12)), (7, .int b)]) (c := 4) (show z_pt 320 3330 = some (9, .iinc 5 4, []) by decide +kernel) (by decide) rfl rfl ?_
    refine L_pure (pc := 3333) (pc' := 28) (ls' := [(0, .ref 2000), (1, .ref 0), (2, .ref 241), (3, .ref 251), (4, .ref 252), (5, .int (i + 4))]) (st' := []) (show z_pt 320 3333 = some (9, .goto (-3305), [6]) by decide +kernel) rfl (fun _ _ => rfl) ?_
    exact kk _ _
theorem pL_arm47 {sc : Nat × (Nat → Int32)} {D J : Nat} {i b : Int32} {μ μ1 μ2 : z_Mem} {a : Nat → Int64} {q : Nat → UInt64} {o : z_R} {P : z_LP} (hD : 19 ≤ D) (h1 : pG_isConsistent μ = some (b, μ1)) (h2 : pm_isConsistent μ1 = some (b, μ2)) (kk : Rl sc D 320 28 [(0, .ref 2000), (1, .ref 0), (2, .ref 241), (3, .ref 251), (4, .ref 252), (5, .int (i + 4))] [] μ2 a q o P J) : Rl sc D 320 3013 [(0, .ref 2000), (1, .ref 0), (2, .ref 241), (3, .ref 251), (4, .ref 252), (5, .int i)] [] μ a q o P J := by
  refine L_pure (pc := 3013) (pc' := 3014) (st' := [.ref 0]) (show z_pt 320 3013 = some (9, .aload_n 1, []) by decide +kernel) rfl (fun _ _ => rfl) ?_
  refine L_call (pc := 3014) (rr := []) (show z_pt 320 3014 = some (9, .invokevirtual 335, [0, 124, 0, 2125, 2126, 2127, 1001, 2128]) by decide +kernel) rfl (show z_r2 124 = some (9, 5, true) by decide +kernel) rfl rfl (Or.inr ⟨_, _, rfl, (show z_ci 0 9 = true by decide +kernel)⟩) (pG_isConsistent_run (r := (b, μ1)) h1) (by omega) ?_
  refine L_at (pc := 3017) (st := [.int b]) ?_
  refine L_pure (pc := 3017) (pc' := 3018) (st' := [.ref 241, .int b]) (show z_pt 320 3017 = some (9, .aload_n 2, []) by decide +kernel) rfl (fun _ _ => rfl) ?_
  refine L_call (pc := 3018) (rr := [.int b]) (show z_pt 320 3018 = some (9, .invokevirtual 339, [0, 256, 0, 8077, 8078, 8079, 1012, 8080]) by decide +kernel) rfl (show z_r2 256 = some (10, 1, true) by decide +kernel) rfl rfl (Or.inr ⟨_, _, rfl, (show z_ci 241 10 = true by decide +kernel)⟩) (pm_isConsistent_run (r := (b, μ2)) h2) (by omega) ?_
  refine L_at (pc := 3021) (st := [.int b, .int b]) ?_
  refine L_icT (pc := 3021) (t := 3330) (show z_pt 320 3021 = some (9, .if_icmp .eq 309, []) by decide +kernel) (by decide) (decide_eq_true rfl) ?_
  refine L_inc (pc := 3330) (pc' := 3333) (ls' := [(0, .ref 2000), (1, .ref 0), (2, .ref 241), (3, .ref 251), (4, .ref 252), (5, .int (i + 4))]) (c := 4) (show z_pt 320 3330 = some (9, .iinc 5 4, []) by decide +kernel) (by decide) rfl rfl ?_
  refine L_pure (pc := 3333) (pc' := 28) (ls' := [(0, .ref 2000), (1, .ref 0), (2, .ref 241), (3, .ref 251), (4, .ref 252), (5, .int (i + 4))]) (st' := []) (show z_pt 320 3333 = some (9, .goto (-3305), [6]) by decide +kernel) rfl (fun _ _ => rfl) ?_
  exact kk
theorem pL_arm48 {sc : Nat × (Nat → Int32)} {D J : Nat} {i c1 : Int32} {b : Int32} {r : Int32 ⊕ Nat} {μ μ1 μ2 : z_Mem} {a : Nat → Int64} {q : Nat → UInt64} {o : z_R} {P : z_LP} (hD : 8 ≤ D) (hb1 : z_inb (i + 1) sc.1 = true) (hc1 : sc.2 (i + 1).toNatClampNeg = c1) (h1 : pG_feed μ (z_toC c1) = some (r, μ1)) (h2 : pm_feed μ1 (z_toC c1) = some (b, μ2)) (hag : z_agI [2] r b (μ2 241 12)) (kk : ∀ (a : Nat → Int64) (q : Nat → UInt64), Rl sc D 320 28 [(0, .ref 2000), (1, .ref 0), (2, .ref 241), (3, .ref 251), (4, .ref 252), (5, .int (i + 4))] [] μ2 a q o P J) : Rl sc D 320 3026 [(0, .ref 2000), (1, .ref 0), (2, .ref 241), (3, .ref 251), (4, .ref 252), (5, .int i)] [] μ a q o P (1 + J) := by
  obtain ⟨a1, q1, hz, hR⟩ := pL_feed (sc := sc) (a := a) (q := q) h1 hag
  refine L_pure (pc := 3026) (pc' := 3027) (st' := [.ref 0]) (show z_pt 320 3026 = some (9, .aload_n 1, []) by decide +kernel) rfl (fun _ _ => rfl) ?_
  refine L_pure (pc := 3027) (pc' := 3028) (st' := [.ref 2000, .ref 0]) (show z_pt 320 3027 = some (9, .aload_n 0, []) by decide +kernel) rfl (fun _ _ => rfl) ?_
  refine L_pure (pc := 3028) (pc' := 3030) (st' := [.int i, .ref 2000, .ref 0]) (show z_pt 320 3028 = some (9, .iload 5, []) by decide +kernel) rfl (fun _ _ => rfl) ?_
  refine L_const (pc := 3030) (pc' := 3031) (v := 1) (show z_ptc 320 3030 = some (3031, 1) by decide +kernel) ?_
  refine L_pure (pc := 3031) (pc' := 3032) (st' := [.int (i + 1), .ref 2000, .ref 0]) (show z_pt 320 3031 = some (9, .iadd, []) by decide +kernel) rfl (fun _ _ => rfl) ?_
  refine L_scr (pc := 3032) (show z_pt 320 3032 = some (9, .iaload, []) by decide +kernel) hb1 hc1 ?_
  refine L_pure (pc := 3033) (pc' := 3034) (st' := [.int (z_toC c1), .ref 0]) (show z_pt 320 3033 = some (9, .i2c, []) by decide +kernel) rfl (fun _ _ => rfl) ?_
  refine L_pure (pc := 3034) (pc' := 3035) (st' := [.ref 251, .int (z_toC c1), .ref 0]) (show z_pt 320 3034 = some (9, .aload_n 3, []) by decide +kernel) rfl (fun _ _ => rfl) ?_
  refine L_callF (pc := 3035) (rr := []) (show z_pt 320 3035 = some (9, .invokestatic 340, [5, 314, 3, 5171, 5172, 0, 1000, 5173]) by decide +kernel) rfl (show z_r3 314 = some (11, 4, true) by decide +kernel) rfl rfl hR (by omega) ?_
  refine L_at (pc := 3038) (st := [.int (μ2 241 12)]) ?_
  refine L_pure (pc := 3038) (pc' := 3040) (ls' := [(0, .ref 2000), (1, .ref 0), (2, .ref 241), (3, .ref 251), (4, .ref 252), (5, .int i), (6, .int (μ2 241 12))]) (st' := []) (show z_pt 320 3038 = some (9, .istore 6, []) by decide +kernel) rfl (fun _ _ => rfl) ?_
  refine L_pure (pc := 3040) (pc' := 3041) (st' := [.ref 241]) (show z_pt 320 3040 = some (9, .aload_n 2, []) by decide +kernel) rfl (fun _ _ => rfl) ?_
  refine L_pure (pc := 3041) (pc' := 3042) (st' := [.ref 2000, .ref 241]) (show z_pt 320 3041 = some (9, .aload_n 0, []) by decide +kernel) rfl (fun _ _ => rfl) ?_
  refine L_pure (pc := 3042) (pc' := 3044) (st' := [.int i, .ref 2000, .ref 241]) (show z_pt 320 3042 = some (9, .iload 5, []) by decide +kernel) rfl (fun _ _ => rfl) ?_
  refine L_const (pc := 3044) (pc' := 3045) (v := 1) (show z_ptc 320 3044 = some (3045, 1) by decide +kernel) ?_
  refine L_pure (pc := 3045) (pc' := 3046) (st' := [.int (i + 1), .ref 2000, .ref 241]) (show z_pt 320 3045 = some (9, .iadd, []) by decide +kernel) rfl (fun _ _ => rfl) ?_
  refine L_scr (pc := 3046) (show z_pt 320 3046 = some (9, .iaload, []) by decide +kernel) hb1 hc1 ?_
  refine L_pure (pc := 3047) (pc' := 3048) (st' := [.int (z_toC c1), .ref 241]) (show z_pt 320 3047 = some (9, .i2c, []) by decide +kernel) rfl (fun _ _ => rfl) ?_
  refine L_call (pc := 3048) (rr := []) (show z_pt 320 3048 = some (9, .invokevirtual 343, [0, 257, 1, 8081, 8082, 8083, 1012, 8084]) by decide +kernel) rfl (show z_r2 257 = some (10, 2, true) by decide +kernel) rfl rfl (Or.inr ⟨_, _, rfl, (show z_ci 241 10 = true by decide +kernel)⟩) (pm_feed_run (r := (b, μ2)) h2) (by omega) ?_
  refine L_at (pc := 3051) (st := [.int b]) ?_
  refine L_pure (pc := 3051) (pc' := 3053) (ls' := [(0, .ref 2000), (1, .ref 0), (2, .ref 241), (3, .ref 251), (4, .ref 252), (5, .int i), (6, .int (μ2 241 12)), (7, .int b)]) (st' := []) (show z_pt 320 3051 = some (9, .istore 7, []) by decide +kernel) rfl (fun _ _ => rfl) ?_
  refine L_pure (pc := 3053) (pc' := 3054) (st' := [.ref 241]) (show z_pt 320 3053 = some (9, .aload_n 2, []) by decide +kernel) rfl (fun _ _ => rfl) ?_
  refine L_call (pc := 3054) (rr := []) (show z_pt 320 3054 = some (9, .invokevirtual 181, [0, 159, 0, 6173, 6174, 6175, 1012, 6176]) by decide +kernel) rfl (show z_r2 159 = some (10, 1, true) by decide +kernel) rfl rfl (Or.inr ⟨_, _, rfl, (show z_ci 241 10 = true by decide +kernel)⟩) (pm_thrown_run (r := μ2 241 12) rfl) (by omega) ?_
  refine L_at (pc := 3057) (st := [.int (μ2 241 12)]) ?_
  refine L_pure (pc := 3057) (pc' := 3059) (st' := [.int (μ2 241 12), .int (μ2 241 12)]) (show z_pt 320 3057 = some (9, .iload 6, []) by decide +kernel) rfl (fun _ _ => rfl) ?_
  refine L_icT (pc := 3059) (t := 3064) (show z_pt 320 3059 = some (9, .if_icmp .eq 5, []) by decide +kernel) (by decide) (decide_eq_true rfl) ?_
  refine L_pure (pc := 3064) (pc' := 3066) (st' := [.int (μ2 241 12)]) (show z_pt 320 3064 = some (9, .iload 6, []) by decide +kernel) rfl (fun _ _ => rfl) ?_
  by_cases hz0 : μ2 241 12 = 0
  · refine L_ifF (pc := 3066) (t := 3081) (show z_pt 320 3066 = some (9, .ifCond .ne 15, []) by decide +kernel) (by decide) (decide_eq_false (fun h => h hz0)) ?_
    refine L_pure (pc := 3069) (pc' := 3070) (st' := [.ref 251]) (show z_pt 320 3069 = some (9, .aload_n 3, []) by decide +kernel) rfl (fun _ _ => rfl) ?_
    refine L_const (pc := 3070) (pc' := 3071) (v := 0) (show z_ptc 320 3070 = some (3071, 0) by decide +kernel) ?_
    refine L_lald (pc := 3071) (show z_pt 320 3071 = some (9, .laload, []) by decide +kernel) ?_
    refine L_pure (pc := 3072) (pc' := 3074) (st' := [.int b, .long (a1 0)]) (show z_pt 320 3072 = some (9, .iload 7, []) by decide +kernel) rfl (fun _ _ => rfl) ?_
    refine L_pure (pc := 3074) (pc' := 3075) (st' := [.long (Int32.toInt64 b), .long (a1 0)]) (show z_pt 320 3074 = some (9, .i2l, []) by decide +kernel) rfl (fun _ _ => rfl) ?_
    refine L_pure (pc := 3075) (pc' := 3076) (st' := [.int (lg_cmp (a1 0) (Int32.toInt64 b))]) (show z_pt 320 3075 = some (9, .lcmp, []) by decide +kernel) rfl (fun _ _ => rfl) ?_
    refine L_ifT (pc := 3076) (t := 3081) (show z_pt 320 3076 = some (9, .ifCond .eq 5, []) by decide +kernel) (by decide) (z_lc (hz hz0)) ?_
    refine L_pure (pc := 3081) (pc' := 3330) (show z_pt 320 3081 = some (9, .goto 249, []) by decide +kernel) rfl (fun _ _ => rfl) ?_
    refine L_inc (pc := 3330) (pc' := 3333) (ls' := [(0, .ref 2000), (1, .ref 0), (2, .ref 241), (3, .ref 251), (4, .ref 252), (5, .int (i + 4)), (6, .int (μ2 241 12)), (7, .int b)]) (c := 4) (show z_pt 320 3330 = some (9, .iinc 5 4, []) by decide +kernel) (by decide) rfl rfl ?_
    refine L_pure (pc := 3333) (pc' := 28) (ls' := [(0, .ref 2000), (1, .ref 0), (2, .ref 241), (3, .ref 251), (4, .ref 252), (5, .int (i + 4))]) (st' := []) (show z_pt 320 3333 = some (9, .goto (-3305), [6]) by decide +kernel) rfl (fun _ _ => rfl) ?_
    exact kk _ _
  · refine L_ifT (pc := 3066) (t := 3081) (show z_pt 320 3066 = some (9, .ifCond .ne 15, []) by decide +kernel) (by decide) (decide_eq_true hz0) ?_
    refine L_pure (pc := 3081) (pc' := 3330) (show z_pt 320 3081 = some (9, .goto 249, []) by decide +kernel) rfl (fun _ _ => rfl) ?_
    refine L_inc (pc := 3330) (pc' := 3333) (ls' := [(0, .ref 2000), (1, .ref 0), (2, .ref 241), (3, .ref 251), (4, .ref 252), (5, .int (i + 4)), (6, .int (μ2 241 12)), (7, .int b)]) (c := 4) (show z_pt 320 3330 = some (9, .iinc 5 4, []) by decide +kernel) (by decide) rfl rfl ?_
    refine L_pure (pc := 3333) (pc' := 28) (ls' := [(0, .ref 2000), (1, .ref 0), (2, .ref 241), (3, .ref 251), (4, .ref 252), (5, .int (i + 4))]) (st' := []) (show z_pt 320 3333 = some (9, .goto (-3305), [6]) by decide +kernel) rfl (fun _ _ => rfl) ?_
    exact kk _ _
theorem pL_arm49 {sc : Nat × (Nat → Int32)} {D J : Nat} {i  : Int32} {b : Int32} {r : Int32 ⊕ Nat} {μ μ1 μ2 : z_Mem} {a : Nat → Int64} {q : Nat → UInt64} {o : z_R} {P : z_LP} (hD : 21 ≤ D)  (h1 : pG_execute μ  = some (r, μ1)) (h2 : pm_execute μ1  = some (b, μ2)) (hag : z_agI [1, 5] r b (μ2 241 12)) (kk : ∀ (a : Nat → Int64) (q : Nat → UInt64), Rl sc D 320 28 [(0, .ref 2000), (1, .ref 0), (2, .ref 241), (3, .ref 251), (4, .ref 252), (5, .int (i + 4))] [] μ2 a q o P J) : Rl sc D 320 3084 [(0, .ref 2000), (1, .ref 0), (2, .ref 241), (3, .ref 251), (4, .ref 252), (5, .int i)] [] μ a q o P (1 + J) := by
  obtain ⟨a1, q1, hz, hR⟩ := pL_execute (sc := sc) (a := a) (q := q) h1 hag
  refine L_pure (pc := 3084) (pc' := 3085) (st' := [.ref 0]) (show z_pt 320 3084 = some (9, .aload_n 1, []) by decide +kernel) rfl (fun _ _ => rfl) ?_
  refine L_pure (pc := 3085) (pc' := 3086) (st' := [.ref 251, .ref 0]) (show z_pt 320 3085 = some (9, .aload_n 3, []) by decide +kernel) rfl (fun _ _ => rfl) ?_
  refine L_callF (pc := 3086) (rr := []) (show z_pt 320 3086 = some (9, .invokestatic 344, [5, 315, 2, 5178, 5179, 0, 1000, 5180]) by decide +kernel) rfl (show z_r3 315 = some (11, 3, true) by decide +kernel) rfl rfl hR (by omega) ?_
  refine L_at (pc := 3089) (st := [.int (μ2 241 12)]) ?_
  refine L_pure (pc := 3089) (pc' := 3091) (ls' := [(0, .ref 2000), (1, .ref 0), (2, .ref 241), (3, .ref 251), (4, .ref 252), (5, .int i), (6, .int (μ2 241 12))]) (st' := []) (show z_pt 320 3089 = some (9, .istore 6, []) by decide +kernel) rfl (fun _ _ => rfl) ?_
  refine L_pure (pc := 3091) (pc' := 3092) (st' := [.ref 241]) (show z_pt 320 3091 = some (9, .aload_n 2, []) by decide +kernel) rfl (fun _ _ => rfl) ?_
  refine L_call (pc := 3092) (rr := []) (show z_pt 320 3092 = some (9, .invokevirtual 347, [0, 267, 0, 8085, 8086, 8087, 1012, 8088]) by decide +kernel) rfl (show z_r2 267 = some (10, 5, true) by decide +kernel) rfl rfl (Or.inr ⟨_, _, rfl, (show z_ci 241 10 = true by decide +kernel)⟩) (pm_execute_run (r := (b, μ2)) h2) (by omega) ?_
  refine L_at (pc := 3095) (st := [.int b]) ?_
  refine L_pure (pc := 3095) (pc' := 3097) (ls' := [(0, .ref 2000), (1, .ref 0), (2, .ref 241), (3, .ref 251), (4, .ref 252), (5, .int i), (6, .int (μ2 241 12)), (7, .int b)]) (st' := []) (show z_pt 320 3095 = some (9, .istore 7, []) by decide +kernel) rfl (fun _ _ => rfl) ?_
  refine L_pure (pc := 3097) (pc' := 3098) (st' := [.ref 241]) (show z_pt 320 3097 = some (9, .aload_n 2, []) by decide +kernel) rfl (fun _ _ => rfl) ?_
  refine L_call (pc := 3098) (rr := []) (show z_pt 320 3098 = some (9, .invokevirtual 181, [0, 159, 0, 6173, 6174, 6175, 1012, 6176]) by decide +kernel) rfl (show z_r2 159 = some (10, 1, true) by decide +kernel) rfl rfl (Or.inr ⟨_, _, rfl, (show z_ci 241 10 = true by decide +kernel)⟩) (pm_thrown_run (r := μ2 241 12) rfl) (by omega) ?_
  refine L_at (pc := 3101) (st := [.int (μ2 241 12)]) ?_
  refine L_pure (pc := 3101) (pc' := 3103) (st' := [.int (μ2 241 12), .int (μ2 241 12)]) (show z_pt 320 3101 = some (9, .iload 6, []) by decide +kernel) rfl (fun _ _ => rfl) ?_
  refine L_icT (pc := 3103) (t := 3108) (show z_pt 320 3103 = some (9, .if_icmp .eq 5, []) by decide +kernel) (by decide) (decide_eq_true rfl) ?_
  refine L_pure (pc := 3108) (pc' := 3110) (st' := [.int (μ2 241 12)]) (show z_pt 320 3108 = some (9, .iload 6, []) by decide +kernel) rfl (fun _ _ => rfl) ?_
  by_cases hz0 : μ2 241 12 = 0
  · refine L_ifF (pc := 3110) (t := 3125) (show z_pt 320 3110 = some (9, .ifCond .ne 15, []) by decide +kernel) (by decide) (decide_eq_false (fun h => h hz0)) ?_
    refine L_pure (pc := 3113) (pc' := 3114) (st' := [.ref 251]) (show z_pt 320 3113 = some (9, .aload_n 3, []) by decide +kernel) rfl (fun _ _ => rfl) ?_
    refine L_const (pc := 3114) (pc' := 3115) (v := 0) (show z_ptc 320 3114 = some (3115, 0) by decide +kernel) ?_
    refine L_lald (pc := 3115) (show z_pt 320 3115 = some (9, .laload, []) by decide +kernel) ?_
    refine L_pure (pc := 3116) (pc' := 3118) (st' := [.int b, .long (a1 0)]) (show z_pt 320 3116 = some (9, .iload 7, []) by decide +kernel) rfl (fun _ _ => rfl) ?_
    refine L_pure (pc := 3118) (pc' := 3119) (st' := [.long (Int32.toInt64 b), .long (a1 0)]) (show z_pt 320 3118 = some (9, .i2l, []) by decide +kernel) rfl (fun _ _ => rfl) ?_
    refine L_pure (pc := 3119) (pc' := 3120) (st' := [.int (lg_cmp (a1 0) (Int32.toInt64 b))]) (show z_pt 320 3119 = some (9, .lcmp, []) by decide +kernel) rfl (fun _ _ => rfl) ?_
    refine L_ifT (pc := 3120) (t := 3125) (show z_pt 320 3120 = some (9, .ifCond .eq 5, []) by decide +kernel) (by decide) (z_lc (hz hz0)) ?_
    refine L_pure (pc := 3125) (pc' := 3330) (show z_pt 320 3125 = some (9, .goto 205, []) by decide +kernel) rfl (fun _ _ => rfl) ?_
    refine L_inc (pc := 3330) (pc' := 3333) (ls' := [(0, .ref 2000), (1, .ref 0), (2, .ref 241), (3, .ref 251), (4, .ref 252), (5, .int (i + 4)), (6, .int (μ2 241 12)), (7, .int b)]) (c := 4) (show z_pt 320 3330 = some (9, .iinc 5 4, []) by decide +kernel) (by decide) rfl rfl ?_
    refine L_pure (pc := 3333) (pc' := 28) (ls' := [(0, .ref 2000), (1, .ref 0), (2, .ref 241), (3, .ref 251), (4, .ref 252), (5, .int (i + 4))]) (st' := []) (show z_pt 320 3333 = some (9, .goto (-3305), [6]) by decide +kernel) rfl (fun _ _ => rfl) ?_
    exact kk _ _
  · refine L_ifT (pc := 3110) (t := 3125) (show z_pt 320 3110 = some (9, .ifCond .ne 15, []) by decide +kernel) (by decide) (decide_eq_true hz0) ?_
    refine L_pure (pc := 3125) (pc' := 3330) (show z_pt 320 3125 = some (9, .goto 205, []) by decide +kernel) rfl (fun _ _ => rfl) ?_
    refine L_inc (pc := 3330) (pc' := 3333) (ls' := [(0, .ref 2000), (1, .ref 0), (2, .ref 241), (3, .ref 251), (4, .ref 252), (5, .int (i + 4)), (6, .int (μ2 241 12)), (7, .int b)]) (c := 4) (show z_pt 320 3330 = some (9, .iinc 5 4, []) by decide +kernel) (by decide) rfl rfl ?_
    refine L_pure (pc := 3333) (pc' := 28) (ls' := [(0, .ref 2000), (1, .ref 0), (2, .ref 241), (3, .ref 251), (4, .ref 252), (5, .int (i + 4))]) (st' := []) (show z_pt 320 3333 = some (9, .goto (-3305), [6]) by decide +kernel) rfl (fun _ _ => rfl) ?_
    exact kk _ _
theorem pL_arm50 {sc : Nat × (Nat → Int32)} {D J : Nat} {i  : Int32} {b : Int32} {r : Int32 ⊕ Nat} {μ μ2 : z_Mem} {a : Nat → Int64} {q : Nat → UInt64} {o : z_R} {P : z_LP} (hD : 8 ≤ D)  (h1 : pG_errorPosition μ  = some r) (h2 : pm_errorPosition μ  = some (b, μ2)) (hag : z_agI [3] r b (μ2 241 12)) (kk : ∀ (a : Nat → Int64) (q : Nat → UInt64), Rl sc D 320 28 [(0, .ref 2000), (1, .ref 0), (2, .ref 241), (3, .ref 251), (4, .ref 252), (5, .int (i + 4))] [] μ2 a q o P J) : Rl sc D 320 3128 [(0, .ref 2000), (1, .ref 0), (2, .ref 241), (3, .ref 251), (4, .ref 252), (5, .int i)] [] μ a q o P (1 + J) := by
  obtain ⟨a1, q1, hz, hR⟩ := pL_errorPosition (sc := sc) (a := a) (q := q) h1 hag
  refine L_pure (pc := 3128) (pc' := 3129) (st' := [.ref 0]) (show z_pt 320 3128 = some (9, .aload_n 1, []) by decide +kernel) rfl (fun _ _ => rfl) ?_
  refine L_pure (pc := 3129) (pc' := 3130) (st' := [.ref 251, .ref 0]) (show z_pt 320 3129 = some (9, .aload_n 3, []) by decide +kernel) rfl (fun _ _ => rfl) ?_
  refine L_callF (pc := 3130) (rr := []) (show z_pt 320 3130 = some (9, .invokestatic 348, [5, 316, 2, 6079, 6080, 0, 1000, 6081]) by decide +kernel) rfl (show z_r3 316 = some (11, 3, true) by decide +kernel) rfl rfl hR (by omega) ?_
  refine L_at (pc := 3133) (st := [.int (μ2 241 12)]) ?_
  refine L_pure (pc := 3133) (pc' := 3135) (ls' := [(0, .ref 2000), (1, .ref 0), (2, .ref 241), (3, .ref 251), (4, .ref 252), (5, .int i), (6, .int (μ2 241 12))]) (st' := []) (show z_pt 320 3133 = some (9, .istore 6, []) by decide +kernel) rfl (fun _ _ => rfl) ?_
  refine L_pure (pc := 3135) (pc' := 3136) (st' := [.ref 241]) (show z_pt 320 3135 = some (9, .aload_n 2, []) by decide +kernel) rfl (fun _ _ => rfl) ?_
  refine L_call (pc := 3136) (rr := []) (show z_pt 320 3136 = some (9, .invokevirtual 350, [0, 268, 0, 8125, 8126, 8127, 1012, 8128]) by decide +kernel) rfl (show z_r2 268 = some (10, 1, true) by decide +kernel) rfl rfl (Or.inr ⟨_, _, rfl, (show z_ci 241 10 = true by decide +kernel)⟩) (pm_errorPosition_run (r := (b, μ2)) h2) (by omega) ?_
  refine L_at (pc := 3139) (st := [.int b]) ?_
  refine L_pure (pc := 3139) (pc' := 3141) (ls' := [(0, .ref 2000), (1, .ref 0), (2, .ref 241), (3, .ref 251), (4, .ref 252), (5, .int i), (6, .int (μ2 241 12)), (7, .int b)]) (st' := []) (show z_pt 320 3139 = some (9, .istore 7, []) by decide +kernel) rfl (fun _ _ => rfl) ?_
  refine L_pure (pc := 3141) (pc' := 3142) (st' := [.ref 241]) (show z_pt 320 3141 = some (9, .aload_n 2, []) by decide +kernel) rfl (fun _ _ => rfl) ?_
  refine L_call (pc := 3142) (rr := []) (show z_pt 320 3142 = some (9, .invokevirtual 181, [0, 159, 0, 6173, 6174, 6175, 1012, 6176]) by decide +kernel) rfl (show z_r2 159 = some (10, 1, true) by decide +kernel) rfl rfl (Or.inr ⟨_, _, rfl, (show z_ci 241 10 = true by decide +kernel)⟩) (pm_thrown_run (r := μ2 241 12) rfl) (by omega) ?_
  refine L_at (pc := 3145) (st := [.int (μ2 241 12)]) ?_
  refine L_pure (pc := 3145) (pc' := 3147) (st' := [.int (μ2 241 12), .int (μ2 241 12)]) (show z_pt 320 3145 = some (9, .iload 6, []) by decide +kernel) rfl (fun _ _ => rfl) ?_
  refine L_icT (pc := 3147) (t := 3152) (show z_pt 320 3147 = some (9, .if_icmp .eq 5, []) by decide +kernel) (by decide) (decide_eq_true rfl) ?_
  refine L_pure (pc := 3152) (pc' := 3154) (st' := [.int (μ2 241 12)]) (show z_pt 320 3152 = some (9, .iload 6, []) by decide +kernel) rfl (fun _ _ => rfl) ?_
  by_cases hz0 : μ2 241 12 = 0
  · refine L_ifF (pc := 3154) (t := 3169) (show z_pt 320 3154 = some (9, .ifCond .ne 15, []) by decide +kernel) (by decide) (decide_eq_false (fun h => h hz0)) ?_
    refine L_pure (pc := 3157) (pc' := 3158) (st' := [.ref 251]) (show z_pt 320 3157 = some (9, .aload_n 3, []) by decide +kernel) rfl (fun _ _ => rfl) ?_
    refine L_const (pc := 3158) (pc' := 3159) (v := 0) (show z_ptc 320 3158 = some (3159, 0) by decide +kernel) ?_
    refine L_lald (pc := 3159) (show z_pt 320 3159 = some (9, .laload, []) by decide +kernel) ?_
    refine L_pure (pc := 3160) (pc' := 3162) (st' := [.int b, .long (a1 0)]) (show z_pt 320 3160 = some (9, .iload 7, []) by decide +kernel) rfl (fun _ _ => rfl) ?_
    refine L_pure (pc := 3162) (pc' := 3163) (st' := [.long (Int32.toInt64 b), .long (a1 0)]) (show z_pt 320 3162 = some (9, .i2l, []) by decide +kernel) rfl (fun _ _ => rfl) ?_
    refine L_pure (pc := 3163) (pc' := 3164) (st' := [.int (lg_cmp (a1 0) (Int32.toInt64 b))]) (show z_pt 320 3163 = some (9, .lcmp, []) by decide +kernel) rfl (fun _ _ => rfl) ?_
    refine L_ifT (pc := 3164) (t := 3169) (show z_pt 320 3164 = some (9, .ifCond .eq 5, []) by decide +kernel) (by decide) (z_lc (hz hz0)) ?_
    refine L_pure (pc := 3169) (pc' := 3330) (show z_pt 320 3169 = some (9, .goto 161, []) by decide +kernel) rfl (fun _ _ => rfl) ?_
    refine L_inc (pc := 3330) (pc' := 3333) (ls' := [(0, .ref 2000), (1, .ref 0), (2, .ref 241), (3, .ref 251), (4, .ref 252), (5, .int (i + 4)), (6, .int (μ2 241 12)), (7, .int b)]) (c := 4) (show z_pt 320 3330 = some (9, .iinc 5 4, []) by decide +kernel) (by decide) rfl rfl ?_
    refine L_pure (pc := 3333) (pc' := 28) (ls' := [(0, .ref 2000), (1, .ref 0), (2, .ref 241), (3, .ref 251), (4, .ref 252), (5, .int (i + 4))]) (st' := []) (show z_pt 320 3333 = some (9, .goto (-3305), [6]) by decide +kernel) rfl (fun _ _ => rfl) ?_
    exact kk _ _
  · refine L_ifT (pc := 3154) (t := 3169) (show z_pt 320 3154 = some (9, .ifCond .ne 15, []) by decide +kernel) (by decide) (decide_eq_true hz0) ?_
    refine L_pure (pc := 3169) (pc' := 3330) (show z_pt 320 3169 = some (9, .goto 161, []) by decide +kernel) rfl (fun _ _ => rfl) ?_
    refine L_inc (pc := 3330) (pc' := 3333) (ls' := [(0, .ref 2000), (1, .ref 0), (2, .ref 241), (3, .ref 251), (4, .ref 252), (5, .int (i + 4)), (6, .int (μ2 241 12)), (7, .int b)]) (c := 4) (show z_pt 320 3330 = some (9, .iinc 5 4, []) by decide +kernel) (by decide) rfl rfl ?_
    refine L_pure (pc := 3333) (pc' := 28) (ls' := [(0, .ref 2000), (1, .ref 0), (2, .ref 241), (3, .ref 251), (4, .ref 252), (5, .int (i + 4))]) (st' := []) (show z_pt 320 3333 = some (9, .goto (-3305), [6]) by decide +kernel) rfl (fun _ _ => rfl) ?_
    exact kk _ _
theorem pL_arm51 {sc : Nat × (Nat → Int32)} {D J : Nat} {i  : Int32} {b : Int32} {r : Int32 ⊕ Nat} {μ μ2 : z_Mem} {a : Nat → Int64} {q : Nat → UInt64} {o : z_R} {P : z_LP} (hD : 8 ≤ D)  (h1 : pG_failedCommand μ  = some r) (h2 : pm_failedCommand μ  = some (b, μ2)) (hag : z_agI [3] r b (μ2 241 12)) (kk : ∀ (a : Nat → Int64) (q : Nat → UInt64), Rl sc D 320 28 [(0, .ref 2000), (1, .ref 0), (2, .ref 241), (3, .ref 251), (4, .ref 252), (5, .int (i + 4))] [] μ2 a q o P J) : Rl sc D 320 3172 [(0, .ref 2000), (1, .ref 0), (2, .ref 241), (3, .ref 251), (4, .ref 252), (5, .int i)] [] μ a q o P (1 + J) := by
  obtain ⟨a1, q1, hz, hR⟩ := pL_failedCommand (sc := sc) (a := a) (q := q) h1 hag
  refine L_pure (pc := 3172) (pc' := 3173) (st' := [.ref 0]) (show z_pt 320 3172 = some (9, .aload_n 1, []) by decide +kernel) rfl (fun _ _ => rfl) ?_
  refine L_pure (pc := 3173) (pc' := 3174) (st' := [.ref 251, .ref 0]) (show z_pt 320 3173 = some (9, .aload_n 3, []) by decide +kernel) rfl (fun _ _ => rfl) ?_
  refine L_callF (pc := 3174) (rr := []) (show z_pt 320 3174 = some (9, .invokestatic 351, [5, 317, 2, 6086, 6087, 0, 1000, 6088]) by decide +kernel) rfl (show z_r3 317 = some (11, 3, true) by decide +kernel) rfl rfl hR (by omega) ?_
  refine L_at (pc := 3177) (st := [.int (μ2 241 12)]) ?_
  refine L_pure (pc := 3177) (pc' := 3179) (ls' := [(0, .ref 2000), (1, .ref 0), (2, .ref 241), (3, .ref 251), (4, .ref 252), (5, .int i), (6, .int (μ2 241 12))]) (st' := []) (show z_pt 320 3177 = some (9, .istore 6, []) by decide +kernel) rfl (fun _ _ => rfl) ?_
  refine L_pure (pc := 3179) (pc' := 3180) (st' := [.ref 241]) (show z_pt 320 3179 = some (9, .aload_n 2, []) by decide +kernel) rfl (fun _ _ => rfl) ?_
  refine L_call (pc := 3180) (rr := []) (show z_pt 320 3180 = some (9, .invokevirtual 353, [0, 269, 0, 8129, 8130, 8131, 1012, 8132]) by decide +kernel) rfl (show z_r2 269 = some (10, 1, true) by decide +kernel) rfl rfl (Or.inr ⟨_, _, rfl, (show z_ci 241 10 = true by decide +kernel)⟩) (pm_failedCommand_run (r := (b, μ2)) h2) (by omega) ?_
  refine L_at (pc := 3183) (st := [.int b]) ?_
  refine L_pure (pc := 3183) (pc' := 3185) (ls' := [(0, .ref 2000), (1, .ref 0), (2, .ref 241), (3, .ref 251), (4, .ref 252), (5, .int i), (6, .int (μ2 241 12)), (7, .int b)]) (st' := []) (show z_pt 320 3183 = some (9, .istore 7, []) by decide +kernel) rfl (fun _ _ => rfl) ?_
  refine L_pure (pc := 3185) (pc' := 3186) (st' := [.ref 241]) (show z_pt 320 3185 = some (9, .aload_n 2, []) by decide +kernel) rfl (fun _ _ => rfl) ?_
  refine L_call (pc := 3186) (rr := []) (show z_pt 320 3186 = some (9, .invokevirtual 181, [0, 159, 0, 6173, 6174, 6175, 1012, 6176]) by decide +kernel) rfl (show z_r2 159 = some (10, 1, true) by decide +kernel) rfl rfl (Or.inr ⟨_, _, rfl, (show z_ci 241 10 = true by decide +kernel)⟩) (pm_thrown_run (r := μ2 241 12) rfl) (by omega) ?_
  refine L_at (pc := 3189) (st := [.int (μ2 241 12)]) ?_
  refine L_pure (pc := 3189) (pc' := 3191) (st' := [.int (μ2 241 12), .int (μ2 241 12)]) (show z_pt 320 3189 = some (9, .iload 6, []) by decide +kernel) rfl (fun _ _ => rfl) ?_
  refine L_icT (pc := 3191) (t := 3196) (show z_pt 320 3191 = some (9, .if_icmp .eq 5, []) by decide +kernel) (by decide) (decide_eq_true rfl) ?_
  refine L_pure (pc := 3196) (pc' := 3198) (st' := [.int (μ2 241 12)]) (show z_pt 320 3196 = some (9, .iload 6, []) by decide +kernel) rfl (fun _ _ => rfl) ?_
  by_cases hz0 : μ2 241 12 = 0
  · refine L_ifF (pc := 3198) (t := 3213) (show z_pt 320 3198 = some (9, .ifCond .ne 15, []) by decide +kernel) (by decide) (decide_eq_false (fun h => h hz0)) ?_
    refine L_pure (pc := 3201) (pc' := 3202) (st' := [.ref 251]) (show z_pt 320 3201 = some (9, .aload_n 3, []) by decide +kernel) rfl (fun _ _ => rfl) ?_
    refine L_const (pc := 3202) (pc' := 3203) (v := 0) (show z_ptc 320 3202 = some (3203, 0) by decide +kernel) ?_
    refine L_lald (pc := 3203) (show z_pt 320 3203 = some (9, .laload, []) by decide +kernel) ?_
    refine L_pure (pc := 3204) (pc' := 3206) (st' := [.int b, .long (a1 0)]) (show z_pt 320 3204 = some (9, .iload 7, []) by decide +kernel) rfl (fun _ _ => rfl) ?_
    refine L_pure (pc := 3206) (pc' := 3207) (st' := [.long (Int32.toInt64 b), .long (a1 0)]) (show z_pt 320 3206 = some (9, .i2l, []) by decide +kernel) rfl (fun _ _ => rfl) ?_
    refine L_pure (pc := 3207) (pc' := 3208) (st' := [.int (lg_cmp (a1 0) (Int32.toInt64 b))]) (show z_pt 320 3207 = some (9, .lcmp, []) by decide +kernel) rfl (fun _ _ => rfl) ?_
    refine L_ifT (pc := 3208) (t := 3213) (show z_pt 320 3208 = some (9, .ifCond .eq 5, []) by decide +kernel) (by decide) (z_lc (hz hz0)) ?_
    refine L_pure (pc := 3213) (pc' := 3330) (show z_pt 320 3213 = some (9, .goto 117, []) by decide +kernel) rfl (fun _ _ => rfl) ?_
    refine L_inc (pc := 3330) (pc' := 3333) (ls' := [(0, .ref 2000), (1, .ref 0), (2, .ref 241), (3, .ref 251), (4, .ref 252), (5, .int (i + 4)), (6, .int (μ2 241 12)), (7, .int b)]) (c := 4) (show z_pt 320 3330 = some (9, .iinc 5 4, []) by decide +kernel) (by decide) rfl rfl ?_
    refine L_pure (pc := 3333) (pc' := 28) (ls' := [(0, .ref 2000), (1, .ref 0), (2, .ref 241), (3, .ref 251), (4, .ref 252), (5, .int (i + 4))]) (st' := []) (show z_pt 320 3333 = some (9, .goto (-3305), [6]) by decide +kernel) rfl (fun _ _ => rfl) ?_
    exact kk _ _
  · refine L_ifT (pc := 3198) (t := 3213) (show z_pt 320 3198 = some (9, .ifCond .ne 15, []) by decide +kernel) (by decide) (decide_eq_true hz0) ?_
    refine L_pure (pc := 3213) (pc' := 3330) (show z_pt 320 3213 = some (9, .goto 117, []) by decide +kernel) rfl (fun _ _ => rfl) ?_
    refine L_inc (pc := 3330) (pc' := 3333) (ls' := [(0, .ref 2000), (1, .ref 0), (2, .ref 241), (3, .ref 251), (4, .ref 252), (5, .int (i + 4)), (6, .int (μ2 241 12)), (7, .int b)]) (c := 4) (show z_pt 320 3330 = some (9, .iinc 5 4, []) by decide +kernel) (by decide) rfl rfl ?_
    refine L_pure (pc := 3333) (pc' := 28) (ls' := [(0, .ref 2000), (1, .ref 0), (2, .ref 241), (3, .ref 251), (4, .ref 252), (5, .int (i + 4))]) (st' := []) (show z_pt 320 3333 = some (9, .goto (-3305), [6]) by decide +kernel) rfl (fun _ _ => rfl) ?_
    exact kk _ _
theorem pL_arm52 {sc : Nat × (Nat → Int32)} {D J : Nat} {i  : Int32} {b : Int32} {r : Int32 ⊕ Nat} {μ μ1 μ2 : z_Mem} {a : Nat → Int64} {q : Nat → UInt64} {o : z_R} {P : z_LP} (hD : 8 ≤ D)  (h1 : pG_undo μ  = some (r, μ1)) (h2 : pm_undo μ1  = some (b, μ2)) (hag : z_agI [2] r b (μ2 241 12)) (kk : ∀ (a : Nat → Int64) (q : Nat → UInt64), Rl sc D 320 28 [(0, .ref 2000), (1, .ref 0), (2, .ref 241), (3, .ref 251), (4, .ref 252), (5, .int (i + 4))] [] μ2 a q o P J) : Rl sc D 320 3216 [(0, .ref 2000), (1, .ref 0), (2, .ref 241), (3, .ref 251), (4, .ref 252), (5, .int i)] [] μ a q o P (1 + J) := by
  obtain ⟨a1, q1, hz, hR⟩ := pL_undo (sc := sc) (a := a) (q := q) h1 hag
  refine L_pure (pc := 3216) (pc' := 3217) (st' := [.ref 0]) (show z_pt 320 3216 = some (9, .aload_n 1, []) by decide +kernel) rfl (fun _ _ => rfl) ?_
  refine L_pure (pc := 3217) (pc' := 3218) (st' := [.ref 251, .ref 0]) (show z_pt 320 3217 = some (9, .aload_n 3, []) by decide +kernel) rfl (fun _ _ => rfl) ?_
  refine L_callF (pc := 3218) (rr := []) (show z_pt 320 3218 = some (9, .invokestatic 354, [5, 318, 2, 6093, 6094, 0, 1000, 6095]) by decide +kernel) rfl (show z_r3 318 = some (11, 3, true) by decide +kernel) rfl rfl hR (by omega) ?_
  refine L_at (pc := 3221) (st := [.int (μ2 241 12)]) ?_
  refine L_pure (pc := 3221) (pc' := 3223) (ls' := [(0, .ref 2000), (1, .ref 0), (2, .ref 241), (3, .ref 251), (4, .ref 252), (5, .int i), (6, .int (μ2 241 12))]) (st' := []) (show z_pt 320 3221 = some (9, .istore 6, []) by decide +kernel) rfl (fun _ _ => rfl) ?_
  refine L_pure (pc := 3223) (pc' := 3224) (st' := [.ref 241]) (show z_pt 320 3223 = some (9, .aload_n 2, []) by decide +kernel) rfl (fun _ _ => rfl) ?_
  refine L_call (pc := 3224) (rr := []) (show z_pt 320 3224 = some (9, .invokevirtual 356, [0, 270, 0, 8133, 8134, 8135, 1012, 8136]) by decide +kernel) rfl (show z_r2 270 = some (10, 1, true) by decide +kernel) rfl rfl (Or.inr ⟨_, _, rfl, (show z_ci 241 10 = true by decide +kernel)⟩) (pm_undo_run (r := (b, μ2)) h2) (by omega) ?_
  refine L_at (pc := 3227) (st := [.int b]) ?_
  refine L_pure (pc := 3227) (pc' := 3229) (ls' := [(0, .ref 2000), (1, .ref 0), (2, .ref 241), (3, .ref 251), (4, .ref 252), (5, .int i), (6, .int (μ2 241 12)), (7, .int b)]) (st' := []) (show z_pt 320 3227 = some (9, .istore 7, []) by decide +kernel) rfl (fun _ _ => rfl) ?_
  refine L_pure (pc := 3229) (pc' := 3230) (st' := [.ref 241]) (show z_pt 320 3229 = some (9, .aload_n 2, []) by decide +kernel) rfl (fun _ _ => rfl) ?_
  refine L_call (pc := 3230) (rr := []) (show z_pt 320 3230 = some (9, .invokevirtual 181, [0, 159, 0, 6173, 6174, 6175, 1012, 6176]) by decide +kernel) rfl (show z_r2 159 = some (10, 1, true) by decide +kernel) rfl rfl (Or.inr ⟨_, _, rfl, (show z_ci 241 10 = true by decide +kernel)⟩) (pm_thrown_run (r := μ2 241 12) rfl) (by omega) ?_
  refine L_at (pc := 3233) (st := [.int (μ2 241 12)]) ?_
  refine L_pure (pc := 3233) (pc' := 3235) (st' := [.int (μ2 241 12), .int (μ2 241 12)]) (show z_pt 320 3233 = some (9, .iload 6, []) by decide +kernel) rfl (fun _ _ => rfl) ?_
  refine L_icT (pc := 3235) (t := 3240) (show z_pt 320 3235 = some (9, .if_icmp .eq 5, []) by decide +kernel) (by decide) (decide_eq_true rfl) ?_
  refine L_pure (pc := 3240) (pc' := 3242) (st' := [.int (μ2 241 12)]) (show z_pt 320 3240 = some (9, .iload 6, []) by decide +kernel) rfl (fun _ _ => rfl) ?_
  by_cases hz0 : μ2 241 12 = 0
  · refine L_ifF (pc := 3242) (t := 3257) (show z_pt 320 3242 = some (9, .ifCond .ne 15, []) by decide +kernel) (by decide) (decide_eq_false (fun h => h hz0)) ?_
    refine L_pure (pc := 3245) (pc' := 3246) (st' := [.ref 251]) (show z_pt 320 3245 = some (9, .aload_n 3, []) by decide +kernel) rfl (fun _ _ => rfl) ?_
    refine L_const (pc := 3246) (pc' := 3247) (v := 0) (show z_ptc 320 3246 = some (3247, 0) by decide +kernel) ?_
    refine L_lald (pc := 3247) (show z_pt 320 3247 = some (9, .laload, []) by decide +kernel) ?_
    refine L_pure (pc := 3248) (pc' := 3250) (st' := [.int b, .long (a1 0)]) (show z_pt 320 3248 = some (9, .iload 7, []) by decide +kernel) rfl (fun _ _ => rfl) ?_
    refine L_pure (pc := 3250) (pc' := 3251) (st' := [.long (Int32.toInt64 b), .long (a1 0)]) (show z_pt 320 3250 = some (9, .i2l, []) by decide +kernel) rfl (fun _ _ => rfl) ?_
    refine L_pure (pc := 3251) (pc' := 3252) (st' := [.int (lg_cmp (a1 0) (Int32.toInt64 b))]) (show z_pt 320 3251 = some (9, .lcmp, []) by decide +kernel) rfl (fun _ _ => rfl) ?_
    refine L_ifT (pc := 3252) (t := 3257) (show z_pt 320 3252 = some (9, .ifCond .eq 5, []) by decide +kernel) (by decide) (z_lc (hz hz0)) ?_
    refine L_pure (pc := 3257) (pc' := 3330) (show z_pt 320 3257 = some (9, .goto 73, []) by decide +kernel) rfl (fun _ _ => rfl) ?_
    refine L_inc (pc := 3330) (pc' := 3333) (ls' := [(0, .ref 2000), (1, .ref 0), (2, .ref 241), (3, .ref 251), (4, .ref 252), (5, .int (i + 4)), (6, .int (μ2 241 12)), (7, .int b)]) (c := 4) (show z_pt 320 3330 = some (9, .iinc 5 4, []) by decide +kernel) (by decide) rfl rfl ?_
    refine L_pure (pc := 3333) (pc' := 28) (ls' := [(0, .ref 2000), (1, .ref 0), (2, .ref 241), (3, .ref 251), (4, .ref 252), (5, .int (i + 4))]) (st' := []) (show z_pt 320 3333 = some (9, .goto (-3305), [6]) by decide +kernel) rfl (fun _ _ => rfl) ?_
    exact kk _ _
  · refine L_ifT (pc := 3242) (t := 3257) (show z_pt 320 3242 = some (9, .ifCond .ne 15, []) by decide +kernel) (by decide) (decide_eq_true hz0) ?_
    refine L_pure (pc := 3257) (pc' := 3330) (show z_pt 320 3257 = some (9, .goto 73, []) by decide +kernel) rfl (fun _ _ => rfl) ?_
    refine L_inc (pc := 3330) (pc' := 3333) (ls' := [(0, .ref 2000), (1, .ref 0), (2, .ref 241), (3, .ref 251), (4, .ref 252), (5, .int (i + 4)), (6, .int (μ2 241 12)), (7, .int b)]) (c := 4) (show z_pt 320 3330 = some (9, .iinc 5 4, []) by decide +kernel) (by decide) rfl rfl ?_
    refine L_pure (pc := 3333) (pc' := 28) (ls' := [(0, .ref 2000), (1, .ref 0), (2, .ref 241), (3, .ref 251), (4, .ref 252), (5, .int (i + 4))]) (st' := []) (show z_pt 320 3333 = some (9, .goto (-3305), [6]) by decide +kernel) rfl (fun _ _ => rfl) ?_
    exact kk _ _
theorem pL_arm53 {sc : Nat × (Nat → Int32)} {D J : Nat} {i b : Int32} {μ μ2 : z_Mem} {a : Nat → Int64} {q : Nat → UInt64} {o : z_R} {P : z_LP} (hD : 2 ≤ D) (h1 : pG_undoCount μ = some b) (h2 : pm_undoCount μ = some (b, μ2)) (kk : Rl sc D 320 28 [(0, .ref 2000), (1, .ref 0), (2, .ref 241), (3, .ref 251), (4, .ref 252), (5, .int (i + 4))] [] μ2 a q o P J) : Rl sc D 320 3260 [(0, .ref 2000), (1, .ref 0), (2, .ref 241), (3, .ref 251), (4, .ref 252), (5, .int i)] [] μ a q o P J := by
  refine L_pure (pc := 3260) (pc' := 3261) (st' := [.ref 0]) (show z_pt 320 3260 = some (9, .aload_n 1, []) by decide +kernel) rfl (fun _ _ => rfl) ?_
  refine L_call (pc := 3261) (rr := []) (show z_pt 320 3261 = some (9, .invokevirtual 357, [0, 130, 0, 2190, 2191, 2192, 1001, 2193]) by decide +kernel) rfl (show z_r2 130 = some (9, 1, true) by decide +kernel) rfl rfl (Or.inr ⟨_, _, rfl, (show z_ci 0 9 = true by decide +kernel)⟩) (pG_undoCount_run h1) (by omega) ?_
  refine L_at (pc := 3264) (st := [.int b]) ?_
  refine L_pure (pc := 3264) (pc' := 3265) (st' := [.ref 241, .int b]) (show z_pt 320 3264 = some (9, .aload_n 2, []) by decide +kernel) rfl (fun _ _ => rfl) ?_
  refine L_call (pc := 3265) (rr := [.int b]) (show z_pt 320 3265 = some (9, .invokevirtual 360, [0, 271, 0, 8137, 8138, 8139, 1012, 8140]) by decide +kernel) rfl (show z_r2 271 = some (10, 1, true) by decide +kernel) rfl rfl (Or.inr ⟨_, _, rfl, (show z_ci 241 10 = true by decide +kernel)⟩) (pm_undoCount_run (r := (b, μ2)) h2) (by omega) ?_
  refine L_at (pc := 3268) (st := [.int b, .int b]) ?_
  refine L_icT (pc := 3268) (t := 3330) (show z_pt 320 3268 = some (9, .if_icmp .eq 62, []) by decide +kernel) (by decide) (decide_eq_true rfl) ?_
  refine L_inc (pc := 3330) (pc' := 3333) (ls' := [(0, .ref 2000), (1, .ref 0), (2, .ref 241), (3, .ref 251), (4, .ref 252), (5, .int (i + 4))]) (c := 4) (show z_pt 320 3330 = some (9, .iinc 5 4, []) by decide +kernel) (by decide) rfl rfl ?_
  refine L_pure (pc := 3333) (pc' := 28) (ls' := [(0, .ref 2000), (1, .ref 0), (2, .ref 241), (3, .ref 251), (4, .ref 252), (5, .int (i + 4))]) (st' := []) (show z_pt 320 3333 = some (9, .goto (-3305), [6]) by decide +kernel) rfl (fun _ _ => rfl) ?_
  exact kk
theorem pL_arm54 {sc : Nat × (Nat → Int32)} {D J : Nat} {i b : Int32} {μ μ1 μ2 : z_Mem} {a : Nat → Int64} {q : Nat → UInt64} {o : z_R} {P : z_LP} (hD : 4 ≤ D) (h1 : pG_save μ = some (b, μ1)) (h2 : pm_save μ1 = some (b, μ2)) (kk : Rl sc D 320 28 [(0, .ref 2000), (1, .ref 0), (2, .ref 241), (3, .ref 251), (4, .ref 252), (5, .int (i + 4))] [] μ2 a q o P J) : Rl sc D 320 3273 [(0, .ref 2000), (1, .ref 0), (2, .ref 241), (3, .ref 251), (4, .ref 252), (5, .int i)] [] μ a q o P J := by
  refine L_pure (pc := 3273) (pc' := 3274) (st' := [.ref 0]) (show z_pt 320 3273 = some (9, .aload_n 1, []) by decide +kernel) rfl (fun _ _ => rfl) ?_
  refine L_call (pc := 3274) (rr := []) (show z_pt 320 3274 = some (9, .invokevirtual 361, [0, 131, 0, 2194, 2195, 2196, 1001, 2197]) by decide +kernel) rfl (show z_r2 131 = some (9, 1, true) by decide +kernel) rfl rfl (Or.inr ⟨_, _, rfl, (show z_ci 0 9 = true by decide +kernel)⟩) (pG_save_run (r := (b, μ1)) h1) (by omega) ?_
  refine L_at (pc := 3277) (st := [.int b]) ?_
  refine L_pure (pc := 3277) (pc' := 3278) (st' := [.ref 241, .int b]) (show z_pt 320 3277 = some (9, .aload_n 2, []) by decide +kernel) rfl (fun _ _ => rfl) ?_
  refine L_call (pc := 3278) (rr := [.int b]) (show z_pt 320 3278 = some (9, .invokevirtual 364, [0, 272, 0, 8141, 8142, 8143, 1012, 8144]) by decide +kernel) rfl (show z_r2 272 = some (10, 1, true) by decide +kernel) rfl rfl (Or.inr ⟨_, _, rfl, (show z_ci 241 10 = true by decide +kernel)⟩) (pm_save_run (r := (b, μ2)) h2) (by omega) ?_
  refine L_at (pc := 3281) (st := [.int b, .int b]) ?_
  refine L_icT (pc := 3281) (t := 3330) (show z_pt 320 3281 = some (9, .if_icmp .eq 49, []) by decide +kernel) (by decide) (decide_eq_true rfl) ?_
  refine L_inc (pc := 3330) (pc' := 3333) (ls' := [(0, .ref 2000), (1, .ref 0), (2, .ref 241), (3, .ref 251), (4, .ref 252), (5, .int (i + 4))]) (c := 4) (show z_pt 320 3330 = some (9, .iinc 5 4, []) by decide +kernel) (by decide) rfl rfl ?_
  refine L_pure (pc := 3333) (pc' := 28) (ls' := [(0, .ref 2000), (1, .ref 0), (2, .ref 241), (3, .ref 251), (4, .ref 252), (5, .int (i + 4))]) (st' := []) (show z_pt 320 3333 = some (9, .goto (-3305), [6]) by decide +kernel) rfl (fun _ _ => rfl) ?_
  exact kk
theorem pL_arm55 {sc : Nat × (Nat → Int32)} {D J : Nat} {i  : Int32} {b : Int32} {r : Int32 ⊕ Nat} {μ μ1 μ2 : z_Mem} {a : Nat → Int64} {q : Nat → UInt64} {o : z_R} {P : z_LP} (hD : 8 ≤ D)  (h1 : pG_restore μ  = some (r, μ1)) (h2 : pm_restore μ1  = some (b, μ2)) (hag : z_agI [2] r b (μ2 241 12)) (kk : ∀ (a : Nat → Int64) (q : Nat → UInt64), Rl sc D 320 28 [(0, .ref 2000), (1, .ref 0), (2, .ref 241), (3, .ref 251), (4, .ref 252), (5, .int (i + 4))] [] μ2 a q o P J) : Rl sc D 320 3286 [(0, .ref 2000), (1, .ref 0), (2, .ref 241), (3, .ref 251), (4, .ref 252), (5, .int i)] [] μ a q o P (1 + J) := by
  obtain ⟨a1, q1, hz, hR⟩ := pL_restore (sc := sc) (a := a) (q := q) h1 hag
  refine L_pure (pc := 3286) (pc' := 3287) (st' := [.ref 0]) (show z_pt 320 3286 = some (9, .aload_n 1, []) by decide +kernel) rfl (fun _ _ => rfl) ?_
  refine L_pure (pc := 3287) (pc' := 3288) (st' := [.ref 251, .ref 0]) (show z_pt 320 3287 = some (9, .aload_n 3, []) by decide +kernel) rfl (fun _ _ => rfl) ?_
  refine L_callF (pc := 3288) (rr := []) (show z_pt 320 3288 = some (9, .invokestatic 365, [5, 319, 2, 6105, 6106, 0, 1000, 6107]) by decide +kernel) rfl (show z_r3 319 = some (11, 3, true) by decide +kernel) rfl rfl hR (by omega) ?_
  refine L_at (pc := 3291) (st := [.int (μ2 241 12)]) ?_
  refine L_pure (pc := 3291) (pc' := 3293) (ls' := [(0, .ref 2000), (1, .ref 0), (2, .ref 241), (3, .ref 251), (4, .ref 252), (5, .int i), (6, .int (μ2 241 12))]) (st' := []) (show z_pt 320 3291 = some (9, .istore 6, []) by decide +kernel) rfl (fun _ _ => rfl) ?_
  refine L_pure (pc := 3293) (pc' := 3294) (st' := [.ref 241]) (show z_pt 320 3293 = some (9, .aload_n 2, []) by decide +kernel) rfl (fun _ _ => rfl) ?_
  refine L_call (pc := 3294) (rr := []) (show z_pt 320 3294 = some (9, .invokevirtual 367, [0, 273, 0, 8145, 8146, 8147, 1012, 8148]) by decide +kernel) rfl (show z_r2 273 = some (10, 1, true) by decide +kernel) rfl rfl (Or.inr ⟨_, _, rfl, (show z_ci 241 10 = true by decide +kernel)⟩) (pm_restore_run (r := (b, μ2)) h2) (by omega) ?_
  refine L_at (pc := 3297) (st := [.int b]) ?_
  refine L_pure (pc := 3297) (pc' := 3299) (ls' := [(0, .ref 2000), (1, .ref 0), (2, .ref 241), (3, .ref 251), (4, .ref 252), (5, .int i), (6, .int (μ2 241 12)), (7, .int b)]) (st' := []) (show z_pt 320 3297 = some (9, .istore 7, []) by decide +kernel) rfl (fun _ _ => rfl) ?_
  refine L_pure (pc := 3299) (pc' := 3300) (st' := [.ref 241]) (show z_pt 320 3299 = some (9, .aload_n 2, []) by decide +kernel) rfl (fun _ _ => rfl) ?_
  refine L_call (pc := 3300) (rr := []) (show z_pt 320 3300 = some (9, .invokevirtual 181, [0, 159, 0, 6173, 6174, 6175, 1012, 6176]) by decide +kernel) rfl (show z_r2 159 = some (10, 1, true) by decide +kernel) rfl rfl (Or.inr ⟨_, _, rfl, (show z_ci 241 10 = true by decide +kernel)⟩) (pm_thrown_run (r := μ2 241 12) rfl) (by omega) ?_
  refine L_at (pc := 3303) (st := [.int (μ2 241 12)]) ?_
  refine L_pure (pc := 3303) (pc' := 3305) (st' := [.int (μ2 241 12), .int (μ2 241 12)]) (show z_pt 320 3303 = some (9, .iload 6, []) by decide +kernel) rfl (fun _ _ => rfl) ?_
  refine L_icT (pc := 3305) (t := 3310) (show z_pt 320 3305 = some (9, .if_icmp .eq 5, []) by decide +kernel) (by decide) (decide_eq_true rfl) ?_
  refine L_pure (pc := 3310) (pc' := 3312) (st' := [.int (μ2 241 12)]) (show z_pt 320 3310 = some (9, .iload 6, []) by decide +kernel) rfl (fun _ _ => rfl) ?_
  by_cases hz0 : μ2 241 12 = 0
  · refine L_ifF (pc := 3312) (t := 3327) (show z_pt 320 3312 = some (9, .ifCond .ne 15, []) by decide +kernel) (by decide) (decide_eq_false (fun h => h hz0)) ?_
    refine L_pure (pc := 3315) (pc' := 3316) (st' := [.ref 251]) (show z_pt 320 3315 = some (9, .aload_n 3, []) by decide +kernel) rfl (fun _ _ => rfl) ?_
    refine L_const (pc := 3316) (pc' := 3317) (v := 0) (show z_ptc 320 3316 = some (3317, 0) by decide +kernel) ?_
    refine L_lald (pc := 3317) (show z_pt 320 3317 = some (9, .laload, []) by decide +kernel) ?_
    refine L_pure (pc := 3318) (pc' := 3320) (st' := [.int b, .long (a1 0)]) (show z_pt 320 3318 = some (9, .iload 7, []) by decide +kernel) rfl (fun _ _ => rfl) ?_
    refine L_pure (pc := 3320) (pc' := 3321) (st' := [.long (Int32.toInt64 b), .long (a1 0)]) (show z_pt 320 3320 = some (9, .i2l, []) by decide +kernel) rfl (fun _ _ => rfl) ?_
    refine L_pure (pc := 3321) (pc' := 3322) (st' := [.int (lg_cmp (a1 0) (Int32.toInt64 b))]) (show z_pt 320 3321 = some (9, .lcmp, []) by decide +kernel) rfl (fun _ _ => rfl) ?_
    refine L_ifT (pc := 3322) (t := 3327) (show z_pt 320 3322 = some (9, .ifCond .eq 5, []) by decide +kernel) (by decide) (z_lc (hz hz0)) ?_
    refine L_pure (pc := 3327) (pc' := 3330) (show z_pt 320 3327 = some (9, .goto 3, []) by decide +kernel) rfl (fun _ _ => rfl) ?_
    refine L_inc (pc := 3330) (pc' := 3333) (ls' := [(0, .ref 2000), (1, .ref 0), (2, .ref 241), (3, .ref 251), (4, .ref 252), (5, .int (i + 4)), (6, .int (μ2 241 12)), (7, .int b)]) (c := 4) (show z_pt 320 3330 = some (9, .iinc 5 4, []) by decide +kernel) (by decide) rfl rfl ?_
    refine L_pure (pc := 3333) (pc' := 28) (ls' := [(0, .ref 2000), (1, .ref 0), (2, .ref 241), (3, .ref 251), (4, .ref 252), (5, .int (i + 4))]) (st' := []) (show z_pt 320 3333 = some (9, .goto (-3305), [6]) by decide +kernel) rfl (fun _ _ => rfl) ?_
    exact kk _ _
  · refine L_ifT (pc := 3312) (t := 3327) (show z_pt 320 3312 = some (9, .ifCond .ne 15, []) by decide +kernel) (by decide) (decide_eq_true hz0) ?_
    refine L_pure (pc := 3327) (pc' := 3330) (show z_pt 320 3327 = some (9, .goto 3, []) by decide +kernel) rfl (fun _ _ => rfl) ?_
    refine L_inc (pc := 3330) (pc' := 3333) (ls' := [(0, .ref 2000), (1, .ref 0), (2, .ref 241), (3, .ref 251), (4, .ref 252), (5, .int (i + 4)), (6, .int (μ2 241 12)), (7, .int b)]) (c := 4) (show z_pt 320 3330 = some (9, .iinc 5 4, []) by decide +kernel) (by decide) rfl rfl ?_
    refine L_pure (pc := 3333) (pc' := 28) (ls' := [(0, .ref 2000), (1, .ref 0), (2, .ref 241), (3, .ref 251), (4, .ref 252), (5, .int (i + 4))]) (st' := []) (show z_pt 320 3333 = some (9, .goto (-3305), [6]) by decide +kernel) rfl (fun _ _ => rfl) ?_
    exact kk _ _
end ZARM2
