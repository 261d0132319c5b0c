/-! The law's body, walked. -/
section ZWALK
def z_iXF (o : Option (UInt32 ⊕ Nat)) : Option UInt32 := o.bind fun r => match r with
  | .inl v => some v
  | .inr _ => none
theorem z_iXF_eq {o : Option (UInt32 ⊕ Nat)} {v : UInt32} (h : z_iXF o = some v) : o = some (.inl v) := by
  unfold z_iXF at h
  obtain ⟨r, e, h⟩ := z_bs h
  cases r with
  | inl x => cases h; exact e
  | inr x => cases h
section
variable {sc0 : Nat × (Nat → Int32)} {E S pc nL : Nat} {ls ls' : z_Ls} {st st' : List Value} {i : Instr} {ax : List Nat} {kd k2 n c2 nl2 E1 E2 S2 : Nat} {as0 as rr : List Value} {D2 : Nat} {v : Option Value} {q1 q2 q3 q4 q5 : Nat} {x y z w m1 : z_Mem} {R : List va_E}
theorem L_cx (hp : z_pt 155 pc = some (nL, i, [kd, k2, n, q1, q2, q3, q4, q5])) (hk : z_kd i [kd, k2, n, q1, q2, q3, q4, q5] = 3) (h2 : z_r3 kd k2 = some (c2, nl2, true)) (ha : z_args kd n st = some (as, rr)) (has : as = as0.map (s_V 0)) (hb : (Nat.ble (lg_sl as).length nl2 && Nat.ble (z_cat rr) 8) = true) (hrc : Nat.beq kd 0 = false ∨ (c2 = 9 ∧ ∃ rest, as = .ref 0 :: rest)) (hr : Ro sc0 E1 D2 k2 0 (lv_args 0 as0) [] x (.inl v) m1) (hd : D2 + 1 ≤ 100) (hv : z_rvi v = true) (hE : E1 + E2 ≤ E) (hS : 6 * E1 + S2 ≤ S) (kk : Lw sc0 E2 S2 (pc + 3) ls (v.toList ++ rr) (sb 0 m1 ++ R)) : Lw sc0 E S pc ls st (sb 0 x ++ R) := by
  refine Lw_up hE hS ?_
  have h9 := L_call (pre := []) (post := R) hp hk h2 ha has hb hrc hr hd (by rfl) (by decide) hv (by
    exact kk)
  exact h9
theorem L_cy (hp : z_pt 155 pc = some (nL, i, [kd, k2, n, q1, q2, q3, q4, q5])) (hk : z_kd i [kd, k2, n, q1, q2, q3, q4, q5] = 3) (h2 : z_r3 kd k2 = some (c2, nl2, true)) (ha : z_args kd n st = some (as, rr)) (has : as = as0.map (s_V 241)) (hb : (Nat.ble (lg_sl as).length nl2 && Nat.ble (z_cat rr) 8) = true) (hrc : Nat.beq kd 0 = false ∨ (c2 = 9 ∧ ∃ rest, as = .ref 241 :: rest)) (hr : Ro sc0 E1 D2 k2 0 (lv_args 0 as0) [] y (.inl v) m1) (hd : D2 + 1 ≤ 100) (hv : z_rvi v = true) (hE : E1 + E2 ≤ E) (hS : 6 * E1 + S2 ≤ S) (kk : Lw sc0 E2 S2 (pc + 3) ls (v.toList ++ rr) (sb 0 x ++ (sb 241 m1 ++ R))) : Lw sc0 E S pc ls st (sb 0 x ++ (sb 241 y ++ R)) := by
  refine Lw_up hE hS ?_
  have h9 := L_call (pre := sb 0 x) (post := R) hp hk h2 ha has hb hrc hr hd (by simp only [List.length_append, sb_len]) (by decide) hv (by
    exact kk)
  exact h9
theorem L_cz (hp : z_pt 155 pc = some (nL, i, [kd, k2, n, q1, q2, q3, q4, q5])) (hk : z_kd i [kd, k2, n, q1, q2, q3, q4, q5] = 3) (h2 : z_r3 kd k2 = some (c2, nl2, true)) (ha : z_args kd n st = some (as, rr)) (has : as = as0.map (s_V 482)) (hb : (Nat.ble (lg_sl as).length nl2 && Nat.ble (z_cat rr) 8) = true) (hrc : Nat.beq kd 0 = false ∨ (c2 = 9 ∧ ∃ rest, as = .ref 482 :: rest)) (hr : Ro sc0 E1 D2 k2 0 (lv_args 0 as0) [] z (.inl v) m1) (hd : D2 + 1 ≤ 100) (hv : z_rvi v = true) (hE : E1 + E2 ≤ E) (hS : 6 * E1 + S2 ≤ S) (kk : Lw sc0 E2 S2 (pc + 3) ls (v.toList ++ rr) (sb 0 x ++ (sb 241 y ++ (sb 482 m1 ++ R)))) : Lw sc0 E S pc ls st (sb 0 x ++ (sb 241 y ++ (sb 482 z ++ R))) := by
  refine Lw_up hE hS ?_
  have h9 := L_call (pre := sb 0 x ++ sb 241 y) (post := R) hp hk h2 ha has hb hrc hr hd (by simp only [List.length_append, sb_len]) (by decide) hv (by
    simpa only [List.append_assoc] using kk)
  simpa only [List.append_assoc] using h9
theorem L_cw (hp : z_pt 155 pc = some (nL, i, [kd, k2, n, q1, q2, q3, q4, q5])) (hk : z_kd i [kd, k2, n, q1, q2, q3, q4, q5] = 3) (h2 : z_r3 kd k2 = some (c2, nl2, true)) (ha : z_args kd n st = some (as, rr)) (has : as = as0.map (s_V 723)) (hb : (Nat.ble (lg_sl as).length nl2 && Nat.ble (z_cat rr) 8) = true) (hrc : Nat.beq kd 0 = false ∨ (c2 = 9 ∧ ∃ rest, as = .ref 723 :: rest)) (hr : Ro sc0 E1 D2 k2 0 (lv_args 0 as0) [] w (.inl v) m1) (hd : D2 + 1 ≤ 100) (hv : z_rvi v = true) (hE : E1 + E2 ≤ E) (hS : 6 * E1 + S2 ≤ S) (kk : Lw sc0 E2 S2 (pc + 3) ls (v.toList ++ rr) (sb 0 x ++ (sb 241 y ++ (sb 482 z ++ (sb 723 m1 ++ R))))) : Lw sc0 E S pc ls st (sb 0 x ++ (sb 241 y ++ (sb 482 z ++ (sb 723 w ++ R)))) := by
  refine Lw_up hE hS ?_
  have h9 := L_call (pre := sb 0 x ++ (sb 241 y ++ sb 482 z)) (post := R) hp hk h2 ha has hb hrc hr hd (by simp only [List.length_append, sb_len]) (by decide) hv (by
    simpa only [List.append_assoc] using kk)
  simpa only [List.append_assoc] using h9
end
/-- what the law asks of x and y -/
def pW_xy (x y : z_Mem) : Option (Int32 × Int32 × z_Mem × z_Mem) := (pG_save x).bind fun q1 => (pL_state q1.2).bind fun q3 => (pL_put 6 q3.2).bind fun q5 => (z_iXM (pG_execute q5)).bind fun q7 => if q7.1 = 3 then (z_iXM (pG_turn y 0 7)).bind fun q11 => if ¬ q11.1 < 1 then (z_iXM (pG_turn q11.2 1 (-30))).bind fun q15 => if ¬ q15.1 < 1 then (z_iXM (pG_passHours q15.2 5)).bind fun q19 => if ¬ q19.1 < 5 then (pL_state q7.2).bind fun q23 => (pL_state q19.2).bind fun q25 => if q23.1 = q25.1 then (z_iXM (pG_undo q23.2)).bind fun q29 => if ¬ q29.1 < 0 then (pL_state q29.2).bind fun q33 => if q33.1 = q3.1 then (z_iXM (pG_undo q25.2)).bind fun q37 => if ¬ q37.1 < 0 then (z_iXM (pG_undo q37.2)).bind fun q41 => if ¬ q41.1 < 0 then (z_iXM (pG_undo q41.2)).bind fun q45 => if ¬ q45.1 < 0 then (pL_state q45.2).bind fun q49 => if q49.1 = q3.1 then (pL_put 7 q33.2).bind fun q53 => (pL_runs q53).bind fun q55 => if q55.1 = (-2) then (z_iX (pG_failedCommand q55.2)).bind fun q59 => if q59 = 1 then (pL_state q55.2).bind fun q63 => if q63.1 = q3.1 then (pL_put 8 q63.2).bind fun q67 => (pL_runs q67).bind fun q69 => if q69.1 = (-2) then (z_iX (pG_failedCommand q69.2)).bind fun q73 => if q73 = 0 then (pL_state q69.2).bind fun q77 => if q77.1 = q3.1 then (pL_fails 9 q77.2 6).bind fun q81 => if ¬ q81.1 = 0 then (pL_fails 10 q81.2 8).bind fun q85 => if ¬ q85.1 = 0 then (pL_fails 11 q85.2 8).bind fun q89 => if ¬ q89.1 = 0 then (pL_fails 12 q89.2 6).bind fun q93 => if ¬ q93.1 = 0 then (pL_fails 13 q93.2 7).bind fun q97 => if ¬ q97.1 = 0 then (pL_fails 14 q97.2 0).bind fun q101 => if ¬ q101.1 = 0 then (pL_fails 15 q101.2 7).bind fun q105 => if ¬ q105.1 = 0 then (pL_fails 16 q105.2 5).bind fun q109 => if ¬ q109.1 = 0 then (pL_fails 17 q109.2 6).bind fun q113 => if ¬ q113.1 = 0 then (pL_fails 18 q113.2 1).bind fun q117 => if ¬ q117.1 = 0 then (pL_fails 19 q117.2 0).bind fun q121 => if ¬ q121.1 = 0 then (z_iX (pG_failedCommand q121.2)).bind fun q125 => if q125 = 0 then (pL_state q121.2).bind fun q129 => if q129.1 = q3.1 then some (q1.1, q3.1, q129.2, q49.2) else none else none else none else none else none else none else none else none else none else none else none else none else none else none else none else none else none else none else none else none else none else none else none else none else none else none else none else none else none else none
theorem pW_xy_run {sc0 : Nat × (Nat → Int32)} {E S : Nat} {x y : z_Mem} {r : Int32 × Int32 × z_Mem × z_Mem} (h : pW_xy x y = some r) (kk : Lw sc0 (E + 123) (S + 738) 329 [(0, .ref 2000), (1, .ref 0), (2, .ref 241), (3, .int r.1), (4, .int r.2.1)] [] (sb 0 r.2.2.1 ++ (sb 241 r.2.2.2 ++ []))) : Lw sc0 (E + 200) (S + 1200) 10 [(0, .ref 2000), (1, .ref 0), (2, .ref 241)] [] (sb 0 x ++ (sb 241 y ++ [])) := by
  unfold pW_xy at h
  refine L_pure (pc := 10) (pc' := 11) (st' := [.ref 0]) (show z_pt 155 10 = some (10, .aload_n 1, []) by decide +kernel) rfl (fun _ _ _ => rfl) ?_
  obtain ⟨q1, e2, h⟩ := z_bs h
  refine L_cx (E1 := 0) (E2 := E + 200) (S2 := S + 1200) (pc := 11) (as0 := [.ref 0]) (rr := []) (m1 := q1.2) (show z_pt 155 11 = some (10, .invokevirtual 164, [0, 123, 0, 5084, 5085, 5086, 1001, 5087]) by decide +kernel) rfl (show z_r3 0 123 = some (9, 1, true) by decide +kernel) rfl rfl rfl (Or.inr ⟨rfl, _, rfl⟩) (Ro_of0 (pG_save_run  e2)) (by omega) rfl (by omega) (by omega) ?_
  refine L_at2 (pc := 14) (st := [.int q1.1]) ?_
  refine L_pure (pc := 14) (pc' := 15) (ls' := [(0, .ref 2000), (1, .ref 0), (2, .ref 241), (3, .int q1.1)]) (st' := []) (show z_pt 155 14 = some (10, .istore_n 3, []) by decide +kernel) rfl (fun _ _ _ => rfl) ?_
  refine L_pure (pc := 15) (pc' := 16) (st' := [.ref 0]) (show z_pt 155 15 = some (10, .aload_n 1, []) by decide +kernel) rfl (fun _ _ _ => rfl) ?_
  obtain ⟨q3, e4, h⟩ := z_bs h
  refine L_cx (E1 := 8) (E2 := E + 192) (S2 := S + 1152) (pc := 16) (as0 := [.ref 0]) (rr := []) (m1 := q3.2) (show z_pt 155 16 = some (10, .invokestatic 167, [1, 154, 1, 5154, 5155, 0, 1000, 5156]) by decide +kernel) rfl (show z_r3 1 154 = some (11, 4, true) by decide +kernel) rfl rfl rfl (Or.inl (by decide)) (pL_state_run  e4) (by omega) rfl (by omega) (by omega) ?_
  refine L_at2 (pc := 19) (st := [.int q3.1]) ?_
  refine L_pure (pc := 19) (pc' := 21) (ls' := [(0, .ref 2000), (1, .ref 0), (2, .ref 241), (3, .int q1.1), (4, .int q3.1)]) (st' := []) (show z_pt 155 19 = some (10, .istore 4, []) by decide +kernel) rfl (fun _ _ _ => rfl) ?_
  refine L_pure (pc := 21) (pc' := 22) (st' := [.ref 0]) (show z_pt 155 21 = some (10, .aload_n 1, []) by decide +kernel) rfl (fun _ _ _ => rfl) ?_
  refine L_pure (pc := 22) (pc' := 24) (st' := [.ref 1006, .ref 0]) (show z_pt 155 22 = some (10, .ldc 171, [1, 6]) by decide +kernel) rfl (fun _ _ _ => rfl) ?_
  obtain ⟨q5, e6, h⟩ := z_bs h
  refine L_cx (E1 := 0) (E2 := E + 192) (S2 := S + 1152) (pc := 24) (as0 := [.ref 0, .ref 1006]) (rr := []) (m1 := q5) (show z_pt 155 24 = some (10, .invokestatic 173, [1, 151, 2, 5096, 5097, 0, 1000, 5098]) by decide +kernel) rfl (show z_r3 1 151 = some (11, 3, true) by decide +kernel) rfl rfl rfl (Or.inl (by decide)) (pL_put_run (show Nat.blt 6 21 = true by decide) e6) (by omega) rfl (by omega) (by omega) ?_
  refine L_at2 (pc := 27) (st := []) ?_
  refine L_pure (pc := 27) (pc' := 28) (st' := [.ref 0]) (show z_pt 155 27 = some (10, .aload_n 1, []) by decide +kernel) rfl (fun _ _ _ => rfl) ?_
  obtain ⟨q7, e8, h⟩ := z_bs h
  refine L_cx (E1 := 0) (E2 := E + 192) (S2 := S + 1152) (pc := 28) (as0 := [.ref 0]) (rr := []) (m1 := q7.2) (show z_pt 155 28 = some (10, .invokevirtual 177, [0, 119, 0, 4161, 4162, 4163, 1001, 4164]) by decide +kernel) rfl (show z_r3 0 119 = some (9, 3, true) by decide +kernel) rfl rfl rfl (Or.inr ⟨rfl, _, rfl⟩) (Ro_of0 (pG_execute_run  (z_iXM_eq e8))) (by omega) rfl (by omega) (by omega) ?_
  refine L_at2 (pc := 31) (st := [.int q7.1]) ?_
  refine L_const (pc := 31) (pc' := 32) (v := 3) (show z_ptc 155 31 = some (32, 3) by decide +kernel) ?_
  obtain ⟨g10, h⟩ := z_ig h
  refine L_icmne (pc := 32) (t := 77) (show z_pt 155 32 = some (10, .if_icmp .ne 45, []) by decide +kernel) (by decide) (fun c9 => ?_) (fun c9 => ?_)
  · exact absurd g10 c9
  refine L_pure (pc := 35) (pc' := 36) (st' := [.ref 241]) (show z_pt 155 35 = some (10, .aload_n 2, []) by decide +kernel) rfl (fun _ _ _ => rfl) ?_
  refine L_const (pc := 36) (pc' := 37) (v := 0) (show z_ptc 155 36 = some (37, 0) by decide +kernel) ?_
  refine L_const (pc := 37) (pc' := 39) (v := 7) (show z_ptc 155 37 = some (39, 7) by decide +kernel) ?_
  obtain ⟨q11, e12, h⟩ := z_bs h
  refine L_cy (E1 := 0) (E2 := E + 192) (S2 := S + 1152) (pc := 39) (as0 := [.ref 0, .int 0, .int 7]) (rr := []) (m1 := q11.2) (show z_pt 155 39 = some (10, .invokevirtual 49, [0, 78, 2, 3021, 3022, 3023, 1001, 3024]) by decide +kernel) rfl (show z_r3 0 78 = some (9, 3, true) by decide +kernel) rfl rfl rfl (Or.inr ⟨rfl, _, rfl⟩) (Ro_of0 (pG_turn_run  (z_iXM_eq e12))) (by omega) rfl (by omega) (by omega) ?_
  refine L_at2 (pc := 42) (st := [.int q11.1]) ?_
  refine L_const (pc := 42) (pc' := 43) (v := 1) (show z_ptc 155 42 = some (43, 1) by decide +kernel) ?_
  obtain ⟨g14, h⟩ := z_ig h
  refine L_icmlt (pc := 43) (t := 77) (show z_pt 155 43 = some (10, .if_icmp .lt 34, []) by decide +kernel) (by decide) (fun c13 => ?_) (fun c13 => ?_)
  · exact absurd c13 g14
  refine L_pure (pc := 46) (pc' := 47) (st' := [.ref 241]) (show z_pt 155 46 = some (10, .aload_n 2, []) by decide +kernel) rfl (fun _ _ _ => rfl) ?_
  refine L_const (pc := 47) (pc' := 48) (v := 1) (show z_ptc 155 47 = some (48, 1) by decide +kernel) ?_
  refine L_const (pc := 48) (pc' := 50) (v := (-30)) (show z_ptc 155 48 = some (50, (-30)) by decide +kernel) ?_
  obtain ⟨q15, e16, h⟩ := z_bs h
  refine L_cy (E1 := 0) (E2 := E + 192) (S2 := S + 1152) (pc := 50) (as0 := [.ref 0, .int 1, .int (-30)]) (rr := []) (m1 := q15.2) (show z_pt 155 50 = some (10, .invokevirtual 49, [0, 78, 2, 3021, 3022, 3023, 1001, 3024]) by decide +kernel) rfl (show z_r3 0 78 = some (9, 3, true) by decide +kernel) rfl rfl rfl (Or.inr ⟨rfl, _, rfl⟩) (Ro_of0 (pG_turn_run  (z_iXM_eq e16))) (by omega) rfl (by omega) (by omega) ?_
  refine L_at2 (pc := 53) (st := [.int q15.1]) ?_
  refine L_const (pc := 53) (pc' := 54) (v := 1) (show z_ptc 155 53 = some (54, 1) by decide +kernel) ?_
  obtain ⟨g18, h⟩ := z_ig h
  refine L_icmlt (pc := 54) (t := 77) (show z_pt 155 54 = some (10, .if_icmp .lt 23, []) by decide +kernel) (by decide) (fun c17 => ?_) (fun c17 => ?_)
  · exact absurd c17 g18
  refine L_pure (pc := 57) (pc' := 58) (st' := [.ref 241]) (show z_pt 155 57 = some (10, .aload_n 2, []) by decide +kernel) rfl (fun _ _ _ => rfl) ?_
  refine L_const (pc := 58) (pc' := 59) (v := 5) (show z_ptc 155 58 = some (59, 5) by decide +kernel) ?_
  obtain ⟨q19, e20, h⟩ := z_bs h
  refine L_cy (E1 := 0) (E2 := E + 192) (S2 := S + 1152) (pc := 59) (as0 := [.ref 0, .int 5]) (rr := []) (m1 := q19.2) (show z_pt 155 59 = some (10, .invokevirtual 61, [0, 107, 1, 4028, 4029, 4030, 1001, 4031]) by decide +kernel) rfl (show z_r3 0 107 = some (9, 2, true) by decide +kernel) rfl rfl rfl (Or.inr ⟨rfl, _, rfl⟩) (Ro_of0 (pG_passHours_run  (z_iXM_eq e20))) (by omega) rfl (by omega) (by omega) ?_
  refine L_at2 (pc := 62) (st := [.int q19.1]) ?_
  refine L_const (pc := 62) (pc' := 63) (v := 5) (show z_ptc 155 62 = some (63, 5) by decide +kernel) ?_
  obtain ⟨g22, h⟩ := z_ig h
  refine L_icmlt (pc := 63) (t := 77) (show z_pt 155 63 = some (10, .if_icmp .lt 14, []) by decide +kernel) (by decide) (fun c21 => ?_) (fun c21 => ?_)
  · exact absurd c21 g22
  refine L_pure (pc := 66) (pc' := 67) (st' := [.ref 0]) (show z_pt 155 66 = some (10, .aload_n 1, []) by decide +kernel) rfl (fun _ _ _ => rfl) ?_
  obtain ⟨q23, e24, h⟩ := z_bs h
  refine L_cx (E1 := 8) (E2 := E + 184) (S2 := S + 1104) (pc := 67) (as0 := [.ref 0]) (rr := []) (m1 := q23.2) (show z_pt 155 67 = some (10, .invokestatic 167, [1, 154, 1, 5154, 5155, 0, 1000, 5156]) by decide +kernel) rfl (show z_r3 1 154 = some (11, 4, true) by decide +kernel) rfl rfl rfl (Or.inl (by decide)) (pL_state_run  e24) (by omega) rfl (by omega) (by omega) ?_
  refine L_at2 (pc := 70) (st := [.int q23.1]) ?_
  refine L_pure (pc := 70) (pc' := 71) (st' := [.ref 241, .int q23.1]) (show z_pt 155 70 = some (10, .aload_n 2, []) by decide +kernel) rfl (fun _ _ _ => rfl) ?_
  obtain ⟨q25, e26, h⟩ := z_bs h
  refine L_cy (E1 := 8) (E2 := E + 176) (S2 := S + 1056) (pc := 71) (as0 := [.ref 0]) (rr := [.int q23.1]) (m1 := q25.2) (show z_pt 155 71 = some (10, .invokestatic 167, [1, 154, 1, 5154, 5155, 0, 1000, 5156]) by decide +kernel) rfl (show z_r3 1 154 = some (11, 4, true) by decide +kernel) rfl rfl rfl (Or.inl (by decide)) (pL_state_run  e26) (by omega) rfl (by omega) (by omega) ?_
  refine L_at2 (pc := 74) (st := [.int q25.1, .int q23.1]) ?_
  obtain ⟨g28, h⟩ := z_ig h
  refine L_icmeq (pc := 74) (t := 79) (show z_pt 155 74 = some (10, .if_icmp .eq 5, []) by decide +kernel) (by decide) (fun c27 => ?_) (fun c27 => ?_)
  rotate_left
  · exact absurd g28 c27
  refine L_pure (pc := 79) (pc' := 80) (st' := [.ref 0]) (show z_pt 155 79 = some (10, .aload_n 1, []) by decide +kernel) rfl (fun _ _ _ => rfl) ?_
  obtain ⟨q29, e30, h⟩ := z_bs h
  refine L_cx (E1 := 0) (E2 := E + 176) (S2 := S + 1056) (pc := 80) (as0 := [.ref 0]) (rr := []) (m1 := q29.2) (show z_pt 155 80 = some (10, .invokevirtual 180, [0, 122, 0, 5075, 5076, 5077, 1001, 5078]) by decide +kernel) rfl (show z_r3 0 122 = some (9, 1, true) by decide +kernel) rfl rfl rfl (Or.inr ⟨rfl, _, rfl⟩) (Ro_of0 (pG_undo_run  (z_iXM_eq e30))) (by omega) rfl (by omega) (by omega) ?_
  refine L_at2 (pc := 83) (st := [.int q29.1]) ?_
  obtain ⟨g32, h⟩ := z_ig h
  refine L_iflt (pc := 83) (t := 125) (show z_pt 155 83 = some (10, .ifCond .lt 42, []) by decide +kernel) (by decide) (fun c31 => ?_) (fun c31 => ?_)
  · exact absurd c31 g32
  refine L_pure (pc := 86) (pc' := 87) (st' := [.ref 0]) (show z_pt 155 86 = some (10, .aload_n 1, []) by decide +kernel) rfl (fun _ _ _ => rfl) ?_
  obtain ⟨q33, e34, h⟩ := z_bs h
  refine L_cx (E1 := 8) (E2 := E + 168) (S2 := S + 1008) (pc := 87) (as0 := [.ref 0]) (rr := []) (m1 := q33.2) (show z_pt 155 87 = some (10, .invokestatic 167, [1, 154, 1, 5154, 5155, 0, 1000, 5156]) by decide +kernel) rfl (show z_r3 1 154 = some (11, 4, true) by decide +kernel) rfl rfl rfl (Or.inl (by decide)) (pL_state_run  e34) (by omega) rfl (by omega) (by omega) ?_
  refine L_at2 (pc := 90) (st := [.int q33.1]) ?_
  refine L_pure (pc := 90) (pc' := 92) (st' := [.int q3.1, .int q33.1]) (show z_pt 155 90 = some (10, .iload 4, []) by decide +kernel) rfl (fun _ _ _ => rfl) ?_
  obtain ⟨g36, h⟩ := z_ig h
  refine L_icmne (pc := 92) (t := 125) (show z_pt 155 92 = some (10, .if_icmp .ne 33, []) by decide +kernel) (by decide) (fun c35 => ?_) (fun c35 => ?_)
  · exact absurd g36 c35
  refine L_pure (pc := 95) (pc' := 96) (st' := [.ref 241]) (show z_pt 155 95 = some (10, .aload_n 2, []) by decide +kernel) rfl (fun _ _ _ => rfl) ?_
  obtain ⟨q37, e38, h⟩ := z_bs h
  refine L_cy (E1 := 0) (E2 := E + 168) (S2 := S + 1008) (pc := 96) (as0 := [.ref 0]) (rr := []) (m1 := q37.2) (show z_pt 155 96 = some (10, .invokevirtual 180, [0, 122, 0, 5075, 5076, 5077, 1001, 5078]) by decide +kernel) rfl (show z_r3 0 122 = some (9, 1, true) by decide +kernel) rfl rfl rfl (Or.inr ⟨rfl, _, rfl⟩) (Ro_of0 (pG_undo_run  (z_iXM_eq e38))) (by omega) rfl (by omega) (by omega) ?_
  refine L_at2 (pc := 99) (st := [.int q37.1]) ?_
  obtain ⟨g40, h⟩ := z_ig h
  refine L_iflt (pc := 99) (t := 125) (show z_pt 155 99 = some (10, .ifCond .lt 26, []) by decide +kernel) (by decide) (fun c39 => ?_) (fun c39 => ?_)
  · exact absurd c39 g40
  refine L_pure (pc := 102) (pc' := 103) (st' := [.ref 241]) (show z_pt 155 102 = some (10, .aload_n 2, []) by decide +kernel) rfl (fun _ _ _ => rfl) ?_
  obtain ⟨q41, e42, h⟩ := z_bs h
  refine L_cy (E1 := 0) (E2 := E + 168) (S2 := S + 1008) (pc := 103) (as0 := [.ref 0]) (rr := []) (m1 := q41.2) (show z_pt 155 103 = some (10, .invokevirtual 180, [0, 122, 0, 5075, 5076, 5077, 1001, 5078]) by decide +kernel) rfl (show z_r3 0 122 = some (9, 1, true) by decide +kernel) rfl rfl rfl (Or.inr ⟨rfl, _, rfl⟩) (Ro_of0 (pG_undo_run  (z_iXM_eq e42))) (by omega) rfl (by omega) (by omega) ?_
  refine L_at2 (pc := 106) (st := [.int q41.1]) ?_
  obtain ⟨g44, h⟩ := z_ig h
  refine L_iflt (pc := 106) (t := 125) (show z_pt 155 106 = some (10, .ifCond .lt 19, []) by decide +kernel) (by decide) (fun c43 => ?_) (fun c43 => ?_)
  · exact absurd c43 g44
  refine L_pure (pc := 109) (pc' := 110) (st' := [.ref 241]) (show z_pt 155 109 = some (10, .aload_n 2, []) by decide +kernel) rfl (fun _ _ _ => rfl) ?_
  obtain ⟨q45, e46, h⟩ := z_bs h
  refine L_cy (E1 := 0) (E2 := E + 168) (S2 := S + 1008) (pc := 110) (as0 := [.ref 0]) (rr := []) (m1 := q45.2) (show z_pt 155 110 = some (10, .invokevirtual 180, [0, 122, 0, 5075, 5076, 5077, 1001, 5078]) by decide +kernel) rfl (show z_r3 0 122 = some (9, 1, true) by decide +kernel) rfl rfl rfl (Or.inr ⟨rfl, _, rfl⟩) (Ro_of0 (pG_undo_run  (z_iXM_eq e46))) (by omega) rfl (by omega) (by omega) ?_
  refine L_at2 (pc := 113) (st := [.int q45.1]) ?_
  obtain ⟨g48, h⟩ := z_ig h
  refine L_iflt (pc := 113) (t := 125) (show z_pt 155 113 = some (10, .ifCond .lt 12, []) by decide +kernel) (by decide) (fun c47 => ?_) (fun c47 => ?_)
  · exact absurd c47 g48
  refine L_pure (pc := 116) (pc' := 117) (st' := [.ref 241]) (show z_pt 155 116 = some (10, .aload_n 2, []) by decide +kernel) rfl (fun _ _ _ => rfl) ?_
  obtain ⟨q49, e50, h⟩ := z_bs h
  refine L_cy (E1 := 8) (E2 := E + 160) (S2 := S + 960) (pc := 117) (as0 := [.ref 0]) (rr := []) (m1 := q49.2) (show z_pt 155 117 = some (10, .invokestatic 167, [1, 154, 1, 5154, 5155, 0, 1000, 5156]) by decide +kernel) rfl (show z_r3 1 154 = some (11, 4, true) by decide +kernel) rfl rfl rfl (Or.inl (by decide)) (pL_state_run  e50) (by omega) rfl (by omega) (by omega) ?_
  refine L_at2 (pc := 120) (st := [.int q49.1]) ?_
  refine L_pure (pc := 120) (pc' := 122) (st' := [.int q3.1, .int q49.1]) (show z_pt 155 120 = some (10, .iload 4, []) by decide +kernel) rfl (fun _ _ _ => rfl) ?_
  obtain ⟨g52, h⟩ := z_ig h
  refine L_icmeq (pc := 122) (t := 127) (show z_pt 155 122 = some (10, .if_icmp .eq 5, []) by decide +kernel) (by decide) (fun c51 => ?_) (fun c51 => ?_)
  rotate_left
  · exact absurd g52 c51
  refine L_pure (pc := 127) (pc' := 128) (st' := [.ref 0]) (show z_pt 155 127 = some (10, .aload_n 1, []) by decide +kernel) rfl (fun _ _ _ => rfl) ?_
  refine L_pure (pc := 128) (pc' := 130) (st' := [.ref 1007, .ref 0]) (show z_pt 155 128 = some (10, .ldc 183, [1, 7]) by decide +kernel) rfl (fun _ _ _ => rfl) ?_
  obtain ⟨q53, e54, h⟩ := z_bs h
  refine L_cx (E1 := 0) (E2 := E + 160) (S2 := S + 960) (pc := 130) (as0 := [.ref 0, .ref 1007]) (rr := []) (m1 := q53) (show z_pt 155 130 = some (10, .invokestatic 173, [1, 151, 2, 5096, 5097, 0, 1000, 5098]) by decide +kernel) rfl (show z_r3 1 151 = some (11, 3, true) by decide +kernel) rfl rfl rfl (Or.inl (by decide)) (pL_put_run (show Nat.blt 7 21 = true by decide) e54) (by omega) rfl (by omega) (by omega) ?_
  refine L_at2 (pc := 133) (st := []) ?_
  refine L_pure (pc := 133) (pc' := 134) (st' := [.ref 0]) (show z_pt 155 133 = some (10, .aload_n 1, []) by decide +kernel) rfl (fun _ _ _ => rfl) ?_
  obtain ⟨q55, e56, h⟩ := z_bs h
  refine L_cx (E1 := 1) (E2 := E + 159) (S2 := S + 954) (pc := 134) (as0 := [.ref 0]) (rr := []) (m1 := q55.2) (show z_pt 155 134 = some (10, .invokestatic 185, [5, 156, 1, 5185, 5186, 0, 1000, 5187]) by decide +kernel) rfl (show z_r3 5 156 = some (11, 2, true) by decide +kernel) rfl rfl rfl (Or.inl (by decide)) (pL_runs_run  e56) (by omega) rfl (by omega) (by omega) ?_
  refine L_at2 (pc := 137) (st := [.int q55.1]) ?_
  refine L_const (pc := 137) (pc' := 139) (v := (-2)) (show z_ptc 155 137 = some (139, (-2)) by decide +kernel) ?_
  obtain ⟨g58, h⟩ := z_ig h
  refine L_icmne (pc := 139) (t := 159) (show z_pt 155 139 = some (10, .if_icmp .ne 20, []) by decide +kernel) (by decide) (fun c57 => ?_) (fun c57 => ?_)
  · exact absurd g58 c57
  refine L_pure (pc := 142) (pc' := 143) (st' := [.ref 0]) (show z_pt 155 142 = some (10, .aload_n 1, []) by decide +kernel) rfl (fun _ _ _ => rfl) ?_
  obtain ⟨q59, e60, h⟩ := z_bs h
  refine L_cx (E1 := 0) (E2 := E + 159) (S2 := S + 954) (pc := 143) (as0 := [.ref 0]) (rr := []) (m1 := q55.2) (show z_pt 155 143 = some (10, .invokevirtual 188, [0, 121, 0, 5071, 5072, 5073, 1001, 5074]) by decide +kernel) rfl (show z_r3 0 121 = some (9, 1, true) by decide +kernel) rfl rfl rfl (Or.inr ⟨rfl, _, rfl⟩) (Ro_of0 (pG_failedCommand_run  (z_iX_eq e60))) (by omega) rfl (by omega) (by omega) ?_
  refine L_at2 (pc := 146) (st := [.int q59]) ?_
  refine L_const (pc := 146) (pc' := 147) (v := 1) (show z_ptc 155 146 = some (147, 1) by decide +kernel) ?_
  obtain ⟨g62, h⟩ := z_ig h
  refine L_icmne (pc := 147) (t := 159) (show z_pt 155 147 = some (10, .if_icmp .ne 12, []) by decide +kernel) (by decide) (fun c61 => ?_) (fun c61 => ?_)
  · exact absurd g62 c61
  refine L_pure (pc := 150) (pc' := 151) (st' := [.ref 0]) (show z_pt 155 150 = some (10, .aload_n 1, []) by decide +kernel) rfl (fun _ _ _ => rfl) ?_
  obtain ⟨q63, e64, h⟩ := z_bs h
  refine L_cx (E1 := 8) (E2 := E + 151) (S2 := S + 906) (pc := 151) (as0 := [.ref 0]) (rr := []) (m1 := q63.2) (show z_pt 155 151 = some (10, .invokestatic 167, [1, 154, 1, 5154, 5155, 0, 1000, 5156]) by decide +kernel) rfl (show z_r3 1 154 = some (11, 4, true) by decide +kernel) rfl rfl rfl (Or.inl (by decide)) (pL_state_run  e64) (by omega) rfl (by omega) (by omega) ?_
  refine L_at2 (pc := 154) (st := [.int q63.1]) ?_
  refine L_pure (pc := 154) (pc' := 156) (st' := [.int q3.1, .int q63.1]) (show z_pt 155 154 = some (10, .iload 4, []) by decide +kernel) rfl (fun _ _ _ => rfl) ?_
  obtain ⟨g66, h⟩ := z_ig h
  refine L_icmeq (pc := 156) (t := 161) (show z_pt 155 156 = some (10, .if_icmp .eq 5, []) by decide +kernel) (by decide) (fun c65 => ?_) (fun c65 => ?_)
  rotate_left
  · exact absurd g66 c65
  refine L_pure (pc := 161) (pc' := 162) (st' := [.ref 0]) (show z_pt 155 161 = some (10, .aload_n 1, []) by decide +kernel) rfl (fun _ _ _ => rfl) ?_
  refine L_pure (pc := 162) (pc' := 164) (st' := [.ref 1008, .ref 0]) (show z_pt 155 162 = some (10, .ldc 191, [1, 8]) by decide +kernel) rfl (fun _ _ _ => rfl) ?_
  obtain ⟨q67, e68, h⟩ := z_bs h
  refine L_cx (E1 := 0) (E2 := E + 151) (S2 := S + 906) (pc := 164) (as0 := [.ref 0, .ref 1008]) (rr := []) (m1 := q67) (show z_pt 155 164 = some (10, .invokestatic 173, [1, 151, 2, 5096, 5097, 0, 1000, 5098]) by decide +kernel) rfl (show z_r3 1 151 = some (11, 3, true) by decide +kernel) rfl rfl rfl (Or.inl (by decide)) (pL_put_run (show Nat.blt 8 21 = true by decide) e68) (by omega) rfl (by omega) (by omega) ?_
  refine L_at2 (pc := 167) (st := []) ?_
  refine L_pure (pc := 167) (pc' := 168) (st' := [.ref 0]) (show z_pt 155 167 = some (10, .aload_n 1, []) by decide +kernel) rfl (fun _ _ _ => rfl) ?_
  obtain ⟨q69, e70, h⟩ := z_bs h
  refine L_cx (E1 := 1) (E2 := E + 150) (S2 := S + 900) (pc := 168) (as0 := [.ref 0]) (rr := []) (m1 := q69.2) (show z_pt 155 168 = some (10, .invokestatic 185, [5, 156, 1, 5185, 5186, 0, 1000, 5187]) by decide +kernel) rfl (show z_r3 5 156 = some (11, 2, true) by decide +kernel) rfl rfl rfl (Or.inl (by decide)) (pL_runs_run  e70) (by omega) rfl (by omega) (by omega) ?_
  refine L_at2 (pc := 171) (st := [.int q69.1]) ?_
  refine L_const (pc := 171) (pc' := 173) (v := (-2)) (show z_ptc 155 171 = some (173, (-2)) by decide +kernel) ?_
  obtain ⟨g72, h⟩ := z_ig h
  refine L_icmne (pc := 173) (t := 192) (show z_pt 155 173 = some (10, .if_icmp .ne 19, []) by decide +kernel) (by decide) (fun c71 => ?_) (fun c71 => ?_)
  · exact absurd g72 c71
  refine L_pure (pc := 176) (pc' := 177) (st' := [.ref 0]) (show z_pt 155 176 = some (10, .aload_n 1, []) by decide +kernel) rfl (fun _ _ _ => rfl) ?_
  obtain ⟨q73, e74, h⟩ := z_bs h
  refine L_cx (E1 := 0) (E2 := E + 150) (S2 := S + 900) (pc := 177) (as0 := [.ref 0]) (rr := []) (m1 := q69.2) (show z_pt 155 177 = some (10, .invokevirtual 188, [0, 121, 0, 5071, 5072, 5073, 1001, 5074]) by decide +kernel) rfl (show z_r3 0 121 = some (9, 1, true) by decide +kernel) rfl rfl rfl (Or.inr ⟨rfl, _, rfl⟩) (Ro_of0 (pG_failedCommand_run  (z_iX_eq e74))) (by omega) rfl (by omega) (by omega) ?_
  refine L_at2 (pc := 180) (st := [.int q73]) ?_
  obtain ⟨g76, h⟩ := z_ig h
  refine L_ifne (pc := 180) (t := 192) (show z_pt 155 180 = some (10, .ifCond .ne 12, []) by decide +kernel) (by decide) (fun c75 => ?_) (fun c75 => ?_)
  · exact absurd g76 c75
  refine L_pure (pc := 183) (pc' := 184) (st' := [.ref 0]) (show z_pt 155 183 = some (10, .aload_n 1, []) by decide +kernel) rfl (fun _ _ _ => rfl) ?_
  obtain ⟨q77, e78, h⟩ := z_bs h
  refine L_cx (E1 := 8) (E2 := E + 142) (S2 := S + 852) (pc := 184) (as0 := [.ref 0]) (rr := []) (m1 := q77.2) (show z_pt 155 184 = some (10, .invokestatic 167, [1, 154, 1, 5154, 5155, 0, 1000, 5156]) by decide +kernel) rfl (show z_r3 1 154 = some (11, 4, true) by decide +kernel) rfl rfl rfl (Or.inl (by decide)) (pL_state_run  e78) (by omega) rfl (by omega) (by omega) ?_
  refine L_at2 (pc := 187) (st := [.int q77.1]) ?_
  refine L_pure (pc := 187) (pc' := 189) (st' := [.int q3.1, .int q77.1]) (show z_pt 155 187 = some (10, .iload 4, []) by decide +kernel) rfl (fun _ _ _ => rfl) ?_
  obtain ⟨g80, h⟩ := z_ig h
  refine L_icmeq (pc := 189) (t := 194) (show z_pt 155 189 = some (10, .if_icmp .eq 5, []) by decide +kernel) (by decide) (fun c79 => ?_) (fun c79 => ?_)
  rotate_left
  · exact absurd g80 c79
  refine L_pure (pc := 194) (pc' := 195) (st' := [.ref 0]) (show z_pt 155 194 = some (10, .aload_n 1, []) by decide +kernel) rfl (fun _ _ _ => rfl) ?_
  refine L_pure (pc := 195) (pc' := 197) (st' := [.ref 1009, .ref 0]) (show z_pt 155 195 = some (10, .ldc 193, [1, 9]) by decide +kernel) rfl (fun _ _ _ => rfl) ?_
  refine L_const (pc := 197) (pc' := 199) (v := 6) (show z_ptc 155 197 = some (199, 6) by decide +kernel) ?_
  obtain ⟨q81, e82, h⟩ := z_bs h
  refine L_cx (E1 := 1) (E2 := E + 141) (S2 := S + 846) (pc := 199) (as0 := [.ref 0, .ref 1009, .int 6]) (rr := []) (m1 := q81.2) (show z_pt 155 199 = some (10, .invokestatic 195, [1, 157, 3, 5189, 5190, 0, 1000, 5191]) by decide +kernel) rfl (show z_r3 1 157 = some (11, 3, true) by decide +kernel) rfl rfl rfl (Or.inl (by decide)) (pL_fails_run (show Nat.blt 9 21 = true by decide) e82) (by omega) rfl (by omega) (by omega) ?_
  refine L_at2 (pc := 202) (st := [.int q81.1]) ?_
  obtain ⟨g84, h⟩ := z_ig h
  refine L_ifeq (pc := 202) (t := 327) (show z_pt 155 202 = some (10, .ifCond .eq 125, []) by decide +kernel) (by decide) (fun c83 => ?_) (fun c83 => ?_)
  · exact absurd c83 g84
  refine L_pure (pc := 205) (pc' := 206) (st' := [.ref 0]) (show z_pt 155 205 = some (10, .aload_n 1, []) by decide +kernel) rfl (fun _ _ _ => rfl) ?_
  refine L_pure (pc := 206) (pc' := 208) (st' := [.ref 1010, .ref 0]) (show z_pt 155 206 = some (10, .ldc 199, [1, 10]) by decide +kernel) rfl (fun _ _ _ => rfl) ?_
  refine L_const (pc := 208) (pc' := 210) (v := 8) (show z_ptc 155 208 = some (210, 8) by decide +kernel) ?_
  obtain ⟨q85, e86, h⟩ := z_bs h
  refine L_cx (E1 := 1) (E2 := E + 140) (S2 := S + 840) (pc := 210) (as0 := [.ref 0, .ref 1010, .int 8]) (rr := []) (m1 := q85.2) (show z_pt 155 210 = some (10, .invokestatic 195, [1, 157, 3, 5189, 5190, 0, 1000, 5191]) by decide +kernel) rfl (show z_r3 1 157 = some (11, 3, true) by decide +kernel) rfl rfl rfl (Or.inl (by decide)) (pL_fails_run (show Nat.blt 10 21 = true by decide) e86) (by omega) rfl (by omega) (by omega) ?_
  refine L_at2 (pc := 213) (st := [.int q85.1]) ?_
  obtain ⟨g88, h⟩ := z_ig h
  refine L_ifeq (pc := 213) (t := 327) (show z_pt 155 213 = some (10, .ifCond .eq 114, []) by decide +kernel) (by decide) (fun c87 => ?_) (fun c87 => ?_)
  · exact absurd c87 g88
  refine L_pure (pc := 216) (pc' := 217) (st' := [.ref 0]) (show z_pt 155 216 = some (10, .aload_n 1, []) by decide +kernel) rfl (fun _ _ _ => rfl) ?_
  refine L_pure (pc := 217) (pc' := 219) (st' := [.ref 1011, .ref 0]) (show z_pt 155 217 = some (10, .ldc 201, [1, 11]) by decide +kernel) rfl (fun _ _ _ => rfl) ?_
  refine L_const (pc := 219) (pc' := 221) (v := 8) (show z_ptc 155 219 = some (221, 8) by decide +kernel) ?_
  obtain ⟨q89, e90, h⟩ := z_bs h
  refine L_cx (E1 := 1) (E2 := E + 139) (S2 := S + 834) (pc := 221) (as0 := [.ref 0, .ref 1011, .int 8]) (rr := []) (m1 := q89.2) (show z_pt 155 221 = some (10, .invokestatic 195, [1, 157, 3, 5189, 5190, 0, 1000, 5191]) by decide +kernel) rfl (show z_r3 1 157 = some (11, 3, true) by decide +kernel) rfl rfl rfl (Or.inl (by decide)) (pL_fails_run (show Nat.blt 11 21 = true by decide) e90) (by omega) rfl (by omega) (by omega) ?_
  refine L_at2 (pc := 224) (st := [.int q89.1]) ?_
  obtain ⟨g92, h⟩ := z_ig h
  refine L_ifeq (pc := 224) (t := 327) (show z_pt 155 224 = some (10, .ifCond .eq 103, []) by decide +kernel) (by decide) (fun c91 => ?_) (fun c91 => ?_)
  · exact absurd c91 g92
  refine L_pure (pc := 227) (pc' := 228) (st' := [.ref 0]) (show z_pt 155 227 = some (10, .aload_n 1, []) by decide +kernel) rfl (fun _ _ _ => rfl) ?_
  refine L_pure (pc := 228) (pc' := 230) (st' := [.ref 1012, .ref 0]) (show z_pt 155 228 = some (10, .ldc 203, [1, 12]) by decide +kernel) rfl (fun _ _ _ => rfl) ?_
  refine L_const (pc := 230) (pc' := 232) (v := 6) (show z_ptc 155 230 = some (232, 6) by decide +kernel) ?_
  obtain ⟨q93, e94, h⟩ := z_bs h
  refine L_cx (E1 := 1) (E2 := E + 138) (S2 := S + 828) (pc := 232) (as0 := [.ref 0, .ref 1012, .int 6]) (rr := []) (m1 := q93.2) (show z_pt 155 232 = some (10, .invokestatic 195, [1, 157, 3, 5189, 5190, 0, 1000, 5191]) by decide +kernel) rfl (show z_r3 1 157 = some (11, 3, true) by decide +kernel) rfl rfl rfl (Or.inl (by decide)) (pL_fails_run (show Nat.blt 12 21 = true by decide) e94) (by omega) rfl (by omega) (by omega) ?_
  refine L_at2 (pc := 235) (st := [.int q93.1]) ?_
  obtain ⟨g96, h⟩ := z_ig h
  refine L_ifeq (pc := 235) (t := 327) (show z_pt 155 235 = some (10, .ifCond .eq 92, []) by decide +kernel) (by decide) (fun c95 => ?_) (fun c95 => ?_)
  · exact absurd c95 g96
  refine L_pure (pc := 238) (pc' := 239) (st' := [.ref 0]) (show z_pt 155 238 = some (10, .aload_n 1, []) by decide +kernel) rfl (fun _ _ _ => rfl) ?_
  refine L_pure (pc := 239) (pc' := 241) (st' := [.ref 1013, .ref 0]) (show z_pt 155 239 = some (10, .ldc 205, [1, 13]) by decide +kernel) rfl (fun _ _ _ => rfl) ?_
  refine L_const (pc := 241) (pc' := 243) (v := 7) (show z_ptc 155 241 = some (243, 7) by decide +kernel) ?_
  obtain ⟨q97, e98, h⟩ := z_bs h
  refine L_cx (E1 := 1) (E2 := E + 137) (S2 := S + 822) (pc := 243) (as0 := [.ref 0, .ref 1013, .int 7]) (rr := []) (m1 := q97.2) (show z_pt 155 243 = some (10, .invokestatic 195, [1, 157, 3, 5189, 5190, 0, 1000, 5191]) by decide +kernel) rfl (show z_r3 1 157 = some (11, 3, true) by decide +kernel) rfl rfl rfl (Or.inl (by decide)) (pL_fails_run (show Nat.blt 13 21 = true by decide) e98) (by omega) rfl (by omega) (by omega) ?_
  refine L_at2 (pc := 246) (st := [.int q97.1]) ?_
  obtain ⟨g100, h⟩ := z_ig h
  refine L_ifeq (pc := 246) (t := 327) (show z_pt 155 246 = some (10, .ifCond .eq 81, []) by decide +kernel) (by decide) (fun c99 => ?_) (fun c99 => ?_)
  · exact absurd c99 g100
  refine L_pure (pc := 249) (pc' := 250) (st' := [.ref 0]) (show z_pt 155 249 = some (10, .aload_n 1, []) by decide +kernel) rfl (fun _ _ _ => rfl) ?_
  refine L_pure (pc := 250) (pc' := 252) (st' := [.ref 1014, .ref 0]) (show z_pt 155 250 = some (10, .ldc 207, [1, 14]) by decide +kernel) rfl (fun _ _ _ => rfl) ?_
  refine L_const (pc := 252) (pc' := 253) (v := 0) (show z_ptc 155 252 = some (253, 0) by decide +kernel) ?_
  obtain ⟨q101, e102, h⟩ := z_bs h
  refine L_cx (E1 := 1) (E2 := E + 136) (S2 := S + 816) (pc := 253) (as0 := [.ref 0, .ref 1014, .int 0]) (rr := []) (m1 := q101.2) (show z_pt 155 253 = some (10, .invokestatic 195, [1, 157, 3, 5189, 5190, 0, 1000, 5191]) by decide +kernel) rfl (show z_r3 1 157 = some (11, 3, true) by decide +kernel) rfl rfl rfl (Or.inl (by decide)) (pL_fails_run (show Nat.blt 14 21 = true by decide) e102) (by omega) rfl (by omega) (by omega) ?_
  refine L_at2 (pc := 256) (st := [.int q101.1]) ?_
  obtain ⟨g104, h⟩ := z_ig h
  refine L_ifeq (pc := 256) (t := 327) (show z_pt 155 256 = some (10, .ifCond .eq 71, []) by decide +kernel) (by decide) (fun c103 => ?_) (fun c103 => ?_)
  · exact absurd c103 g104
  refine L_pure (pc := 259) (pc' := 260) (st' := [.ref 0]) (show z_pt 155 259 = some (10, .aload_n 1, []) by decide +kernel) rfl (fun _ _ _ => rfl) ?_
  refine L_pure (pc := 260) (pc' := 262) (st' := [.ref 1015, .ref 0]) (show z_pt 155 260 = some (10, .ldc 209, [1, 15]) by decide +kernel) rfl (fun _ _ _ => rfl) ?_
  refine L_const (pc := 262) (pc' := 264) (v := 7) (show z_ptc 155 262 = some (264, 7) by decide +kernel) ?_
  obtain ⟨q105, e106, h⟩ := z_bs h
  refine L_cx (E1 := 1) (E2 := E + 135) (S2 := S + 810) (pc := 264) (as0 := [.ref 0, .ref 1015, .int 7]) (rr := []) (m1 := q105.2) (show z_pt 155 264 = some (10, .invokestatic 195, [1, 157, 3, 5189, 5190, 0, 1000, 5191]) by decide +kernel) rfl (show z_r3 1 157 = some (11, 3, true) by decide +kernel) rfl rfl rfl (Or.inl (by decide)) (pL_fails_run (show Nat.blt 15 21 = true by decide) e106) (by omega) rfl (by omega) (by omega) ?_
  refine L_at2 (pc := 267) (st := [.int q105.1]) ?_
  obtain ⟨g108, h⟩ := z_ig h
  refine L_ifeq (pc := 267) (t := 327) (show z_pt 155 267 = some (10, .ifCond .eq 60, []) by decide +kernel) (by decide) (fun c107 => ?_) (fun c107 => ?_)
  · exact absurd c107 g108
  refine L_pure (pc := 270) (pc' := 271) (st' := [.ref 0]) (show z_pt 155 270 = some (10, .aload_n 1, []) by decide +kernel) rfl (fun _ _ _ => rfl) ?_
  refine L_pure (pc := 271) (pc' := 273) (st' := [.ref 1016, .ref 0]) (show z_pt 155 271 = some (10, .ldc 211, [1, 16]) by decide +kernel) rfl (fun _ _ _ => rfl) ?_
  refine L_const (pc := 273) (pc' := 274) (v := 5) (show z_ptc 155 273 = some (274, 5) by decide +kernel) ?_
  obtain ⟨q109, e110, h⟩ := z_bs h
  refine L_cx (E1 := 1) (E2 := E + 134) (S2 := S + 804) (pc := 274) (as0 := [.ref 0, .ref 1016, .int 5]) (rr := []) (m1 := q109.2) (show z_pt 155 274 = some (10, .invokestatic 195, [1, 157, 3, 5189, 5190, 0, 1000, 5191]) by decide +kernel) rfl (show z_r3 1 157 = some (11, 3, true) by decide +kernel) rfl rfl rfl (Or.inl (by decide)) (pL_fails_run (show Nat.blt 16 21 = true by decide) e110) (by omega) rfl (by omega) (by omega) ?_
  refine L_at2 (pc := 277) (st := [.int q109.1]) ?_
  obtain ⟨g112, h⟩ := z_ig h
  refine L_ifeq (pc := 277) (t := 327) (show z_pt 155 277 = some (10, .ifCond .eq 50, []) by decide +kernel) (by decide) (fun c111 => ?_) (fun c111 => ?_)
  · exact absurd c111 g112
  refine L_pure (pc := 280) (pc' := 281) (st' := [.ref 0]) (show z_pt 155 280 = some (10, .aload_n 1, []) by decide +kernel) rfl (fun _ _ _ => rfl) ?_
  refine L_pure (pc := 281) (pc' := 283) (st' := [.ref 1017, .ref 0]) (show z_pt 155 281 = some (10, .ldc 213, [1, 17]) by decide +kernel) rfl (fun _ _ _ => rfl) ?_
  refine L_const (pc := 283) (pc' := 285) (v := 6) (show z_ptc 155 283 = some (285, 6) by decide +kernel) ?_
  obtain ⟨q113, e114, h⟩ := z_bs h
  refine L_cx (E1 := 1) (E2 := E + 133) (S2 := S + 798) (pc := 285) (as0 := [.ref 0, .ref 1017, .int 6]) (rr := []) (m1 := q113.2) (show z_pt 155 285 = some (10, .invokestatic 195, [1, 157, 3, 5189, 5190, 0, 1000, 5191]) by decide +kernel) rfl (show z_r3 1 157 = some (11, 3, true) by decide +kernel) rfl rfl rfl (Or.inl (by decide)) (pL_fails_run (show Nat.blt 17 21 = true by decide) e114) (by omega) rfl (by omega) (by omega) ?_
  refine L_at2 (pc := 288) (st := [.int q113.1]) ?_
  obtain ⟨g116, h⟩ := z_ig h
  refine L_ifeq (pc := 288) (t := 327) (show z_pt 155 288 = some (10, .ifCond .eq 39, []) by decide +kernel) (by decide) (fun c115 => ?_) (fun c115 => ?_)
  · exact absurd c115 g116
  refine L_pure (pc := 291) (pc' := 292) (st' := [.ref 0]) (show z_pt 155 291 = some (10, .aload_n 1, []) by decide +kernel) rfl (fun _ _ _ => rfl) ?_
  refine L_pure (pc := 292) (pc' := 294) (st' := [.ref 1018, .ref 0]) (show z_pt 155 292 = some (10, .ldc 215, [1, 18]) by decide +kernel) rfl (fun _ _ _ => rfl) ?_
  refine L_const (pc := 294) (pc' := 295) (v := 1) (show z_ptc 155 294 = some (295, 1) by decide +kernel) ?_
  obtain ⟨q117, e118, h⟩ := z_bs h
  refine L_cx (E1 := 1) (E2 := E + 132) (S2 := S + 792) (pc := 295) (as0 := [.ref 0, .ref 1018, .int 1]) (rr := []) (m1 := q117.2) (show z_pt 155 295 = some (10, .invokestatic 195, [1, 157, 3, 5189, 5190, 0, 1000, 5191]) by decide +kernel) rfl (show z_r3 1 157 = some (11, 3, true) by decide +kernel) rfl rfl rfl (Or.inl (by decide)) (pL_fails_run (show Nat.blt 18 21 = true by decide) e118) (by omega) rfl (by omega) (by omega) ?_
  refine L_at2 (pc := 298) (st := [.int q117.1]) ?_
  obtain ⟨g120, h⟩ := z_ig h
  refine L_ifeq (pc := 298) (t := 327) (show z_pt 155 298 = some (10, .ifCond .eq 29, []) by decide +kernel) (by decide) (fun c119 => ?_) (fun c119 => ?_)
  · exact absurd c119 g120
  refine L_pure (pc := 301) (pc' := 302) (st' := [.ref 0]) (show z_pt 155 301 = some (10, .aload_n 1, []) by decide +kernel) rfl (fun _ _ _ => rfl) ?_
  refine L_pure (pc := 302) (pc' := 304) (st' := [.ref 1019, .ref 0]) (show z_pt 155 302 = some (10, .ldc 217, [1, 19]) by decide +kernel) rfl (fun _ _ _ => rfl) ?_
  refine L_const (pc := 304) (pc' := 305) (v := 0) (show z_ptc 155 304 = some (305, 0) by decide +kernel) ?_
  obtain ⟨q121, e122, h⟩ := z_bs h
  refine L_cx (E1 := 1) (E2 := E + 131) (S2 := S + 786) (pc := 305) (as0 := [.ref 0, .ref 1019, .int 0]) (rr := []) (m1 := q121.2) (show z_pt 155 305 = some (10, .invokestatic 195, [1, 157, 3, 5189, 5190, 0, 1000, 5191]) by decide +kernel) rfl (show z_r3 1 157 = some (11, 3, true) by decide +kernel) rfl rfl rfl (Or.inl (by decide)) (pL_fails_run (show Nat.blt 19 21 = true by decide) e122) (by omega) rfl (by omega) (by omega) ?_
  refine L_at2 (pc := 308) (st := [.int q121.1]) ?_
  obtain ⟨g124, h⟩ := z_ig h
  refine L_ifeq (pc := 308) (t := 327) (show z_pt 155 308 = some (10, .ifCond .eq 19, []) by decide +kernel) (by decide) (fun c123 => ?_) (fun c123 => ?_)
  · exact absurd c123 g124
  refine L_pure (pc := 311) (pc' := 312) (st' := [.ref 0]) (show z_pt 155 311 = some (10, .aload_n 1, []) by decide +kernel) rfl (fun _ _ _ => rfl) ?_
  obtain ⟨q125, e126, h⟩ := z_bs h
  refine L_cx (E1 := 0) (E2 := E + 131) (S2 := S + 786) (pc := 312) (as0 := [.ref 0]) (rr := []) (m1 := q121.2) (show z_pt 155 312 = some (10, .invokevirtual 188, [0, 121, 0, 5071, 5072, 5073, 1001, 5074]) by decide +kernel) rfl (show z_r3 0 121 = some (9, 1, true) by decide +kernel) rfl rfl rfl (Or.inr ⟨rfl, _, rfl⟩) (Ro_of0 (pG_failedCommand_run  (z_iX_eq e126))) (by omega) rfl (by omega) (by omega) ?_
  refine L_at2 (pc := 315) (st := [.int q125]) ?_
  obtain ⟨g128, h⟩ := z_ig h
  refine L_ifne (pc := 315) (t := 327) (show z_pt 155 315 = some (10, .ifCond .ne 12, []) by decide +kernel) (by decide) (fun c127 => ?_) (fun c127 => ?_)
  · exact absurd g128 c127
  refine L_pure (pc := 318) (pc' := 319) (st' := [.ref 0]) (show z_pt 155 318 = some (10, .aload_n 1, []) by decide +kernel) rfl (fun _ _ _ => rfl) ?_
  obtain ⟨q129, e130, h⟩ := z_bs h
  refine L_cx (E1 := 8) (E2 := E + 123) (S2 := S + 738) (pc := 319) (as0 := [.ref 0]) (rr := []) (m1 := q129.2) (show z_pt 155 319 = some (10, .invokestatic 167, [1, 154, 1, 5154, 5155, 0, 1000, 5156]) by decide +kernel) rfl (show z_r3 1 154 = some (11, 4, true) by decide +kernel) rfl rfl rfl (Or.inl (by decide)) (pL_state_run  e130) (by omega) rfl (by omega) (by omega) ?_
  refine L_at2 (pc := 322) (st := [.int q129.1]) ?_
  refine L_pure (pc := 322) (pc' := 324) (st' := [.int q3.1, .int q129.1]) (show z_pt 155 322 = some (10, .iload 4, []) by decide +kernel) rfl (fun _ _ _ => rfl) ?_
  obtain ⟨g132, h⟩ := z_ig h
  refine L_icmeq (pc := 324) (t := 329) (show z_pt 155 324 = some (10, .if_icmp .eq 5, []) by decide +kernel) (by decide) (fun c131 => ?_) (fun c131 => ?_)
  rotate_left
  · exact absurd g132 c131
  cases h
  exact kk
def pW_n (c : Int32) : Int32 := ((6 : Int32) + (c &&& 31))
def pW_d (c : Int32) : Int32 := (((c >>> ((5 : Int32) &&& 31)) &&& 15) * 100)
theorem pW_mid_run {sc0 : Nat × (Nat → Int32)} {E S : Nat} {x y : z_Mem} {gs nw : Int32} (hL : sc0.1 ≤ 260) (kk : ∀ c : Int32, Lw sc0 (E + 0) (S + 0) 359 [(0, .ref 2000), (1, .ref 0), (2, .ref 241), (3, .int gs), (4, .int nw), (5, .int c), (6, .int (pW_n c)), (7, .int (pW_d c))] [] (sb 0 x ++ (sb 241 y ++ []))) : Lw sc0 (E + 0) (S + 0) 329 [(0, .ref 2000), (1, .ref 0), (2, .ref 241), (3, .int gs), (4, .int nw)] [] (sb 0 x ++ (sb 241 y ++ [])) := by
  refine L_pure (pc := 329) (pc' := 330) (st' := [.ref 2000]) (show z_pt 155 329 = some (10, .aload_n 0, []) by decide +kernel) rfl (fun _ _ _ => rfl) ?_
  refine L_const (pc := 330) (pc' := 332) (v := 13) (show z_ptc 155 330 = some (332, 13) by decide +kernel) ?_
  refine L_cx (E1 := 0) (E2 := E + 0) (S2 := S + 0) (pc := 332) (as0 := [.ref 2000, .int 13]) (rr := []) (m1 := x) (show z_pt 155 332 = some (10, .invokestatic 24, [1, 150, 2, 5093, 5094, 0, 1000, 5095]) by decide +kernel) rfl (show z_r3 1 150 = some (11, 2, true) by decide +kernel) rfl rfl rfl (Or.inl (by decide)) (pL_at_run hL (by decide)) (by omega) rfl (by omega) (by omega) ?_
  refine L_at2 (pc := 335) (st := [.int (z_S sc0 13)]) ?_
  refine L_pure (pc := 335) (pc' := 337) (ls' := [(0, .ref 2000), (1, .ref 0), (2, .ref 241), (3, .int gs), (4, .int nw), (5, .int (z_S sc0 13))]) (st' := []) (show z_pt 155 335 = some (10, .istore 5, []) by decide +kernel) rfl (fun _ _ _ => rfl) ?_
  refine L_const (pc := 337) (pc' := 339) (v := 6) (show z_ptc 155 337 = some (339, 6) by decide +kernel) ?_
  refine L_pure (pc := 339) (pc' := 341) (st' := [.int (z_S sc0 13), .int 6]) (show z_pt 155 339 = some (10, .iload 5, []) by decide +kernel) rfl (fun _ _ _ => rfl) ?_
  refine L_const (pc := 341) (pc' := 343) (v := 31) (show z_ptc 155 341 = some (343, 31) by decide +kernel) ?_
  refine L_pure (pc := 343) (pc' := 344) (st' := [.int ((z_S sc0 13) &&& 31), .int 6]) (show z_pt 155 343 = some (10, .iand, []) by decide +kernel) rfl (fun _ _ _ => rfl) ?_
  refine L_pure (pc := 344) (pc' := 345) (st' := [.int ((6 : Int32) + ((z_S sc0 13) &&& 31))]) (show z_pt 155 344 = some (10, .iadd, []) by decide +kernel) rfl (fun _ _ _ => rfl) ?_
  refine L_pure (pc := 345) (pc' := 347) (ls' := [(0, .ref 2000), (1, .ref 0), (2, .ref 241), (3, .int gs), (4, .int nw), (5, .int (z_S sc0 13)), (6, .int ((6 : Int32) + ((z_S sc0 13) &&& 31)))]) (st' := []) (show z_pt 155 345 = some (10, .istore 6, []) by decide +kernel) rfl (fun _ _ _ => rfl) ?_
  refine L_pure (pc := 347) (pc' := 349) (st' := [.int (z_S sc0 13)]) (show z_pt 155 347 = some (10, .iload 5, []) by decide +kernel) rfl (fun _ _ _ => rfl) ?_
  refine L_const (pc := 349) (pc' := 350) (v := 5) (show z_ptc 155 349 = some (350, 5) by decide +kernel) ?_
  refine L_pure (pc := 350) (pc' := 351) (st' := [.int ((z_S sc0 13) >>> ((5 : Int32) &&& 31))]) (show z_pt 155 350 = some (10, .ishr, []) by decide +kernel) rfl (fun _ _ _ => rfl) ?_
  refine L_const (pc := 351) (pc' := 353) (v := 15) (show z_ptc 155 351 = some (353, 15) by decide +kernel) ?_
  refine L_pure (pc := 353) (pc' := 354) (st' := [.int (((z_S sc0 13) >>> ((5 : Int32) &&& 31)) &&& 15)]) (show z_pt 155 353 = some (10, .iand, []) by decide +kernel) rfl (fun _ _ _ => rfl) ?_
  refine L_const (pc := 354) (pc' := 356) (v := 100) (show z_ptc 155 354 = some (356, 100) by decide +kernel) ?_
  refine L_pure (pc := 356) (pc' := 357) (st' := [.int ((((z_S sc0 13) >>> ((5 : Int32) &&& 31)) &&& 15) * 100)]) (show z_pt 155 356 = some (10, .imul, []) by decide +kernel) rfl (fun _ _ _ => rfl) ?_
  refine L_pure (pc := 357) (pc' := 359) (ls' := [(0, .ref 2000), (1, .ref 0), (2, .ref 241), (3, .int gs), (4, .int nw), (5, .int (z_S sc0 13)), (6, .int ((6 : Int32) + ((z_S sc0 13) &&& 31))), (7, .int ((((z_S sc0 13) >>> ((5 : Int32) &&& 31)) &&& 15) * 100))]) (st' := []) (show z_pt 155 357 = some (10, .istore 7, []) by decide +kernel) rfl (fun _ _ _ => rfl) ?_
  exact kk _
/-- what the law asks of z -/
def pW_z (n : Int32) (z : z_Mem) : Option z_Mem := (pG_isConsistent z).bind fun q1 => if ¬ q1.1 = 0 then (pG_gearCount q1.2).bind fun q5 => if q5 = 0 then (pG_trainCount q1.2).bind fun q9 => if q9.1 = 0 then (pL_act q9.2 3 0 1 0).bind fun q13 => if q13.1 = (-5001) then (pL_act q13.2 6 0 0 0).bind fun q17 => if q17.1 = (-5004) then (pL_act q17.2 9 97 0 0).bind fun q21 => if q21.1 = (-5004) then (pL_act q21.2 8 97 10 0).bind fun q25 => if q25.1 = (-5002) then (pL_put 20 q25.2).bind fun q29 => (z_iXM (pG_execute q29)).bind fun q31 => if q31.1 = 5 then (pG_trainCount q31.2).bind fun q35 => if q35.1 = 1 then (pG_trainCountByUnions q35.2).bind fun q39 => if q39.1 = 1 then (z_iXM (pG_trainSize q39.2 2)).bind fun q43 => if q43.1 = 3 then (z_iXM (pG_ratioNumerator q43.2 0 1)).bind fun q47 => if q47.1 = (-2) then (z_iXM (pG_ratioDenominator q47.2 0 1)).bind fun q51 => if q51.1 = 1 then (z_iXM (pG_ratioNumerator q51.2 0 2)).bind fun q55 => if q55.1 = 4 then (z_iXM (pG_ratioDenominator q55.2 0 2)).bind fun q59 => if q59.1 = 3 then (z_iXM (pG_ratioNumeratorByChain q59.2 0 2)).bind fun q63 => if q63.1 = 4 then (pL_act q63.2 1 0 2 0).bind fun q67 => if q67.1 = (-5003) then (pL_act q67.2 1 1 1 9).bind fun q71 => if q71.1 = (-5002) then (z_iXM (pG_freePlay q71.2 0 1)).bind fun q75 => if q75.1 = 0 then (z_iXM (pG_freePlay q75.2 0 2)).bind fun q79 => if q79.1 = 2 then (z_iXM (pG_freePlayByTurning q79.2 0 2)).bind fun q83 => if q83.1 = 2 then (z_iXM (pG_turn q83.2 0 n)).bind fun q87 => if q87.1 = 3 then (z_iX (pG_position q87.2 0)).bind fun q91 => if q91 = n then (z_iX (pG_position q87.2 1)).bind fun q95 => if q95 = (-n) then (z_iX (pG_position q87.2 2)).bind fun q99 => if q99 = (n - 2) then (z_iX (pG_gap q87.2 0 1)).bind fun q103 => if q103 = 0 then (z_iX (pG_gap q87.2 1 2)).bind fun q107 => if q107 = 2 then (pG_turnedTeeth q87.2).bind fun q111 => if q111 = (((3 : Int32) * n) - 2) then (z_iXM (pG_turn q87.2 0 (-2))).bind fun q115 => if q115.1 = 1 then (z_iX (pG_gap q115.2 1 0)).bind fun q119 => if q119 = 2 then (z_iX (pG_position q115.2 1)).bind fun q123 => if q123 = (-n) then (z_iXM (pG_freePlay q115.2 0 1)).bind fun q127 => if q127.1 = 2 then (z_iXM (pG_freePlay q127.2 0 2)).bind fun q131 => if q131.1 = 2 then (z_iXM (pG_freePlayByTurning q131.2 0 2)).bind fun q135 => if q135.1 = 2 then (z_iXM (pG_freePlay q135.2 2 0)).bind fun q139 => if q139.1 = 3 then (z_iXM (pG_turn q139.2 0 (-4))).bind fun q143 => if q143.1 = 3 then (z_iX (pG_gap q143.2 0 1)).bind fun q147 => if q147 = 3 then (z_iX (pG_position q143.2 1)).bind fun q151 => if q151 = ((3 : Int32) - n) then (z_iX (pG_gap q143.2 1 2)).bind fun q155 => if q155 = 0 then (z_iX (pG_position q143.2 2)).bind fun q159 => if q159 = (n - 3) then (z_iXM (pG_part q143.2 0 1)).bind fun q163 => if q163.1 = 3 then (pG_trainCount q163.2).bind fun q167 => if q167.1 = 2 then (pL_act q167.2 13 0 1 0).bind fun q171 => if q171.1 = (-5004) then (pL_act q171.2 2 0 1 0).bind fun q175 => if q175.1 = (-5004) then some q175.2 else none else none else none else none else none else none else none else none else none else none else none else none else none else none else none else none else none else none else none else none else none else none else none else none else none else none else none else none else none else none else none else none else none else none else none else none else none else none else none else none else none else none else none else none
theorem pW_z_run {sc0 : Nat × (Nat → Int32)} {E S : Nat} {x y z r : z_Mem} {gs nw c n d : Int32} (h : pW_z n z = some r) (kk : Lw sc0 (E + 92) (S + 552) 901 [(0, .ref 2000), (1, .ref 0), (2, .ref 241), (3, .int gs), (4, .int nw), (5, .int c), (6, .int n), (7, .int d), (8, .ref 482)] [] (sb 0 x ++ (sb 241 y ++ (sb 482 r ++ [])))) : Lw sc0 (E + 100) (S + 600) 368 [(0, .ref 2000), (1, .ref 0), (2, .ref 241), (3, .int gs), (4, .int nw), (5, .int c), (6, .int n), (7, .int d), (8, .ref 482)] [] (sb 0 x ++ (sb 241 y ++ (sb 482 z ++ []))) := by
  unfold pW_z at h
  refine L_pure (pc := 368) (pc' := 370) (st' := [.ref 482]) (show z_pt 155 368 = some (10, .aload 8, []) by decide +kernel) rfl (fun _ _ _ => rfl) ?_
  obtain ⟨q1, e2, h⟩ := z_bs h
  refine L_cz (E1 := 0) (E2 := E + 100) (S2 := S + 600) (pc := 370) (as0 := [.ref 0]) (rr := []) (m1 := q1.2) (show z_pt 155 370 = some (10, .invokevirtual 219, [0, 117, 0, 4149, 4150, 4151, 1001, 4152]) by decide +kernel) rfl (show z_r3 0 117 = some (9, 5, true) by decide +kernel) rfl rfl rfl (Or.inr ⟨rfl, _, rfl⟩) (Ro_of0 (pG_isConsistent_run  e2)) (by omega) rfl (by omega) (by omega) ?_
  refine L_at2 (pc := 373) (st := [.int q1.1]) ?_
  obtain ⟨g4, h⟩ := z_ig h
  refine L_ifeq (pc := 373) (t := 458) (show z_pt 155 373 = some (10, .ifCond .eq 85, []) by decide +kernel) (by decide) (fun c3 => ?_) (fun c3 => ?_)
  · exact absurd c3 g4
  refine L_pure (pc := 376) (pc' := 378) (st' := [.ref 482]) (show z_pt 155 376 = some (10, .aload 8, []) by decide +kernel) rfl (fun _ _ _ => rfl) ?_
  obtain ⟨q5, e6, h⟩ := z_bs h
  refine L_cz (E1 := 0) (E2 := E + 100) (S2 := S + 600) (pc := 378) (as0 := [.ref 0]) (rr := []) (m1 := q1.2) (show z_pt 155 378 = some (10, .invokevirtual 34, [0, 79, 0, 3045, 3046, 3047, 1001, 3048]) by decide +kernel) rfl (show z_r3 0 79 = some (9, 1, true) by decide +kernel) rfl rfl rfl (Or.inr ⟨rfl, _, rfl⟩) (Ro_of0 (pG_gearCount_run  e6)) (by omega) rfl (by omega) (by omega) ?_
  refine L_at2 (pc := 381) (st := [.int q5]) ?_
  obtain ⟨g8, h⟩ := z_ig h
  refine L_ifne (pc := 381) (t := 458) (show z_pt 155 381 = some (10, .ifCond .ne 77, []) by decide +kernel) (by decide) (fun c7 => ?_) (fun c7 => ?_)
  · exact absurd g8 c7
  refine L_pure (pc := 384) (pc' := 386) (st' := [.ref 482]) (show z_pt 155 384 = some (10, .aload 8, []) by decide +kernel) rfl (fun _ _ _ => rfl) ?_
  obtain ⟨q9, e10, h⟩ := z_bs h
  refine L_cz (E1 := 0) (E2 := E + 100) (S2 := S + 600) (pc := 386) (as0 := [.ref 0]) (rr := []) (m1 := q9.2) (show z_pt 155 386 = some (10, .invokevirtual 223, [0, 87, 0, 3082, 3083, 3084, 1001, 3085]) by decide +kernel) rfl (show z_r3 0 87 = some (9, 1, true) by decide +kernel) rfl rfl rfl (Or.inr ⟨rfl, _, rfl⟩) (Ro_of0 (pG_trainCount_run  e10)) (by omega) rfl (by omega) (by omega) ?_
  refine L_at2 (pc := 389) (st := [.int q9.1]) ?_
  obtain ⟨g12, h⟩ := z_ig h
  refine L_ifne (pc := 389) (t := 458) (show z_pt 155 389 = some (10, .ifCond .ne 69, []) by decide +kernel) (by decide) (fun c11 => ?_) (fun c11 => ?_)
  · exact absurd g12 c11
  refine L_pure (pc := 392) (pc' := 394) (st' := [.ref 482]) (show z_pt 155 392 = some (10, .aload 8, []) by decide +kernel) rfl (fun _ _ _ => rfl) ?_
  refine L_const (pc := 394) (pc' := 395) (v := 3) (show z_ptc 155 394 = some (395, 3) by decide +kernel) ?_
  refine L_const (pc := 395) (pc' := 396) (v := 0) (show z_ptc 155 395 = some (396, 0) by decide +kernel) ?_
  refine L_const (pc := 396) (pc' := 397) (v := 1) (show z_ptc 155 396 = some (397, 1) by decide +kernel) ?_
  refine L_const (pc := 397) (pc' := 398) (v := 0) (show z_ptc 155 397 = some (398, 0) by decide +kernel) ?_
  obtain ⟨q13, e14, h⟩ := z_bs h
  refine L_cz (E1 := 1) (E2 := E + 99) (S2 := S + 594) (pc := 398) (as0 := [.ref 0, .int 3, .int 0, .int 1, .int 0]) (rr := []) (m1 := q13.2) (show z_pt 155 398 = some (10, .invokestatic 30, [5, 153, 5, 5112, 5113, 0, 1000, 5114]) by decide +kernel) rfl (show z_r3 5 153 = some (11, 6, true) by decide +kernel) rfl rfl rfl (Or.inl (by decide)) (pL_act_run  e14) (by omega) rfl (by omega) (by omega) ?_
  refine L_at2 (pc := 401) (st := [.int q13.1]) ?_
  refine L_const (pc := 401) (pc' := 404) (v := (-5001)) (show z_ptc 155 401 = some (404, (-5001)) by decide +kernel) ?_
  obtain ⟨g16, h⟩ := z_ig h
  refine L_icmne (pc := 404) (t := 458) (show z_pt 155 404 = some (10, .if_icmp .ne 54, []) by decide +kernel) (by decide) (fun c15 => ?_) (fun c15 => ?_)
  · exact absurd g16 c15
  refine L_pure (pc := 407) (pc' := 409) (st' := [.ref 482]) (show z_pt 155 407 = some (10, .aload 8, []) by decide +kernel) rfl (fun _ _ _ => rfl) ?_
  refine L_const (pc := 409) (pc' := 411) (v := 6) (show z_ptc 155 409 = some (411, 6) by decide +kernel) ?_
  refine L_const (pc := 411) (pc' := 412) (v := 0) (show z_ptc 155 411 = some (412, 0) by decide +kernel) ?_
  refine L_const (pc := 412) (pc' := 413) (v := 0) (show z_ptc 155 412 = some (413, 0) by decide +kernel) ?_
  refine L_const (pc := 413) (pc' := 414) (v := 0) (show z_ptc 155 413 = some (414, 0) by decide +kernel) ?_
  obtain ⟨q17, e18, h⟩ := z_bs h
  refine L_cz (E1 := 1) (E2 := E + 98) (S2 := S + 588) (pc := 414) (as0 := [.ref 0, .int 6, .int 0, .int 0, .int 0]) (rr := []) (m1 := q17.2) (show z_pt 155 414 = some (10, .invokestatic 30, [5, 153, 5, 5112, 5113, 0, 1000, 5114]) by decide +kernel) rfl (show z_r3 5 153 = some (11, 6, true) by decide +kernel) rfl rfl rfl (Or.inl (by decide)) (pL_act_run  e18) (by omega) rfl (by omega) (by omega) ?_
  refine L_at2 (pc := 417) (st := [.int q17.1]) ?_
  refine L_const (pc := 417) (pc' := 420) (v := (-5004)) (show z_ptc 155 417 = some (420, (-5004)) by decide +kernel) ?_
  obtain ⟨g20, h⟩ := z_ig h
  refine L_icmne (pc := 420) (t := 458) (show z_pt 155 420 = some (10, .if_icmp .ne 38, []) by decide +kernel) (by decide) (fun c19 => ?_) (fun c19 => ?_)
  · exact absurd g20 c19
  refine L_pure (pc := 423) (pc' := 425) (st' := [.ref 482]) (show z_pt 155 423 = some (10, .aload 8, []) by decide +kernel) rfl (fun _ _ _ => rfl) ?_
  refine L_const (pc := 425) (pc' := 427) (v := 9) (show z_ptc 155 425 = some (427, 9) by decide +kernel) ?_
  refine L_const (pc := 427) (pc' := 429) (v := 97) (show z_ptc 155 427 = some (429, 97) by decide +kernel) ?_
  refine L_const (pc := 429) (pc' := 430) (v := 0) (show z_ptc 155 429 = some (430, 0) by decide +kernel) ?_
  refine L_const (pc := 430) (pc' := 431) (v := 0) (show z_ptc 155 430 = some (431, 0) by decide +kernel) ?_
  obtain ⟨q21, e22, h⟩ := z_bs h
  refine L_cz (E1 := 1) (E2 := E + 97) (S2 := S + 582) (pc := 431) (as0 := [.ref 0, .int 9, .int 97, .int 0, .int 0]) (rr := []) (m1 := q21.2) (show z_pt 155 431 = some (10, .invokestatic 30, [5, 153, 5, 5112, 5113, 0, 1000, 5114]) by decide +kernel) rfl (show z_r3 5 153 = some (11, 6, true) by decide +kernel) rfl rfl rfl (Or.inl (by decide)) (pL_act_run  e22) (by omega) rfl (by omega) (by omega) ?_
  refine L_at2 (pc := 434) (st := [.int q21.1]) ?_
  refine L_const (pc := 434) (pc' := 437) (v := (-5004)) (show z_ptc 155 434 = some (437, (-5004)) by decide +kernel) ?_
  obtain ⟨g24, h⟩ := z_ig h
  refine L_icmne (pc := 437) (t := 458) (show z_pt 155 437 = some (10, .if_icmp .ne 21, []) by decide +kernel) (by decide) (fun c23 => ?_) (fun c23 => ?_)
  · exact absurd g24 c23
  refine L_pure (pc := 440) (pc' := 442) (st' := [.ref 482]) (show z_pt 155 440 = some (10, .aload 8, []) by decide +kernel) rfl (fun _ _ _ => rfl) ?_
  refine L_const (pc := 442) (pc' := 444) (v := 8) (show z_ptc 155 442 = some (444, 8) by decide +kernel) ?_
  refine L_const (pc := 444) (pc' := 446) (v := 97) (show z_ptc 155 444 = some (446, 97) by decide +kernel) ?_
  refine L_const (pc := 446) (pc' := 448) (v := 10) (show z_ptc 155 446 = some (448, 10) by decide +kernel) ?_
  refine L_const (pc := 448) (pc' := 449) (v := 0) (show z_ptc 155 448 = some (449, 0) by decide +kernel) ?_
  obtain ⟨q25, e26, h⟩ := z_bs h
  refine L_cz (E1 := 1) (E2 := E + 96) (S2 := S + 576) (pc := 449) (as0 := [.ref 0, .int 8, .int 97, .int 10, .int 0]) (rr := []) (m1 := q25.2) (show z_pt 155 449 = some (10, .invokestatic 30, [5, 153, 5, 5112, 5113, 0, 1000, 5114]) by decide +kernel) rfl (show z_r3 5 153 = some (11, 6, true) by decide +kernel) rfl rfl rfl (Or.inl (by decide)) (pL_act_run  e26) (by omega) rfl (by omega) (by omega) ?_
  refine L_at2 (pc := 452) (st := [.int q25.1]) ?_
  refine L_const (pc := 452) (pc' := 455) (v := (-5002)) (show z_ptc 155 452 = some (455, (-5002)) by decide +kernel) ?_
  obtain ⟨g28, h⟩ := z_ig h
  refine L_icmeq (pc := 455) (t := 460) (show z_pt 155 455 = some (10, .if_icmp .eq 5, []) by decide +kernel) (by decide) (fun c27 => ?_) (fun c27 => ?_)
  rotate_left
  · exact absurd g28 c27
  refine L_pure (pc := 460) (pc' := 462) (st' := [.ref 482]) (show z_pt 155 460 = some (10, .aload 8, []) by decide +kernel) rfl (fun _ _ _ => rfl) ?_
  refine L_pure (pc := 462) (pc' := 464) (st' := [.ref 1020, .ref 482]) (show z_pt 155 462 = some (10, .ldc 226, [1, 20]) by decide +kernel) rfl (fun _ _ _ => rfl) ?_
  obtain ⟨q29, e30, h⟩ := z_bs h
  refine L_cz (E1 := 0) (E2 := E + 96) (S2 := S + 576) (pc := 464) (as0 := [.ref 0, .ref 1020]) (rr := []) (m1 := q29) (show z_pt 155 464 = some (10, .invokestatic 173, [1, 151, 2, 5096, 5097, 0, 1000, 5098]) by decide +kernel) rfl (show z_r3 1 151 = some (11, 3, true) by decide +kernel) rfl rfl rfl (Or.inl (by decide)) (pL_put_run (show Nat.blt 20 21 = true by decide) e30) (by omega) rfl (by omega) (by omega) ?_
  refine L_at2 (pc := 467) (st := []) ?_
  refine L_pure (pc := 467) (pc' := 469) (st' := [.ref 482]) (show z_pt 155 467 = some (10, .aload 8, []) by decide +kernel) rfl (fun _ _ _ => rfl) ?_
  obtain ⟨q31, e32, h⟩ := z_bs h
  refine L_cz (E1 := 0) (E2 := E + 96) (S2 := S + 576) (pc := 469) (as0 := [.ref 0]) (rr := []) (m1 := q31.2) (show z_pt 155 469 = some (10, .invokevirtual 177, [0, 119, 0, 4161, 4162, 4163, 1001, 4164]) by decide +kernel) rfl (show z_r3 0 119 = some (9, 3, true) by decide +kernel) rfl rfl rfl (Or.inr ⟨rfl, _, rfl⟩) (Ro_of0 (pG_execute_run  (z_iXM_eq e32))) (by omega) rfl (by omega) (by omega) ?_
  refine L_at2 (pc := 472) (st := [.int q31.1]) ?_
  refine L_const (pc := 472) (pc' := 473) (v := 5) (show z_ptc 155 472 = some (473, 5) by decide +kernel) ?_
  obtain ⟨g34, h⟩ := z_ig h
  refine L_icmne (pc := 473) (t := 623) (show z_pt 155 473 = some (10, .if_icmp .ne 150, []) by decide +kernel) (by decide) (fun c33 => ?_) (fun c33 => ?_)
  · exact absurd g34 c33
  refine L_pure (pc := 476) (pc' := 478) (st' := [.ref 482]) (show z_pt 155 476 = some (10, .aload 8, []) by decide +kernel) rfl (fun _ _ _ => rfl) ?_
  obtain ⟨q35, e36, h⟩ := z_bs h
  refine L_cz (E1 := 0) (E2 := E + 96) (S2 := S + 576) (pc := 478) (as0 := [.ref 0]) (rr := []) (m1 := q35.2) (show z_pt 155 478 = some (10, .invokevirtual 223, [0, 87, 0, 3082, 3083, 3084, 1001, 3085]) by decide +kernel) rfl (show z_r3 0 87 = some (9, 1, true) by decide +kernel) rfl rfl rfl (Or.inr ⟨rfl, _, rfl⟩) (Ro_of0 (pG_trainCount_run  e36)) (by omega) rfl (by omega) (by omega) ?_
  refine L_at2 (pc := 481) (st := [.int q35.1]) ?_
  refine L_const (pc := 481) (pc' := 482) (v := 1) (show z_ptc 155 481 = some (482, 1) by decide +kernel) ?_
  obtain ⟨g38, h⟩ := z_ig h
  refine L_icmne (pc := 482) (t := 623) (show z_pt 155 482 = some (10, .if_icmp .ne 141, []) by decide +kernel) (by decide) (fun c37 => ?_) (fun c37 => ?_)
  · exact absurd g38 c37
  refine L_pure (pc := 485) (pc' := 487) (st' := [.ref 482]) (show z_pt 155 485 = some (10, .aload 8, []) by decide +kernel) rfl (fun _ _ _ => rfl) ?_
  obtain ⟨q39, e40, h⟩ := z_bs h
  refine L_cz (E1 := 0) (E2 := E + 96) (S2 := S + 576) (pc := 487) (as0 := [.ref 0]) (rr := []) (m1 := q39.2) (show z_pt 155 487 = some (10, .invokevirtual 228, [0, 88, 0, 3090, 3091, 3092, 1001, 3093]) by decide +kernel) rfl (show z_r3 0 88 = some (9, 1, true) by decide +kernel) rfl rfl rfl (Or.inr ⟨rfl, _, rfl⟩) (Ro_of0 (pG_trainCountByUnions_run  e40)) (by omega) rfl (by omega) (by omega) ?_
  refine L_at2 (pc := 490) (st := [.int q39.1]) ?_
  refine L_const (pc := 490) (pc' := 491) (v := 1) (show z_ptc 155 490 = some (491, 1) by decide +kernel) ?_
  obtain ⟨g42, h⟩ := z_ig h
  refine L_icmne (pc := 491) (t := 623) (show z_pt 155 491 = some (10, .if_icmp .ne 132, []) by decide +kernel) (by decide) (fun c41 => ?_) (fun c41 => ?_)
  · exact absurd g42 c41
  refine L_pure (pc := 494) (pc' := 496) (st' := [.ref 482]) (show z_pt 155 494 = some (10, .aload 8, []) by decide +kernel) rfl (fun _ _ _ => rfl) ?_
  refine L_const (pc := 496) (pc' := 497) (v := 2) (show z_ptc 155 496 = some (497, 2) by decide +kernel) ?_
  obtain ⟨q43, e44, h⟩ := z_bs h
  refine L_cz (E1 := 0) (E2 := E + 96) (S2 := S + 576) (pc := 497) (as0 := [.ref 0, .int 2]) (rr := []) (m1 := q43.2) (show z_pt 155 497 = some (10, .invokevirtual 231, [0, 86, 1, 3065, 3066, 3067, 1001, 3068]) by decide +kernel) rfl (show z_r3 0 86 = some (9, 2, true) by decide +kernel) rfl rfl rfl (Or.inr ⟨rfl, _, rfl⟩) (Ro_of0 (pG_trainSize_run  (z_iXM_eq e44))) (by omega) rfl (by omega) (by omega) ?_
  refine L_at2 (pc := 500) (st := [.int q43.1]) ?_
  refine L_const (pc := 500) (pc' := 501) (v := 3) (show z_ptc 155 500 = some (501, 3) by decide +kernel) ?_
  obtain ⟨g46, h⟩ := z_ig h
  refine L_icmne (pc := 501) (t := 623) (show z_pt 155 501 = some (10, .if_icmp .ne 122, []) by decide +kernel) (by decide) (fun c45 => ?_) (fun c45 => ?_)
  · exact absurd g46 c45
  refine L_pure (pc := 504) (pc' := 506) (st' := [.ref 482]) (show z_pt 155 504 = some (10, .aload 8, []) by decide +kernel) rfl (fun _ _ _ => rfl) ?_
  refine L_const (pc := 506) (pc' := 507) (v := 0) (show z_ptc 155 506 = some (507, 0) by decide +kernel) ?_
  refine L_const (pc := 507) (pc' := 508) (v := 1) (show z_ptc 155 507 = some (508, 1) by decide +kernel) ?_
  obtain ⟨q47, e48, h⟩ := z_bs h
  refine L_cz (E1 := 0) (E2 := E + 96) (S2 := S + 576) (pc := 508) (as0 := [.ref 0, .int 0, .int 1]) (rr := []) (m1 := q47.2) (show z_pt 155 508 = some (10, .invokevirtual 80, [0, 90, 2, 3106, 3107, 3108, 1001, 3109]) by decide +kernel) rfl (show z_r3 0 90 = some (9, 3, true) by decide +kernel) rfl rfl rfl (Or.inr ⟨rfl, _, rfl⟩) (Ro_of0 (pG_ratioNumerator_run  (z_iXM_eq e48))) (by omega) rfl (by omega) (by omega) ?_
  refine L_at2 (pc := 511) (st := [.int q47.1]) ?_
  refine L_const (pc := 511) (pc' := 513) (v := (-2)) (show z_ptc 155 511 = some (513, (-2)) by decide +kernel) ?_
  obtain ⟨g50, h⟩ := z_ig h
  refine L_icmne (pc := 513) (t := 623) (show z_pt 155 513 = some (10, .if_icmp .ne 110, []) by decide +kernel) (by decide) (fun c49 => ?_) (fun c49 => ?_)
  · exact absurd g50 c49
  refine L_pure (pc := 516) (pc' := 518) (st' := [.ref 482]) (show z_pt 155 516 = some (10, .aload 8, []) by decide +kernel) rfl (fun _ _ _ => rfl) ?_
  refine L_const (pc := 518) (pc' := 519) (v := 0) (show z_ptc 155 518 = some (519, 0) by decide +kernel) ?_
  refine L_const (pc := 519) (pc' := 520) (v := 1) (show z_ptc 155 519 = some (520, 1) by decide +kernel) ?_
  obtain ⟨q51, e52, h⟩ := z_bs h
  refine L_cz (E1 := 0) (E2 := E + 96) (S2 := S + 576) (pc := 520) (as0 := [.ref 0, .int 0, .int 1]) (rr := []) (m1 := q51.2) (show z_pt 155 520 = some (10, .invokevirtual 86, [0, 91, 2, 3130, 3131, 3132, 1001, 3133]) by decide +kernel) rfl (show z_r3 0 91 = some (9, 3, true) by decide +kernel) rfl rfl rfl (Or.inr ⟨rfl, _, rfl⟩) (Ro_of0 (pG_ratioDenominator_run  (z_iXM_eq e52))) (by omega) rfl (by omega) (by omega) ?_
  refine L_at2 (pc := 523) (st := [.int q51.1]) ?_
  refine L_const (pc := 523) (pc' := 524) (v := 1) (show z_ptc 155 523 = some (524, 1) by decide +kernel) ?_
  obtain ⟨g54, h⟩ := z_ig h
  refine L_icmne (pc := 524) (t := 623) (show z_pt 155 524 = some (10, .if_icmp .ne 99, []) by decide +kernel) (by decide) (fun c53 => ?_) (fun c53 => ?_)
  · exact absurd g54 c53
  refine L_pure (pc := 527) (pc' := 529) (st' := [.ref 482]) (show z_pt 155 527 = some (10, .aload 8, []) by decide +kernel) rfl (fun _ _ _ => rfl) ?_
  refine L_const (pc := 529) (pc' := 530) (v := 0) (show z_ptc 155 529 = some (530, 0) by decide +kernel) ?_
  refine L_const (pc := 530) (pc' := 531) (v := 2) (show z_ptc 155 530 = some (531, 2) by decide +kernel) ?_
  obtain ⟨q55, e56, h⟩ := z_bs h
  refine L_cz (E1 := 0) (E2 := E + 96) (S2 := S + 576) (pc := 531) (as0 := [.ref 0, .int 0, .int 2]) (rr := []) (m1 := q55.2) (show z_pt 155 531 = some (10, .invokevirtual 80, [0, 90, 2, 3106, 3107, 3108, 1001, 3109]) by decide +kernel) rfl (show z_r3 0 90 = some (9, 3, true) by decide +kernel) rfl rfl rfl (Or.inr ⟨rfl, _, rfl⟩) (Ro_of0 (pG_ratioNumerator_run  (z_iXM_eq e56))) (by omega) rfl (by omega) (by omega) ?_
  refine L_at2 (pc := 534) (st := [.int q55.1]) ?_
  refine L_const (pc := 534) (pc' := 535) (v := 4) (show z_ptc 155 534 = some (535, 4) by decide +kernel) ?_
  obtain ⟨g58, h⟩ := z_ig h
  refine L_icmne (pc := 535) (t := 623) (show z_pt 155 535 = some (10, .if_icmp .ne 88, []) by decide +kernel) (by decide) (fun c57 => ?_) (fun c57 => ?_)
  · exact absurd g58 c57
  refine L_pure (pc := 538) (pc' := 540) (st' := [.ref 482]) (show z_pt 155 538 = some (10, .aload 8, []) by decide +kernel) rfl (fun _ _ _ => rfl) ?_
  refine L_const (pc := 540) (pc' := 541) (v := 0) (show z_ptc 155 540 = some (541, 0) by decide +kernel) ?_
  refine L_const (pc := 541) (pc' := 542) (v := 2) (show z_ptc 155 541 = some (542, 2) by decide +kernel) ?_
  obtain ⟨q59, e60, h⟩ := z_bs h
  refine L_cz (E1 := 0) (E2 := E + 96) (S2 := S + 576) (pc := 542) (as0 := [.ref 0, .int 0, .int 2]) (rr := []) (m1 := q59.2) (show z_pt 155 542 = some (10, .invokevirtual 86, [0, 91, 2, 3130, 3131, 3132, 1001, 3133]) by decide +kernel) rfl (show z_r3 0 91 = some (9, 3, true) by decide +kernel) rfl rfl rfl (Or.inr ⟨rfl, _, rfl⟩) (Ro_of0 (pG_ratioDenominator_run  (z_iXM_eq e60))) (by omega) rfl (by omega) (by omega) ?_
  refine L_at2 (pc := 545) (st := [.int q59.1]) ?_
  refine L_const (pc := 545) (pc' := 546) (v := 3) (show z_ptc 155 545 = some (546, 3) by decide +kernel) ?_
  obtain ⟨g62, h⟩ := z_ig h
  refine L_icmne (pc := 546) (t := 623) (show z_pt 155 546 = some (10, .if_icmp .ne 77, []) by decide +kernel) (by decide) (fun c61 => ?_) (fun c61 => ?_)
  · exact absurd g62 c61
  refine L_pure (pc := 549) (pc' := 551) (st' := [.ref 482]) (show z_pt 155 549 = some (10, .aload 8, []) by decide +kernel) rfl (fun _ _ _ => rfl) ?_
  refine L_const (pc := 551) (pc' := 552) (v := 0) (show z_ptc 155 551 = some (552, 0) by decide +kernel) ?_
  refine L_const (pc := 552) (pc' := 553) (v := 2) (show z_ptc 155 552 = some (553, 2) by decide +kernel) ?_
  obtain ⟨q63, e64, h⟩ := z_bs h
  refine L_cz (E1 := 0) (E2 := E + 96) (S2 := S + 576) (pc := 553) (as0 := [.ref 0, .int 0, .int 2]) (rr := []) (m1 := q63.2) (show z_pt 155 553 = some (10, .invokevirtual 83, [0, 92, 2, 3138, 3139, 3140, 1001, 3141]) by decide +kernel) rfl (show z_r3 0 92 = some (9, 3, true) by decide +kernel) rfl rfl rfl (Or.inr ⟨rfl, _, rfl⟩) (Ro_of0 (pG_ratioNumeratorByChain_run  (z_iXM_eq e64))) (by omega) rfl (by omega) (by omega) ?_
  refine L_at2 (pc := 556) (st := [.int q63.1]) ?_
  refine L_const (pc := 556) (pc' := 557) (v := 4) (show z_ptc 155 556 = some (557, 4) by decide +kernel) ?_
  obtain ⟨g66, h⟩ := z_ig h
  refine L_icmne (pc := 557) (t := 623) (show z_pt 155 557 = some (10, .if_icmp .ne 66, []) by decide +kernel) (by decide) (fun c65 => ?_) (fun c65 => ?_)
  · exact absurd g66 c65
  refine L_pure (pc := 560) (pc' := 562) (st' := [.ref 482]) (show z_pt 155 560 = some (10, .aload 8, []) by decide +kernel) rfl (fun _ _ _ => rfl) ?_
  refine L_const (pc := 562) (pc' := 563) (v := 1) (show z_ptc 155 562 = some (563, 1) by decide +kernel) ?_
  refine L_const (pc := 563) (pc' := 564) (v := 0) (show z_ptc 155 563 = some (564, 0) by decide +kernel) ?_
  refine L_const (pc := 564) (pc' := 565) (v := 2) (show z_ptc 155 564 = some (565, 2) by decide +kernel) ?_
  refine L_const (pc := 565) (pc' := 566) (v := 0) (show z_ptc 155 565 = some (566, 0) by decide +kernel) ?_
  obtain ⟨q67, e68, h⟩ := z_bs h
  refine L_cz (E1 := 1) (E2 := E + 95) (S2 := S + 570) (pc := 566) (as0 := [.ref 0, .int 1, .int 0, .int 2, .int 0]) (rr := []) (m1 := q67.2) (show z_pt 155 566 = some (10, .invokestatic 30, [5, 153, 5, 5112, 5113, 0, 1000, 5114]) by decide +kernel) rfl (show z_r3 5 153 = some (11, 6, true) by decide +kernel) rfl rfl rfl (Or.inl (by decide)) (pL_act_run  e68) (by omega) rfl (by omega) (by omega) ?_
  refine L_at2 (pc := 569) (st := [.int q67.1]) ?_
  refine L_const (pc := 569) (pc' := 572) (v := (-5003)) (show z_ptc 155 569 = some (572, (-5003)) by decide +kernel) ?_
  obtain ⟨g70, h⟩ := z_ig h
  refine L_icmne (pc := 572) (t := 623) (show z_pt 155 572 = some (10, .if_icmp .ne 51, []) by decide +kernel) (by decide) (fun c69 => ?_) (fun c69 => ?_)
  · exact absurd g70 c69
  refine L_pure (pc := 575) (pc' := 577) (st' := [.ref 482]) (show z_pt 155 575 = some (10, .aload 8, []) by decide +kernel) rfl (fun _ _ _ => rfl) ?_
  refine L_const (pc := 577) (pc' := 578) (v := 1) (show z_ptc 155 577 = some (578, 1) by decide +kernel) ?_
  refine L_const (pc := 578) (pc' := 579) (v := 1) (show z_ptc 155 578 = some (579, 1) by decide +kernel) ?_
  refine L_const (pc := 579) (pc' := 580) (v := 1) (show z_ptc 155 579 = some (580, 1) by decide +kernel) ?_
  refine L_const (pc := 580) (pc' := 582) (v := 9) (show z_ptc 155 580 = some (582, 9) by decide +kernel) ?_
  obtain ⟨q71, e72, h⟩ := z_bs h
  refine L_cz (E1 := 1) (E2 := E + 94) (S2 := S + 564) (pc := 582) (as0 := [.ref 0, .int 1, .int 1, .int 1, .int 9]) (rr := []) (m1 := q71.2) (show z_pt 155 582 = some (10, .invokestatic 30, [5, 153, 5, 5112, 5113, 0, 1000, 5114]) by decide +kernel) rfl (show z_r3 5 153 = some (11, 6, true) by decide +kernel) rfl rfl rfl (Or.inl (by decide)) (pL_act_run  e72) (by omega) rfl (by omega) (by omega) ?_
  refine L_at2 (pc := 585) (st := [.int q71.1]) ?_
  refine L_const (pc := 585) (pc' := 588) (v := (-5002)) (show z_ptc 155 585 = some (588, (-5002)) by decide +kernel) ?_
  obtain ⟨g74, h⟩ := z_ig h
  refine L_icmne (pc := 588) (t := 623) (show z_pt 155 588 = some (10, .if_icmp .ne 35, []) by decide +kernel) (by decide) (fun c73 => ?_) (fun c73 => ?_)
  · exact absurd g74 c73
  refine L_pure (pc := 591) (pc' := 593) (st' := [.ref 482]) (show z_pt 155 591 = some (10, .aload 8, []) by decide +kernel) rfl (fun _ _ _ => rfl) ?_
  refine L_const (pc := 593) (pc' := 594) (v := 0) (show z_ptc 155 593 = some (594, 0) by decide +kernel) ?_
  refine L_const (pc := 594) (pc' := 595) (v := 1) (show z_ptc 155 594 = some (595, 1) by decide +kernel) ?_
  obtain ⟨q75, e76, h⟩ := z_bs h
  refine L_cz (E1 := 0) (E2 := E + 94) (S2 := S + 564) (pc := 595) (as0 := [.ref 0, .int 0, .int 1]) (rr := []) (m1 := q75.2) (show z_pt 155 595 = some (10, .invokevirtual 74, [0, 93, 2, 3146, 3147, 3148, 1001, 3149]) by decide +kernel) rfl (show z_r3 0 93 = some (9, 3, true) by decide +kernel) rfl rfl rfl (Or.inr ⟨rfl, _, rfl⟩) (Ro_of0 (pG_freePlay_run  (z_iXM_eq e76))) (by omega) rfl (by omega) (by omega) ?_
  refine L_at2 (pc := 598) (st := [.int q75.1]) ?_
  obtain ⟨g78, h⟩ := z_ig h
  refine L_ifne (pc := 598) (t := 623) (show z_pt 155 598 = some (10, .ifCond .ne 25, []) by decide +kernel) (by decide) (fun c77 => ?_) (fun c77 => ?_)
  · exact absurd g78 c77
  refine L_pure (pc := 601) (pc' := 603) (st' := [.ref 482]) (show z_pt 155 601 = some (10, .aload 8, []) by decide +kernel) rfl (fun _ _ _ => rfl) ?_
  refine L_const (pc := 603) (pc' := 604) (v := 0) (show z_ptc 155 603 = some (604, 0) by decide +kernel) ?_
  refine L_const (pc := 604) (pc' := 605) (v := 2) (show z_ptc 155 604 = some (605, 2) by decide +kernel) ?_
  obtain ⟨q79, e80, h⟩ := z_bs h
  refine L_cz (E1 := 0) (E2 := E + 94) (S2 := S + 564) (pc := 605) (as0 := [.ref 0, .int 0, .int 2]) (rr := []) (m1 := q79.2) (show z_pt 155 605 = some (10, .invokevirtual 74, [0, 93, 2, 3146, 3147, 3148, 1001, 3149]) by decide +kernel) rfl (show z_r3 0 93 = some (9, 3, true) by decide +kernel) rfl rfl rfl (Or.inr ⟨rfl, _, rfl⟩) (Ro_of0 (pG_freePlay_run  (z_iXM_eq e80))) (by omega) rfl (by omega) (by omega) ?_
  refine L_at2 (pc := 608) (st := [.int q79.1]) ?_
  refine L_const (pc := 608) (pc' := 609) (v := 2) (show z_ptc 155 608 = some (609, 2) by decide +kernel) ?_
  obtain ⟨g82, h⟩ := z_ig h
  refine L_icmne (pc := 609) (t := 623) (show z_pt 155 609 = some (10, .if_icmp .ne 14, []) by decide +kernel) (by decide) (fun c81 => ?_) (fun c81 => ?_)
  · exact absurd g82 c81
  refine L_pure (pc := 612) (pc' := 614) (st' := [.ref 482]) (show z_pt 155 612 = some (10, .aload 8, []) by decide +kernel) rfl (fun _ _ _ => rfl) ?_
  refine L_const (pc := 614) (pc' := 615) (v := 0) (show z_ptc 155 614 = some (615, 0) by decide +kernel) ?_
  refine L_const (pc := 615) (pc' := 616) (v := 2) (show z_ptc 155 615 = some (616, 2) by decide +kernel) ?_
  obtain ⟨q83, e84, h⟩ := z_bs h
  refine L_cz (E1 := 0) (E2 := E + 94) (S2 := S + 564) (pc := 616) (as0 := [.ref 0, .int 0, .int 2]) (rr := []) (m1 := q83.2) (show z_pt 155 616 = some (10, .invokevirtual 77, [0, 94, 2, 3155, 3156, 3157, 1001, 3158]) by decide +kernel) rfl (show z_r3 0 94 = some (9, 3, true) by decide +kernel) rfl rfl rfl (Or.inr ⟨rfl, _, rfl⟩) (Ro_of0 (pG_freePlayByTurning_run  (z_iXM_eq e84))) (by omega) rfl (by omega) (by omega) ?_
  refine L_at2 (pc := 619) (st := [.int q83.1]) ?_
  refine L_const (pc := 619) (pc' := 620) (v := 2) (show z_ptc 155 619 = some (620, 2) by decide +kernel) ?_
  obtain ⟨g86, h⟩ := z_ig h
  refine L_icmeq (pc := 620) (t := 625) (show z_pt 155 620 = some (10, .if_icmp .eq 5, []) by decide +kernel) (by decide) (fun c85 => ?_) (fun c85 => ?_)
  rotate_left
  · exact absurd g86 c85
  refine L_pure (pc := 625) (pc' := 627) (st' := [.ref 482]) (show z_pt 155 625 = some (10, .aload 8, []) by decide +kernel) rfl (fun _ _ _ => rfl) ?_
  refine L_const (pc := 627) (pc' := 628) (v := 0) (show z_ptc 155 627 = some (628, 0) by decide +kernel) ?_
  refine L_pure (pc := 628) (pc' := 630) (st' := [.int n, .int 0, .ref 482]) (show z_pt 155 628 = some (10, .iload 6, []) by decide +kernel) rfl (fun _ _ _ => rfl) ?_
  obtain ⟨q87, e88, h⟩ := z_bs h
  refine L_cz (E1 := 0) (E2 := E + 94) (S2 := S + 564) (pc := 630) (as0 := [.ref 0, .int 0, .int n]) (rr := []) (m1 := q87.2) (show z_pt 155 630 = some (10, .invokevirtual 49, [0, 78, 2, 3021, 3022, 3023, 1001, 3024]) by decide +kernel) rfl (show z_r3 0 78 = some (9, 3, true) by decide +kernel) rfl rfl rfl (Or.inr ⟨rfl, _, rfl⟩) (Ro_of0 (pG_turn_run  (z_iXM_eq e88))) (by omega) rfl (by omega) (by omega) ?_
  refine L_at2 (pc := 633) (st := [.int q87.1]) ?_
  refine L_const (pc := 633) (pc' := 634) (v := 3) (show z_ptc 155 633 = some (634, 3) by decide +kernel) ?_
  obtain ⟨g90, h⟩ := z_ig h
  refine L_icmne (pc := 634) (t := 823) (show z_pt 155 634 = some (10, .if_icmp .ne 189, []) by decide +kernel) (by decide) (fun c89 => ?_) (fun c89 => ?_)
  · exact absurd g90 c89
  refine L_pure (pc := 637) (pc' := 639) (st' := [.ref 482]) (show z_pt 155 637 = some (10, .aload 8, []) by decide +kernel) rfl (fun _ _ _ => rfl) ?_
  refine L_const (pc := 639) (pc' := 640) (v := 0) (show z_ptc 155 639 = some (640, 0) by decide +kernel) ?_
  obtain ⟨q91, e92, h⟩ := z_bs h
  refine L_cz (E1 := 0) (E2 := E + 94) (S2 := S + 564) (pc := 640) (as0 := [.ref 0, .int 0]) (rr := []) (m1 := q87.2) (show z_pt 155 640 = some (10, .invokevirtual 109, [0, 81, 1, 3049, 3050, 3051, 1001, 3052]) by decide +kernel) rfl (show z_r3 0 81 = some (9, 2, true) by decide +kernel) rfl rfl rfl (Or.inr ⟨rfl, _, rfl⟩) (Ro_of0 (pG_position_run  (z_iX_eq e92))) (by omega) rfl (by omega) (by omega) ?_
  refine L_at2 (pc := 643) (st := [.int q91]) ?_
  refine L_pure (pc := 643) (pc' := 645) (st' := [.int n, .int q91]) (show z_pt 155 643 = some (10, .iload 6, []) by decide +kernel) rfl (fun _ _ _ => rfl) ?_
  obtain ⟨g94, h⟩ := z_ig h
  refine L_icmne (pc := 645) (t := 823) (show z_pt 155 645 = some (10, .if_icmp .ne 178, []) by decide +kernel) (by decide) (fun c93 => ?_) (fun c93 => ?_)
  · exact absurd g94 c93
  refine L_pure (pc := 648) (pc' := 650) (st' := [.ref 482]) (show z_pt 155 648 = some (10, .aload 8, []) by decide +kernel) rfl (fun _ _ _ => rfl) ?_
  refine L_const (pc := 650) (pc' := 651) (v := 1) (show z_ptc 155 650 = some (651, 1) by decide +kernel) ?_
  obtain ⟨q95, e96, h⟩ := z_bs h
  refine L_cz (E1 := 0) (E2 := E + 94) (S2 := S + 564) (pc := 651) (as0 := [.ref 0, .int 1]) (rr := []) (m1 := q87.2) (show z_pt 155 651 = some (10, .invokevirtual 109, [0, 81, 1, 3049, 3050, 3051, 1001, 3052]) by decide +kernel) rfl (show z_r3 0 81 = some (9, 2, true) by decide +kernel) rfl rfl rfl (Or.inr ⟨rfl, _, rfl⟩) (Ro_of0 (pG_position_run  (z_iX_eq e96))) (by omega) rfl (by omega) (by omega) ?_
  refine L_at2 (pc := 654) (st := [.int q95]) ?_
  refine L_pure (pc := 654) (pc' := 656) (st' := [.int n, .int q95]) (show z_pt 155 654 = some (10, .iload 6, []) by decide +kernel) rfl (fun _ _ _ => rfl) ?_
  refine L_pure (pc := 656) (pc' := 657) (st' := [.int (-n), .int q95]) (show z_pt 155 656 = some (10, .ineg, []) by decide +kernel) rfl (fun _ _ _ => rfl) ?_
  obtain ⟨g98, h⟩ := z_ig h
  refine L_icmne (pc := 657) (t := 823) (show z_pt 155 657 = some (10, .if_icmp .ne 166, []) by decide +kernel) (by decide) (fun c97 => ?_) (fun c97 => ?_)
  · exact absurd g98 c97
  refine L_pure (pc := 660) (pc' := 662) (st' := [.ref 482]) (show z_pt 155 660 = some (10, .aload 8, []) by decide +kernel) rfl (fun _ _ _ => rfl) ?_
  refine L_const (pc := 662) (pc' := 663) (v := 2) (show z_ptc 155 662 = some (663, 2) by decide +kernel) ?_
  obtain ⟨q99, e100, h⟩ := z_bs h
  refine L_cz (E1 := 0) (E2 := E + 94) (S2 := S + 564) (pc := 663) (as0 := [.ref 0, .int 2]) (rr := []) (m1 := q87.2) (show z_pt 155 663 = some (10, .invokevirtual 109, [0, 81, 1, 3049, 3050, 3051, 1001, 3052]) by decide +kernel) rfl (show z_r3 0 81 = some (9, 2, true) by decide +kernel) rfl rfl rfl (Or.inr ⟨rfl, _, rfl⟩) (Ro_of0 (pG_position_run  (z_iX_eq e100))) (by omega) rfl (by omega) (by omega) ?_
  refine L_at2 (pc := 666) (st := [.int q99]) ?_
  refine L_pure (pc := 666) (pc' := 668) (st' := [.int n, .int q99]) (show z_pt 155 666 = some (10, .iload 6, []) by decide +kernel) rfl (fun _ _ _ => rfl) ?_
  refine L_const (pc := 668) (pc' := 669) (v := 2) (show z_ptc 155 668 = some (669, 2) by decide +kernel) ?_
  refine L_pure (pc := 669) (pc' := 670) (st' := [.int (n - 2), .int q99]) (show z_pt 155 669 = some (10, .isub, []) by decide +kernel) rfl (fun _ _ _ => rfl) ?_
  obtain ⟨g102, h⟩ := z_ig h
  refine L_icmne (pc := 670) (t := 823) (show z_pt 155 670 = some (10, .if_icmp .ne 153, []) by decide +kernel) (by decide) (fun c101 => ?_) (fun c101 => ?_)
  · exact absurd g102 c101
  refine L_pure (pc := 673) (pc' := 675) (st' := [.ref 482]) (show z_pt 155 673 = some (10, .aload 8, []) by decide +kernel) rfl (fun _ _ _ => rfl) ?_
  refine L_const (pc := 675) (pc' := 676) (v := 0) (show z_ptc 155 675 = some (676, 0) by decide +kernel) ?_
  refine L_const (pc := 676) (pc' := 677) (v := 1) (show z_ptc 155 676 = some (677, 1) by decide +kernel) ?_
  obtain ⟨q103, e104, h⟩ := z_bs h
  refine L_cz (E1 := 0) (E2 := E + 94) (S2 := S + 564) (pc := 677) (as0 := [.ref 0, .int 0, .int 1]) (rr := []) (m1 := q87.2) (show z_pt 155 677 = some (10, .invokevirtual 116, [0, 85, 2, 3057, 3058, 3059, 1001, 3060]) by decide +kernel) rfl (show z_r3 0 85 = some (9, 3, true) by decide +kernel) rfl rfl rfl (Or.inr ⟨rfl, _, rfl⟩) (Ro_of0 (pG_gap_run  (z_iX_eq e104))) (by omega) rfl (by omega) (by omega) ?_
  refine L_at2 (pc := 680) (st := [.int q103]) ?_
  obtain ⟨g106, h⟩ := z_ig h
  refine L_ifne (pc := 680) (t := 823) (show z_pt 155 680 = some (10, .ifCond .ne 143, []) by decide +kernel) (by decide) (fun c105 => ?_) (fun c105 => ?_)
  · exact absurd g106 c105
  refine L_pure (pc := 683) (pc' := 685) (st' := [.ref 482]) (show z_pt 155 683 = some (10, .aload 8, []) by decide +kernel) rfl (fun _ _ _ => rfl) ?_
  refine L_const (pc := 685) (pc' := 686) (v := 1) (show z_ptc 155 685 = some (686, 1) by decide +kernel) ?_
  refine L_const (pc := 686) (pc' := 687) (v := 2) (show z_ptc 155 686 = some (687, 2) by decide +kernel) ?_
  obtain ⟨q107, e108, h⟩ := z_bs h
  refine L_cz (E1 := 0) (E2 := E + 94) (S2 := S + 564) (pc := 687) (as0 := [.ref 0, .int 1, .int 2]) (rr := []) (m1 := q87.2) (show z_pt 155 687 = some (10, .invokevirtual 116, [0, 85, 2, 3057, 3058, 3059, 1001, 3060]) by decide +kernel) rfl (show z_r3 0 85 = some (9, 3, true) by decide +kernel) rfl rfl rfl (Or.inr ⟨rfl, _, rfl⟩) (Ro_of0 (pG_gap_run  (z_iX_eq e108))) (by omega) rfl (by omega) (by omega) ?_
  refine L_at2 (pc := 690) (st := [.int q107]) ?_
  refine L_const (pc := 690) (pc' := 691) (v := 2) (show z_ptc 155 690 = some (691, 2) by decide +kernel) ?_
  obtain ⟨g110, h⟩ := z_ig h
  refine L_icmne (pc := 691) (t := 823) (show z_pt 155 691 = some (10, .if_icmp .ne 132, []) by decide +kernel) (by decide) (fun c109 => ?_) (fun c109 => ?_)
  · exact absurd g110 c109
  refine L_pure (pc := 694) (pc' := 696) (st' := [.ref 482]) (show z_pt 155 694 = some (10, .aload 8, []) by decide +kernel) rfl (fun _ _ _ => rfl) ?_
  obtain ⟨q111, e112, h⟩ := z_bs h
  refine L_cz (E1 := 0) (E2 := E + 94) (S2 := S + 564) (pc := 696) (as0 := [.ref 0]) (rr := []) (m1 := q87.2) (show z_pt 155 696 = some (10, .invokevirtual 103, [0, 89, 0, 3102, 3103, 3104, 1001, 3105]) by decide +kernel) rfl (show z_r3 0 89 = some (9, 1, true) by decide +kernel) rfl rfl rfl (Or.inr ⟨rfl, _, rfl⟩) (Ro_of0 (pG_turnedTeeth_run  e112)) (by omega) rfl (by omega) (by omega) ?_
  refine L_at2 (pc := 699) (st := [.int q111]) ?_
  refine L_const (pc := 699) (pc' := 700) (v := 3) (show z_ptc 155 699 = some (700, 3) by decide +kernel) ?_
  refine L_pure (pc := 700) (pc' := 702) (st' := [.int n, .int 3, .int q111]) (show z_pt 155 700 = some (10, .iload 6, []) by decide +kernel) rfl (fun _ _ _ => rfl) ?_
  refine L_pure (pc := 702) (pc' := 703) (st' := [.int ((3 : Int32) * n), .int q111]) (show z_pt 155 702 = some (10, .imul, []) by decide +kernel) rfl (fun _ _ _ => rfl) ?_
  refine L_const (pc := 703) (pc' := 704) (v := 2) (show z_ptc 155 703 = some (704, 2) by decide +kernel) ?_
  refine L_pure (pc := 704) (pc' := 705) (st' := [.int (((3 : Int32) * n) - 2), .int q111]) (show z_pt 155 704 = some (10, .isub, []) by decide +kernel) rfl (fun _ _ _ => rfl) ?_
  obtain ⟨g114, h⟩ := z_ig h
  refine L_icmne (pc := 705) (t := 823) (show z_pt 155 705 = some (10, .if_icmp .ne 118, []) by decide +kernel) (by decide) (fun c113 => ?_) (fun c113 => ?_)
  · exact absurd g114 c113
  refine L_pure (pc := 708) (pc' := 710) (st' := [.ref 482]) (show z_pt 155 708 = some (10, .aload 8, []) by decide +kernel) rfl (fun _ _ _ => rfl) ?_
  refine L_const (pc := 710) (pc' := 711) (v := 0) (show z_ptc 155 710 = some (711, 0) by decide +kernel) ?_
  refine L_const (pc := 711) (pc' := 713) (v := (-2)) (show z_ptc 155 711 = some (713, (-2)) by decide +kernel) ?_
  obtain ⟨q115, e116, h⟩ := z_bs h
  refine L_cz (E1 := 0) (E2 := E + 94) (S2 := S + 564) (pc := 713) (as0 := [.ref 0, .int 0, .int (-2)]) (rr := []) (m1 := q115.2) (show z_pt 155 713 = some (10, .invokevirtual 49, [0, 78, 2, 3021, 3022, 3023, 1001, 3024]) by decide +kernel) rfl (show z_r3 0 78 = some (9, 3, true) by decide +kernel) rfl rfl rfl (Or.inr ⟨rfl, _, rfl⟩) (Ro_of0 (pG_turn_run  (z_iXM_eq e116))) (by omega) rfl (by omega) (by omega) ?_
  refine L_at2 (pc := 716) (st := [.int q115.1]) ?_
  refine L_const (pc := 716) (pc' := 717) (v := 1) (show z_ptc 155 716 = some (717, 1) by decide +kernel) ?_
  obtain ⟨g118, h⟩ := z_ig h
  refine L_icmne (pc := 717) (t := 823) (show z_pt 155 717 = some (10, .if_icmp .ne 106, []) by decide +kernel) (by decide) (fun c117 => ?_) (fun c117 => ?_)
  · exact absurd g118 c117
  refine L_pure (pc := 720) (pc' := 722) (st' := [.ref 482]) (show z_pt 155 720 = some (10, .aload 8, []) by decide +kernel) rfl (fun _ _ _ => rfl) ?_
  refine L_const (pc := 722) (pc' := 723) (v := 1) (show z_ptc 155 722 = some (723, 1) by decide +kernel) ?_
  refine L_const (pc := 723) (pc' := 724) (v := 0) (show z_ptc 155 723 = some (724, 0) by decide +kernel) ?_
  obtain ⟨q119, e120, h⟩ := z_bs h
  refine L_cz (E1 := 0) (E2 := E + 94) (S2 := S + 564) (pc := 724) (as0 := [.ref 0, .int 1, .int 0]) (rr := []) (m1 := q115.2) (show z_pt 155 724 = some (10, .invokevirtual 116, [0, 85, 2, 3057, 3058, 3059, 1001, 3060]) by decide +kernel) rfl (show z_r3 0 85 = some (9, 3, true) by decide +kernel) rfl rfl rfl (Or.inr ⟨rfl, _, rfl⟩) (Ro_of0 (pG_gap_run  (z_iX_eq e120))) (by omega) rfl (by omega) (by omega) ?_
  refine L_at2 (pc := 727) (st := [.int q119]) ?_
  refine L_const (pc := 727) (pc' := 728) (v := 2) (show z_ptc 155 727 = some (728, 2) by decide +kernel) ?_
  obtain ⟨g122, h⟩ := z_ig h
  refine L_icmne (pc := 728) (t := 823) (show z_pt 155 728 = some (10, .if_icmp .ne 95, []) by decide +kernel) (by decide) (fun c121 => ?_) (fun c121 => ?_)
  · exact absurd g122 c121
  refine L_pure (pc := 731) (pc' := 733) (st' := [.ref 482]) (show z_pt 155 731 = some (10, .aload 8, []) by decide +kernel) rfl (fun _ _ _ => rfl) ?_
  refine L_const (pc := 733) (pc' := 734) (v := 1) (show z_ptc 155 733 = some (734, 1) by decide +kernel) ?_
  obtain ⟨q123, e124, h⟩ := z_bs h
  refine L_cz (E1 := 0) (E2 := E + 94) (S2 := S + 564) (pc := 734) (as0 := [.ref 0, .int 1]) (rr := []) (m1 := q115.2) (show z_pt 155 734 = some (10, .invokevirtual 109, [0, 81, 1, 3049, 3050, 3051, 1001, 3052]) by decide +kernel) rfl (show z_r3 0 81 = some (9, 2, true) by decide +kernel) rfl rfl rfl (Or.inr ⟨rfl, _, rfl⟩) (Ro_of0 (pG_position_run  (z_iX_eq e124))) (by omega) rfl (by omega) (by omega) ?_
  refine L_at2 (pc := 737) (st := [.int q123]) ?_
  refine L_pure (pc := 737) (pc' := 739) (st' := [.int n, .int q123]) (show z_pt 155 737 = some (10, .iload 6, []) by decide +kernel) rfl (fun _ _ _ => rfl) ?_
  refine L_pure (pc := 739) (pc' := 740) (st' := [.int (-n), .int q123]) (show z_pt 155 739 = some (10, .ineg, []) by decide +kernel) rfl (fun _ _ _ => rfl) ?_
  obtain ⟨g126, h⟩ := z_ig h
  refine L_icmne (pc := 740) (t := 823) (show z_pt 155 740 = some (10, .if_icmp .ne 83, []) by decide +kernel) (by decide) (fun c125 => ?_) (fun c125 => ?_)
  · exact absurd g126 c125
  refine L_pure (pc := 743) (pc' := 745) (st' := [.ref 482]) (show z_pt 155 743 = some (10, .aload 8, []) by decide +kernel) rfl (fun _ _ _ => rfl) ?_
  refine L_const (pc := 745) (pc' := 746) (v := 0) (show z_ptc 155 745 = some (746, 0) by decide +kernel) ?_
  refine L_const (pc := 746) (pc' := 747) (v := 1) (show z_ptc 155 746 = some (747, 1) by decide +kernel) ?_
  obtain ⟨q127, e128, h⟩ := z_bs h
  refine L_cz (E1 := 0) (E2 := E + 94) (S2 := S + 564) (pc := 747) (as0 := [.ref 0, .int 0, .int 1]) (rr := []) (m1 := q127.2) (show z_pt 155 747 = some (10, .invokevirtual 74, [0, 93, 2, 3146, 3147, 3148, 1001, 3149]) by decide +kernel) rfl (show z_r3 0 93 = some (9, 3, true) by decide +kernel) rfl rfl rfl (Or.inr ⟨rfl, _, rfl⟩) (Ro_of0 (pG_freePlay_run  (z_iXM_eq e128))) (by omega) rfl (by omega) (by omega) ?_
  refine L_at2 (pc := 750) (st := [.int q127.1]) ?_
  refine L_const (pc := 750) (pc' := 751) (v := 2) (show z_ptc 155 750 = some (751, 2) by decide +kernel) ?_
  obtain ⟨g130, h⟩ := z_ig h
  refine L_icmne (pc := 751) (t := 823) (show z_pt 155 751 = some (10, .if_icmp .ne 72, []) by decide +kernel) (by decide) (fun c129 => ?_) (fun c129 => ?_)
  · exact absurd g130 c129
  refine L_pure (pc := 754) (pc' := 756) (st' := [.ref 482]) (show z_pt 155 754 = some (10, .aload 8, []) by decide +kernel) rfl (fun _ _ _ => rfl) ?_
  refine L_const (pc := 756) (pc' := 757) (v := 0) (show z_ptc 155 756 = some (757, 0) by decide +kernel) ?_
  refine L_const (pc := 757) (pc' := 758) (v := 2) (show z_ptc 155 757 = some (758, 2) by decide +kernel) ?_
  obtain ⟨q131, e132, h⟩ := z_bs h
  refine L_cz (E1 := 0) (E2 := E + 94) (S2 := S + 564) (pc := 758) (as0 := [.ref 0, .int 0, .int 2]) (rr := []) (m1 := q131.2) (show z_pt 155 758 = some (10, .invokevirtual 74, [0, 93, 2, 3146, 3147, 3148, 1001, 3149]) by decide +kernel) rfl (show z_r3 0 93 = some (9, 3, true) by decide +kernel) rfl rfl rfl (Or.inr ⟨rfl, _, rfl⟩) (Ro_of0 (pG_freePlay_run  (z_iXM_eq e132))) (by omega) rfl (by omega) (by omega) ?_
  refine L_at2 (pc := 761) (st := [.int q131.1]) ?_
  refine L_const (pc := 761) (pc' := 762) (v := 2) (show z_ptc 155 761 = some (762, 2) by decide +kernel) ?_
  obtain ⟨g134, h⟩ := z_ig h
  refine L_icmne (pc := 762) (t := 823) (show z_pt 155 762 = some (10, .if_icmp .ne 61, []) by decide +kernel) (by decide) (fun c133 => ?_) (fun c133 => ?_)
  · exact absurd g134 c133
  refine L_pure (pc := 765) (pc' := 767) (st' := [.ref 482]) (show z_pt 155 765 = some (10, .aload 8, []) by decide +kernel) rfl (fun _ _ _ => rfl) ?_
  refine L_const (pc := 767) (pc' := 768) (v := 0) (show z_ptc 155 767 = some (768, 0) by decide +kernel) ?_
  refine L_const (pc := 768) (pc' := 769) (v := 2) (show z_ptc 155 768 = some (769, 2) by decide +kernel) ?_
  obtain ⟨q135, e136, h⟩ := z_bs h
  refine L_cz (E1 := 0) (E2 := E + 94) (S2 := S + 564) (pc := 769) (as0 := [.ref 0, .int 0, .int 2]) (rr := []) (m1 := q135.2) (show z_pt 155 769 = some (10, .invokevirtual 77, [0, 94, 2, 3155, 3156, 3157, 1001, 3158]) by decide +kernel) rfl (show z_r3 0 94 = some (9, 3, true) by decide +kernel) rfl rfl rfl (Or.inr ⟨rfl, _, rfl⟩) (Ro_of0 (pG_freePlayByTurning_run  (z_iXM_eq e136))) (by omega) rfl (by omega) (by omega) ?_
  refine L_at2 (pc := 772) (st := [.int q135.1]) ?_
  refine L_const (pc := 772) (pc' := 773) (v := 2) (show z_ptc 155 772 = some (773, 2) by decide +kernel) ?_
  obtain ⟨g138, h⟩ := z_ig h
  refine L_icmne (pc := 773) (t := 823) (show z_pt 155 773 = some (10, .if_icmp .ne 50, []) by decide +kernel) (by decide) (fun c137 => ?_) (fun c137 => ?_)
  · exact absurd g138 c137
  refine L_pure (pc := 776) (pc' := 778) (st' := [.ref 482]) (show z_pt 155 776 = some (10, .aload 8, []) by decide +kernel) rfl (fun _ _ _ => rfl) ?_
  refine L_const (pc := 778) (pc' := 779) (v := 2) (show z_ptc 155 778 = some (779, 2) by decide +kernel) ?_
  refine L_const (pc := 779) (pc' := 780) (v := 0) (show z_ptc 155 779 = some (780, 0) by decide +kernel) ?_
  obtain ⟨q139, e140, h⟩ := z_bs h
  refine L_cz (E1 := 0) (E2 := E + 94) (S2 := S + 564) (pc := 780) (as0 := [.ref 0, .int 2, .int 0]) (rr := []) (m1 := q139.2) (show z_pt 155 780 = some (10, .invokevirtual 74, [0, 93, 2, 3146, 3147, 3148, 1001, 3149]) by decide +kernel) rfl (show z_r3 0 93 = some (9, 3, true) by decide +kernel) rfl rfl rfl (Or.inr ⟨rfl, _, rfl⟩) (Ro_of0 (pG_freePlay_run  (z_iXM_eq e140))) (by omega) rfl (by omega) (by omega) ?_
  refine L_at2 (pc := 783) (st := [.int q139.1]) ?_
  refine L_const (pc := 783) (pc' := 784) (v := 3) (show z_ptc 155 783 = some (784, 3) by decide +kernel) ?_
  obtain ⟨g142, h⟩ := z_ig h
  refine L_icmne (pc := 784) (t := 823) (show z_pt 155 784 = some (10, .if_icmp .ne 39, []) by decide +kernel) (by decide) (fun c141 => ?_) (fun c141 => ?_)
  · exact absurd g142 c141
  refine L_pure (pc := 787) (pc' := 789) (st' := [.ref 482]) (show z_pt 155 787 = some (10, .aload 8, []) by decide +kernel) rfl (fun _ _ _ => rfl) ?_
  refine L_const (pc := 789) (pc' := 790) (v := 0) (show z_ptc 155 789 = some (790, 0) by decide +kernel) ?_
  refine L_const (pc := 790) (pc' := 792) (v := (-4)) (show z_ptc 155 790 = some (792, (-4)) by decide +kernel) ?_
  obtain ⟨q143, e144, h⟩ := z_bs h
  refine L_cz (E1 := 0) (E2 := E + 94) (S2 := S + 564) (pc := 792) (as0 := [.ref 0, .int 0, .int (-4)]) (rr := []) (m1 := q143.2) (show z_pt 155 792 = some (10, .invokevirtual 49, [0, 78, 2, 3021, 3022, 3023, 1001, 3024]) by decide +kernel) rfl (show z_r3 0 78 = some (9, 3, true) by decide +kernel) rfl rfl rfl (Or.inr ⟨rfl, _, rfl⟩) (Ro_of0 (pG_turn_run  (z_iXM_eq e144))) (by omega) rfl (by omega) (by omega) ?_
  refine L_at2 (pc := 795) (st := [.int q143.1]) ?_
  refine L_const (pc := 795) (pc' := 796) (v := 3) (show z_ptc 155 795 = some (796, 3) by decide +kernel) ?_
  obtain ⟨g146, h⟩ := z_ig h
  refine L_icmne (pc := 796) (t := 823) (show z_pt 155 796 = some (10, .if_icmp .ne 27, []) by decide +kernel) (by decide) (fun c145 => ?_) (fun c145 => ?_)
  · exact absurd g146 c145
  refine L_pure (pc := 799) (pc' := 801) (st' := [.ref 482]) (show z_pt 155 799 = some (10, .aload 8, []) by decide +kernel) rfl (fun _ _ _ => rfl) ?_
  refine L_const (pc := 801) (pc' := 802) (v := 0) (show z_ptc 155 801 = some (802, 0) by decide +kernel) ?_
  refine L_const (pc := 802) (pc' := 803) (v := 1) (show z_ptc 155 802 = some (803, 1) by decide +kernel) ?_
  obtain ⟨q147, e148, h⟩ := z_bs h
  refine L_cz (E1 := 0) (E2 := E + 94) (S2 := S + 564) (pc := 803) (as0 := [.ref 0, .int 0, .int 1]) (rr := []) (m1 := q143.2) (show z_pt 155 803 = some (10, .invokevirtual 116, [0, 85, 2, 3057, 3058, 3059, 1001, 3060]) by decide +kernel) rfl (show z_r3 0 85 = some (9, 3, true) by decide +kernel) rfl rfl rfl (Or.inr ⟨rfl, _, rfl⟩) (Ro_of0 (pG_gap_run  (z_iX_eq e148))) (by omega) rfl (by omega) (by omega) ?_
  refine L_at2 (pc := 806) (st := [.int q147]) ?_
  refine L_const (pc := 806) (pc' := 807) (v := 3) (show z_ptc 155 806 = some (807, 3) by decide +kernel) ?_
  obtain ⟨g150, h⟩ := z_ig h
  refine L_icmne (pc := 807) (t := 823) (show z_pt 155 807 = some (10, .if_icmp .ne 16, []) by decide +kernel) (by decide) (fun c149 => ?_) (fun c149 => ?_)
  · exact absurd g150 c149
  refine L_pure (pc := 810) (pc' := 812) (st' := [.ref 482]) (show z_pt 155 810 = some (10, .aload 8, []) by decide +kernel) rfl (fun _ _ _ => rfl) ?_
  refine L_const (pc := 812) (pc' := 813) (v := 1) (show z_ptc 155 812 = some (813, 1) by decide +kernel) ?_
  obtain ⟨q151, e152, h⟩ := z_bs h
  refine L_cz (E1 := 0) (E2 := E + 94) (S2 := S + 564) (pc := 813) (as0 := [.ref 0, .int 1]) (rr := []) (m1 := q143.2) (show z_pt 155 813 = some (10, .invokevirtual 109, [0, 81, 1, 3049, 3050, 3051, 1001, 3052]) by decide +kernel) rfl (show z_r3 0 81 = some (9, 2, true) by decide +kernel) rfl rfl rfl (Or.inr ⟨rfl, _, rfl⟩) (Ro_of0 (pG_position_run  (z_iX_eq e152))) (by omega) rfl (by omega) (by omega) ?_
  refine L_at2 (pc := 816) (st := [.int q151]) ?_
  refine L_const (pc := 816) (pc' := 817) (v := 3) (show z_ptc 155 816 = some (817, 3) by decide +kernel) ?_
  refine L_pure (pc := 817) (pc' := 819) (st' := [.int n, .int 3, .int q151]) (show z_pt 155 817 = some (10, .iload 6, []) by decide +kernel) rfl (fun _ _ _ => rfl) ?_
  refine L_pure (pc := 819) (pc' := 820) (st' := [.int ((3 : Int32) - n), .int q151]) (show z_pt 155 819 = some (10, .isub, []) by decide +kernel) rfl (fun _ _ _ => rfl) ?_
  obtain ⟨g154, h⟩ := z_ig h
  refine L_icmeq (pc := 820) (t := 825) (show z_pt 155 820 = some (10, .if_icmp .eq 5, []) by decide +kernel) (by decide) (fun c153 => ?_) (fun c153 => ?_)
  rotate_left
  · exact absurd g154 c153
  refine L_pure (pc := 825) (pc' := 827) (st' := [.ref 482]) (show z_pt 155 825 = some (10, .aload 8, []) by decide +kernel) rfl (fun _ _ _ => rfl) ?_
  refine L_const (pc := 827) (pc' := 828) (v := 1) (show z_ptc 155 827 = some (828, 1) by decide +kernel) ?_
  refine L_const (pc := 828) (pc' := 829) (v := 2) (show z_ptc 155 828 = some (829, 2) by decide +kernel) ?_
  obtain ⟨q155, e156, h⟩ := z_bs h
  refine L_cz (E1 := 0) (E2 := E + 94) (S2 := S + 564) (pc := 829) (as0 := [.ref 0, .int 1, .int 2]) (rr := []) (m1 := q143.2) (show z_pt 155 829 = some (10, .invokevirtual 116, [0, 85, 2, 3057, 3058, 3059, 1001, 3060]) by decide +kernel) rfl (show z_r3 0 85 = some (9, 3, true) by decide +kernel) rfl rfl rfl (Or.inr ⟨rfl, _, rfl⟩) (Ro_of0 (pG_gap_run  (z_iX_eq e156))) (by omega) rfl (by omega) (by omega) ?_
  refine L_at2 (pc := 832) (st := [.int q155]) ?_
  obtain ⟨g158, h⟩ := z_ig h
  refine L_ifne (pc := 832) (t := 899) (show z_pt 155 832 = some (10, .ifCond .ne 67, []) by decide +kernel) (by decide) (fun c157 => ?_) (fun c157 => ?_)
  · exact absurd g158 c157
  refine L_pure (pc := 835) (pc' := 837) (st' := [.ref 482]) (show z_pt 155 835 = some (10, .aload 8, []) by decide +kernel) rfl (fun _ _ _ => rfl) ?_
  refine L_const (pc := 837) (pc' := 838) (v := 2) (show z_ptc 155 837 = some (838, 2) by decide +kernel) ?_
  obtain ⟨q159, e160, h⟩ := z_bs h
  refine L_cz (E1 := 0) (E2 := E + 94) (S2 := S + 564) (pc := 838) (as0 := [.ref 0, .int 2]) (rr := []) (m1 := q143.2) (show z_pt 155 838 = some (10, .invokevirtual 109, [0, 81, 1, 3049, 3050, 3051, 1001, 3052]) by decide +kernel) rfl (show z_r3 0 81 = some (9, 2, true) by decide +kernel) rfl rfl rfl (Or.inr ⟨rfl, _, rfl⟩) (Ro_of0 (pG_position_run  (z_iX_eq e160))) (by omega) rfl (by omega) (by omega) ?_
  refine L_at2 (pc := 841) (st := [.int q159]) ?_
  refine L_pure (pc := 841) (pc' := 843) (st' := [.int n, .int q159]) (show z_pt 155 841 = some (10, .iload 6, []) by decide +kernel) rfl (fun _ _ _ => rfl) ?_
  refine L_const (pc := 843) (pc' := 844) (v := 3) (show z_ptc 155 843 = some (844, 3) by decide +kernel) ?_
  refine L_pure (pc := 844) (pc' := 845) (st' := [.int (n - 3), .int q159]) (show z_pt 155 844 = some (10, .isub, []) by decide +kernel) rfl (fun _ _ _ => rfl) ?_
  obtain ⟨g162, h⟩ := z_ig h
  refine L_icmne (pc := 845) (t := 899) (show z_pt 155 845 = some (10, .if_icmp .ne 54, []) by decide +kernel) (by decide) (fun c161 => ?_) (fun c161 => ?_)
  · exact absurd g162 c161
  refine L_pure (pc := 848) (pc' := 850) (st' := [.ref 482]) (show z_pt 155 848 = some (10, .aload 8, []) by decide +kernel) rfl (fun _ _ _ => rfl) ?_
  refine L_const (pc := 850) (pc' := 851) (v := 0) (show z_ptc 155 850 = some (851, 0) by decide +kernel) ?_
  refine L_const (pc := 851) (pc' := 852) (v := 1) (show z_ptc 155 851 = some (852, 1) by decide +kernel) ?_
  obtain ⟨q163, e164, h⟩ := z_bs h
  refine L_cz (E1 := 0) (E2 := E + 94) (S2 := S + 564) (pc := 852) (as0 := [.ref 0, .int 0, .int 1]) (rr := []) (m1 := q163.2) (show z_pt 155 852 = some (10, .invokevirtual 45, [0, 77, 2, 2237, 2238, 2239, 1001, 3000]) by decide +kernel) rfl (show z_r3 0 77 = some (9, 3, true) by decide +kernel) rfl rfl rfl (Or.inr ⟨rfl, _, rfl⟩) (Ro_of0 (pG_part_run  (z_iXM_eq e164))) (by omega) rfl (by omega) (by omega) ?_
  refine L_at2 (pc := 855) (st := [.int q163.1]) ?_
  refine L_const (pc := 855) (pc' := 856) (v := 3) (show z_ptc 155 855 = some (856, 3) by decide +kernel) ?_
  obtain ⟨g166, h⟩ := z_ig h
  refine L_icmne (pc := 856) (t := 899) (show z_pt 155 856 = some (10, .if_icmp .ne 43, []) by decide +kernel) (by decide) (fun c165 => ?_) (fun c165 => ?_)
  · exact absurd g166 c165
  refine L_pure (pc := 859) (pc' := 861) (st' := [.ref 482]) (show z_pt 155 859 = some (10, .aload 8, []) by decide +kernel) rfl (fun _ _ _ => rfl) ?_
  obtain ⟨q167, e168, h⟩ := z_bs h
  refine L_cz (E1 := 0) (E2 := E + 94) (S2 := S + 564) (pc := 861) (as0 := [.ref 0]) (rr := []) (m1 := q167.2) (show z_pt 155 861 = some (10, .invokevirtual 223, [0, 87, 0, 3082, 3083, 3084, 1001, 3085]) by decide +kernel) rfl (show z_r3 0 87 = some (9, 1, true) by decide +kernel) rfl rfl rfl (Or.inr ⟨rfl, _, rfl⟩) (Ro_of0 (pG_trainCount_run  e168)) (by omega) rfl (by omega) (by omega) ?_
  refine L_at2 (pc := 864) (st := [.int q167.1]) ?_
  refine L_const (pc := 864) (pc' := 865) (v := 2) (show z_ptc 155 864 = some (865, 2) by decide +kernel) ?_
  obtain ⟨g170, h⟩ := z_ig h
  refine L_icmne (pc := 865) (t := 899) (show z_pt 155 865 = some (10, .if_icmp .ne 34, []) by decide +kernel) (by decide) (fun c169 => ?_) (fun c169 => ?_)
  · exact absurd g170 c169
  refine L_pure (pc := 868) (pc' := 870) (st' := [.ref 482]) (show z_pt 155 868 = some (10, .aload 8, []) by decide +kernel) rfl (fun _ _ _ => rfl) ?_
  refine L_const (pc := 870) (pc' := 872) (v := 13) (show z_ptc 155 870 = some (872, 13) by decide +kernel) ?_
  refine L_const (pc := 872) (pc' := 873) (v := 0) (show z_ptc 155 872 = some (873, 0) by decide +kernel) ?_
  refine L_const (pc := 873) (pc' := 874) (v := 1) (show z_ptc 155 873 = some (874, 1) by decide +kernel) ?_
  refine L_const (pc := 874) (pc' := 875) (v := 0) (show z_ptc 155 874 = some (875, 0) by decide +kernel) ?_
  obtain ⟨q171, e172, h⟩ := z_bs h
  refine L_cz (E1 := 1) (E2 := E + 93) (S2 := S + 558) (pc := 875) (as0 := [.ref 0, .int 13, .int 0, .int 1, .int 0]) (rr := []) (m1 := q171.2) (show z_pt 155 875 = some (10, .invokestatic 30, [5, 153, 5, 5112, 5113, 0, 1000, 5114]) by decide +kernel) rfl (show z_r3 5 153 = some (11, 6, true) by decide +kernel) rfl rfl rfl (Or.inl (by decide)) (pL_act_run  e172) (by omega) rfl (by omega) (by omega) ?_
  refine L_at2 (pc := 878) (st := [.int q171.1]) ?_
  refine L_const (pc := 878) (pc' := 881) (v := (-5004)) (show z_ptc 155 878 = some (881, (-5004)) by decide +kernel) ?_
  obtain ⟨g174, h⟩ := z_ig h
  refine L_icmne (pc := 881) (t := 899) (show z_pt 155 881 = some (10, .if_icmp .ne 18, []) by decide +kernel) (by decide) (fun c173 => ?_) (fun c173 => ?_)
  · exact absurd g174 c173
  refine L_pure (pc := 884) (pc' := 886) (st' := [.ref 482]) (show z_pt 155 884 = some (10, .aload 8, []) by decide +kernel) rfl (fun _ _ _ => rfl) ?_
  refine L_const (pc := 886) (pc' := 887) (v := 2) (show z_ptc 155 886 = some (887, 2) by decide +kernel) ?_
  refine L_const (pc := 887) (pc' := 888) (v := 0) (show z_ptc 155 887 = some (888, 0) by decide +kernel) ?_
  refine L_const (pc := 888) (pc' := 889) (v := 1) (show z_ptc 155 888 = some (889, 1) by decide +kernel) ?_
  refine L_const (pc := 889) (pc' := 890) (v := 0) (show z_ptc 155 889 = some (890, 0) by decide +kernel) ?_
  obtain ⟨q175, e176, h⟩ := z_bs h
  refine L_cz (E1 := 1) (E2 := E + 92) (S2 := S + 552) (pc := 890) (as0 := [.ref 0, .int 2, .int 0, .int 1, .int 0]) (rr := []) (m1 := q175.2) (show z_pt 155 890 = some (10, .invokestatic 30, [5, 153, 5, 5112, 5113, 0, 1000, 5114]) by decide +kernel) rfl (show z_r3 5 153 = some (11, 6, true) by decide +kernel) rfl rfl rfl (Or.inl (by decide)) (pL_act_run  e176) (by omega) rfl (by omega) (by omega) ?_
  refine L_at2 (pc := 893) (st := [.int q175.1]) ?_
  refine L_const (pc := 893) (pc' := 896) (v := (-5004)) (show z_ptc 155 893 = some (896, (-5004)) by decide +kernel) ?_
  obtain ⟨g178, h⟩ := z_ig h
  refine L_icmeq (pc := 896) (t := 901) (show z_pt 155 896 = some (10, .if_icmp .eq 5, []) by decide +kernel) (by decide) (fun c177 => ?_) (fun c177 => ?_)
  rotate_left
  · exact absurd g178 c177
  cases h
  exact kk
/-- what the law asks of w -/
def pW_w (d : Int32) (w : z_Mem) : Option z_Mem := (z_iXM (pG_addGear w 36)).bind fun q1 => if q1.1 = 0 then (z_iXM (pG_addWheel q1.2 0 4)).bind fun q5 => if q5.1 = 0 then (z_iX (pG_spokeDirection q5.2 0 3)).bind fun q9 => if q9 = 2700 then (z_iXM (pG_addStar q5.2 d 10)).bind fun q13 => if q13.1 = 0 then (z_iX (pG_distanceToStar q13.2 0 0)).bind fun q17 => (pJ_min q13.2 (d - d / 900 * 900) ((900 : Int32) - (d - d / 900 * 900))).bind fun q19 => if q17 = q19 then (z_iX (pG_teethToFollow q13.2 0 0)).bind fun q23 => if q23 = ((d - d / 900 * 900) / 100) then (z_iXM (pG_follow q13.2 0 0)).bind fun q27 => if q27.1 = 0 then (z_iX (pG_position q27.2 0)).bind fun q31 => if q31 = ((d - d / 900 * 900) / 100) then (pG_turnedTeeth q27.2).bind fun q35 => if q35 = ((d - d / 900 * 900) / 100) then (z_iXF (pG_alignedFraction q27.2 0)).bind fun q39 => if (Op.cmpValue (FP.fcmp q39 FP.fconst1) .l) = 0 then (z_iXM (pG_catalogue q27.2 113 7)).bind fun q43 => if q43.1 = 1 then (z_iXM (pG_turn q43.2 0 1)).bind fun q47 => if q47.1 = 1 then (z_iX (pG_changedSince q47.2 113 7)).bind fun q51 => if q51 = 1 then (z_iX (pG_entryPosition q47.2 113 7 0)).bind fun q55 => if q55 = ((d - d / 900 * 900) / 100) then (pL_act q47.2 8 123 0 0).bind fun q59 => if q59.1 = (-5002) then (z_iXM (pG_passHours q59.2 10)).bind fun q63 => if q63.1 = 10 then (z_iX (pG_direction q63.2 0)).bind fun q67 => if q67 = (d + 100) then (z_iX (pG_distanceToStar q63.2 0 0)).bind fun q71 => if q71 = 0 then (z_iX (pG_directionAfter q63.2 0 99)).bind fun q75 => if q75 = ((d + 1090) - (d + 1090) / 3600 * 3600) then (z_iX (pG_directionAfterAtOnce q63.2 0 99)).bind fun q79 => if q79 = ((d + 1090) - (d + 1090) / 3600 * 3600) then (z_iXM (pG_addStar q63.2 3599 (-50))).bind fun q83 => if q83.1 = 1 then (z_iX (pG_nearestStar q83.2 3000)).bind fun q87 => if q87 = 1 then (z_iXM (pG_removeStar q83.2 0)).bind fun q91 => if q91.1 = 1 then (z_iX (pG_star q91.2 0)).bind fun q95 => if q95 = 1 then (z_iXM (pG_addStar q91.2 0 0)).bind fun q99 => if q99.1 = 2 then (z_iXM (pG_undo q99.2)).bind fun q103 => if ¬ q103.1 < 0 then (z_iXM (pG_addStar q103.2 5 0)).bind fun q107 => if q107.1 = 2 then (z_iXM (pG_forget q107.2 113 7)).bind fun q111 => if q111.1 = 0 then (z_iX (pG_isCatalogued q111.2 113 7)).bind fun q115 => if q115 = 0 then (pG_isConsistent q111.2).bind fun q119 => if ¬ q119.1 = 0 then some q119.2 else none else none else none else none else none else none else none else none else none else none else none else none else none else none else none else none else none else none else none else none else none else none else none else none else none else none else none else none else none else none
theorem pW_w_run {sc0 : Nat × (Nat → Int32)} {E S : Nat} {x y z w r : z_Mem} {gs nw c n d : Int32} (h : pW_w d w = some r) (kk : Lw sc0 (E + 99) (S + 594) 1325 [(0, .ref 2000), (1, .ref 0), (2, .ref 241), (3, .int gs), (4, .int nw), (5, .int c), (6, .int n), (7, .int d), (8, .ref 482), (9, .ref 723)] [] (sb 0 x ++ (sb 241 y ++ (sb 482 z ++ (sb 723 r ++ []))))) : Lw sc0 (E + 100) (S + 600) 910 [(0, .ref 2000), (1, .ref 0), (2, .ref 241), (3, .int gs), (4, .int nw), (5, .int c), (6, .int n), (7, .int d), (8, .ref 482), (9, .ref 723)] [] (sb 0 x ++ (sb 241 y ++ (sb 482 z ++ (sb 723 w ++ [])))) := by
  unfold pW_w at h
  refine L_pure (pc := 910) (pc' := 912) (st' := [.ref 723]) (show z_pt 155 910 = some (10, .aload 9, []) by decide +kernel) rfl (fun _ _ _ => rfl) ?_
  refine L_const (pc := 912) (pc' := 914) (v := 36) (show z_ptc 155 912 = some (914, 36) by decide +kernel) ?_
  obtain ⟨q1, e2, h⟩ := z_bs h
  refine L_cw (E1 := 0) (E2 := E + 100) (S2 := S + 600) (pc := 914) (as0 := [.ref 0, .int 36]) (rr := []) (m1 := q1.2) (show z_pt 155 914 = some (10, .invokevirtual 37, [0, 75, 1, 2068, 2069, 2070, 1001, 2071]) by decide +kernel) rfl (show z_r3 0 75 = some (9, 2, true) by decide +kernel) rfl rfl rfl (Or.inr ⟨rfl, _, rfl⟩) (Ro_of0 (pG_addGear_run  (z_iXM_eq e2))) (by omega) rfl (by omega) (by omega) ?_
  refine L_at2 (pc := 917) (st := [.int q1.1]) ?_
  obtain ⟨g4, h⟩ := z_ig h
  refine L_ifne (pc := 917) (t := 1135) (show z_pt 155 917 = some (10, .ifCond .ne 218, []) by decide +kernel) (by decide) (fun c3 => ?_) (fun c3 => ?_)
  · exact absurd g4 c3
  refine L_pure (pc := 920) (pc' := 922) (st' := [.ref 723]) (show z_pt 155 920 = some (10, .aload 9, []) by decide +kernel) rfl (fun _ _ _ => rfl) ?_
  refine L_const (pc := 922) (pc' := 923) (v := 0) (show z_ptc 155 922 = some (923, 0) by decide +kernel) ?_
  refine L_const (pc := 923) (pc' := 924) (v := 4) (show z_ptc 155 923 = some (924, 4) by decide +kernel) ?_
  obtain ⟨q5, e6, h⟩ := z_bs h
  refine L_cw (E1 := 0) (E2 := E + 100) (S2 := S + 600) (pc := 924) (as0 := [.ref 0, .int 0, .int 4]) (rr := []) (m1 := q5.2) (show z_pt 155 924 = some (10, .invokevirtual 52, [0, 95, 2, 3165, 3166, 3167, 1001, 3168]) by decide +kernel) rfl (show z_r3 0 95 = some (9, 3, true) by decide +kernel) rfl rfl rfl (Or.inr ⟨rfl, _, rfl⟩) (Ro_of0 (pG_addWheel_run  (z_iXM_eq e6))) (by omega) rfl (by omega) (by omega) ?_
  refine L_at2 (pc := 927) (st := [.int q5.1]) ?_
  obtain ⟨g8, h⟩ := z_ig h
  refine L_ifne (pc := 927) (t := 1135) (show z_pt 155 927 = some (10, .ifCond .ne 208, []) by decide +kernel) (by decide) (fun c7 => ?_) (fun c7 => ?_)
  · exact absurd g8 c7
  refine L_pure (pc := 930) (pc' := 932) (st' := [.ref 723]) (show z_pt 155 930 = some (10, .aload 9, []) by decide +kernel) rfl (fun _ _ _ => rfl) ?_
  refine L_const (pc := 932) (pc' := 933) (v := 0) (show z_ptc 155 932 = some (933, 0) by decide +kernel) ?_
  refine L_const (pc := 933) (pc' := 934) (v := 3) (show z_ptc 155 933 = some (934, 3) by decide +kernel) ?_
  obtain ⟨q9, e10, h⟩ := z_bs h
  refine L_cw (E1 := 0) (E2 := E + 100) (S2 := S + 600) (pc := 934) (as0 := [.ref 0, .int 0, .int 3]) (rr := []) (m1 := q5.2) (show z_pt 155 934 = some (10, .invokevirtual 128, [0, 98, 2, 3177, 3178, 3179, 1001, 3180]) by decide +kernel) rfl (show z_r3 0 98 = some (9, 3, true) by decide +kernel) rfl rfl rfl (Or.inr ⟨rfl, _, rfl⟩) (Ro_of0 (pG_spokeDirection_run  (z_iX_eq e10))) (by omega) rfl (by omega) (by omega) ?_
  refine L_at2 (pc := 937) (st := [.int q9]) ?_
  refine L_const (pc := 937) (pc' := 940) (v := 2700) (show z_ptc 155 937 = some (940, 2700) by decide +kernel) ?_
  obtain ⟨g12, h⟩ := z_ig h
  refine L_icmne (pc := 940) (t := 1135) (show z_pt 155 940 = some (10, .if_icmp .ne 195, []) by decide +kernel) (by decide) (fun c11 => ?_) (fun c11 => ?_)
  · exact absurd g12 c11
  refine L_pure (pc := 943) (pc' := 945) (st' := [.ref 723]) (show z_pt 155 943 = some (10, .aload 9, []) by decide +kernel) rfl (fun _ _ _ => rfl) ?_
  refine L_pure (pc := 945) (pc' := 947) (st' := [.int d, .ref 723]) (show z_pt 155 945 = some (10, .iload 7, []) by decide +kernel) rfl (fun _ _ _ => rfl) ?_
  refine L_const (pc := 947) (pc' := 949) (v := 10) (show z_ptc 155 947 = some (949, 10) by decide +kernel) ?_
  obtain ⟨q13, e14, h⟩ := z_bs h
  refine L_cw (E1 := 0) (E2 := E + 100) (S2 := S + 600) (pc := 949) (as0 := [.ref 0, .int d, .int 10]) (rr := []) (m1 := q13.2) (show z_pt 155 949 = some (10, .invokevirtual 55, [0, 102, 2, 3236, 3237, 3238, 1001, 3239]) by decide +kernel) rfl (show z_r3 0 102 = some (9, 3, true) by decide +kernel) rfl rfl rfl (Or.inr ⟨rfl, _, rfl⟩) (Ro_of0 (pG_addStar_run  (z_iXM_eq e14))) (by omega) rfl (by omega) (by omega) ?_
  refine L_at2 (pc := 952) (st := [.int q13.1]) ?_
  obtain ⟨g16, h⟩ := z_ig h
  refine L_ifne (pc := 952) (t := 1135) (show z_pt 155 952 = some (10, .ifCond .ne 183, []) by decide +kernel) (by decide) (fun c15 => ?_) (fun c15 => ?_)
  · exact absurd g16 c15
  refine L_pure (pc := 955) (pc' := 957) (st' := [.ref 723]) (show z_pt 155 955 = some (10, .aload 9, []) by decide +kernel) rfl (fun _ _ _ => rfl) ?_
  refine L_const (pc := 957) (pc' := 958) (v := 0) (show z_ptc 155 957 = some (958, 0) by decide +kernel) ?_
  refine L_const (pc := 958) (pc' := 959) (v := 0) (show z_ptc 155 958 = some (959, 0) by decide +kernel) ?_
  obtain ⟨q17, e18, h⟩ := z_bs h
  refine L_cw (E1 := 0) (E2 := E + 100) (S2 := S + 600) (pc := 959) (as0 := [.ref 0, .int 0, .int 0]) (rr := []) (m1 := q13.2) (show z_pt 155 959 = some (10, .invokevirtual 234, [0, 99, 2, 3196, 3197, 3198, 1001, 3199]) by decide +kernel) rfl (show z_r3 0 99 = some (9, 3, true) by decide +kernel) rfl rfl rfl (Or.inr ⟨rfl, _, rfl⟩) (Ro_of0 (pG_distanceToStar_run  (z_iX_eq e18))) (by omega) rfl (by omega) (by omega) ?_
  refine L_at2 (pc := 962) (st := [.int q17]) ?_
  refine L_pure (pc := 962) (pc' := 964) (st' := [.int d, .int q17]) (show z_pt 155 962 = some (10, .iload 7, []) by decide +kernel) rfl (fun _ _ _ => rfl) ?_
  refine L_const (pc := 964) (pc' := 967) (v := 900) (show z_ptc 155 964 = some (967, 900) by decide +kernel) ?_
  refine L_rem (x := d) (y := 900) (show z_pt 155 967 = some (10, .irem, []) by decide +kernel) (by decide) ?_
  refine L_const (pc := 968) (pc' := 971) (v := 900) (show z_ptc 155 968 = some (971, 900) by decide +kernel) ?_
  refine L_pure (pc := 971) (pc' := 973) (st' := [.int d, .int 900, .int (d - d / 900 * 900), .int q17]) (show z_pt 155 971 = some (10, .iload 7, []) by decide +kernel) rfl (fun _ _ _ => rfl) ?_
  refine L_const (pc := 973) (pc' := 976) (v := 900) (show z_ptc 155 973 = some (976, 900) by decide +kernel) ?_
  refine L_rem (x := d) (y := 900) (show z_pt 155 976 = some (10, .irem, []) by decide +kernel) (by decide) ?_
  refine L_pure (pc := 977) (pc' := 978) (st' := [.int ((900 : Int32) - (d - d / 900 * 900)), .int (d - d / 900 * 900), .int q17]) (show z_pt 155 977 = some (10, .isub, []) by decide +kernel) rfl (fun _ _ _ => rfl) ?_
  obtain ⟨q19, e20, h⟩ := z_bs h
  refine L_cw (E1 := 0) (E2 := E + 100) (S2 := S + 600) (pc := 978) (as0 := [.int (d - d / 900 * 900), .int ((900 : Int32) - (d - d / 900 * 900))]) (rr := [.int q17]) (m1 := q13.2) (show z_pt 155 978 = some (10, .invokestatic 151, [1, 160, 2, 5196, 2235, 0, 1008, 2236]) by decide +kernel) rfl (show z_r3 1 160 = some (12, 2, true) by decide +kernel) rfl rfl rfl (Or.inl (by decide)) (Ro_of0 (pJ_min_run  e20)) (by omega) rfl (by omega) (by omega) ?_
  refine L_at2 (pc := 981) (st := [.int q19, .int q17]) ?_
  obtain ⟨g22, h⟩ := z_ig h
  refine L_icmne (pc := 981) (t := 1135) (show z_pt 155 981 = some (10, .if_icmp .ne 154, []) by decide +kernel) (by decide) (fun c21 => ?_) (fun c21 => ?_)
  · exact absurd g22 c21
  refine L_pure (pc := 984) (pc' := 986) (st' := [.ref 723]) (show z_pt 155 984 = some (10, .aload 9, []) by decide +kernel) rfl (fun _ _ _ => rfl) ?_
  refine L_const (pc := 986) (pc' := 987) (v := 0) (show z_ptc 155 986 = some (987, 0) by decide +kernel) ?_
  refine L_const (pc := 987) (pc' := 988) (v := 0) (show z_ptc 155 987 = some (988, 0) by decide +kernel) ?_
  obtain ⟨q23, e24, h⟩ := z_bs h
  refine L_cw (E1 := 0) (E2 := E + 100) (S2 := S + 600) (pc := 988) (as0 := [.ref 0, .int 0, .int 0]) (rr := []) (m1 := q13.2) (show z_pt 155 988 = some (10, .invokevirtual 237, [0, 100, 2, 3219, 3220, 3221, 1001, 3222]) by decide +kernel) rfl (show z_r3 0 100 = some (9, 3, true) by decide +kernel) rfl rfl rfl (Or.inr ⟨rfl, _, rfl⟩) (Ro_of0 (pG_teethToFollow_run  (z_iX_eq e24))) (by omega) rfl (by omega) (by omega) ?_
  refine L_at2 (pc := 991) (st := [.int q23]) ?_
  refine L_pure (pc := 991) (pc' := 993) (st' := [.int d, .int q23]) (show z_pt 155 991 = some (10, .iload 7, []) by decide +kernel) rfl (fun _ _ _ => rfl) ?_
  refine L_const (pc := 993) (pc' := 996) (v := 900) (show z_ptc 155 993 = some (996, 900) by decide +kernel) ?_
  refine L_rem (x := d) (y := 900) (show z_pt 155 996 = some (10, .irem, []) by decide +kernel) (by decide) ?_
  refine L_const (pc := 997) (pc' := 999) (v := 100) (show z_ptc 155 997 = some (999, 100) by decide +kernel) ?_
  refine L_div (x := (d - d / 900 * 900)) (y := 100) (show z_pt 155 999 = some (10, .idiv, []) by decide +kernel) (by decide) ?_
  obtain ⟨g26, h⟩ := z_ig h
  refine L_icmne (pc := 1000) (t := 1135) (show z_pt 155 1000 = some (10, .if_icmp .ne 135, []) by decide +kernel) (by decide) (fun c25 => ?_) (fun c25 => ?_)
  · exact absurd g26 c25
  refine L_pure (pc := 1003) (pc' := 1005) (st' := [.ref 723]) (show z_pt 155 1003 = some (10, .aload 9, []) by decide +kernel) rfl (fun _ _ _ => rfl) ?_
  refine L_const (pc := 1005) (pc' := 1006) (v := 0) (show z_ptc 155 1005 = some (1006, 0) by decide +kernel) ?_
  refine L_const (pc := 1006) (pc' := 1007) (v := 0) (show z_ptc 155 1006 = some (1007, 0) by decide +kernel) ?_
  obtain ⟨q27, e28, h⟩ := z_bs h
  refine L_cw (E1 := 0) (E2 := E + 100) (S2 := S + 600) (pc := 1007) (as0 := [.ref 0, .int 0, .int 0]) (rr := []) (m1 := q27.2) (show z_pt 155 1007 = some (10, .invokevirtual 71, [0, 101, 2, 3228, 3229, 3230, 1001, 3231]) by decide +kernel) rfl (show z_r3 0 101 = some (9, 3, true) by decide +kernel) rfl rfl rfl (Or.inr ⟨rfl, _, rfl⟩) (Ro_of0 (pG_follow_run  (z_iXM_eq e28))) (by omega) rfl (by omega) (by omega) ?_
  refine L_at2 (pc := 1010) (st := [.int q27.1]) ?_
  obtain ⟨g30, h⟩ := z_ig h
  refine L_ifne (pc := 1010) (t := 1135) (show z_pt 155 1010 = some (10, .ifCond .ne 125, []) by decide +kernel) (by decide) (fun c29 => ?_) (fun c29 => ?_)
  · exact absurd g30 c29
  refine L_pure (pc := 1013) (pc' := 1015) (st' := [.ref 723]) (show z_pt 155 1013 = some (10, .aload 9, []) by decide +kernel) rfl (fun _ _ _ => rfl) ?_
  refine L_const (pc := 1015) (pc' := 1016) (v := 0) (show z_ptc 155 1015 = some (1016, 0) by decide +kernel) ?_
  obtain ⟨q31, e32, h⟩ := z_bs h
  refine L_cw (E1 := 0) (E2 := E + 100) (S2 := S + 600) (pc := 1016) (as0 := [.ref 0, .int 0]) (rr := []) (m1 := q27.2) (show z_pt 155 1016 = some (10, .invokevirtual 109, [0, 81, 1, 3049, 3050, 3051, 1001, 3052]) by decide +kernel) rfl (show z_r3 0 81 = some (9, 2, true) by decide +kernel) rfl rfl rfl (Or.inr ⟨rfl, _, rfl⟩) (Ro_of0 (pG_position_run  (z_iX_eq e32))) (by omega) rfl (by omega) (by omega) ?_
  refine L_at2 (pc := 1019) (st := [.int q31]) ?_
  refine L_pure (pc := 1019) (pc' := 1021) (st' := [.int d, .int q31]) (show z_pt 155 1019 = some (10, .iload 7, []) by decide +kernel) rfl (fun _ _ _ => rfl) ?_
  refine L_const (pc := 1021) (pc' := 1024) (v := 900) (show z_ptc 155 1021 = some (1024, 900) by decide +kernel) ?_
  refine L_rem (x := d) (y := 900) (show z_pt 155 1024 = some (10, .irem, []) by decide +kernel) (by decide) ?_
  refine L_const (pc := 1025) (pc' := 1027) (v := 100) (show z_ptc 155 1025 = some (1027, 100) by decide +kernel) ?_
  refine L_div (x := (d - d / 900 * 900)) (y := 100) (show z_pt 155 1027 = some (10, .idiv, []) by decide +kernel) (by decide) ?_
  obtain ⟨g34, h⟩ := z_ig h
  refine L_icmne (pc := 1028) (t := 1135) (show z_pt 155 1028 = some (10, .if_icmp .ne 107, []) by decide +kernel) (by decide) (fun c33 => ?_) (fun c33 => ?_)
  · exact absurd g34 c33
  refine L_pure (pc := 1031) (pc' := 1033) (st' := [.ref 723]) (show z_pt 155 1031 = some (10, .aload 9, []) by decide +kernel) rfl (fun _ _ _ => rfl) ?_
  obtain ⟨q35, e36, h⟩ := z_bs h
  refine L_cw (E1 := 0) (E2 := E + 100) (S2 := S + 600) (pc := 1033) (as0 := [.ref 0]) (rr := []) (m1 := q27.2) (show z_pt 155 1033 = some (10, .invokevirtual 103, [0, 89, 0, 3102, 3103, 3104, 1001, 3105]) by decide +kernel) rfl (show z_r3 0 89 = some (9, 1, true) by decide +kernel) rfl rfl rfl (Or.inr ⟨rfl, _, rfl⟩) (Ro_of0 (pG_turnedTeeth_run  e36)) (by omega) rfl (by omega) (by omega) ?_
  refine L_at2 (pc := 1036) (st := [.int q35]) ?_
  refine L_pure (pc := 1036) (pc' := 1038) (st' := [.int d, .int q35]) (show z_pt 155 1036 = some (10, .iload 7, []) by decide +kernel) rfl (fun _ _ _ => rfl) ?_
  refine L_const (pc := 1038) (pc' := 1041) (v := 900) (show z_ptc 155 1038 = some (1041, 900) by decide +kernel) ?_
  refine L_rem (x := d) (y := 900) (show z_pt 155 1041 = some (10, .irem, []) by decide +kernel) (by decide) ?_
  refine L_const (pc := 1042) (pc' := 1044) (v := 100) (show z_ptc 155 1042 = some (1044, 100) by decide +kernel) ?_
  refine L_div (x := (d - d / 900 * 900)) (y := 100) (show z_pt 155 1044 = some (10, .idiv, []) by decide +kernel) (by decide) ?_
  obtain ⟨g38, h⟩ := z_ig h
  refine L_icmne (pc := 1045) (t := 1135) (show z_pt 155 1045 = some (10, .if_icmp .ne 90, []) by decide +kernel) (by decide) (fun c37 => ?_) (fun c37 => ?_)
  · exact absurd g38 c37
  refine L_pure (pc := 1048) (pc' := 1050) (st' := [.ref 723]) (show z_pt 155 1048 = some (10, .aload 9, []) by decide +kernel) rfl (fun _ _ _ => rfl) ?_
  refine L_const (pc := 1050) (pc' := 1051) (v := 0) (show z_ptc 155 1050 = some (1051, 0) by decide +kernel) ?_
  obtain ⟨q39, e40, h⟩ := z_bs h
  refine L_cw (E1 := 0) (E2 := E + 100) (S2 := S + 600) (pc := 1051) (as0 := [.ref 0, .int 0]) (rr := []) (m1 := q27.2) (show z_pt 155 1051 = some (10, .invokevirtual 240, [0, 116, 1, 4126, 4127, 4128, 1001, 4129]) by decide +kernel) rfl (show z_r3 0 116 = some (9, 5, true) by decide +kernel) rfl rfl rfl (Or.inr ⟨rfl, _, rfl⟩) (Ro_of0 (pG_alignedFraction_run  (z_iXF_eq e40))) (by omega) rfl (by omega) (by omega) ?_
  refine L_at2 (pc := 1054) (st := [.float q39]) ?_
  refine L_pure (pc := 1054) (pc' := 1055) (st' := [.float FP.fconst1, .float q39]) (show z_pt 155 1054 = some (10, .fconst 1, []) by decide +kernel) rfl (fun _ _ _ => rfl) ?_
  refine L_pure (pc := 1055) (pc' := 1056) (st' := [.int (Op.cmpValue (FP.fcmp q39 FP.fconst1) .l)]) (show z_pt 155 1055 = some (10, .fcmp .l, []) by decide +kernel) rfl (fun _ _ _ => rfl) ?_
  obtain ⟨g42, h⟩ := z_ig h
  refine L_ifne (pc := 1056) (t := 1135) (show z_pt 155 1056 = some (10, .ifCond .ne 79, []) by decide +kernel) (by decide) (fun c41 => ?_) (fun c41 => ?_)
  · exact absurd g42 c41
  refine L_pure (pc := 1059) (pc' := 1061) (st' := [.ref 723]) (show z_pt 155 1059 = some (10, .aload 9, []) by decide +kernel) rfl (fun _ _ _ => rfl) ?_
  refine L_const (pc := 1061) (pc' := 1063) (v := 113) (show z_ptc 155 1061 = some (1063, 113) by decide +kernel) ?_
  refine L_const (pc := 1063) (pc' := 1065) (v := 7) (show z_ptc 155 1063 = some (1065, 7) by decide +kernel) ?_
  obtain ⟨q43, e44, h⟩ := z_bs h
  refine L_cw (E1 := 0) (E2 := E + 100) (S2 := S + 600) (pc := 1065) (as0 := [.ref 0, .int 113, .int 7]) (rr := []) (m1 := q43.2) (show z_pt 155 1065 = some (10, .invokevirtual 64, [0, 111, 2, 4066, 4067, 4068, 1001, 4069]) by decide +kernel) rfl (show z_r3 0 111 = some (9, 3, true) by decide +kernel) rfl rfl rfl (Or.inr ⟨rfl, _, rfl⟩) (Ro_of0 (pG_catalogue_run  (z_iXM_eq e44))) (by omega) rfl (by omega) (by omega) ?_
  refine L_at2 (pc := 1068) (st := [.int q43.1]) ?_
  refine L_const (pc := 1068) (pc' := 1069) (v := 1) (show z_ptc 155 1068 = some (1069, 1) by decide +kernel) ?_
  obtain ⟨g46, h⟩ := z_ig h
  refine L_icmne (pc := 1069) (t := 1135) (show z_pt 155 1069 = some (10, .if_icmp .ne 66, []) by decide +kernel) (by decide) (fun c45 => ?_) (fun c45 => ?_)
  · exact absurd g46 c45
  refine L_pure (pc := 1072) (pc' := 1074) (st' := [.ref 723]) (show z_pt 155 1072 = some (10, .aload 9, []) by decide +kernel) rfl (fun _ _ _ => rfl) ?_
  refine L_const (pc := 1074) (pc' := 1075) (v := 0) (show z_ptc 155 1074 = some (1075, 0) by decide +kernel) ?_
  refine L_const (pc := 1075) (pc' := 1076) (v := 1) (show z_ptc 155 1075 = some (1076, 1) by decide +kernel) ?_
  obtain ⟨q47, e48, h⟩ := z_bs h
  refine L_cw (E1 := 0) (E2 := E + 100) (S2 := S + 600) (pc := 1076) (as0 := [.ref 0, .int 0, .int 1]) (rr := []) (m1 := q47.2) (show z_pt 155 1076 = some (10, .invokevirtual 49, [0, 78, 2, 3021, 3022, 3023, 1001, 3024]) by decide +kernel) rfl (show z_r3 0 78 = some (9, 3, true) by decide +kernel) rfl rfl rfl (Or.inr ⟨rfl, _, rfl⟩) (Ro_of0 (pG_turn_run  (z_iXM_eq e48))) (by omega) rfl (by omega) (by omega) ?_
  refine L_at2 (pc := 1079) (st := [.int q47.1]) ?_
  refine L_const (pc := 1079) (pc' := 1080) (v := 1) (show z_ptc 155 1079 = some (1080, 1) by decide +kernel) ?_
  obtain ⟨g50, h⟩ := z_ig h
  refine L_icmne (pc := 1080) (t := 1135) (show z_pt 155 1080 = some (10, .if_icmp .ne 55, []) by decide +kernel) (by decide) (fun c49 => ?_) (fun c49 => ?_)
  · exact absurd g50 c49
  refine L_pure (pc := 1083) (pc' := 1085) (st' := [.ref 723]) (show z_pt 155 1083 = some (10, .aload 9, []) by decide +kernel) rfl (fun _ _ _ => rfl) ?_
  refine L_const (pc := 1085) (pc' := 1087) (v := 113) (show z_ptc 155 1085 = some (1087, 113) by decide +kernel) ?_
  refine L_const (pc := 1087) (pc' := 1089) (v := 7) (show z_ptc 155 1087 = some (1089, 7) by decide +kernel) ?_
  obtain ⟨q51, e52, h⟩ := z_bs h
  refine L_cw (E1 := 0) (E2 := E + 100) (S2 := S + 600) (pc := 1089) (as0 := [.ref 0, .int 113, .int 7]) (rr := []) (m1 := q47.2) (show z_pt 155 1089 = some (10, .invokevirtual 89, [0, 115, 2, 4117, 4118, 4119, 1001, 4120]) by decide +kernel) rfl (show z_r3 0 115 = some (9, 3, true) by decide +kernel) rfl rfl rfl (Or.inr ⟨rfl, _, rfl⟩) (Ro_of0 (pG_changedSince_run  (z_iX_eq e52))) (by omega) rfl (by omega) (by omega) ?_
  refine L_at2 (pc := 1092) (st := [.int q51]) ?_
  refine L_const (pc := 1092) (pc' := 1093) (v := 1) (show z_ptc 155 1092 = some (1093, 1) by decide +kernel) ?_
  obtain ⟨g54, h⟩ := z_ig h
  refine L_icmne (pc := 1093) (t := 1135) (show z_pt 155 1093 = some (10, .if_icmp .ne 42, []) by decide +kernel) (by decide) (fun c53 => ?_) (fun c53 => ?_)
  · exact absurd g54 c53
  refine L_pure (pc := 1096) (pc' := 1098) (st' := [.ref 723]) (show z_pt 155 1096 = some (10, .aload 9, []) by decide +kernel) rfl (fun _ _ _ => rfl) ?_
  refine L_const (pc := 1098) (pc' := 1100) (v := 113) (show z_ptc 155 1098 = some (1100, 113) by decide +kernel) ?_
  refine L_const (pc := 1100) (pc' := 1102) (v := 7) (show z_ptc 155 1100 = some (1102, 7) by decide +kernel) ?_
  refine L_const (pc := 1102) (pc' := 1103) (v := 0) (show z_ptc 155 1102 = some (1103, 0) by decide +kernel) ?_
  obtain ⟨q55, e56, h⟩ := z_bs h
  refine L_cw (E1 := 0) (E2 := E + 100) (S2 := S + 600) (pc := 1103) (as0 := [.ref 0, .int 113, .int 7, .int 0]) (rr := []) (m1 := q47.2) (show z_pt 155 1103 = some (10, .invokevirtual 244, [0, 114, 3, 4105, 4106, 4107, 1001, 4108]) by decide +kernel) rfl (show z_r3 0 114 = some (9, 5, true) by decide +kernel) rfl rfl rfl (Or.inr ⟨rfl, _, rfl⟩) (Ro_of0 (pG_entryPosition_run  (z_iX_eq e56))) (by omega) rfl (by omega) (by omega) ?_
  refine L_at2 (pc := 1106) (st := [.int q55]) ?_
  refine L_pure (pc := 1106) (pc' := 1108) (st' := [.int d, .int q55]) (show z_pt 155 1106 = some (10, .iload 7, []) by decide +kernel) rfl (fun _ _ _ => rfl) ?_
  refine L_const (pc := 1108) (pc' := 1111) (v := 900) (show z_ptc 155 1108 = some (1111, 900) by decide +kernel) ?_
  refine L_rem (x := d) (y := 900) (show z_pt 155 1111 = some (10, .irem, []) by decide +kernel) (by decide) ?_
  refine L_const (pc := 1112) (pc' := 1114) (v := 100) (show z_ptc 155 1112 = some (1114, 100) by decide +kernel) ?_
  refine L_div (x := (d - d / 900 * 900)) (y := 100) (show z_pt 155 1114 = some (10, .idiv, []) by decide +kernel) (by decide) ?_
  obtain ⟨g58, h⟩ := z_ig h
  refine L_icmne (pc := 1115) (t := 1135) (show z_pt 155 1115 = some (10, .if_icmp .ne 20, []) by decide +kernel) (by decide) (fun c57 => ?_) (fun c57 => ?_)
  · exact absurd g58 c57
  refine L_pure (pc := 1118) (pc' := 1120) (st' := [.ref 723]) (show z_pt 155 1118 = some (10, .aload 9, []) by decide +kernel) rfl (fun _ _ _ => rfl) ?_
  refine L_const (pc := 1120) (pc' := 1122) (v := 8) (show z_ptc 155 1120 = some (1122, 8) by decide +kernel) ?_
  refine L_const (pc := 1122) (pc' := 1124) (v := 123) (show z_ptc 155 1122 = some (1124, 123) by decide +kernel) ?_
  refine L_const (pc := 1124) (pc' := 1125) (v := 0) (show z_ptc 155 1124 = some (1125, 0) by decide +kernel) ?_
  refine L_const (pc := 1125) (pc' := 1126) (v := 0) (show z_ptc 155 1125 = some (1126, 0) by decide +kernel) ?_
  obtain ⟨q59, e60, h⟩ := z_bs h
  refine L_cw (E1 := 1) (E2 := E + 99) (S2 := S + 594) (pc := 1126) (as0 := [.ref 0, .int 8, .int 123, .int 0, .int 0]) (rr := []) (m1 := q59.2) (show z_pt 155 1126 = some (10, .invokestatic 30, [5, 153, 5, 5112, 5113, 0, 1000, 5114]) by decide +kernel) rfl (show z_r3 5 153 = some (11, 6, true) by decide +kernel) rfl rfl rfl (Or.inl (by decide)) (pL_act_run  e60) (by omega) rfl (by omega) (by omega) ?_
  refine L_at2 (pc := 1129) (st := [.int q59.1]) ?_
  refine L_const (pc := 1129) (pc' := 1132) (v := (-5002)) (show z_ptc 155 1129 = some (1132, (-5002)) by decide +kernel) ?_
  obtain ⟨g62, h⟩ := z_ig h
  refine L_icmeq (pc := 1132) (t := 1137) (show z_pt 155 1132 = some (10, .if_icmp .eq 5, []) by decide +kernel) (by decide) (fun c61 => ?_) (fun c61 => ?_)
  rotate_left
  · exact absurd g62 c61
  refine L_pure (pc := 1137) (pc' := 1139) (st' := [.ref 723]) (show z_pt 155 1137 = some (10, .aload 9, []) by decide +kernel) rfl (fun _ _ _ => rfl) ?_
  refine L_const (pc := 1139) (pc' := 1141) (v := 10) (show z_ptc 155 1139 = some (1141, 10) by decide +kernel) ?_
  obtain ⟨q63, e64, h⟩ := z_bs h
  refine L_cw (E1 := 0) (E2 := E + 99) (S2 := S + 594) (pc := 1141) (as0 := [.ref 0, .int 10]) (rr := []) (m1 := q63.2) (show z_pt 155 1141 = some (10, .invokevirtual 61, [0, 107, 1, 4028, 4029, 4030, 1001, 4031]) by decide +kernel) rfl (show z_r3 0 107 = some (9, 2, true) by decide +kernel) rfl rfl rfl (Or.inr ⟨rfl, _, rfl⟩) (Ro_of0 (pG_passHours_run  (z_iXM_eq e64))) (by omega) rfl (by omega) (by omega) ?_
  refine L_at2 (pc := 1144) (st := [.int q63.1]) ?_
  refine L_const (pc := 1144) (pc' := 1146) (v := 10) (show z_ptc 155 1144 = some (1146, 10) by decide +kernel) ?_
  obtain ⟨g66, h⟩ := z_ig h
  refine L_icmne (pc := 1146) (t := 1323) (show z_pt 155 1146 = some (10, .if_icmp .ne 177, []) by decide +kernel) (by decide) (fun c65 => ?_) (fun c65 => ?_)
  · exact absurd g66 c65
  refine L_pure (pc := 1149) (pc' := 1151) (st' := [.ref 723]) (show z_pt 155 1149 = some (10, .aload 9, []) by decide +kernel) rfl (fun _ _ _ => rfl) ?_
  refine L_const (pc := 1151) (pc' := 1152) (v := 0) (show z_ptc 155 1151 = some (1152, 0) by decide +kernel) ?_
  obtain ⟨q67, e68, h⟩ := z_bs h
  refine L_cw (E1 := 0) (E2 := E + 99) (S2 := S + 594) (pc := 1152) (as0 := [.ref 0, .int 0]) (rr := []) (m1 := q63.2) (show z_pt 155 1152 = some (10, .invokevirtual 137, [0, 106, 1, 4024, 4025, 4026, 1001, 4027]) by decide +kernel) rfl (show z_r3 0 106 = some (9, 2, true) by decide +kernel) rfl rfl rfl (Or.inr ⟨rfl, _, rfl⟩) (Ro_of0 (pG_direction_run  (z_iX_eq e68))) (by omega) rfl (by omega) (by omega) ?_
  refine L_at2 (pc := 1155) (st := [.int q67]) ?_
  refine L_pure (pc := 1155) (pc' := 1157) (st' := [.int d, .int q67]) (show z_pt 155 1155 = some (10, .iload 7, []) by decide +kernel) rfl (fun _ _ _ => rfl) ?_
  refine L_const (pc := 1157) (pc' := 1159) (v := 100) (show z_ptc 155 1157 = some (1159, 100) by decide +kernel) ?_
  refine L_pure (pc := 1159) (pc' := 1160) (st' := [.int (d + 100), .int q67]) (show z_pt 155 1159 = some (10, .iadd, []) by decide +kernel) rfl (fun _ _ _ => rfl) ?_
  obtain ⟨g70, h⟩ := z_ig h
  refine L_icmne (pc := 1160) (t := 1323) (show z_pt 155 1160 = some (10, .if_icmp .ne 163, []) by decide +kernel) (by decide) (fun c69 => ?_) (fun c69 => ?_)
  · exact absurd g70 c69
  refine L_pure (pc := 1163) (pc' := 1165) (st' := [.ref 723]) (show z_pt 155 1163 = some (10, .aload 9, []) by decide +kernel) rfl (fun _ _ _ => rfl) ?_
  refine L_const (pc := 1165) (pc' := 1166) (v := 0) (show z_ptc 155 1165 = some (1166, 0) by decide +kernel) ?_
  refine L_const (pc := 1166) (pc' := 1167) (v := 0) (show z_ptc 155 1166 = some (1167, 0) by decide +kernel) ?_
  obtain ⟨q71, e72, h⟩ := z_bs h
  refine L_cw (E1 := 0) (E2 := E + 99) (S2 := S + 594) (pc := 1167) (as0 := [.ref 0, .int 0, .int 0]) (rr := []) (m1 := q63.2) (show z_pt 155 1167 = some (10, .invokevirtual 234, [0, 99, 2, 3196, 3197, 3198, 1001, 3199]) by decide +kernel) rfl (show z_r3 0 99 = some (9, 3, true) by decide +kernel) rfl rfl rfl (Or.inr ⟨rfl, _, rfl⟩) (Ro_of0 (pG_distanceToStar_run  (z_iX_eq e72))) (by omega) rfl (by omega) (by omega) ?_
  refine L_at2 (pc := 1170) (st := [.int q71]) ?_
  obtain ⟨g74, h⟩ := z_ig h
  refine L_ifne (pc := 1170) (t := 1323) (show z_pt 155 1170 = some (10, .ifCond .ne 153, []) by decide +kernel) (by decide) (fun c73 => ?_) (fun c73 => ?_)
  · exact absurd g74 c73
  refine L_pure (pc := 1173) (pc' := 1175) (st' := [.ref 723]) (show z_pt 155 1173 = some (10, .aload 9, []) by decide +kernel) rfl (fun _ _ _ => rfl) ?_
  refine L_const (pc := 1175) (pc' := 1176) (v := 0) (show z_ptc 155 1175 = some (1176, 0) by decide +kernel) ?_
  refine L_const (pc := 1176) (pc' := 1178) (v := 99) (show z_ptc 155 1176 = some (1178, 99) by decide +kernel) ?_
  obtain ⟨q75, e76, h⟩ := z_bs h
  refine L_cw (E1 := 0) (E2 := E + 99) (S2 := S + 594) (pc := 1178) (as0 := [.ref 0, .int 0, .int 99]) (rr := []) (m1 := q63.2) (show z_pt 155 1178 = some (10, .invokevirtual 140, [0, 108, 2, 4045, 4046, 4047, 1001, 4048]) by decide +kernel) rfl (show z_r3 0 108 = some (9, 6, true) by decide +kernel) rfl rfl rfl (Or.inr ⟨rfl, _, rfl⟩) (Ro_of0 (pG_directionAfter_run  (z_iX_eq e76))) (by omega) rfl (by omega) (by omega) ?_
  refine L_at2 (pc := 1181) (st := [.int q75]) ?_
  refine L_pure (pc := 1181) (pc' := 1183) (st' := [.int d, .int q75]) (show z_pt 155 1181 = some (10, .iload 7, []) by decide +kernel) rfl (fun _ _ _ => rfl) ?_
  refine L_const (pc := 1183) (pc' := 1186) (v := 1090) (show z_ptc 155 1183 = some (1186, 1090) by decide +kernel) ?_
  refine L_pure (pc := 1186) (pc' := 1187) (st' := [.int (d + 1090), .int q75]) (show z_pt 155 1186 = some (10, .iadd, []) by decide +kernel) rfl (fun _ _ _ => rfl) ?_
  refine L_const (pc := 1187) (pc' := 1190) (v := 3600) (show z_ptc 155 1187 = some (1190, 3600) by decide +kernel) ?_
  refine L_rem (x := (d + 1090)) (y := 3600) (show z_pt 155 1190 = some (10, .irem, []) by decide +kernel) (by decide) ?_
  obtain ⟨g78, h⟩ := z_ig h
  refine L_icmne (pc := 1191) (t := 1323) (show z_pt 155 1191 = some (10, .if_icmp .ne 132, []) by decide +kernel) (by decide) (fun c77 => ?_) (fun c77 => ?_)
  · exact absurd g78 c77
  refine L_pure (pc := 1194) (pc' := 1196) (st' := [.ref 723]) (show z_pt 155 1194 = some (10, .aload 9, []) by decide +kernel) rfl (fun _ _ _ => rfl) ?_
  refine L_const (pc := 1196) (pc' := 1197) (v := 0) (show z_ptc 155 1196 = some (1197, 0) by decide +kernel) ?_
  refine L_const (pc := 1197) (pc' := 1199) (v := 99) (show z_ptc 155 1197 = some (1199, 99) by decide +kernel) ?_
  obtain ⟨q79, e80, h⟩ := z_bs h
  refine L_cw (E1 := 0) (E2 := E + 99) (S2 := S + 594) (pc := 1199) (as0 := [.ref 0, .int 0, .int 99]) (rr := []) (m1 := q63.2) (show z_pt 155 1199 = some (10, .invokevirtual 248, [0, 109, 2, 4052, 4053, 4054, 1001, 4055]) by decide +kernel) rfl (show z_r3 0 109 = some (9, 4, true) by decide +kernel) rfl rfl rfl (Or.inr ⟨rfl, _, rfl⟩) (Ro_of0 (pG_directionAfterAtOnce_run  (z_iX_eq e80))) (by omega) rfl (by omega) (by omega) ?_
  refine L_at2 (pc := 1202) (st := [.int q79]) ?_
  refine L_pure (pc := 1202) (pc' := 1204) (st' := [.int d, .int q79]) (show z_pt 155 1202 = some (10, .iload 7, []) by decide +kernel) rfl (fun _ _ _ => rfl) ?_
  refine L_const (pc := 1204) (pc' := 1207) (v := 1090) (show z_ptc 155 1204 = some (1207, 1090) by decide +kernel) ?_
  refine L_pure (pc := 1207) (pc' := 1208) (st' := [.int (d + 1090), .int q79]) (show z_pt 155 1207 = some (10, .iadd, []) by decide +kernel) rfl (fun _ _ _ => rfl) ?_
  refine L_const (pc := 1208) (pc' := 1211) (v := 3600) (show z_ptc 155 1208 = some (1211, 3600) by decide +kernel) ?_
  refine L_rem (x := (d + 1090)) (y := 3600) (show z_pt 155 1211 = some (10, .irem, []) by decide +kernel) (by decide) ?_
  obtain ⟨g82, h⟩ := z_ig h
  refine L_icmne (pc := 1212) (t := 1323) (show z_pt 155 1212 = some (10, .if_icmp .ne 111, []) by decide +kernel) (by decide) (fun c81 => ?_) (fun c81 => ?_)
  · exact absurd g82 c81
  refine L_pure (pc := 1215) (pc' := 1217) (st' := [.ref 723]) (show z_pt 155 1215 = some (10, .aload 9, []) by decide +kernel) rfl (fun _ _ _ => rfl) ?_
  refine L_const (pc := 1217) (pc' := 1220) (v := 3599) (show z_ptc 155 1217 = some (1220, 3599) by decide +kernel) ?_
  refine L_const (pc := 1220) (pc' := 1222) (v := (-50)) (show z_ptc 155 1220 = some (1222, (-50)) by decide +kernel) ?_
  obtain ⟨q83, e84, h⟩ := z_bs h
  refine L_cw (E1 := 0) (E2 := E + 99) (S2 := S + 594) (pc := 1222) (as0 := [.ref 0, .int 3599, .int (-50)]) (rr := []) (m1 := q83.2) (show z_pt 155 1222 = some (10, .invokevirtual 55, [0, 102, 2, 3236, 3237, 3238, 1001, 3239]) by decide +kernel) rfl (show z_r3 0 102 = some (9, 3, true) by decide +kernel) rfl rfl rfl (Or.inr ⟨rfl, _, rfl⟩) (Ro_of0 (pG_addStar_run  (z_iXM_eq e84))) (by omega) rfl (by omega) (by omega) ?_
  refine L_at2 (pc := 1225) (st := [.int q83.1]) ?_
  refine L_const (pc := 1225) (pc' := 1226) (v := 1) (show z_ptc 155 1225 = some (1226, 1) by decide +kernel) ?_
  obtain ⟨g86, h⟩ := z_ig h
  refine L_icmne (pc := 1226) (t := 1323) (show z_pt 155 1226 = some (10, .if_icmp .ne 97, []) by decide +kernel) (by decide) (fun c85 => ?_) (fun c85 => ?_)
  · exact absurd g86 c85
  refine L_pure (pc := 1229) (pc' := 1231) (st' := [.ref 723]) (show z_pt 155 1229 = some (10, .aload 9, []) by decide +kernel) rfl (fun _ _ _ => rfl) ?_
  refine L_const (pc := 1231) (pc' := 1234) (v := 3000) (show z_ptc 155 1231 = some (1234, 3000) by decide +kernel) ?_
  obtain ⟨q87, e88, h⟩ := z_bs h
  refine L_cw (E1 := 0) (E2 := E + 99) (S2 := S + 594) (pc := 1234) (as0 := [.ref 0, .int 3000]) (rr := []) (m1 := q83.2) (show z_pt 155 1234 = some (10, .invokevirtual 251, [0, 110, 1, 4057, 4058, 4059, 1001, 4060]) by decide +kernel) rfl (show z_r3 0 110 = some (9, 2, true) by decide +kernel) rfl rfl rfl (Or.inr ⟨rfl, _, rfl⟩) (Ro_of0 (pG_nearestStar_run  (z_iX_eq e88))) (by omega) rfl (by omega) (by omega) ?_
  refine L_at2 (pc := 1237) (st := [.int q87]) ?_
  refine L_const (pc := 1237) (pc' := 1238) (v := 1) (show z_ptc 155 1237 = some (1238, 1) by decide +kernel) ?_
  obtain ⟨g90, h⟩ := z_ig h
  refine L_icmne (pc := 1238) (t := 1323) (show z_pt 155 1238 = some (10, .if_icmp .ne 85, []) by decide +kernel) (by decide) (fun c89 => ?_) (fun c89 => ?_)
  · exact absurd g90 c89
  refine L_pure (pc := 1241) (pc' := 1243) (st' := [.ref 723]) (show z_pt 155 1241 = some (10, .aload 9, []) by decide +kernel) rfl (fun _ _ _ => rfl) ?_
  refine L_const (pc := 1243) (pc' := 1244) (v := 0) (show z_ptc 155 1243 = some (1244, 0) by decide +kernel) ?_
  obtain ⟨q91, e92, h⟩ := z_bs h
  refine L_cw (E1 := 0) (E2 := E + 99) (S2 := S + 594) (pc := 1244) (as0 := [.ref 0, .int 0]) (rr := []) (m1 := q91.2) (show z_pt 155 1244 = some (10, .invokevirtual 58, [0, 103, 1, 4008, 4009, 4010, 1001, 4011]) by decide +kernel) rfl (show z_r3 0 103 = some (9, 2, true) by decide +kernel) rfl rfl rfl (Or.inr ⟨rfl, _, rfl⟩) (Ro_of0 (pG_removeStar_run  (z_iXM_eq e92))) (by omega) rfl (by omega) (by omega) ?_
  refine L_at2 (pc := 1247) (st := [.int q91.1]) ?_
  refine L_const (pc := 1247) (pc' := 1248) (v := 1) (show z_ptc 155 1247 = some (1248, 1) by decide +kernel) ?_
  obtain ⟨g94, h⟩ := z_ig h
  refine L_icmne (pc := 1248) (t := 1323) (show z_pt 155 1248 = some (10, .if_icmp .ne 75, []) by decide +kernel) (by decide) (fun c93 => ?_) (fun c93 => ?_)
  · exact absurd g94 c93
  refine L_pure (pc := 1251) (pc' := 1253) (st' := [.ref 723]) (show z_pt 155 1251 = some (10, .aload 9, []) by decide +kernel) rfl (fun _ _ _ => rfl) ?_
  refine L_const (pc := 1253) (pc' := 1254) (v := 0) (show z_ptc 155 1253 = some (1254, 0) by decide +kernel) ?_
  obtain ⟨q95, e96, h⟩ := z_bs h
  refine L_cw (E1 := 0) (E2 := E + 99) (S2 := S + 594) (pc := 1254) (as0 := [.ref 0, .int 0]) (rr := []) (m1 := q91.2) (show z_pt 155 1254 = some (10, .invokevirtual 134, [0, 105, 1, 4020, 4021, 4022, 1001, 4023]) by decide +kernel) rfl (show z_r3 0 105 = some (9, 2, true) by decide +kernel) rfl rfl rfl (Or.inr ⟨rfl, _, rfl⟩) (Ro_of0 (pG_star_run  (z_iX_eq e96))) (by omega) rfl (by omega) (by omega) ?_
  refine L_at2 (pc := 1257) (st := [.int q95]) ?_
  refine L_const (pc := 1257) (pc' := 1258) (v := 1) (show z_ptc 155 1257 = some (1258, 1) by decide +kernel) ?_
  obtain ⟨g98, h⟩ := z_ig h
  refine L_icmne (pc := 1258) (t := 1323) (show z_pt 155 1258 = some (10, .if_icmp .ne 65, []) by decide +kernel) (by decide) (fun c97 => ?_) (fun c97 => ?_)
  · exact absurd g98 c97
  refine L_pure (pc := 1261) (pc' := 1263) (st' := [.ref 723]) (show z_pt 155 1261 = some (10, .aload 9, []) by decide +kernel) rfl (fun _ _ _ => rfl) ?_
  refine L_const (pc := 1263) (pc' := 1264) (v := 0) (show z_ptc 155 1263 = some (1264, 0) by decide +kernel) ?_
  refine L_const (pc := 1264) (pc' := 1265) (v := 0) (show z_ptc 155 1264 = some (1265, 0) by decide +kernel) ?_
  obtain ⟨q99, e100, h⟩ := z_bs h
  refine L_cw (E1 := 0) (E2 := E + 99) (S2 := S + 594) (pc := 1265) (as0 := [.ref 0, .int 0, .int 0]) (rr := []) (m1 := q99.2) (show z_pt 155 1265 = some (10, .invokevirtual 55, [0, 102, 2, 3236, 3237, 3238, 1001, 3239]) by decide +kernel) rfl (show z_r3 0 102 = some (9, 3, true) by decide +kernel) rfl rfl rfl (Or.inr ⟨rfl, _, rfl⟩) (Ro_of0 (pG_addStar_run  (z_iXM_eq e100))) (by omega) rfl (by omega) (by omega) ?_
  refine L_at2 (pc := 1268) (st := [.int q99.1]) ?_
  refine L_const (pc := 1268) (pc' := 1269) (v := 2) (show z_ptc 155 1268 = some (1269, 2) by decide +kernel) ?_
  obtain ⟨g102, h⟩ := z_ig h
  refine L_icmne (pc := 1269) (t := 1323) (show z_pt 155 1269 = some (10, .if_icmp .ne 54, []) by decide +kernel) (by decide) (fun c101 => ?_) (fun c101 => ?_)
  · exact absurd g102 c101
  refine L_pure (pc := 1272) (pc' := 1274) (st' := [.ref 723]) (show z_pt 155 1272 = some (10, .aload 9, []) by decide +kernel) rfl (fun _ _ _ => rfl) ?_
  obtain ⟨q103, e104, h⟩ := z_bs h
  refine L_cw (E1 := 0) (E2 := E + 99) (S2 := S + 594) (pc := 1274) (as0 := [.ref 0]) (rr := []) (m1 := q103.2) (show z_pt 155 1274 = some (10, .invokevirtual 180, [0, 122, 0, 5075, 5076, 5077, 1001, 5078]) by decide +kernel) rfl (show z_r3 0 122 = some (9, 1, true) by decide +kernel) rfl rfl rfl (Or.inr ⟨rfl, _, rfl⟩) (Ro_of0 (pG_undo_run  (z_iXM_eq e104))) (by omega) rfl (by omega) (by omega) ?_
  refine L_at2 (pc := 1277) (st := [.int q103.1]) ?_
  obtain ⟨g106, h⟩ := z_ig h
  refine L_iflt (pc := 1277) (t := 1323) (show z_pt 155 1277 = some (10, .ifCond .lt 46, []) by decide +kernel) (by decide) (fun c105 => ?_) (fun c105 => ?_)
  · exact absurd c105 g106
  refine L_pure (pc := 1280) (pc' := 1282) (st' := [.ref 723]) (show z_pt 155 1280 = some (10, .aload 9, []) by decide +kernel) rfl (fun _ _ _ => rfl) ?_
  refine L_const (pc := 1282) (pc' := 1283) (v := 5) (show z_ptc 155 1282 = some (1283, 5) by decide +kernel) ?_
  refine L_const (pc := 1283) (pc' := 1284) (v := 0) (show z_ptc 155 1283 = some (1284, 0) by decide +kernel) ?_
  obtain ⟨q107, e108, h⟩ := z_bs h
  refine L_cw (E1 := 0) (E2 := E + 99) (S2 := S + 594) (pc := 1284) (as0 := [.ref 0, .int 5, .int 0]) (rr := []) (m1 := q107.2) (show z_pt 155 1284 = some (10, .invokevirtual 55, [0, 102, 2, 3236, 3237, 3238, 1001, 3239]) by decide +kernel) rfl (show z_r3 0 102 = some (9, 3, true) by decide +kernel) rfl rfl rfl (Or.inr ⟨rfl, _, rfl⟩) (Ro_of0 (pG_addStar_run  (z_iXM_eq e108))) (by omega) rfl (by omega) (by omega) ?_
  refine L_at2 (pc := 1287) (st := [.int q107.1]) ?_
  refine L_const (pc := 1287) (pc' := 1288) (v := 2) (show z_ptc 155 1287 = some (1288, 2) by decide +kernel) ?_
  obtain ⟨g110, h⟩ := z_ig h
  refine L_icmne (pc := 1288) (t := 1323) (show z_pt 155 1288 = some (10, .if_icmp .ne 35, []) by decide +kernel) (by decide) (fun c109 => ?_) (fun c109 => ?_)
  · exact absurd g110 c109
  refine L_pure (pc := 1291) (pc' := 1293) (st' := [.ref 723]) (show z_pt 155 1291 = some (10, .aload 9, []) by decide +kernel) rfl (fun _ _ _ => rfl) ?_
  refine L_const (pc := 1293) (pc' := 1295) (v := 113) (show z_ptc 155 1293 = some (1295, 113) by decide +kernel) ?_
  refine L_const (pc := 1295) (pc' := 1297) (v := 7) (show z_ptc 155 1295 = some (1297, 7) by decide +kernel) ?_
  obtain ⟨q111, e112, h⟩ := z_bs h
  refine L_cw (E1 := 0) (E2 := E + 99) (S2 := S + 594) (pc := 1297) (as0 := [.ref 0, .int 113, .int 7]) (rr := []) (m1 := q111.2) (show z_pt 155 1297 = some (10, .invokevirtual 68, [0, 112, 2, 4086, 4087, 4088, 1001, 4089]) by decide +kernel) rfl (show z_r3 0 112 = some (9, 3, true) by decide +kernel) rfl rfl rfl (Or.inr ⟨rfl, _, rfl⟩) (Ro_of0 (pG_forget_run  (z_iXM_eq e112))) (by omega) rfl (by omega) (by omega) ?_
  refine L_at2 (pc := 1300) (st := [.int q111.1]) ?_
  obtain ⟨g114, h⟩ := z_ig h
  refine L_ifne (pc := 1300) (t := 1323) (show z_pt 155 1300 = some (10, .ifCond .ne 23, []) by decide +kernel) (by decide) (fun c113 => ?_) (fun c113 => ?_)
  · exact absurd g114 c113
  refine L_pure (pc := 1303) (pc' := 1305) (st' := [.ref 723]) (show z_pt 155 1303 = some (10, .aload 9, []) by decide +kernel) rfl (fun _ _ _ => rfl) ?_
  refine L_const (pc := 1305) (pc' := 1307) (v := 113) (show z_ptc 155 1305 = some (1307, 113) by decide +kernel) ?_
  refine L_const (pc := 1307) (pc' := 1309) (v := 7) (show z_ptc 155 1307 = some (1309, 7) by decide +kernel) ?_
  obtain ⟨q115, e116, h⟩ := z_bs h
  refine L_cw (E1 := 0) (E2 := E + 99) (S2 := S + 594) (pc := 1309) (as0 := [.ref 0, .int 113, .int 7]) (rr := []) (m1 := q111.2) (show z_pt 155 1309 = some (10, .invokevirtual 254, [0, 113, 2, 4098, 4099, 4100, 1001, 4101]) by decide +kernel) rfl (show z_r3 0 113 = some (9, 3, true) by decide +kernel) rfl rfl rfl (Or.inr ⟨rfl, _, rfl⟩) (Ro_of0 (pG_isCatalogued_run  (z_iX_eq e116))) (by omega) rfl (by omega) (by omega) ?_
  refine L_at2 (pc := 1312) (st := [.int q115]) ?_
  obtain ⟨g118, h⟩ := z_ig h
  refine L_ifne (pc := 1312) (t := 1323) (show z_pt 155 1312 = some (10, .ifCond .ne 11, []) by decide +kernel) (by decide) (fun c117 => ?_) (fun c117 => ?_)
  · exact absurd g118 c117
  refine L_pure (pc := 1315) (pc' := 1317) (st' := [.ref 723]) (show z_pt 155 1315 = some (10, .aload 9, []) by decide +kernel) rfl (fun _ _ _ => rfl) ?_
  obtain ⟨q119, e120, h⟩ := z_bs h
  refine L_cw (E1 := 0) (E2 := E + 99) (S2 := S + 594) (pc := 1317) (as0 := [.ref 0]) (rr := []) (m1 := q119.2) (show z_pt 155 1317 = some (10, .invokevirtual 219, [0, 117, 0, 4149, 4150, 4151, 1001, 4152]) by decide +kernel) rfl (show z_r3 0 117 = some (9, 5, true) by decide +kernel) rfl rfl rfl (Or.inr ⟨rfl, _, rfl⟩) (Ro_of0 (pG_isConsistent_run  e120)) (by omega) rfl (by omega) (by omega) ?_
  refine L_at2 (pc := 1320) (st := [.int q119.1]) ?_
  obtain ⟨g122, h⟩ := z_ig h
  refine L_ifne (pc := 1320) (t := 1325) (show z_pt 155 1320 = some (10, .ifCond .ne 5, []) by decide +kernel) (by decide) (fun c121 => ?_) (fun c121 => ?_)
  rotate_left
  · exact absurd c121 g122
  cases h
  exact kk
/-- what the law asks at its end -/
def pW_e (gs nw : Int32) (x : z_Mem) : Option z_Mem := (z_iXM (pG_restore x)).bind fun q1 => if q1.1 = gs then (pL_state q1.2).bind fun q5 => if q5.1 = nw then some q5.2 else none else none
theorem pW_e_run {sc0 : Nat × (Nat → Int32)} {E S : Nat} {x y z w r : z_Mem} {gs nw c n d : Int32} (h : pW_e gs nw x = some r) : Lw sc0 (E + 100) (S + 600) 1325 [(0, .ref 2000), (1, .ref 0), (2, .ref 241), (3, .int gs), (4, .int nw), (5, .int c), (6, .int n), (7, .int d), (8, .ref 482), (9, .ref 723)] [] (sb 0 x ++ (sb 241 y ++ (sb 482 z ++ (sb 723 w ++ [])))) := by
  unfold pW_e at h
  refine L_pure (pc := 1325) (pc' := 1326) (st' := [.ref 0]) (show z_pt 155 1325 = some (10, .aload_n 1, []) by decide +kernel) rfl (fun _ _ _ => rfl) ?_
  obtain ⟨q1, e2, h⟩ := z_bs h
  refine L_cx (E1 := 0) (E2 := E + 100) (S2 := S + 600) (pc := 1326) (as0 := [.ref 0]) (rr := []) (m1 := q1.2) (show z_pt 155 1326 = some (10, .invokevirtual 258, [0, 124, 0, 5089, 5090, 5091, 1001, 5092]) by decide +kernel) rfl (show z_r3 0 124 = some (9, 1, true) by decide +kernel) rfl rfl rfl (Or.inr ⟨rfl, _, rfl⟩) (Ro_of0 (pG_restore_run  (z_iXM_eq e2))) (by omega) rfl (by omega) (by omega) ?_
  refine L_at2 (pc := 1329) (st := [.int q1.1]) ?_
  refine L_pure (pc := 1329) (pc' := 1330) (st' := [.int gs, .int q1.1]) (show z_pt 155 1329 = some (10, .iload_n 3, []) by decide +kernel) rfl (fun _ _ _ => rfl) ?_
  obtain ⟨g4, h⟩ := z_ig h
  refine L_icmne (pc := 1330) (t := 1346) (show z_pt 155 1330 = some (10, .if_icmp .ne 16, []) by decide +kernel) (by decide) (fun c3 => ?_) (fun c3 => ?_)
  · exact absurd g4 c3
  refine L_pure (pc := 1333) (pc' := 1334) (st' := [.ref 0]) (show z_pt 155 1333 = some (10, .aload_n 1, []) by decide +kernel) rfl (fun _ _ _ => rfl) ?_
  obtain ⟨q5, e6, h⟩ := z_bs h
  refine L_cx (E1 := 8) (E2 := E + 92) (S2 := S + 552) (pc := 1334) (as0 := [.ref 0]) (rr := []) (m1 := q5.2) (show z_pt 155 1334 = some (10, .invokestatic 167, [1, 154, 1, 5154, 5155, 0, 1000, 5156]) by decide +kernel) rfl (show z_r3 1 154 = some (11, 4, true) by decide +kernel) rfl rfl rfl (Or.inl (by decide)) (pL_state_run  e6) (by omega) rfl (by omega) (by omega) ?_
  refine L_at2 (pc := 1337) (st := [.int q5.1]) ?_
  refine L_pure (pc := 1337) (pc' := 1339) (st' := [.int nw, .int q5.1]) (show z_pt 155 1337 = some (10, .iload 4, []) by decide +kernel) rfl (fun _ _ _ => rfl) ?_
  obtain ⟨g8, h⟩ := z_ig h
  refine L_icmne (pc := 1339) (t := 1346) (show z_pt 155 1339 = some (10, .if_icmp .ne 7, []) by decide +kernel) (by decide) (fun c7 => ?_) (fun c7 => ?_)
  · exact absurd g8 c7
  cases h
  refine L_const (pc := 1342) (pc' := 1343) (v := 1) (show z_ptc 155 1342 = some (1343, 1) by decide +kernel) ?_
  refine L_pure (pc := 1343) (pc' := 1347) (show z_pt 155 1343 = some (10, .goto 4, []) by decide +kernel) rfl (fun _ _ _ => rfl) ?_
  refine L_end (show z_pt 155 1347 = some (10, .ireturn, []) by decide +kernel) ?_
  simp only [List.length_append, sb_len, List.length_nil]
  decide
/-- THE LAW, out of the objects' functions -/
theorem pW_run {sc0 : Nat × (Nat → Int32)} (hL : sc0.1 ≤ 260) {μ : z_Mem} (hB : pB (z_S sc0) z_mu0 = some μ) {r : Int32 × Int32 × z_Mem × z_Mem} (hxy : pW_xy μ μ = some r) (hz : ∀ c, ∃ m, pW_z (pW_n c) z_mu0 = some m) (hw : ∀ c, ∃ m, pW_w (pW_d c) z_mu0 = some m) (he : ∃ m, pW_e r.1 r.2.1 r.2.2.1 = some m) : Lw sc0 2000 50000 0 [(0, .ref 2000)] [] [] := by
  obtain ⟨me, he⟩ := he
  refine L_pure (pc := 0) (pc' := 1) (st' := [.ref 2000]) (show z_pt 155 0 = some (10, .aload_n 0, []) by decide +kernel) rfl (fun _ _ _ => rfl) ?_
  refine Lw_up (E := 200 + 1800) (S := 6200 + 43800) (by decide) (by decide) (L_build (b := 0) hL (show z_pt 155 1 = some (10, .invokestatic 160, [1, 152, 1, 5109, 5110, 0, 1000, 5111]) by decide +kernel) rfl hB rfl (by decide) rfl rfl ?_)
  rw [List.nil_append]
  refine L_at2 (pc := 4) (st := [.ref 0]) ?_
  refine L_pure (pc := 4) (pc' := 5) (ls' := [(0, .ref 2000), (1, .ref 0)]) (st' := []) (show z_pt 155 4 = some (10, .astore_n 1, []) by decide +kernel) rfl (fun _ _ _ => rfl) ?_
  refine L_pure (pc := 5) (pc' := 6) (st' := [.ref 2000]) (show z_pt 155 5 = some (10, .aload_n 0, []) by decide +kernel) rfl (fun _ _ _ => rfl) ?_
  refine Lw_up (E := 200 + 1600) (S := 6200 + 37600) (by decide) (by decide) (L_build (b := 241) hL (show z_pt 155 6 = some (10, .invokestatic 160, [1, 152, 1, 5109, 5110, 0, 1000, 5111]) by decide +kernel) rfl hB sb_len (by decide) rfl rfl ?_)
  refine L_at2 (pc := 9) (st := [.ref 241]) ?_
  refine L_pure (pc := 9) (pc' := 10) (ls' := [(0, .ref 2000), (1, .ref 0), (2, .ref 241)]) (st' := []) (show z_pt 155 9 = some (10, .astore_n 2, []) by decide +kernel) rfl (fun _ _ _ => rfl) ?_
  refine Lw_up (E := 1400 + 200) (S := 36400 + 1200) (by decide) (by decide) ?_
  rw [show sb 0 μ ++ sb 241 μ = sb 0 μ ++ (sb 241 μ ++ []) by rw [List.append_nil]]
  refine pW_xy_run (E := 1400) (S := 36400) hxy ?_
  refine Lw_up (E := 1400 + 0) (S := 36400 + 0) (by omega) (by omega) (pW_mid_run hL fun c => ?_)
  obtain ⟨mz, hz⟩ := hz c
  obtain ⟨mw, hw⟩ := hw c
  generalize pW_n c = n at hz ⊢
  generalize pW_d c = d at hw ⊢
  generalize r.1 = gs at he ⊢
  generalize r.2.1 = nw at he ⊢
  generalize r.2.2.1 = x at he ⊢
  generalize r.2.2.2 = y
  refine Lw_up (E := 1400) (S := 5000 + 31400) (by decide) (by decide) (L_new (b := 482) (show z_pt 155 359 = some (10, .new 18, [9, 10, 1027, 1028, 1001]) by decide +kernel) (show z_pt 155 362 = some (10, .dup, []) by decide +kernel) (show z_pt 155 363 = some (10, .invokespecial 23, [3, 74, 0, 1029, 1030, 0, 1001, 1031]) by decide +kernel) (by simp only [List.length_append, sb_len, List.length_nil]) (by decide) rfl rfl ?_)
  rw [show (sb 0 x ++ (sb 241 y ++ [])) ++ sb 482 z_mu0 = sb 0 x ++ (sb 241 y ++ (sb 482 z_mu0 ++ [])) by simp only [List.append_assoc, List.append_nil, List.nil_append]]
  refine L_at2 (pc := 366) (st := [.ref 482]) ?_
  refine L_pure (pc := 366) (pc' := 368) (ls' := [(0, .ref 2000), (1, .ref 0), (2, .ref 241), (3, .int gs), (4, .int nw), (5, .int c), (6, .int n), (7, .int d), (8, .ref 482)]) (st' := []) (show z_pt 155 366 = some (10, .astore 8, []) by decide +kernel) rfl (fun _ _ _ => rfl) ?_
  refine Lw_up (E := 1300 + 100) (S := 30800 + 600) (by decide) (by decide) (pW_z_run (E := 1300) (S := 30800) hz ?_)
  refine Lw_up (E := 1300) (S := 5000 + 25800) (by omega) (by omega) (L_new (b := 723) (show z_pt 155 901 = some (10, .new 18, [9, 10, 1027, 1028, 1001]) by decide +kernel) (show z_pt 155 904 = some (10, .dup, []) by decide +kernel) (show z_pt 155 905 = some (10, .invokespecial 23, [3, 74, 0, 1029, 1030, 0, 1001, 1031]) by decide +kernel) (by simp only [List.length_append, sb_len, List.length_nil]) (by decide) rfl rfl ?_)
  rw [show (sb 0 x ++ (sb 241 y ++ (sb 482 mz ++ []))) ++ sb 723 z_mu0 = sb 0 x ++ (sb 241 y ++ (sb 482 mz ++ (sb 723 z_mu0 ++ []))) by simp only [List.append_assoc, List.append_nil, List.nil_append]]
  refine L_at2 (pc := 908) (st := [.ref 723]) ?_
  refine L_pure (pc := 908) (pc' := 910) (ls' := [(0, .ref 2000), (1, .ref 0), (2, .ref 241), (3, .int gs), (4, .int nw), (5, .int c), (6, .int n), (7, .int d), (8, .ref 482), (9, .ref 723)]) (st' := []) (show z_pt 155 908 = some (10, .astore 9, []) by decide +kernel) rfl (fun _ _ _ => rfl) ?_
  refine Lw_up (E := 1200 + 100) (S := 25200 + 600) (by decide) (by decide) (pW_w_run (E := 1200) (S := 25200) hw ?_)
  exact Lw_up (E := 1100 + 100) (S := 24600 + 600) (by omega) (by omega) (pW_e_run he)
end ZWALK
