section ZP11
def pm_parsesCommand  (μ : z_Mem) (i1 : Int32) : Option z_Mem := (pm_here μ).bind fun q1 => if z_inb i1 240 = true then if q1 = 103 then (pm_needsThree (z_u (z_u μ 241 15 ((μ 241 15) + 1)) 250 i1.toNatClampNeg q1) 101 97 114).bind fun q5 => (pm_digitsAfter q5 32 2).bind fun q7 => if z_inb (i1 + 1) 240 = true then some (z_u q7.2 250 (i1 + 1).toNatClampNeg q7.1) else none else if q1 = 104 then (pm_needsThree (z_u (z_u μ 241 15 ((μ 241 15) + 1)) 250 i1.toNatClampNeg q1) 111 117 114).bind fun q11 => (pm_digitsAfter q11 32 2).bind fun q13 => if z_inb (i1 + 1) 240 = true then some (z_u q13.2 250 (i1 + 1).toNatClampNeg q13.1) else none else if q1 = 109 then (pm_needsThree (z_u (z_u μ 241 15 ((μ 241 15) + 1)) 250 i1.toNatClampNeg q1) 101 115 104).bind fun q17 => (pm_digitsAfter q17 32 1).bind fun q19 => if z_inb (i1 + 1) 240 = true then (pm_digitsAfter (z_u q19.2 250 (i1 + 1).toNatClampNeg q19.1) 45 1).bind fun q22 => if z_inb (i1 + 2) 240 = true then (pm_digitsAfter (z_u q22.2 250 (i1 + 2).toNatClampNeg q22.1) 47 1).bind fun q25 => if z_inb (i1 + 3) 240 = true then some (z_u q25.2 250 (i1 + 3).toNatClampNeg q25.1) else none else none else none else if q1 = 110 then (pm_parsesNote (z_u (z_u μ 241 15 ((μ 241 15) + 1)) 250 i1.toNatClampNeg q1) i1).bind fun q29 => some q29 else if q1 = 116 then (pm_parsesTurn (z_u (z_u μ 241 15 ((μ 241 15) + 1)) 250 i1.toNatClampNeg q1) i1).bind fun q32 => some q32 else if q1 = 119 then (pm_needsThree (z_u (z_u μ 241 15 ((μ 241 15) + 1)) 250 i1.toNatClampNeg q1) 104 101 101).bind fun q35 => (pm_needs q35 108).bind fun q37 => (pm_digitsAfter q37 32 1).bind fun q39 => if z_inb (i1 + 1) 240 = true then (pm_digitsAfter (z_u q39.2 250 (i1 + 1).toNatClampNeg q39.1) 42 2).bind fun q42 => if z_inb (i1 + 2) 240 = true then some (z_u q42.2 250 (i1 + 2).toNatClampNeg q42.1) else none else none else some (z_u (z_u (z_u (z_u μ 241 15 ((μ 241 15) + 1)) 250 i1.toNatClampNeg q1) 241 16 1) 241 15 (((z_u (z_u (z_u μ 241 15 ((μ 241 15) + 1)) 250 i1.toNatClampNeg q1) 241 16 1) 241 15) - 1)) else none
theorem pm_parsesCommand_run  {μ : z_Mem} {i1 : Int32}  {r : z_Mem} (h : pm_parsesCommand μ i1 = some r) : Rn 4 265 0 [(0, .ref 241), (1, .int i1)] [] μ (.inl none) r := by
  unfold pm_parsesCommand at h
  refine R_pure (pc := 0) (pc' := 1) (st' := [.ref 241]) (show z_pt 265 0 = some (3, .aload_n 0, []) by decide +kernel) rfl (fun _ _ _ => rfl) ?_
  obtain ⟨q1, e2, h⟩ := z_bs h
  refine R_call (pc := 1) (rr := []) (show z_pt 265 1 = some (3, .invokevirtual 233, [0, 258, 0, 8093, 8095, 75, 1012, 8096]) by decide +kernel) rfl (show z_r2 258 = some (10, 1, true) by decide +kernel) rfl rfl (Or.inr ⟨_, _, rfl, (by decide +kernel)⟩) (pm_here_run  e2) (by omega) ?_
  refine R_at2 (pc := 4) (st := [.int q1]) ?_
  refine R_pure (pc := 4) (pc' := 5) (ls' := [(0, .ref 241), (1, .int i1), (2, .int q1)]) (st' := []) (show z_pt 265 4 = some (3, .istore_n 2, []) by decide +kernel) rfl (fun _ _ _ => rfl) ?_
  refine R_pure (pc := 5) (pc' := 6) (st' := [.ref 241]) (show z_pt 265 5 = some (3, .aload_n 0, []) by decide +kernel) rfl (fun _ _ _ => rfl) ?_
  refine R_pure (pc := 6) (pc' := 7) (st' := [.ref 241, .ref 241]) (show z_pt 265 6 = some (3, .dup, []) by decide +kernel) rfl (fun _ _ _ => rfl) ?_
  refine R_getI (pc := 7) (a := 241) (show z_pt 265 7 = some (3, .getfield 226, [10, 15, 6133]) by decide +kernel) (by decide +kernel) ?_
  refine R_at (pc := 10) ?_
  refine R_const (pc := 10) (pc' := 11) (v := 1) (show z_ptc 265 10 = some (11, 1) by decide +kernel) ?_
  refine R_pure (pc := 11) (pc' := 12) (st' := [.int ((μ 241 15) + 1), .ref 241]) (show z_pt 265 11 = some (3, .iadd, []) by decide +kernel) rfl (fun _ _ _ => rfl) ?_
  refine R_putI (pc := 12) (a := 241) (show z_pt 265 12 = some (3, .putfield 226, [10, 15, 6133]) by decide +kernel) (by decide +kernel) ⟨rfl, rfl⟩ ?_
  refine R_at (pc := 15) ?_
  refine R_pure (pc := 15) (pc' := 16) (st' := [.ref 241]) (show z_pt 265 15 = some (3, .aload_n 0, []) by decide +kernel) rfl (fun _ _ _ => rfl) ?_
  refine R_getR (pc := 16) (a := 241) (b := 250) (show z_pt 265 16 = some (3, .getfield 42, [10, 17, 6135]) by decide +kernel) (by decide +kernel) ?_
  refine R_at (pc := 19) ?_
  refine R_pure (pc := 19) (pc' := 20) (st' := [.int i1, .ref 250]) (show z_pt 265 19 = some (3, .iload_n 1, []) by decide +kernel) rfl (fun _ _ _ => rfl) ?_
  refine R_pure (pc := 20) (pc' := 21) (st' := [.int q1, .int i1, .ref 250]) (show z_pt 265 20 = some (3, .iload_n 2, []) by decide +kernel) rfl (fun _ _ _ => rfl) ?_
  obtain ⟨g3, h⟩ := z_ig h
  refine R_iast (pc := 21) (a := 250) (n := 240) (show z_pt 265 21 = some (3, .iastore, []) by decide +kernel) (show z_ar 250 0 240 = true by decide +kernel) g3 ?_
  refine R_at (pc := 22) ?_
  refine R_pure (pc := 22) (pc' := 23) (st' := [.int q1]) (show z_pt 265 22 = some (3, .iload_n 2, []) by decide +kernel) rfl (fun _ _ _ => rfl) ?_
  by_cases c4 : q1 = 103
  · rw [if_pos c4] at h
    refine R_sw (pc := 23) (t := 104) (v := 103) (show z_pt 265 23 = some (3, .tableswitch 260 103 119 #[81, 232, 260, 260, 260, 260, 109, 224, 260, 260, 260, 260, 260, 167, 260, 260, 175], []) by decide +kernel) c4 (show z_swt 265 23 103 = some 104 by decide +kernel) ?_
    refine R_pure (pc := 104) (pc' := 105) (st' := [.ref 241]) (show z_pt 265 104 = some (3, .aload_n 0, []) by decide +kernel) rfl (fun _ _ _ => rfl) ?_
    refine R_const (pc := 105) (pc' := 107) (v := 101) (show z_ptc 265 105 = some (107, 101) by decide +kernel) ?_
    refine R_const (pc := 107) (pc' := 109) (v := 97) (show z_ptc 265 107 = some (109, 97) by decide +kernel) ?_
    refine R_const (pc := 109) (pc' := 111) (v := 114) (show z_ptc 265 109 = some (111, 114) by decide +kernel) ?_
    obtain ⟨q5, e6, h⟩ := z_bs h
    refine R_call (pc := 111) (rr := []) (show z_pt 265 111 = some (3, .invokevirtual 242, [0, 260, 3, 8097, 8099, 76, 1012, 8100]) by decide +kernel) rfl (show z_r2 260 = some (10, 4, true) by decide +kernel) rfl rfl (Or.inr ⟨_, _, rfl, (by decide +kernel)⟩) (pm_needsThree_run  e6) (by omega) ?_
    refine R_at2 (pc := 114) (st := []) ?_
    refine R_pure (pc := 114) (pc' := 115) (st' := [.ref 241]) (show z_pt 265 114 = some (3, .aload_n 0, []) by decide +kernel) rfl (fun _ _ _ => rfl) ?_
    refine R_getR (pc := 115) (a := 241) (b := 250) (show z_pt 265 115 = some (3, .getfield 42, [10, 17, 6135]) by decide +kernel) (by decide +kernel) ?_
    refine R_at (pc := 118) ?_
    refine R_pure (pc := 118) (pc' := 119) (st' := [.int i1, .ref 250]) (show z_pt 265 118 = some (3, .iload_n 1, []) by decide +kernel) rfl (fun _ _ _ => rfl) ?_
    refine R_const (pc := 119) (pc' := 120) (v := 1) (show z_ptc 265 119 = some (120, 1) by decide +kernel) ?_
    refine R_pure (pc := 120) (pc' := 121) (st' := [.int (i1 + 1), .ref 250]) (show z_pt 265 120 = some (3, .iadd, []) by decide +kernel) rfl (fun _ _ _ => rfl) ?_
    refine R_pure (pc := 121) (pc' := 122) (st' := [.ref 241, .int (i1 + 1), .ref 250]) (show z_pt 265 121 = some (3, .aload_n 0, []) by decide +kernel) rfl (fun _ _ _ => rfl) ?_
    refine R_const (pc := 122) (pc' := 124) (v := 32) (show z_ptc 265 122 = some (124, 32) by decide +kernel) ?_
    refine R_const (pc := 124) (pc' := 125) (v := 2) (show z_ptc 265 124 = some (125, 2) by decide +kernel) ?_
    obtain ⟨q7, e8, h⟩ := z_bs h
    refine R_call (pc := 125) (rr := [.int (i1 + 1), .ref 250]) (show z_pt 265 125 = some (3, .invokevirtual 246, [0, 262, 2, 8105, 8107, 78, 1012, 8108]) by decide +kernel) rfl (show z_r2 262 = some (10, 3, true) by decide +kernel) rfl rfl (Or.inr ⟨_, _, rfl, (by decide +kernel)⟩) (pm_digitsAfter_run  e8) (by omega) ?_
    refine R_at2 (pc := 128) (st := [.int q7.1, .int (i1 + 1), .ref 250]) ?_
    obtain ⟨g9, h⟩ := z_ig h
    refine R_iast (pc := 128) (a := 250) (n := 240) (show z_pt 265 128 = some (3, .iastore, []) by decide +kernel) (show z_ar 250 0 240 = true by decide +kernel) g9 ?_
    refine R_at (pc := 129) ?_
    refine R_pure (pc := 129) (pc' := 298) (show z_pt 265 129 = some (3, .goto 169, []) by decide +kernel) rfl (fun _ _ _ => rfl) ?_
    cases h
    exact R_retV (show z_pt 265 298 = some (3, .return_, []) by decide +kernel) (by decide +kernel)
  rw [if_neg c4] at h
  by_cases c10 : q1 = 104
  · rw [if_pos c10] at h
    refine R_sw (pc := 23) (t := 255) (v := 104) (show z_pt 265 23 = some (3, .tableswitch 260 103 119 #[81, 232, 260, 260, 260, 260, 109, 224, 260, 260, 260, 260, 260, 167, 260, 260, 175], []) by decide +kernel) c10 (show z_swt 265 23 104 = some 255 by decide +kernel) ?_
    refine R_pure (pc := 255) (pc' := 256) (st' := [.ref 241]) (show z_pt 265 255 = some (3, .aload_n 0, []) by decide +kernel) rfl (fun _ _ _ => rfl) ?_
    refine R_const (pc := 256) (pc' := 258) (v := 111) (show z_ptc 265 256 = some (258, 111) by decide +kernel) ?_
    refine R_const (pc := 258) (pc' := 260) (v := 117) (show z_ptc 265 258 = some (260, 117) by decide +kernel) ?_
    refine R_const (pc := 260) (pc' := 262) (v := 114) (show z_ptc 265 260 = some (262, 114) by decide +kernel) ?_
    obtain ⟨q11, e12, h⟩ := z_bs h
    refine R_call (pc := 262) (rr := []) (show z_pt 265 262 = some (3, .invokevirtual 242, [0, 260, 3, 8097, 8099, 76, 1012, 8100]) by decide +kernel) rfl (show z_r2 260 = some (10, 4, true) by decide +kernel) rfl rfl (Or.inr ⟨_, _, rfl, (by decide +kernel)⟩) (pm_needsThree_run  e12) (by omega) ?_
    refine R_at2 (pc := 265) (st := []) ?_
    refine R_pure (pc := 265) (pc' := 266) (st' := [.ref 241]) (show z_pt 265 265 = some (3, .aload_n 0, []) by decide +kernel) rfl (fun _ _ _ => rfl) ?_
    refine R_getR (pc := 266) (a := 241) (b := 250) (show z_pt 265 266 = some (3, .getfield 42, [10, 17, 6135]) by decide +kernel) (by decide +kernel) ?_
    refine R_at (pc := 269) ?_
    refine R_pure (pc := 269) (pc' := 270) (st' := [.int i1, .ref 250]) (show z_pt 265 269 = some (3, .iload_n 1, []) by decide +kernel) rfl (fun _ _ _ => rfl) ?_
    refine R_const (pc := 270) (pc' := 271) (v := 1) (show z_ptc 265 270 = some (271, 1) by decide +kernel) ?_
    refine R_pure (pc := 271) (pc' := 272) (st' := [.int (i1 + 1), .ref 250]) (show z_pt 265 271 = some (3, .iadd, []) by decide +kernel) rfl (fun _ _ _ => rfl) ?_
    refine R_pure (pc := 272) (pc' := 273) (st' := [.ref 241, .int (i1 + 1), .ref 250]) (show z_pt 265 272 = some (3, .aload_n 0, []) by decide +kernel) rfl (fun _ _ _ => rfl) ?_
    refine R_const (pc := 273) (pc' := 275) (v := 32) (show z_ptc 265 273 = some (275, 32) by decide +kernel) ?_
    refine R_const (pc := 275) (pc' := 276) (v := 2) (show z_ptc 265 275 = some (276, 2) by decide +kernel) ?_
    obtain ⟨q13, e14, h⟩ := z_bs h
    refine R_call (pc := 276) (rr := [.int (i1 + 1), .ref 250]) (show z_pt 265 276 = some (3, .invokevirtual 246, [0, 262, 2, 8105, 8107, 78, 1012, 8108]) by decide +kernel) rfl (show z_r2 262 = some (10, 3, true) by decide +kernel) rfl rfl (Or.inr ⟨_, _, rfl, (by decide +kernel)⟩) (pm_digitsAfter_run  e14) (by omega) ?_
    refine R_at2 (pc := 279) (st := [.int q13.1, .int (i1 + 1), .ref 250]) ?_
    obtain ⟨g15, h⟩ := z_ig h
    refine R_iast (pc := 279) (a := 250) (n := 240) (show z_pt 265 279 = some (3, .iastore, []) by decide +kernel) (show z_ar 250 0 240 = true by decide +kernel) g15 ?_
    refine R_at (pc := 280) ?_
    refine R_pure (pc := 280) (pc' := 298) (show z_pt 265 280 = some (3, .goto 18, []) by decide +kernel) rfl (fun _ _ _ => rfl) ?_
    cases h
    exact R_retV (show z_pt 265 298 = some (3, .return_, []) by decide +kernel) (by decide +kernel)
  rw [if_neg c10] at h
  by_cases c16 : q1 = 109
  · rw [if_pos c16] at h
    refine R_sw (pc := 23) (t := 132) (v := 109) (show z_pt 265 23 = some (3, .tableswitch 260 103 119 #[81, 232, 260, 260, 260, 260, 109, 224, 260, 260, 260, 260, 260, 167, 260, 260, 175], []) by decide +kernel) c16 (show z_swt 265 23 109 = some 132 by decide +kernel) ?_
    refine R_pure (pc := 132) (pc' := 133) (st' := [.ref 241]) (show z_pt 265 132 = some (3, .aload_n 0, []) by decide +kernel) rfl (fun _ _ _ => rfl) ?_
    refine R_const (pc := 133) (pc' := 135) (v := 101) (show z_ptc 265 133 = some (135, 101) by decide +kernel) ?_
    refine R_const (pc := 135) (pc' := 137) (v := 115) (show z_ptc 265 135 = some (137, 115) by decide +kernel) ?_
    refine R_const (pc := 137) (pc' := 139) (v := 104) (show z_ptc 265 137 = some (139, 104) by decide +kernel) ?_
    obtain ⟨q17, e18, h⟩ := z_bs h
    refine R_call (pc := 139) (rr := []) (show z_pt 265 139 = some (3, .invokevirtual 242, [0, 260, 3, 8097, 8099, 76, 1012, 8100]) by decide +kernel) rfl (show z_r2 260 = some (10, 4, true) by decide +kernel) rfl rfl (Or.inr ⟨_, _, rfl, (by decide +kernel)⟩) (pm_needsThree_run  e18) (by omega) ?_
    refine R_at2 (pc := 142) (st := []) ?_
    refine R_pure (pc := 142) (pc' := 143) (st' := [.ref 241]) (show z_pt 265 142 = some (3, .aload_n 0, []) by decide +kernel) rfl (fun _ _ _ => rfl) ?_
    refine R_getR (pc := 143) (a := 241) (b := 250) (show z_pt 265 143 = some (3, .getfield 42, [10, 17, 6135]) by decide +kernel) (by decide +kernel) ?_
    refine R_at (pc := 146) ?_
    refine R_pure (pc := 146) (pc' := 147) (st' := [.int i1, .ref 250]) (show z_pt 265 146 = some (3, .iload_n 1, []) by decide +kernel) rfl (fun _ _ _ => rfl) ?_
    refine R_const (pc := 147) (pc' := 148) (v := 1) (show z_ptc 265 147 = some (148, 1) by decide +kernel) ?_
    refine R_pure (pc := 148) (pc' := 149) (st' := [.int (i1 + 1), .ref 250]) (show z_pt 265 148 = some (3, .iadd, []) by decide +kernel) rfl (fun _ _ _ => rfl) ?_
    refine R_pure (pc := 149) (pc' := 150) (st' := [.ref 241, .int (i1 + 1), .ref 250]) (show z_pt 265 149 = some (3, .aload_n 0, []) by decide +kernel) rfl (fun _ _ _ => rfl) ?_
    refine R_const (pc := 150) (pc' := 152) (v := 32) (show z_ptc 265 150 = some (152, 32) by decide +kernel) ?_
    refine R_const (pc := 152) (pc' := 153) (v := 1) (show z_ptc 265 152 = some (153, 1) by decide +kernel) ?_
    obtain ⟨q19, e20, h⟩ := z_bs h
    refine R_call (pc := 153) (rr := [.int (i1 + 1), .ref 250]) (show z_pt 265 153 = some (3, .invokevirtual 246, [0, 262, 2, 8105, 8107, 78, 1012, 8108]) by decide +kernel) rfl (show z_r2 262 = some (10, 3, true) by decide +kernel) rfl rfl (Or.inr ⟨_, _, rfl, (by decide +kernel)⟩) (pm_digitsAfter_run  e20) (by omega) ?_
    refine R_at2 (pc := 156) (st := [.int q19.1, .int (i1 + 1), .ref 250]) ?_
    obtain ⟨g21, h⟩ := z_ig h
    refine R_iast (pc := 156) (a := 250) (n := 240) (show z_pt 265 156 = some (3, .iastore, []) by decide +kernel) (show z_ar 250 0 240 = true by decide +kernel) g21 ?_
    refine R_at (pc := 157) ?_
    refine R_pure (pc := 157) (pc' := 158) (st' := [.ref 241]) (show z_pt 265 157 = some (3, .aload_n 0, []) by decide +kernel) rfl (fun _ _ _ => rfl) ?_
    refine R_getR (pc := 158) (a := 241) (b := 250) (show z_pt 265 158 = some (3, .getfield 42, [10, 17, 6135]) by decide +kernel) (by decide +kernel) ?_
    refine R_at (pc := 161) ?_
    refine R_pure (pc := 161) (pc' := 162) (st' := [.int i1, .ref 250]) (show z_pt 265 161 = some (3, .iload_n 1, []) by decide +kernel) rfl (fun _ _ _ => rfl) ?_
    refine R_const (pc := 162) (pc' := 163) (v := 2) (show z_ptc 265 162 = some (163, 2) by decide +kernel) ?_
    refine R_pure (pc := 163) (pc' := 164) (st' := [.int (i1 + 2), .ref 250]) (show z_pt 265 163 = some (3, .iadd, []) by decide +kernel) rfl (fun _ _ _ => rfl) ?_
    refine R_pure (pc := 164) (pc' := 165) (st' := [.ref 241, .int (i1 + 2), .ref 250]) (show z_pt 265 164 = some (3, .aload_n 0, []) by decide +kernel) rfl (fun _ _ _ => rfl) ?_
    refine R_const (pc := 165) (pc' := 167) (v := 45) (show z_ptc 265 165 = some (167, 45) by decide +kernel) ?_
    refine R_const (pc := 167) (pc' := 168) (v := 1) (show z_ptc 265 167 = some (168, 1) by decide +kernel) ?_
    obtain ⟨q22, e23, h⟩ := z_bs h
    refine R_call (pc := 168) (rr := [.int (i1 + 2), .ref 250]) (show z_pt 265 168 = some (3, .invokevirtual 246, [0, 262, 2, 8105, 8107, 78, 1012, 8108]) by decide +kernel) rfl (show z_r2 262 = some (10, 3, true) by decide +kernel) rfl rfl (Or.inr ⟨_, _, rfl, (by decide +kernel)⟩) (pm_digitsAfter_run  e23) (by omega) ?_
    refine R_at2 (pc := 171) (st := [.int q22.1, .int (i1 + 2), .ref 250]) ?_
    obtain ⟨g24, h⟩ := z_ig h
    refine R_iast (pc := 171) (a := 250) (n := 240) (show z_pt 265 171 = some (3, .iastore, []) by decide +kernel) (show z_ar 250 0 240 = true by decide +kernel) g24 ?_
    refine R_at (pc := 172) ?_
    refine R_pure (pc := 172) (pc' := 173) (st' := [.ref 241]) (show z_pt 265 172 = some (3, .aload_n 0, []) by decide +kernel) rfl (fun _ _ _ => rfl) ?_
    refine R_getR (pc := 173) (a := 241) (b := 250) (show z_pt 265 173 = some (3, .getfield 42, [10, 17, 6135]) by decide +kernel) (by decide +kernel) ?_
    refine R_at (pc := 176) ?_
    refine R_pure (pc := 176) (pc' := 177) (st' := [.int i1, .ref 250]) (show z_pt 265 176 = some (3, .iload_n 1, []) by decide +kernel) rfl (fun _ _ _ => rfl) ?_
    refine R_const (pc := 177) (pc' := 178) (v := 3) (show z_ptc 265 177 = some (178, 3) by decide +kernel) ?_
    refine R_pure (pc := 178) (pc' := 179) (st' := [.int (i1 + 3), .ref 250]) (show z_pt 265 178 = some (3, .iadd, []) by decide +kernel) rfl (fun _ _ _ => rfl) ?_
    refine R_pure (pc := 179) (pc' := 180) (st' := [.ref 241, .int (i1 + 3), .ref 250]) (show z_pt 265 179 = some (3, .aload_n 0, []) by decide +kernel) rfl (fun _ _ _ => rfl) ?_
    refine R_const (pc := 180) (pc' := 182) (v := 47) (show z_ptc 265 180 = some (182, 47) by decide +kernel) ?_
    refine R_const (pc := 182) (pc' := 183) (v := 1) (show z_ptc 265 182 = some (183, 1) by decide +kernel) ?_
    obtain ⟨q25, e26, h⟩ := z_bs h
    refine R_call (pc := 183) (rr := [.int (i1 + 3), .ref 250]) (show z_pt 265 183 = some (3, .invokevirtual 246, [0, 262, 2, 8105, 8107, 78, 1012, 8108]) by decide +kernel) rfl (show z_r2 262 = some (10, 3, true) by decide +kernel) rfl rfl (Or.inr ⟨_, _, rfl, (by decide +kernel)⟩) (pm_digitsAfter_run  e26) (by omega) ?_
    refine R_at2 (pc := 186) (st := [.int q25.1, .int (i1 + 3), .ref 250]) ?_
    obtain ⟨g27, h⟩ := z_ig h
    refine R_iast (pc := 186) (a := 250) (n := 240) (show z_pt 265 186 = some (3, .iastore, []) by decide +kernel) (show z_ar 250 0 240 = true by decide +kernel) g27 ?_
    refine R_at (pc := 187) ?_
    refine R_pure (pc := 187) (pc' := 298) (show z_pt 265 187 = some (3, .goto 111, []) by decide +kernel) rfl (fun _ _ _ => rfl) ?_
    cases h
    exact R_retV (show z_pt 265 298 = some (3, .return_, []) by decide +kernel) (by decide +kernel)
  rw [if_neg c16] at h
  by_cases c28 : q1 = 110
  · rw [if_pos c28] at h
    refine R_sw (pc := 23) (t := 247) (v := 110) (show z_pt 265 23 = some (3, .tableswitch 260 103 119 #[81, 232, 260, 260, 260, 260, 109, 224, 260, 260, 260, 260, 260, 167, 260, 260, 175], []) by decide +kernel) c28 (show z_swt 265 23 110 = some 247 by decide +kernel) ?_
    refine R_pure (pc := 247) (pc' := 248) (st' := [.ref 241]) (show z_pt 265 247 = some (3, .aload_n 0, []) by decide +kernel) rfl (fun _ _ _ => rfl) ?_
    refine R_pure (pc := 248) (pc' := 249) (st' := [.int i1, .ref 241]) (show z_pt 265 248 = some (3, .iload_n 1, []) by decide +kernel) rfl (fun _ _ _ => rfl) ?_
    obtain ⟨q29, e30, h⟩ := z_bs h
    refine R_call (pc := 249) (rr := []) (show z_pt 265 249 = some (3, .invokevirtual 252, [0, 264, 1, 8117, 8119, 81, 1012, 8120]) by decide +kernel) rfl (show z_r2 264 = some (10, 2, true) by decide +kernel) rfl rfl (Or.inr ⟨_, _, rfl, (by decide +kernel)⟩) (pm_parsesNote_run  e30) (by omega) ?_
    refine R_at2 (pc := 252) (st := []) ?_
    refine R_pure (pc := 252) (pc' := 298) (show z_pt 265 252 = some (3, .goto 46, []) by decide +kernel) rfl (fun _ _ _ => rfl) ?_
    cases h
    exact R_retV (show z_pt 265 298 = some (3, .return_, []) by decide +kernel) (by decide +kernel)
  rw [if_neg c28] at h
  by_cases c31 : q1 = 116
  · rw [if_pos c31] at h
    refine R_sw (pc := 23) (t := 190) (v := 116) (show z_pt 265 23 = some (3, .tableswitch 260 103 119 #[81, 232, 260, 260, 260, 260, 109, 224, 260, 260, 260, 260, 260, 167, 260, 260, 175], []) by decide +kernel) c31 (show z_swt 265 23 116 = some 190 by decide +kernel) ?_
    refine R_pure (pc := 190) (pc' := 191) (st' := [.ref 241]) (show z_pt 265 190 = some (3, .aload_n 0, []) by decide +kernel) rfl (fun _ _ _ => rfl) ?_
    refine R_pure (pc := 191) (pc' := 192) (st' := [.int i1, .ref 241]) (show z_pt 265 191 = some (3, .iload_n 1, []) by decide +kernel) rfl (fun _ _ _ => rfl) ?_
    obtain ⟨q32, e33, h⟩ := z_bs h
    refine R_call (pc := 192) (rr := []) (show z_pt 265 192 = some (3, .invokevirtual 249, [0, 263, 1, 8113, 8115, 80, 1012, 8116]) by decide +kernel) rfl (show z_r2 263 = some (10, 4, true) by decide +kernel) rfl rfl (Or.inr ⟨_, _, rfl, (by decide +kernel)⟩) (pm_parsesTurn_run  e33) (by omega) ?_
    refine R_at2 (pc := 195) (st := []) ?_
    refine R_pure (pc := 195) (pc' := 298) (show z_pt 265 195 = some (3, .goto 103, []) by decide +kernel) rfl (fun _ _ _ => rfl) ?_
    cases h
    exact R_retV (show z_pt 265 298 = some (3, .return_, []) by decide +kernel) (by decide +kernel)
  rw [if_neg c31] at h
  by_cases c34 : q1 = 119
  · rw [if_pos c34] at h
    refine R_sw (pc := 23) (t := 198) (v := 119) (show z_pt 265 23 = some (3, .tableswitch 260 103 119 #[81, 232, 260, 260, 260, 260, 109, 224, 260, 260, 260, 260, 260, 167, 260, 260, 175], []) by decide +kernel) c34 (show z_swt 265 23 119 = some 198 by decide +kernel) ?_
    refine R_pure (pc := 198) (pc' := 199) (st' := [.ref 241]) (show z_pt 265 198 = some (3, .aload_n 0, []) by decide +kernel) rfl (fun _ _ _ => rfl) ?_
    refine R_const (pc := 199) (pc' := 201) (v := 104) (show z_ptc 265 199 = some (201, 104) by decide +kernel) ?_
    refine R_const (pc := 201) (pc' := 203) (v := 101) (show z_ptc 265 201 = some (203, 101) by decide +kernel) ?_
    refine R_const (pc := 203) (pc' := 205) (v := 101) (show z_ptc 265 203 = some (205, 101) by decide +kernel) ?_
    obtain ⟨q35, e36, h⟩ := z_bs h
    refine R_call (pc := 205) (rr := []) (show z_pt 265 205 = some (3, .invokevirtual 242, [0, 260, 3, 8097, 8099, 76, 1012, 8100]) by decide +kernel) rfl (show z_r2 260 = some (10, 4, true) by decide +kernel) rfl rfl (Or.inr ⟨_, _, rfl, (by decide +kernel)⟩) (pm_needsThree_run  e36) (by omega) ?_
    refine R_at2 (pc := 208) (st := []) ?_
    refine R_pure (pc := 208) (pc' := 209) (st' := [.ref 241]) (show z_pt 265 208 = some (3, .aload_n 0, []) by decide +kernel) rfl (fun _ _ _ => rfl) ?_
    refine R_const (pc := 209) (pc' := 211) (v := 108) (show z_ptc 265 209 = some (211, 108) by decide +kernel) ?_
    obtain ⟨q37, e38, h⟩ := z_bs h
    refine R_call (pc := 211) (rr := []) (show z_pt 265 211 = some (3, .invokevirtual 236, [0, 259, 1, 8101, 8103, 77, 1012, 8104]) by decide +kernel) rfl (show z_r2 259 = some (10, 2, true) by decide +kernel) rfl rfl (Or.inr ⟨_, _, rfl, (by decide +kernel)⟩) (pm_needs_run  e38) (by omega) ?_
    refine R_at2 (pc := 214) (st := []) ?_
    refine R_pure (pc := 214) (pc' := 215) (st' := [.ref 241]) (show z_pt 265 214 = some (3, .aload_n 0, []) by decide +kernel) rfl (fun _ _ _ => rfl) ?_
    refine R_getR (pc := 215) (a := 241) (b := 250) (show z_pt 265 215 = some (3, .getfield 42, [10, 17, 6135]) by decide +kernel) (by decide +kernel) ?_
    refine R_at (pc := 218) ?_
    refine R_pure (pc := 218) (pc' := 219) (st' := [.int i1, .ref 250]) (show z_pt 265 218 = some (3, .iload_n 1, []) by decide +kernel) rfl (fun _ _ _ => rfl) ?_
    refine R_const (pc := 219) (pc' := 220) (v := 1) (show z_ptc 265 219 = some (220, 1) by decide +kernel) ?_
    refine R_pure (pc := 220) (pc' := 221) (st' := [.int (i1 + 1), .ref 250]) (show z_pt 265 220 = some (3, .iadd, []) by decide +kernel) rfl (fun _ _ _ => rfl) ?_
    refine R_pure (pc := 221) (pc' := 222) (st' := [.ref 241, .int (i1 + 1), .ref 250]) (show z_pt 265 221 = some (3, .aload_n 0, []) by decide +kernel) rfl (fun _ _ _ => rfl) ?_
    refine R_const (pc := 222) (pc' := 224) (v := 32) (show z_ptc 265 222 = some (224, 32) by decide +kernel) ?_
    refine R_const (pc := 224) (pc' := 225) (v := 1) (show z_ptc 265 224 = some (225, 1) by decide +kernel) ?_
    obtain ⟨q39, e40, h⟩ := z_bs h
    refine R_call (pc := 225) (rr := [.int (i1 + 1), .ref 250]) (show z_pt 265 225 = some (3, .invokevirtual 246, [0, 262, 2, 8105, 8107, 78, 1012, 8108]) by decide +kernel) rfl (show z_r2 262 = some (10, 3, true) by decide +kernel) rfl rfl (Or.inr ⟨_, _, rfl, (by decide +kernel)⟩) (pm_digitsAfter_run  e40) (by omega) ?_
    refine R_at2 (pc := 228) (st := [.int q39.1, .int (i1 + 1), .ref 250]) ?_
    obtain ⟨g41, h⟩ := z_ig h
    refine R_iast (pc := 228) (a := 250) (n := 240) (show z_pt 265 228 = some (3, .iastore, []) by decide +kernel) (show z_ar 250 0 240 = true by decide +kernel) g41 ?_
    refine R_at (pc := 229) ?_
    refine R_pure (pc := 229) (pc' := 230) (st' := [.ref 241]) (show z_pt 265 229 = some (3, .aload_n 0, []) by decide +kernel) rfl (fun _ _ _ => rfl) ?_
    refine R_getR (pc := 230) (a := 241) (b := 250) (show z_pt 265 230 = some (3, .getfield 42, [10, 17, 6135]) by decide +kernel) (by decide +kernel) ?_
    refine R_at (pc := 233) ?_
    refine R_pure (pc := 233) (pc' := 234) (st' := [.int i1, .ref 250]) (show z_pt 265 233 = some (3, .iload_n 1, []) by decide +kernel) rfl (fun _ _ _ => rfl) ?_
    refine R_const (pc := 234) (pc' := 235) (v := 2) (show z_ptc 265 234 = some (235, 2) by decide +kernel) ?_
    refine R_pure (pc := 235) (pc' := 236) (st' := [.int (i1 + 2), .ref 250]) (show z_pt 265 235 = some (3, .iadd, []) by decide +kernel) rfl (fun _ _ _ => rfl) ?_
    refine R_pure (pc := 236) (pc' := 237) (st' := [.ref 241, .int (i1 + 2), .ref 250]) (show z_pt 265 236 = some (3, .aload_n 0, []) by decide +kernel) rfl (fun _ _ _ => rfl) ?_
    refine R_const (pc := 237) (pc' := 239) (v := 42) (show z_ptc 265 237 = some (239, 42) by decide +kernel) ?_
    refine R_const (pc := 239) (pc' := 240) (v := 2) (show z_ptc 265 239 = some (240, 2) by decide +kernel) ?_
    obtain ⟨q42, e43, h⟩ := z_bs h
    refine R_call (pc := 240) (rr := [.int (i1 + 2), .ref 250]) (show z_pt 265 240 = some (3, .invokevirtual 246, [0, 262, 2, 8105, 8107, 78, 1012, 8108]) by decide +kernel) rfl (show z_r2 262 = some (10, 3, true) by decide +kernel) rfl rfl (Or.inr ⟨_, _, rfl, (by decide +kernel)⟩) (pm_digitsAfter_run  e43) (by omega) ?_
    refine R_at2 (pc := 243) (st := [.int q42.1, .int (i1 + 2), .ref 250]) ?_
    obtain ⟨g44, h⟩ := z_ig h
    refine R_iast (pc := 243) (a := 250) (n := 240) (show z_pt 265 243 = some (3, .iastore, []) by decide +kernel) (show z_ar 250 0 240 = true by decide +kernel) g44 ?_
    refine R_at (pc := 244) ?_
    refine R_pure (pc := 244) (pc' := 298) (show z_pt 265 244 = some (3, .goto 54, []) by decide +kernel) rfl (fun _ _ _ => rfl) ?_
    cases h
    exact R_retV (show z_pt 265 298 = some (3, .return_, []) by decide +kernel) (by decide +kernel)
  rw [if_neg c34] at h
  refine R_swd (pc := 23) (t := 283) (cs := [103, 104, 109, 110, 116, 119]) (show z_pt 265 23 = some (3, .tableswitch 260 103 119 #[81, 232, 260, 260, 260, 260, 109, 224, 260, 260, 260, 260, 260, 167, 260, 260, 175], []) by decide +kernel) (show z_swd 265 23 [103, 104, 109, 110, 116, 119] = some 283 by decide +kernel) (z_nc c4 (z_nc c10 (z_nc c16 (z_nc c28 (z_nc c31 (z_nc c34 (z_nn _))))))) ?_
  refine R_pure (pc := 283) (pc' := 284) (st' := [.ref 241]) (show z_pt 265 283 = some (3, .aload_n 0, []) by decide +kernel) rfl (fun _ _ _ => rfl) ?_
  refine R_const (pc := 284) (pc' := 285) (v := 1) (show z_ptc 265 284 = some (285, 1) by decide +kernel) ?_
  refine R_putI (pc := 285) (a := 241) (show z_pt 265 285 = some (3, .putfield 229, [10, 16, 6134]) by decide +kernel) (by decide +kernel) (by decide) ?_
  refine R_at (pc := 288) ?_
  refine R_pure (pc := 288) (pc' := 289) (st' := [.ref 241]) (show z_pt 265 288 = some (3, .aload_n 0, []) by decide +kernel) rfl (fun _ _ _ => rfl) ?_
  refine R_pure (pc := 289) (pc' := 290) (st' := [.ref 241, .ref 241]) (show z_pt 265 289 = some (3, .dup, []) by decide +kernel) rfl (fun _ _ _ => rfl) ?_
  refine R_getI (pc := 290) (a := 241) (show z_pt 265 290 = some (3, .getfield 226, [10, 15, 6133]) by decide +kernel) (by decide +kernel) ?_
  refine R_at (pc := 293) ?_
  refine R_const (pc := 293) (pc' := 294) (v := 1) (show z_ptc 265 293 = some (294, 1) by decide +kernel) ?_
  refine R_pure (pc := 294) (pc' := 295) (st' := [.int (((z_u (z_u (z_u μ 241 15 ((μ 241 15) + 1)) 250 i1.toNatClampNeg q1) 241 16 1) 241 15) - 1), .ref 241]) (show z_pt 265 294 = some (3, .isub, []) by decide +kernel) rfl (fun _ _ _ => rfl) ?_
  refine R_putI (pc := 295) (a := 241) (show z_pt 265 295 = some (3, .putfield 226, [10, 15, 6133]) by decide +kernel) (by decide +kernel) ⟨rfl, rfl⟩ ?_
  refine R_at (pc := 298) ?_
  cases h
  exact R_retV (show z_pt 265 298 = some (3, .return_, []) by decide +kernel) (by decide +kernel)
def pm_carriesOut  (μ : z_Mem) (i1 : Int32) : Option (Int32 × z_Mem) := (z_rd μ 250 240 (i1 + 1)).bind fun v1 => (z_rd μ 250 240 (i1 + 2)).bind fun v3 => (z_rd μ 250 240 i1).bind fun v5 => if v5 = 103 then (pm_addsGear μ v1).bind fun q8 => some (q8.1, q8.2) else if v5 = 109 then (z_rd μ 250 240 (i1 + 3)).bind fun v11 => (pm_joins μ v1 v3 v11).bind fun q13 => some (q13.1, q13.2) else if v5 = 110 then (pm_notes μ v1 v3).bind fun q16 => some (q16.1, q16.2) else if v5 = 116 then (pm_turns μ v1 v3).bind fun q19 => some (q19.1, q19.2) else if v5 = 119 then (pm_addsWheel μ v1 v3).bind fun q22 => some (q22.1, q22.2) else (pm_passes μ v1).bind fun q24 => some (q24.1, q24.2)
theorem pm_carriesOut_run  {μ : z_Mem} {i1 : Int32}  {r : (Int32 × z_Mem)} (h : pm_carriesOut μ i1 = some r) : Rn 5 266 0 [(0, .ref 241), (1, .int i1)] [] μ (.inl (some (.int r.1))) r.2 := by
  unfold pm_carriesOut at h
  refine R_pure (pc := 0) (pc' := 1) (st' := [.ref 241]) (show z_pt 266 0 = some (4, .aload_n 0, []) by decide +kernel) rfl (fun _ _ _ => rfl) ?_
  refine R_getR (pc := 1) (a := 241) (b := 250) (show z_pt 266 1 = some (4, .getfield 42, [10, 17, 6135]) by decide +kernel) (by decide +kernel) ?_
  refine R_at (pc := 4) ?_
  refine R_pure (pc := 4) (pc' := 5) (st' := [.int i1, .ref 250]) (show z_pt 266 4 = some (4, .iload_n 1, []) by decide +kernel) rfl (fun _ _ _ => rfl) ?_
  refine R_const (pc := 5) (pc' := 6) (v := 1) (show z_ptc 266 5 = some (6, 1) by decide +kernel) ?_
  refine R_pure (pc := 6) (pc' := 7) (st' := [.int (i1 + 1), .ref 250]) (show z_pt 266 6 = some (4, .iadd, []) by decide +kernel) rfl (fun _ _ _ => rfl) ?_
  obtain ⟨v1, e2, h⟩ := z_bs h
  refine R_ialdR (pc := 7) (a := 250) (n := 240) (show z_pt 266 7 = some (4, .iaload, []) by decide +kernel) (show z_ar 250 0 240 = true by decide +kernel) e2 ?_
  refine R_at (pc := 8) ?_
  refine R_pure (pc := 8) (pc' := 9) (ls' := [(0, .ref 241), (1, .int i1), (2, .int v1)]) (st' := []) (show z_pt 266 8 = some (4, .istore_n 2, []) by decide +kernel) rfl (fun _ _ _ => rfl) ?_
  refine R_pure (pc := 9) (pc' := 10) (st' := [.ref 241]) (show z_pt 266 9 = some (4, .aload_n 0, []) by decide +kernel) rfl (fun _ _ _ => rfl) ?_
  refine R_getR (pc := 10) (a := 241) (b := 250) (show z_pt 266 10 = some (4, .getfield 42, [10, 17, 6135]) by decide +kernel) (by decide +kernel) ?_
  refine R_at (pc := 13) ?_
  refine R_pure (pc := 13) (pc' := 14) (st' := [.int i1, .ref 250]) (show z_pt 266 13 = some (4, .iload_n 1, []) by decide +kernel) rfl (fun _ _ _ => rfl) ?_
  refine R_const (pc := 14) (pc' := 15) (v := 2) (show z_ptc 266 14 = some (15, 2) by decide +kernel) ?_
  refine R_pure (pc := 15) (pc' := 16) (st' := [.int (i1 + 2), .ref 250]) (show z_pt 266 15 = some (4, .iadd, []) by decide +kernel) rfl (fun _ _ _ => rfl) ?_
  obtain ⟨v3, e4, h⟩ := z_bs h
  refine R_ialdR (pc := 16) (a := 250) (n := 240) (show z_pt 266 16 = some (4, .iaload, []) by decide +kernel) (show z_ar 250 0 240 = true by decide +kernel) e4 ?_
  refine R_at (pc := 17) ?_
  refine R_pure (pc := 17) (pc' := 18) (ls' := [(0, .ref 241), (1, .int i1), (2, .int v1), (3, .int v3)]) (st' := []) (show z_pt 266 17 = some (4, .istore_n 3, []) by decide +kernel) rfl (fun _ _ _ => rfl) ?_
  refine R_pure (pc := 18) (pc' := 19) (st' := [.ref 241]) (show z_pt 266 18 = some (4, .aload_n 0, []) by decide +kernel) rfl (fun _ _ _ => rfl) ?_
  refine R_getR (pc := 19) (a := 241) (b := 250) (show z_pt 266 19 = some (4, .getfield 42, [10, 17, 6135]) by decide +kernel) (by decide +kernel) ?_
  refine R_at (pc := 22) ?_
  refine R_pure (pc := 22) (pc' := 23) (st' := [.int i1, .ref 250]) (show z_pt 266 22 = some (4, .iload_n 1, []) by decide +kernel) rfl (fun _ _ _ => rfl) ?_
  obtain ⟨v5, e6, h⟩ := z_bs h
  refine R_ialdR (pc := 23) (a := 250) (n := 240) (show z_pt 266 23 = some (4, .iaload, []) by decide +kernel) (show z_ar 250 0 240 = true by decide +kernel) e6 ?_
  refine R_at (pc := 24) ?_
  by_cases c7 : v5 = 103
  · rw [if_pos c7] at h
    refine R_sw (pc := 24) (t := 76) (v := 103) (show z_pt 266 24 = some (4, .lookupswitch 94 #[(103, 52), (109, 58), (110, 87), (116, 73), (119, 80)], []) by decide +kernel) c7 (show z_swt 266 24 103 = some 76 by decide +kernel) ?_
    refine R_pure (pc := 76) (pc' := 77) (st' := [.ref 241]) (show z_pt 266 76 = some (4, .aload_n 0, []) by decide +kernel) rfl (fun _ _ _ => rfl) ?_
    refine R_pure (pc := 77) (pc' := 78) (st' := [.int v1, .ref 241]) (show z_pt 266 77 = some (4, .iload_n 2, []) by decide +kernel) rfl (fun _ _ _ => rfl) ?_
    obtain ⟨q8, e9, h⟩ := z_bs h
    refine R_call (pc := 78) (rr := []) (show z_pt 266 78 = some (4, .invokevirtual 85, [0, 179, 1, 6188, 6190, 35, 1012, 6191]) by decide +kernel) rfl (show z_r2 179 = some (10, 3, true) by decide +kernel) rfl rfl (Or.inr ⟨_, _, rfl, (by decide +kernel)⟩) (pm_addsGear_run  e9) (by omega) ?_
    refine R_at2 (pc := 81) (st := [.int q8.1]) ?_
    cases h
    exact R_retI (show z_pt 266 81 = some (4, .ireturn, []) by decide +kernel) (by decide +kernel)
  rw [if_neg c7] at h
  by_cases c10 : v5 = 109
  · rw [if_pos c10] at h
    refine R_sw (pc := 24) (t := 82) (v := 109) (show z_pt 266 24 = some (4, .lookupswitch 94 #[(103, 52), (109, 58), (110, 87), (116, 73), (119, 80)], []) by decide +kernel) c10 (show z_swt 266 24 109 = some 82 by decide +kernel) ?_
    refine R_pure (pc := 82) (pc' := 83) (st' := [.ref 241]) (show z_pt 266 82 = some (4, .aload_n 0, []) by decide +kernel) rfl (fun _ _ _ => rfl) ?_
    refine R_pure (pc := 83) (pc' := 84) (st' := [.int v1, .ref 241]) (show z_pt 266 83 = some (4, .iload_n 2, []) by decide +kernel) rfl (fun _ _ _ => rfl) ?_
    refine R_pure (pc := 84) (pc' := 85) (st' := [.int v3, .int v1, .ref 241]) (show z_pt 266 84 = some (4, .iload_n 3, []) by decide +kernel) rfl (fun _ _ _ => rfl) ?_
    refine R_pure (pc := 85) (pc' := 86) (st' := [.ref 241, .int v3, .int v1, .ref 241]) (show z_pt 266 85 = some (4, .aload_n 0, []) by decide +kernel) rfl (fun _ _ _ => rfl) ?_
    refine R_getR (pc := 86) (a := 241) (b := 250) (show z_pt 266 86 = some (4, .getfield 42, [10, 17, 6135]) by decide +kernel) (by decide +kernel) ?_
    refine R_at (pc := 89) ?_
    refine R_pure (pc := 89) (pc' := 90) (st' := [.int i1, .ref 250, .int v3, .int v1, .ref 241]) (show z_pt 266 89 = some (4, .iload_n 1, []) by decide +kernel) rfl (fun _ _ _ => rfl) ?_
    refine R_const (pc := 90) (pc' := 91) (v := 3) (show z_ptc 266 90 = some (91, 3) by decide +kernel) ?_
    refine R_pure (pc := 91) (pc' := 92) (st' := [.int (i1 + 3), .ref 250, .int v3, .int v1, .ref 241]) (show z_pt 266 91 = some (4, .iadd, []) by decide +kernel) rfl (fun _ _ _ => rfl) ?_
    obtain ⟨v11, e12, h⟩ := z_bs h
    refine R_ialdR (pc := 92) (a := 250) (n := 240) (show z_pt 266 92 = some (4, .iaload, []) by decide +kernel) (show z_ar 250 0 240 = true by decide +kernel) e12 ?_
    refine R_at (pc := 93) ?_
    obtain ⟨q13, e14, h⟩ := z_bs h
    refine R_call (pc := 93) (rr := []) (show z_pt 266 93 = some (4, .invokevirtual 101, [0, 181, 3, 6211, 6213, 39, 1012, 6214]) by decide +kernel) rfl (show z_r2 181 = some (10, 4, true) by decide +kernel) rfl rfl (Or.inr ⟨_, _, rfl, (by decide +kernel)⟩) (pm_joins_run  e14) (by omega) ?_
    refine R_at2 (pc := 96) (st := [.int q13.1]) ?_
    cases h
    exact R_retI (show z_pt 266 96 = some (4, .ireturn, []) by decide +kernel) (by decide +kernel)
  rw [if_neg c10] at h
  by_cases c15 : v5 = 110
  · rw [if_pos c15] at h
    refine R_sw (pc := 24) (t := 111) (v := 110) (show z_pt 266 24 = some (4, .lookupswitch 94 #[(103, 52), (109, 58), (110, 87), (116, 73), (119, 80)], []) by decide +kernel) c15 (show z_swt 266 24 110 = some 111 by decide +kernel) ?_
    refine R_pure (pc := 111) (pc' := 112) (st' := [.ref 241]) (show z_pt 266 111 = some (4, .aload_n 0, []) by decide +kernel) rfl (fun _ _ _ => rfl) ?_
    refine R_pure (pc := 112) (pc' := 113) (st' := [.int v1, .ref 241]) (show z_pt 266 112 = some (4, .iload_n 2, []) by decide +kernel) rfl (fun _ _ _ => rfl) ?_
    refine R_pure (pc := 113) (pc' := 114) (st' := [.int v3, .int v1, .ref 241]) (show z_pt 266 113 = some (4, .iload_n 3, []) by decide +kernel) rfl (fun _ _ _ => rfl) ?_
    obtain ⟨q16, e17, h⟩ := z_bs h
    refine R_call (pc := 114) (rr := []) (show z_pt 266 114 = some (4, .invokevirtual 204, [0, 242, 2, 8017, 8019, 68, 1012, 8020]) by decide +kernel) rfl (show z_r2 242 = some (10, 6, true) by decide +kernel) rfl rfl (Or.inr ⟨_, _, rfl, (by decide +kernel)⟩) (pm_notes_run  e17) (by omega) ?_
    refine R_at2 (pc := 117) (st := [.int q16.1]) ?_
    cases h
    exact R_retI (show z_pt 266 117 = some (4, .ireturn, []) by decide +kernel) (by decide +kernel)
  rw [if_neg c15] at h
  by_cases c18 : v5 = 116
  · rw [if_pos c18] at h
    refine R_sw (pc := 24) (t := 97) (v := 116) (show z_pt 266 24 = some (4, .lookupswitch 94 #[(103, 52), (109, 58), (110, 87), (116, 73), (119, 80)], []) by decide +kernel) c18 (show z_swt 266 24 116 = some 97 by decide +kernel) ?_
    refine R_pure (pc := 97) (pc' := 98) (st' := [.ref 241]) (show z_pt 266 97 = some (4, .aload_n 0, []) by decide +kernel) rfl (fun _ _ _ => rfl) ?_
    refine R_pure (pc := 98) (pc' := 99) (st' := [.int v1, .ref 241]) (show z_pt 266 98 = some (4, .iload_n 2, []) by decide +kernel) rfl (fun _ _ _ => rfl) ?_
    refine R_pure (pc := 99) (pc' := 100) (st' := [.int v3, .int v1, .ref 241]) (show z_pt 266 99 = some (4, .iload_n 3, []) by decide +kernel) rfl (fun _ _ _ => rfl) ?_
    obtain ⟨q19, e20, h⟩ := z_bs h
    refine R_call (pc := 100) (rr := []) (show z_pt 266 100 = some (4, .invokevirtual 126, [0, 187, 2, 7018, 7020, 48, 1012, 7021]) by decide +kernel) rfl (show z_r2 187 = some (10, 3, true) by decide +kernel) rfl rfl (Or.inr ⟨_, _, rfl, (by decide +kernel)⟩) (pm_turns_run  e20) (by omega) ?_
    refine R_at2 (pc := 103) (st := [.int q19.1]) ?_
    cases h
    exact R_retI (show z_pt 266 103 = some (4, .ireturn, []) by decide +kernel) (by decide +kernel)
  rw [if_neg c18] at h
  by_cases c21 : v5 = 119
  · rw [if_pos c21] at h
    refine R_sw (pc := 24) (t := 104) (v := 119) (show z_pt 266 24 = some (4, .lookupswitch 94 #[(103, 52), (109, 58), (110, 87), (116, 73), (119, 80)], []) by decide +kernel) c21 (show z_swt 266 24 119 = some 104 by decide +kernel) ?_
    refine R_pure (pc := 104) (pc' := 105) (st' := [.ref 241]) (show z_pt 266 104 = some (4, .aload_n 0, []) by decide +kernel) rfl (fun _ _ _ => rfl) ?_
    refine R_pure (pc := 105) (pc' := 106) (st' := [.int v1, .ref 241]) (show z_pt 266 105 = some (4, .iload_n 2, []) by decide +kernel) rfl (fun _ _ _ => rfl) ?_
    refine R_pure (pc := 106) (pc' := 107) (st' := [.int v3, .int v1, .ref 241]) (show z_pt 266 106 = some (4, .iload_n 3, []) by decide +kernel) rfl (fun _ _ _ => rfl) ?_
    obtain ⟨q22, e23, h⟩ := z_bs h
    refine R_call (pc := 107) (rr := []) (show z_pt 266 107 = some (4, .invokevirtual 153, [0, 211, 2, 7134, 7136, 56, 1012, 7137]) by decide +kernel) rfl (show z_r2 211 = some (10, 4, true) by decide +kernel) rfl rfl (Or.inr ⟨_, _, rfl, (by decide +kernel)⟩) (pm_addsWheel_run  e23) (by omega) ?_
    refine R_at2 (pc := 110) (st := [.int q22.1]) ?_
    cases h
    exact R_retI (show z_pt 266 110 = some (4, .ireturn, []) by decide +kernel) (by decide +kernel)
  rw [if_neg c21] at h
  refine R_swd (pc := 24) (t := 118) (cs := [103, 109, 110, 116, 119]) (show z_pt 266 24 = some (4, .lookupswitch 94 #[(103, 52), (109, 58), (110, 87), (116, 73), (119, 80)], []) by decide +kernel) (show z_swd 266 24 [103, 109, 110, 116, 119] = some 118 by decide +kernel) (z_nc c7 (z_nc c10 (z_nc c15 (z_nc c18 (z_nc c21 (z_nn _)))))) ?_
  refine R_pure (pc := 118) (pc' := 119) (st' := [.ref 241]) (show z_pt 266 118 = some (4, .aload_n 0, []) by decide +kernel) rfl (fun _ _ _ => rfl) ?_
  refine R_pure (pc := 119) (pc' := 120) (st' := [.int v1, .ref 241]) (show z_pt 266 119 = some (4, .iload_n 2, []) by decide +kernel) rfl (fun _ _ _ => rfl) ?_
  obtain ⟨q24, e25, h⟩ := z_bs h
  refine R_call (pc := 120) (rr := []) (show z_pt 266 120 = some (4, .invokevirtual 192, [0, 235, 1, 7236, 7238, 67, 1012, 7239]) by decide +kernel) rfl (show z_r2 235 = some (10, 3, true) by decide +kernel) rfl rfl (Or.inr ⟨_, _, rfl, (by decide +kernel)⟩) (pm_passes_run  e25) (by omega) ?_
  refine R_at2 (pc := 123) (st := [.int q24.1]) ?_
  cases h
  exact R_retI (show z_pt 266 123 = some (4, .ireturn, []) by decide +kernel) (by decide +kernel)
def pm_execute_L14_B (R : z_Mem → Int32 → Int32 → Option (Int32 × z_Mem))   (K : z_Mem → Int32 → Int32 → Option (Int32 × z_Mem)) (μ : z_Mem) (a1 : Int32) (a2 : Int32) : Option (Int32 × z_Mem) := if a2 = 0 then K μ a1 a2 else (pm_parsesCommand μ (4 * a1)).bind fun q2 => if (q2 241 16) = 0 then (pm_here q2).bind fun q6 => if q6 = 59 then R (z_u q2 241 15 ((q2 241 15) + 1)) (a1 + 1) 1 else R (z_u q2 241 15 ((q2 241 15) + 0)) (a1 + 1) 0 else R (z_u q2 241 15 ((q2 241 15) + 0)) (a1 + 1) 0
def pm_execute_L14 : Nat → (z_Mem → Int32 → Int32 → Option (Int32 × z_Mem)) → z_Mem → Int32 → Int32 → Option (Int32 × z_Mem)
  | 0 => fun _ _ _ _ => none
  | n + 1 => fun K μ a1 a2 => pm_execute_L14_B (pm_execute_L14 n K) K μ a1 a2
theorem pm_execute_L14_run   (K : z_Mem → Int32 → Int32 → Option (Int32 × z_Mem))  (D : Nat) (hD : 6 ≤ D) (hK : ∀ (μ : z_Mem) (a1 a2 : Int32) (r : (Int32 × z_Mem)), K μ a1 a2 = some r → Rn D 267 71 [(0, .ref 241), (1, .int a1), (2, .int a2)] [] μ (.inl (some (.int r.1))) r.2) : ∀ (n : Nat) (μ : z_Mem) (a1 : Int32) (a2 : Int32) (r : (Int32 × z_Mem)), pm_execute_L14 n K μ a1 a2 = some r → Rn D 267 14 [(0, .ref 241), (1, .int a1), (2, .int a2)] [] μ (.inl (some (.int r.1))) r.2 := by
  intro n
  induction n with
  | zero => intro μ a1 a2 r h; cases h
  | succ n ih =>
    intro μ a1 a2 r h
    have h : pm_execute_L14_B (pm_execute_L14 n K) K μ a1 a2 = some r := h
    unfold pm_execute_L14_B at h
    refine R_pure (pc := 14) (pc' := 15) (st' := [.int a2]) (show z_pt 267 14 = some (5, .iload_n 2, []) by decide +kernel) rfl (fun _ _ _ => rfl) ?_
    refine R_ifeq (pc := 15) (t := 71) (show z_pt 267 15 = some (5, .ifCond .eq 56, []) by decide +kernel) (by decide) (fun c1 => ?_) (fun c1 => ?_)
    · rw [if_pos c1] at h
      exact hK _ _ _  _ h
    · rw [if_neg c1] at h
      refine R_pure (pc := 18) (pc' := 19) (st' := [.ref 241]) (show z_pt 267 18 = some (5, .aload_n 0, []) by decide +kernel) rfl (fun _ _ _ => rfl) ?_
      refine R_const (pc := 19) (pc' := 20) (v := 4) (show z_ptc 267 19 = some (20, 4) by decide +kernel) ?_
      refine R_pure (pc := 20) (pc' := 21) (st' := [.int a1, .int 4, .ref 241]) (show z_pt 267 20 = some (5, .iload_n 1, []) by decide +kernel) rfl (fun _ _ _ => rfl) ?_
      refine R_pure (pc := 21) (pc' := 22) (st' := [.int (4 * a1), .ref 241]) (show z_pt 267 21 = some (5, .imul, []) by decide +kernel) rfl (fun _ _ _ => rfl) ?_
      obtain ⟨q2, e3, h⟩ := z_bs h
      refine R_call (pc := 22) (rr := []) (show z_pt 267 22 = some (5, .invokevirtual 255, [0, 265, 1, 8089, 8091, 74, 1012, 8092]) by decide +kernel) rfl (show z_r2 265 = some (10, 3, true) by decide +kernel) rfl rfl (Or.inr ⟨_, _, rfl, (by decide +kernel)⟩) (pm_parsesCommand_run  e3) (by omega) ?_
      refine R_at2 (pc := 25) (st := []) ?_
      refine R_inc (pc := 25) (pc' := 28) (ls' := [(0, .ref 241), (1, .int (a1 + 1)), (2, .int a2)]) (c := 1) (show z_pt 267 25 = some (5, .iinc 1 1, []) by decide +kernel) (by decide) rfl rfl ?_
      refine R_pure (pc := 28) (pc' := 29) (st' := [.ref 241]) (show z_pt 267 28 = some (5, .aload_n 0, []) by decide +kernel) rfl (fun _ _ _ => rfl) ?_
      refine R_getI (pc := 29) (a := 241) (show z_pt 267 29 = some (5, .getfield 229, [10, 16, 6134]) by decide +kernel) (by decide +kernel) ?_
      refine R_at (pc := 32) ?_
      refine R_ifne (pc := 32) (t := 48) (show z_pt 267 32 = some (5, .ifCond .ne 16, []) by decide +kernel) (by decide) (fun c4 => ?_) (fun c4 => ?_)
      · rw [if_neg c4] at h
        refine R_const (pc := 48) (pc' := 49) (v := 0) (show z_ptc 267 48 = some (49, 0) by decide +kernel) ?_
        refine R_pure (pc := 49) (pc' := 50) (ls' := [(0, .ref 241), (1, .int (a1 + 1)), (2, .int 0)]) (st' := []) (show z_pt 267 49 = some (5, .istore_n 2, []) by decide +kernel) rfl (fun _ _ _ => rfl) ?_
        refine R_pure (pc := 50) (pc' := 51) (st' := [.ref 241]) (show z_pt 267 50 = some (5, .aload_n 0, []) by decide +kernel) rfl (fun _ _ _ => rfl) ?_
        refine R_pure (pc := 51) (pc' := 52) (st' := [.ref 241, .ref 241]) (show z_pt 267 51 = some (5, .dup, []) by decide +kernel) rfl (fun _ _ _ => rfl) ?_
        refine R_getI (pc := 52) (a := 241) (show z_pt 267 52 = some (5, .getfield 226, [10, 15, 6133]) by decide +kernel) (by decide +kernel) ?_
        refine R_at (pc := 55) ?_
        refine R_pure (pc := 55) (pc' := 56) (st' := [.int 0, .int (q2 241 15), .ref 241]) (show z_pt 267 55 = some (5, .iload_n 2, []) by decide +kernel) rfl (fun _ _ _ => rfl) ?_
        refine R_ifeq (pc := 56) (t := 63) (show z_pt 267 56 = some (5, .ifCond .eq 7, []) by decide +kernel) (by decide) (fun c5 => ?_) (fun c5 => ?_)
        · skip
          refine R_const (pc := 63) (pc' := 64) (v := 0) (show z_ptc 267 63 = some (64, 0) by decide +kernel) ?_
          refine R_pure (pc := 64) (pc' := 65) (st' := [.int ((q2 241 15) + 0), .ref 241]) (show z_pt 267 64 = some (5, .iadd, []) by decide +kernel) rfl (fun _ _ _ => rfl) ?_
          refine R_putI (pc := 65) (a := 241) (show z_pt 267 65 = some (5, .putfield 226, [10, 15, 6133]) by decide +kernel) (by decide +kernel) ⟨rfl, rfl⟩ ?_
          refine R_at (pc := 68) ?_
          refine R_pure (pc := 68) (pc' := 14) (ls' := [(0, .ref 241), (1, .int (a1 + 1)), (2, .int 0)]) (st' := []) (show z_pt 267 68 = some (5, .goto (-54), [3]) by decide +kernel) rfl (fun _ _ _ => rfl) ?_
          exact ih _ _ _ _  h
        · exact absurd c5 (by decide)
      · rw [if_pos c4] at h
        refine R_pure (pc := 35) (pc' := 36) (st' := [.ref 241]) (show z_pt 267 35 = some (5, .aload_n 0, []) by decide +kernel) rfl (fun _ _ _ => rfl) ?_
        obtain ⟨q6, e7, h⟩ := z_bs h
        refine R_call (pc := 36) (rr := []) (show z_pt 267 36 = some (5, .invokevirtual 233, [0, 258, 0, 8093, 8095, 75, 1012, 8096]) by decide +kernel) rfl (show z_r2 258 = some (10, 1, true) by decide +kernel) rfl rfl (Or.inr ⟨_, _, rfl, (by decide +kernel)⟩) (pm_here_run  e7) (by omega) ?_
        refine R_at2 (pc := 39) (st := [.int q6]) ?_
        refine R_const (pc := 39) (pc' := 41) (v := 59) (show z_ptc 267 39 = some (41, 59) by decide +kernel) ?_
        refine R_icmne (pc := 41) (t := 48) (show z_pt 267 41 = some (5, .if_icmp .ne 7, []) by decide +kernel) (by decide) (fun c8 => ?_) (fun c8 => ?_)
        · rw [if_neg c8] at h
          refine R_const (pc := 48) (pc' := 49) (v := 0) (show z_ptc 267 48 = some (49, 0) by decide +kernel) ?_
          refine R_pure (pc := 49) (pc' := 50) (ls' := [(0, .ref 241), (1, .int (a1 + 1)), (2, .int 0)]) (st' := []) (show z_pt 267 49 = some (5, .istore_n 2, []) by decide +kernel) rfl (fun _ _ _ => rfl) ?_
          refine R_pure (pc := 50) (pc' := 51) (st' := [.ref 241]) (show z_pt 267 50 = some (5, .aload_n 0, []) by decide +kernel) rfl (fun _ _ _ => rfl) ?_
          refine R_pure (pc := 51) (pc' := 52) (st' := [.ref 241, .ref 241]) (show z_pt 267 51 = some (5, .dup, []) by decide +kernel) rfl (fun _ _ _ => rfl) ?_
          refine R_getI (pc := 52) (a := 241) (show z_pt 267 52 = some (5, .getfield 226, [10, 15, 6133]) by decide +kernel) (by decide +kernel) ?_
          refine R_at (pc := 55) ?_
          refine R_pure (pc := 55) (pc' := 56) (st' := [.int 0, .int (q2 241 15), .ref 241]) (show z_pt 267 55 = some (5, .iload_n 2, []) by decide +kernel) rfl (fun _ _ _ => rfl) ?_
          refine R_ifeq (pc := 56) (t := 63) (show z_pt 267 56 = some (5, .ifCond .eq 7, []) by decide +kernel) (by decide) (fun c9 => ?_) (fun c9 => ?_)
          · skip
            refine R_const (pc := 63) (pc' := 64) (v := 0) (show z_ptc 267 63 = some (64, 0) by decide +kernel) ?_
            refine R_pure (pc := 64) (pc' := 65) (st' := [.int ((q2 241 15) + 0), .ref 241]) (show z_pt 267 64 = some (5, .iadd, []) by decide +kernel) rfl (fun _ _ _ => rfl) ?_
            refine R_putI (pc := 65) (a := 241) (show z_pt 267 65 = some (5, .putfield 226, [10, 15, 6133]) by decide +kernel) (by decide +kernel) ⟨rfl, rfl⟩ ?_
            refine R_at (pc := 68) ?_
            refine R_pure (pc := 68) (pc' := 14) (ls' := [(0, .ref 241), (1, .int (a1 + 1)), (2, .int 0)]) (st' := []) (show z_pt 267 68 = some (5, .goto (-54), [3]) by decide +kernel) rfl (fun _ _ _ => rfl) ?_
            exact ih _ _ _ _  h
          · exact absurd c9 (by decide)
        · rw [if_pos c8] at h
          refine R_const (pc := 44) (pc' := 45) (v := 1) (show z_ptc 267 44 = some (45, 1) by decide +kernel) ?_
          refine R_pure (pc := 45) (pc' := 49) (show z_pt 267 45 = some (5, .goto 4, []) by decide +kernel) rfl (fun _ _ _ => rfl) ?_
          refine R_pure (pc := 49) (pc' := 50) (ls' := [(0, .ref 241), (1, .int (a1 + 1)), (2, .int 1)]) (st' := []) (show z_pt 267 49 = some (5, .istore_n 2, []) by decide +kernel) rfl (fun _ _ _ => rfl) ?_
          refine R_pure (pc := 50) (pc' := 51) (st' := [.ref 241]) (show z_pt 267 50 = some (5, .aload_n 0, []) by decide +kernel) rfl (fun _ _ _ => rfl) ?_
          refine R_pure (pc := 51) (pc' := 52) (st' := [.ref 241, .ref 241]) (show z_pt 267 51 = some (5, .dup, []) by decide +kernel) rfl (fun _ _ _ => rfl) ?_
          refine R_getI (pc := 52) (a := 241) (show z_pt 267 52 = some (5, .getfield 226, [10, 15, 6133]) by decide +kernel) (by decide +kernel) ?_
          refine R_at (pc := 55) ?_
          refine R_pure (pc := 55) (pc' := 56) (st' := [.int 1, .int (q2 241 15), .ref 241]) (show z_pt 267 55 = some (5, .iload_n 2, []) by decide +kernel) rfl (fun _ _ _ => rfl) ?_
          refine R_ifeq (pc := 56) (t := 63) (show z_pt 267 56 = some (5, .ifCond .eq 7, []) by decide +kernel) (by decide) (fun c10 => ?_) (fun c10 => ?_)
          · exact absurd c10 (by decide)
          · skip
            refine R_const (pc := 59) (pc' := 60) (v := 1) (show z_ptc 267 59 = some (60, 1) by decide +kernel) ?_
            refine R_pure (pc := 60) (pc' := 64) (show z_pt 267 60 = some (5, .goto 4, []) by decide +kernel) rfl (fun _ _ _ => rfl) ?_
            refine R_pure (pc := 64) (pc' := 65) (st' := [.int ((q2 241 15) + 1), .ref 241]) (show z_pt 267 64 = some (5, .iadd, []) by decide +kernel) rfl (fun _ _ _ => rfl) ?_
            refine R_putI (pc := 65) (a := 241) (show z_pt 267 65 = some (5, .putfield 226, [10, 15, 6133]) by decide +kernel) (by decide +kernel) ⟨rfl, rfl⟩ ?_
            refine R_at (pc := 68) ?_
            refine R_pure (pc := 68) (pc' := 14) (ls' := [(0, .ref 241), (1, .int (a1 + 1)), (2, .int 1)]) (st' := []) (show z_pt 267 68 = some (5, .goto (-54), [3]) by decide +kernel) rfl (fun _ _ _ => rfl) ?_
            exact ih _ _ _ _  h
def pm_execute_L130_B (R : z_Mem → Int32 → Option (Int32 × z_Mem))  (f1 : Int32) (f2 : Int32) (K : z_Mem → Int32 → Option (Int32 × z_Mem)) (μ : z_Mem) (a3 : Int32) : Option (Int32 × z_Mem) := if f1 ≤ a3 then K μ a3 else (pm_carriesOut μ (4 * a3)).bind fun q19 => if (q19.2 241 12) = 0 then R q19.2 (a3 + 1) else (pm_kept (z_u (z_u q19.2 241 9 a3) 241 12 2) q19.1).bind fun q22 => some (q22.1, q22.2)
def pm_execute_L130 : Nat → Int32 → Int32 → (z_Mem → Int32 → Option (Int32 × z_Mem)) → z_Mem → Int32 → Option (Int32 × z_Mem)
  | 0 => fun _ _ _ _ _ => none
  | n + 1 => fun f1 f2 K μ a3 => pm_execute_L130_B (pm_execute_L130 n f1 f2 K) f1 f2 K μ a3
theorem pm_execute_L130_run  (f1 : Int32) (f2 : Int32) (K : z_Mem → Int32 → Option (Int32 × z_Mem))  (D : Nat) (hD : 6 ≤ D) (hK : ∀ (μ : z_Mem) (a3 : Int32) (r : (Int32 × z_Mem)), K μ a3 = some r → Rn D 267 174 [(0, .ref 241), (1, .int f1), (2, .int f2), (3, .int a3)] [] μ (.inl (some (.int r.1))) r.2) : ∀ (n : Nat) (μ : z_Mem) (a3 : Int32) (r : (Int32 × z_Mem)), pm_execute_L130 n f1 f2 K μ a3 = some r → Rn D 267 130 [(0, .ref 241), (1, .int f1), (2, .int f2), (3, .int a3)] [] μ (.inl (some (.int r.1))) r.2 := by
  intro n
  induction n with
  | zero => intro μ a3 r h; cases h
  | succ n ih =>
    intro μ a3 r h
    have h : pm_execute_L130_B (pm_execute_L130 n f1 f2 K) f1 f2 K μ a3 = some r := h
    unfold pm_execute_L130_B at h
    refine R_pure (pc := 130) (pc' := 131) (st' := [.int a3]) (show z_pt 267 130 = some (5, .iload_n 3, []) by decide +kernel) rfl (fun _ _ _ => rfl) ?_
    refine R_pure (pc := 131) (pc' := 132) (st' := [.int f1, .int a3]) (show z_pt 267 131 = some (5, .iload_n 1, []) by decide +kernel) rfl (fun _ _ _ => rfl) ?_
    refine R_icmge (pc := 132) (t := 174) (show z_pt 267 132 = some (5, .if_icmp .ge 42, []) by decide +kernel) (by decide) (fun c18 => ?_) (fun c18 => ?_)
    · rw [if_pos c18] at h
      exact hK _ _  _ h
    · rw [if_neg c18] at h
      refine R_pure (pc := 135) (pc' := 136) (st' := [.ref 241]) (show z_pt 267 135 = some (5, .aload_n 0, []) by decide +kernel) rfl (fun _ _ _ => rfl) ?_
      refine R_const (pc := 136) (pc' := 137) (v := 4) (show z_ptc 267 136 = some (137, 4) by decide +kernel) ?_
      refine R_pure (pc := 137) (pc' := 138) (st' := [.int a3, .int 4, .ref 241]) (show z_pt 267 137 = some (5, .iload_n 3, []) by decide +kernel) rfl (fun _ _ _ => rfl) ?_
      refine R_pure (pc := 138) (pc' := 139) (st' := [.int (4 * a3), .ref 241]) (show z_pt 267 138 = some (5, .imul, []) by decide +kernel) rfl (fun _ _ _ => rfl) ?_
      obtain ⟨q19, e20, h⟩ := z_bs h
      refine R_call (pc := 139) (rr := []) (show z_pt 267 139 = some (5, .invokevirtual 258, [0, 266, 1, 8121, 8123, 82, 1012, 8124]) by decide +kernel) rfl (show z_r2 266 = some (10, 4, true) by decide +kernel) rfl rfl (Or.inr ⟨_, _, rfl, (by decide +kernel)⟩) (pm_carriesOut_run  e20) (by omega) ?_
      refine R_at2 (pc := 142) (st := [.int q19.1]) ?_
      refine R_pure (pc := 142) (pc' := 144) (ls' := [(0, .ref 241), (1, .int f1), (2, .int f2), (3, .int a3), (4, .int q19.1)]) (st' := []) (show z_pt 267 142 = some (5, .istore 4, []) by decide +kernel) rfl (fun _ _ _ => rfl) ?_
      refine R_pure (pc := 144) (pc' := 145) (st' := [.ref 241]) (show z_pt 267 144 = some (5, .aload_n 0, []) by decide +kernel) rfl (fun _ _ _ => rfl) ?_
      refine R_getI (pc := 145) (a := 241) (show z_pt 267 145 = some (5, .getfield 45, [10, 12, 6130]) by decide +kernel) (by decide +kernel) ?_
      refine R_at (pc := 148) ?_
      refine R_ifeq (pc := 148) (t := 168) (show z_pt 267 148 = some (5, .ifCond .eq 20, []) by decide +kernel) (by decide) (fun c21 => ?_) (fun c21 => ?_)
      · rw [if_pos c21] at h
        refine R_inc (pc := 168) (pc' := 171) (ls' := [(0, .ref 241), (1, .int f1), (2, .int f2), (3, .int (a3 + 1)), (4, .int q19.1)]) (c := 1) (show z_pt 267 168 = some (5, .iinc 3 1, []) by decide +kernel) (by decide) rfl rfl ?_
        refine R_pure (pc := 171) (pc' := 130) (ls' := [(0, .ref 241), (1, .int f1), (2, .int f2), (3, .int (a3 + 1))]) (st' := []) (show z_pt 267 171 = some (5, .goto (-41), [4]) by decide +kernel) rfl (fun _ _ _ => rfl) ?_
        exact ih _ _ _  h
      · rw [if_neg c21] at h
        refine R_pure (pc := 151) (pc' := 152) (st' := [.ref 241]) (show z_pt 267 151 = some (5, .aload_n 0, []) by decide +kernel) rfl (fun _ _ _ => rfl) ?_
        refine R_pure (pc := 152) (pc' := 153) (st' := [.int a3, .ref 241]) (show z_pt 267 152 = some (5, .iload_n 3, []) by decide +kernel) rfl (fun _ _ _ => rfl) ?_
        refine R_putI (pc := 153) (a := 241) (show z_pt 267 153 = some (5, .putfield 30, [10, 9, 6127]) by decide +kernel) (by decide +kernel) ⟨rfl, rfl⟩ ?_
        refine R_at (pc := 156) ?_
        refine R_pure (pc := 156) (pc' := 157) (st' := [.ref 241]) (show z_pt 267 156 = some (5, .aload_n 0, []) by decide +kernel) rfl (fun _ _ _ => rfl) ?_
        refine R_const (pc := 157) (pc' := 158) (v := 2) (show z_ptc 267 157 = some (158, 2) by decide +kernel) ?_
        refine R_putI (pc := 158) (a := 241) (show z_pt 267 158 = some (5, .putfield 45, [10, 12, 6130]) by decide +kernel) (by decide +kernel) ⟨rfl, rfl⟩ ?_
        refine R_at (pc := 161) ?_
        refine R_pure (pc := 161) (pc' := 162) (st' := [.ref 241]) (show z_pt 267 161 = some (5, .aload_n 0, []) by decide +kernel) rfl (fun _ _ _ => rfl) ?_
        refine R_pure (pc := 162) (pc' := 164) (st' := [.int q19.1, .ref 241]) (show z_pt 267 162 = some (5, .iload 4, []) by decide +kernel) rfl (fun _ _ _ => rfl) ?_
        obtain ⟨q22, e23, h⟩ := z_bs h
        refine R_call (pc := 164) (rr := []) (show z_pt 267 164 = some (5, .invokevirtual 88, [0, 168, 1, 6203, 6205, 38, 1012, 6206]) by decide +kernel) rfl (show z_r2 168 = some (10, 3, true) by decide +kernel) rfl rfl (Or.inr ⟨_, _, rfl, (by decide +kernel)⟩) (pm_kept_run  e23) (by omega) ?_
        refine R_at2 (pc := 167) (st := [.int q22.1]) ?_
        cases h
        exact R_retI (show z_pt 267 167 = some (5, .ireturn, []) by decide +kernel) (by decide +kernel)
def pm_execute  (μ : z_Mem)  : Option (Int32 × z_Mem) := pm_execute_L14 z_fu (fun M13 k11 k12 => if (M13 241 16) = 0 then if (M13 241 7) ≤ (M13 241 15) then if ((z_u (z_u M13 241 16 0) 241 7 0) 241 16) = 0 then (pm_begin (z_u (z_u M13 241 16 0) 241 7 0)).bind fun q34 => pm_execute_L130 z_fu k11 k12 (fun M37 k36 => (pm_done M37 k11).bind fun q38 => (pm_kept q38.2 q38.1).bind fun q40 => some (q40.1, q40.2)) q34 0 else (pm_fails (z_u (z_u (z_u M13 241 16 0) 241 7 0) 241 8 ((z_u (z_u M13 241 16 0) 241 7 0) 241 15)) 1).bind fun q42 => some (q42.1, q42.2) else if ((z_u (z_u M13 241 16 1) 241 7 0) 241 16) = 0 then (pm_begin (z_u (z_u M13 241 16 1) 241 7 0)).bind fun q45 => pm_execute_L130 z_fu k11 k12 (fun M48 k47 => (pm_done M48 k11).bind fun q49 => (pm_kept q49.2 q49.1).bind fun q51 => some (q51.1, q51.2)) q45 0 else (pm_fails (z_u (z_u (z_u M13 241 16 1) 241 7 0) 241 8 ((z_u (z_u M13 241 16 1) 241 7 0) 241 15)) 1).bind fun q53 => some (q53.1, q53.2) else if ((z_u (z_u M13 241 16 1) 241 7 0) 241 16) = 0 then (pm_begin (z_u (z_u M13 241 16 1) 241 7 0)).bind fun q16 => pm_execute_L130 z_fu k11 k12 (fun M25 k24 => (pm_done M25 k11).bind fun q26 => (pm_kept q26.2 q26.1).bind fun q28 => some (q28.1, q28.2)) q16 0 else (pm_fails (z_u (z_u (z_u M13 241 16 1) 241 7 0) 241 8 ((z_u (z_u M13 241 16 1) 241 7 0) 241 15)) 1).bind fun q30 => some (q30.1, q30.2)) (z_u (z_u μ 241 15 0) 241 16 0) 0 1
theorem pm_execute_run  {μ : z_Mem}   {r : (Int32 × z_Mem)} (h : pm_execute μ = some r) : Rn 6 267 0 [(0, .ref 241)] [] μ (.inl (some (.int r.1))) r.2 := by
  unfold pm_execute at h
  refine R_pure (pc := 0) (pc' := 1) (st' := [.ref 241]) (show z_pt 267 0 = some (5, .aload_n 0, []) by decide +kernel) rfl (fun _ _ _ => rfl) ?_
  refine R_const (pc := 1) (pc' := 2) (v := 0) (show z_ptc 267 1 = some (2, 0) by decide +kernel) ?_
  refine R_putI (pc := 2) (a := 241) (show z_pt 267 2 = some (5, .putfield 226, [10, 15, 6133]) by decide +kernel) (by decide +kernel) ⟨rfl, rfl⟩ ?_
  refine R_at (pc := 5) ?_
  refine R_pure (pc := 5) (pc' := 6) (st' := [.ref 241]) (show z_pt 267 5 = some (5, .aload_n 0, []) by decide +kernel) rfl (fun _ _ _ => rfl) ?_
  refine R_const (pc := 6) (pc' := 7) (v := 0) (show z_ptc 267 6 = some (7, 0) by decide +kernel) ?_
  refine R_putI (pc := 7) (a := 241) (show z_pt 267 7 = some (5, .putfield 229, [10, 16, 6134]) by decide +kernel) (by decide +kernel) (by decide) ?_
  refine R_at (pc := 10) ?_
  refine R_const (pc := 10) (pc' := 11) (v := 0) (show z_ptc 267 10 = some (11, 0) by decide +kernel) ?_
  refine R_pure (pc := 11) (pc' := 12) (ls' := [(0, .ref 241), (1, .int 0)]) (st' := []) (show z_pt 267 11 = some (5, .istore_n 1, []) by decide +kernel) rfl (fun _ _ _ => rfl) ?_
  refine R_const (pc := 12) (pc' := 13) (v := 1) (show z_ptc 267 12 = some (13, 1) by decide +kernel) ?_
  refine R_pure (pc := 13) (pc' := 14) (ls' := [(0, .ref 241), (1, .int 0), (2, .int 1)]) (st' := []) (show z_pt 267 13 = some (5, .istore_n 2, []) by decide +kernel) rfl (fun _ _ _ => rfl) ?_
  refine pm_execute_L14_run   _  _ (by omega) ?_ _ _ _ _ _ h
  intro M13 k11 k12 r h
  refine R_pure (pc := 71) (pc' := 72) (st' := [.ref 241]) (show z_pt 267 71 = some (5, .aload_n 0, []) by decide +kernel) rfl (fun _ _ _ => rfl) ?_
  refine R_pure (pc := 72) (pc' := 73) (st' := [.ref 241, .ref 241]) (show z_pt 267 72 = some (5, .aload_n 0, []) by decide +kernel) rfl (fun _ _ _ => rfl) ?_
  refine R_getI (pc := 73) (a := 241) (show z_pt 267 73 = some (5, .getfield 229, [10, 16, 6134]) by decide +kernel) (by decide +kernel) ?_
  refine R_at (pc := 76) ?_
  refine R_ifne (pc := 76) (t := 90) (show z_pt 267 76 = some (5, .ifCond .ne 14, []) by decide +kernel) (by decide) (fun c14 => ?_) (fun c14 => ?_)
  · rw [if_neg c14] at h
    refine R_const (pc := 90) (pc' := 91) (v := 1) (show z_ptc 267 90 = some (91, 1) by decide +kernel) ?_
    refine R_pure (pc := 91) (pc' := 95) (show z_pt 267 91 = some (5, .goto 4, []) by decide +kernel) rfl (fun _ _ _ => rfl) ?_
    refine R_putI (pc := 95) (a := 241) (show z_pt 267 95 = some (5, .putfield 229, [10, 16, 6134]) by decide +kernel) (by decide +kernel) (by decide) ?_
    refine R_at (pc := 98) ?_
    refine R_pure (pc := 98) (pc' := 99) (st' := [.ref 241]) (show z_pt 267 98 = some (5, .aload_n 0, []) by decide +kernel) rfl (fun _ _ _ => rfl) ?_
    refine R_const (pc := 99) (pc' := 100) (v := 0) (show z_ptc 267 99 = some (100, 0) by decide +kernel) ?_
    refine R_putI (pc := 100) (a := 241) (show z_pt 267 100 = some (5, .putfield 223, [10, 7, 6125]) by decide +kernel) (by decide +kernel) ⟨rfl, rfl⟩ ?_
    refine R_at (pc := 103) ?_
    refine R_pure (pc := 103) (pc' := 104) (st' := [.ref 241]) (show z_pt 267 103 = some (5, .aload_n 0, []) by decide +kernel) rfl (fun _ _ _ => rfl) ?_
    refine R_getI (pc := 104) (a := 241) (show z_pt 267 104 = some (5, .getfield 229, [10, 16, 6134]) by decide +kernel) (by decide +kernel) ?_
    refine R_at (pc := 107) ?_
    refine R_ifeq (pc := 107) (t := 124) (show z_pt 267 107 = some (5, .ifCond .eq 17, []) by decide +kernel) (by decide) (fun c15 => ?_) (fun c15 => ?_)
    · rw [if_pos c15] at h
      refine R_pure (pc := 124) (pc' := 125) (st' := [.ref 241]) (show z_pt 267 124 = some (5, .aload_n 0, []) by decide +kernel) rfl (fun _ _ _ => rfl) ?_
      obtain ⟨q16, e17, h⟩ := z_bs h
      refine R_call (pc := 125) (rr := []) (show z_pt 267 125 = some (5, .invokevirtual 82, [0, 167, 0, 6181, 6183, 34, 1012, 6184]) by decide +kernel) rfl (show z_r2 167 = some (10, 1, true) by decide +kernel) rfl rfl (Or.inr ⟨_, _, rfl, (by decide +kernel)⟩) (pm_begin_run  e17) (by omega) ?_
      refine R_at2 (pc := 128) (st := []) ?_
      refine R_const (pc := 128) (pc' := 129) (v := 0) (show z_ptc 267 128 = some (129, 0) by decide +kernel) ?_
      refine R_pure (pc := 129) (pc' := 130) (ls' := [(0, .ref 241), (1, .int k11), (2, .int k12), (3, .int 0)]) (st' := []) (show z_pt 267 129 = some (5, .istore_n 3, []) by decide +kernel) rfl (fun _ _ _ => rfl) ?_
      refine pm_execute_L130_run  _ _ _  _ (by omega) ?_ _ _ _ _ h
      intro M25 k24 r h
      refine R_pure (pc := 174) (pc' := 175) (st' := [.ref 241]) (show z_pt 267 174 = some (5, .aload_n 0, []) by decide +kernel) rfl (fun _ _ _ => rfl) ?_
      refine R_pure (pc := 175) (pc' := 176) (st' := [.ref 241, .ref 241]) (show z_pt 267 175 = some (5, .aload_n 0, []) by decide +kernel) rfl (fun _ _ _ => rfl) ?_
      refine R_pure (pc := 176) (pc' := 177) (st' := [.int k11, .ref 241, .ref 241]) (show z_pt 267 176 = some (5, .iload_n 1, []) by decide +kernel) rfl (fun _ _ _ => rfl) ?_
      obtain ⟨q26, e27, h⟩ := z_bs h
      refine R_call (pc := 177) (rr := [.ref 241]) (show z_pt 267 177 = some (5, .invokevirtual 79, [0, 164, 1, 6199, 6201, 37, 1012, 6202]) by decide +kernel) rfl (show z_r2 164 = some (10, 2, true) by decide +kernel) rfl rfl (Or.inr ⟨_, _, rfl, (by decide +kernel)⟩) (pm_done_run  e27) (by omega) ?_
      refine R_at2 (pc := 180) (st := [.int q26.1, .ref 241]) ?_
      obtain ⟨q28, e29, h⟩ := z_bs h
      refine R_call (pc := 180) (rr := []) (show z_pt 267 180 = some (5, .invokevirtual 88, [0, 168, 1, 6203, 6205, 38, 1012, 6206]) by decide +kernel) rfl (show z_r2 168 = some (10, 3, true) by decide +kernel) rfl rfl (Or.inr ⟨_, _, rfl, (by decide +kernel)⟩) (pm_kept_run  e29) (by omega) ?_
      refine R_at2 (pc := 183) (st := [.int q28.1]) ?_
      cases h
      exact R_retI (show z_pt 267 183 = some (5, .ireturn, []) by decide +kernel) (by decide +kernel)
    · rw [if_neg c15] at h
      refine R_pure (pc := 110) (pc' := 111) (st' := [.ref 241]) (show z_pt 267 110 = some (5, .aload_n 0, []) by decide +kernel) rfl (fun _ _ _ => rfl) ?_
      refine R_pure (pc := 111) (pc' := 112) (st' := [.ref 241, .ref 241]) (show z_pt 267 111 = some (5, .aload_n 0, []) by decide +kernel) rfl (fun _ _ _ => rfl) ?_
      refine R_getI (pc := 112) (a := 241) (show z_pt 267 112 = some (5, .getfield 226, [10, 15, 6133]) by decide +kernel) (by decide +kernel) ?_
      refine R_at (pc := 115) ?_
      refine R_putI (pc := 115) (a := 241) (show z_pt 267 115 = some (5, .putfield 26, [10, 8, 6126]) by decide +kernel) (by decide +kernel) ⟨rfl, rfl⟩ ?_
      refine R_at (pc := 118) ?_
      refine R_pure (pc := 118) (pc' := 119) (st' := [.ref 241]) (show z_pt 267 118 = some (5, .aload_n 0, []) by decide +kernel) rfl (fun _ _ _ => rfl) ?_
      refine R_const (pc := 119) (pc' := 120) (v := 1) (show z_ptc 267 119 = some (120, 1) by decide +kernel) ?_
      obtain ⟨q30, e31, h⟩ := z_bs h
      refine R_call (pc := 120) (rr := []) (show z_pt 267 120 = some (5, .invokevirtual 75, [0, 165, 1, 6195, 6197, 36, 1012, 6198]) by decide +kernel) rfl (show z_r2 165 = some (10, 2, true) by decide +kernel) rfl rfl (Or.inr ⟨_, _, rfl, (by decide +kernel)⟩) (pm_fails_run  e31) (by omega) ?_
      refine R_at2 (pc := 123) (st := [.int q30.1]) ?_
      cases h
      exact R_retI (show z_pt 267 123 = some (5, .ireturn, []) by decide +kernel) (by decide +kernel)
  · rw [if_pos c14] at h
    refine R_pure (pc := 79) (pc' := 80) (st' := [.ref 241, .ref 241]) (show z_pt 267 79 = some (5, .aload_n 0, []) by decide +kernel) rfl (fun _ _ _ => rfl) ?_
    refine R_getI (pc := 80) (a := 241) (show z_pt 267 80 = some (5, .getfield 226, [10, 15, 6133]) by decide +kernel) (by decide +kernel) ?_
    refine R_at (pc := 83) ?_
    refine R_pure (pc := 83) (pc' := 84) (st' := [.ref 241, .int (M13 241 15), .ref 241]) (show z_pt 267 83 = some (5, .aload_n 0, []) by decide +kernel) rfl (fun _ _ _ => rfl) ?_
    refine R_getI (pc := 84) (a := 241) (show z_pt 267 84 = some (5, .getfield 223, [10, 7, 6125]) by decide +kernel) (by decide +kernel) ?_
    refine R_at (pc := 87) ?_
    refine R_icmge (pc := 87) (t := 94) (show z_pt 267 87 = some (5, .if_icmp .ge 7, []) by decide +kernel) (by decide) (fun c32 => ?_) (fun c32 => ?_)
    · rw [if_pos c32] at h
      refine R_const (pc := 94) (pc' := 95) (v := 0) (show z_ptc 267 94 = some (95, 0) by decide +kernel) ?_
      refine R_putI (pc := 95) (a := 241) (show z_pt 267 95 = some (5, .putfield 229, [10, 16, 6134]) by decide +kernel) (by decide +kernel) (by decide) ?_
      refine R_at (pc := 98) ?_
      refine R_pure (pc := 98) (pc' := 99) (st' := [.ref 241]) (show z_pt 267 98 = some (5, .aload_n 0, []) by decide +kernel) rfl (fun _ _ _ => rfl) ?_
      refine R_const (pc := 99) (pc' := 100) (v := 0) (show z_ptc 267 99 = some (100, 0) by decide +kernel) ?_
      refine R_putI (pc := 100) (a := 241) (show z_pt 267 100 = some (5, .putfield 223, [10, 7, 6125]) by decide +kernel) (by decide +kernel) ⟨rfl, rfl⟩ ?_
      refine R_at (pc := 103) ?_
      refine R_pure (pc := 103) (pc' := 104) (st' := [.ref 241]) (show z_pt 267 103 = some (5, .aload_n 0, []) by decide +kernel) rfl (fun _ _ _ => rfl) ?_
      refine R_getI (pc := 104) (a := 241) (show z_pt 267 104 = some (5, .getfield 229, [10, 16, 6134]) by decide +kernel) (by decide +kernel) ?_
      refine R_at (pc := 107) ?_
      refine R_ifeq (pc := 107) (t := 124) (show z_pt 267 107 = some (5, .ifCond .eq 17, []) by decide +kernel) (by decide) (fun c33 => ?_) (fun c33 => ?_)
      · rw [if_pos c33] at h
        refine R_pure (pc := 124) (pc' := 125) (st' := [.ref 241]) (show z_pt 267 124 = some (5, .aload_n 0, []) by decide +kernel) rfl (fun _ _ _ => rfl) ?_
        obtain ⟨q34, e35, h⟩ := z_bs h
        refine R_call (pc := 125) (rr := []) (show z_pt 267 125 = some (5, .invokevirtual 82, [0, 167, 0, 6181, 6183, 34, 1012, 6184]) by decide +kernel) rfl (show z_r2 167 = some (10, 1, true) by decide +kernel) rfl rfl (Or.inr ⟨_, _, rfl, (by decide +kernel)⟩) (pm_begin_run  e35) (by omega) ?_
        refine R_at2 (pc := 128) (st := []) ?_
        refine R_const (pc := 128) (pc' := 129) (v := 0) (show z_ptc 267 128 = some (129, 0) by decide +kernel) ?_
        refine R_pure (pc := 129) (pc' := 130) (ls' := [(0, .ref 241), (1, .int k11), (2, .int k12), (3, .int 0)]) (st' := []) (show z_pt 267 129 = some (5, .istore_n 3, []) by decide +kernel) rfl (fun _ _ _ => rfl) ?_
        refine pm_execute_L130_run  _ _ _  _ (by omega) ?_ _ _ _ _ h
        intro M37 k36 r h
        refine R_pure (pc := 174) (pc' := 175) (st' := [.ref 241]) (show z_pt 267 174 = some (5, .aload_n 0, []) by decide +kernel) rfl (fun _ _ _ => rfl) ?_
        refine R_pure (pc := 175) (pc' := 176) (st' := [.ref 241, .ref 241]) (show z_pt 267 175 = some (5, .aload_n 0, []) by decide +kernel) rfl (fun _ _ _ => rfl) ?_
        refine R_pure (pc := 176) (pc' := 177) (st' := [.int k11, .ref 241, .ref 241]) (show z_pt 267 176 = some (5, .iload_n 1, []) by decide +kernel) rfl (fun _ _ _ => rfl) ?_
        obtain ⟨q38, e39, h⟩ := z_bs h
        refine R_call (pc := 177) (rr := [.ref 241]) (show z_pt 267 177 = some (5, .invokevirtual 79, [0, 164, 1, 6199, 6201, 37, 1012, 6202]) by decide +kernel) rfl (show z_r2 164 = some (10, 2, true) by decide +kernel) rfl rfl (Or.inr ⟨_, _, rfl, (by decide +kernel)⟩) (pm_done_run  e39) (by omega) ?_
        refine R_at2 (pc := 180) (st := [.int q38.1, .ref 241]) ?_
        obtain ⟨q40, e41, h⟩ := z_bs h
        refine R_call (pc := 180) (rr := []) (show z_pt 267 180 = some (5, .invokevirtual 88, [0, 168, 1, 6203, 6205, 38, 1012, 6206]) by decide +kernel) rfl (show z_r2 168 = some (10, 3, true) by decide +kernel) rfl rfl (Or.inr ⟨_, _, rfl, (by decide +kernel)⟩) (pm_kept_run  e41) (by omega) ?_
        refine R_at2 (pc := 183) (st := [.int q40.1]) ?_
        cases h
        exact R_retI (show z_pt 267 183 = some (5, .ireturn, []) by decide +kernel) (by decide +kernel)
      · rw [if_neg c33] at h
        refine R_pure (pc := 110) (pc' := 111) (st' := [.ref 241]) (show z_pt 267 110 = some (5, .aload_n 0, []) by decide +kernel) rfl (fun _ _ _ => rfl) ?_
        refine R_pure (pc := 111) (pc' := 112) (st' := [.ref 241, .ref 241]) (show z_pt 267 111 = some (5, .aload_n 0, []) by decide +kernel) rfl (fun _ _ _ => rfl) ?_
        refine R_getI (pc := 112) (a := 241) (show z_pt 267 112 = some (5, .getfield 226, [10, 15, 6133]) by decide +kernel) (by decide +kernel) ?_
        refine R_at (pc := 115) ?_
        refine R_putI (pc := 115) (a := 241) (show z_pt 267 115 = some (5, .putfield 26, [10, 8, 6126]) by decide +kernel) (by decide +kernel) ⟨rfl, rfl⟩ ?_
        refine R_at (pc := 118) ?_
        refine R_pure (pc := 118) (pc' := 119) (st' := [.ref 241]) (show z_pt 267 118 = some (5, .aload_n 0, []) by decide +kernel) rfl (fun _ _ _ => rfl) ?_
        refine R_const (pc := 119) (pc' := 120) (v := 1) (show z_ptc 267 119 = some (120, 1) by decide +kernel) ?_
        obtain ⟨q42, e43, h⟩ := z_bs h
        refine R_call (pc := 120) (rr := []) (show z_pt 267 120 = some (5, .invokevirtual 75, [0, 165, 1, 6195, 6197, 36, 1012, 6198]) by decide +kernel) rfl (show z_r2 165 = some (10, 2, true) by decide +kernel) rfl rfl (Or.inr ⟨_, _, rfl, (by decide +kernel)⟩) (pm_fails_run  e43) (by omega) ?_
        refine R_at2 (pc := 123) (st := [.int q42.1]) ?_
        cases h
        exact R_retI (show z_pt 267 123 = some (5, .ireturn, []) by decide +kernel) (by decide +kernel)
    · rw [if_neg c32] at h
      refine R_const (pc := 90) (pc' := 91) (v := 1) (show z_ptc 267 90 = some (91, 1) by decide +kernel) ?_
      refine R_pure (pc := 91) (pc' := 95) (show z_pt 267 91 = some (5, .goto 4, []) by decide +kernel) rfl (fun _ _ _ => rfl) ?_
      refine R_putI (pc := 95) (a := 241) (show z_pt 267 95 = some (5, .putfield 229, [10, 16, 6134]) by decide +kernel) (by decide +kernel) (by decide) ?_
      refine R_at (pc := 98) ?_
      refine R_pure (pc := 98) (pc' := 99) (st' := [.ref 241]) (show z_pt 267 98 = some (5, .aload_n 0, []) by decide +kernel) rfl (fun _ _ _ => rfl) ?_
      refine R_const (pc := 99) (pc' := 100) (v := 0) (show z_ptc 267 99 = some (100, 0) by decide +kernel) ?_
      refine R_putI (pc := 100) (a := 241) (show z_pt 267 100 = some (5, .putfield 223, [10, 7, 6125]) by decide +kernel) (by decide +kernel) ⟨rfl, rfl⟩ ?_
      refine R_at (pc := 103) ?_
      refine R_pure (pc := 103) (pc' := 104) (st' := [.ref 241]) (show z_pt 267 103 = some (5, .aload_n 0, []) by decide +kernel) rfl (fun _ _ _ => rfl) ?_
      refine R_getI (pc := 104) (a := 241) (show z_pt 267 104 = some (5, .getfield 229, [10, 16, 6134]) by decide +kernel) (by decide +kernel) ?_
      refine R_at (pc := 107) ?_
      refine R_ifeq (pc := 107) (t := 124) (show z_pt 267 107 = some (5, .ifCond .eq 17, []) by decide +kernel) (by decide) (fun c44 => ?_) (fun c44 => ?_)
      · rw [if_pos c44] at h
        refine R_pure (pc := 124) (pc' := 125) (st' := [.ref 241]) (show z_pt 267 124 = some (5, .aload_n 0, []) by decide +kernel) rfl (fun _ _ _ => rfl) ?_
        obtain ⟨q45, e46, h⟩ := z_bs h
        refine R_call (pc := 125) (rr := []) (show z_pt 267 125 = some (5, .invokevirtual 82, [0, 167, 0, 6181, 6183, 34, 1012, 6184]) by decide +kernel) rfl (show z_r2 167 = some (10, 1, true) by decide +kernel) rfl rfl (Or.inr ⟨_, _, rfl, (by decide +kernel)⟩) (pm_begin_run  e46) (by omega) ?_
        refine R_at2 (pc := 128) (st := []) ?_
        refine R_const (pc := 128) (pc' := 129) (v := 0) (show z_ptc 267 128 = some (129, 0) by decide +kernel) ?_
        refine R_pure (pc := 129) (pc' := 130) (ls' := [(0, .ref 241), (1, .int k11), (2, .int k12), (3, .int 0)]) (st' := []) (show z_pt 267 129 = some (5, .istore_n 3, []) by decide +kernel) rfl (fun _ _ _ => rfl) ?_
        refine pm_execute_L130_run  _ _ _  _ (by omega) ?_ _ _ _ _ h
        intro M48 k47 r h
        refine R_pure (pc := 174) (pc' := 175) (st' := [.ref 241]) (show z_pt 267 174 = some (5, .aload_n 0, []) by decide +kernel) rfl (fun _ _ _ => rfl) ?_
        refine R_pure (pc := 175) (pc' := 176) (st' := [.ref 241, .ref 241]) (show z_pt 267 175 = some (5, .aload_n 0, []) by decide +kernel) rfl (fun _ _ _ => rfl) ?_
        refine R_pure (pc := 176) (pc' := 177) (st' := [.int k11, .ref 241, .ref 241]) (show z_pt 267 176 = some (5, .iload_n 1, []) by decide +kernel) rfl (fun _ _ _ => rfl) ?_
        obtain ⟨q49, e50, h⟩ := z_bs h
        refine R_call (pc := 177) (rr := [.ref 241]) (show z_pt 267 177 = some (5, .invokevirtual 79, [0, 164, 1, 6199, 6201, 37, 1012, 6202]) by decide +kernel) rfl (show z_r2 164 = some (10, 2, true) by decide +kernel) rfl rfl (Or.inr ⟨_, _, rfl, (by decide +kernel)⟩) (pm_done_run  e50) (by omega) ?_
        refine R_at2 (pc := 180) (st := [.int q49.1, .ref 241]) ?_
        obtain ⟨q51, e52, h⟩ := z_bs h
        refine R_call (pc := 180) (rr := []) (show z_pt 267 180 = some (5, .invokevirtual 88, [0, 168, 1, 6203, 6205, 38, 1012, 6206]) by decide +kernel) rfl (show z_r2 168 = some (10, 3, true) by decide +kernel) rfl rfl (Or.inr ⟨_, _, rfl, (by decide +kernel)⟩) (pm_kept_run  e52) (by omega) ?_
        refine R_at2 (pc := 183) (st := [.int q51.1]) ?_
        cases h
        exact R_retI (show z_pt 267 183 = some (5, .ireturn, []) by decide +kernel) (by decide +kernel)
      · rw [if_neg c44] at h
        refine R_pure (pc := 110) (pc' := 111) (st' := [.ref 241]) (show z_pt 267 110 = some (5, .aload_n 0, []) by decide +kernel) rfl (fun _ _ _ => rfl) ?_
        refine R_pure (pc := 111) (pc' := 112) (st' := [.ref 241, .ref 241]) (show z_pt 267 111 = some (5, .aload_n 0, []) by decide +kernel) rfl (fun _ _ _ => rfl) ?_
        refine R_getI (pc := 112) (a := 241) (show z_pt 267 112 = some (5, .getfield 226, [10, 15, 6133]) by decide +kernel) (by decide +kernel) ?_
        refine R_at (pc := 115) ?_
        refine R_putI (pc := 115) (a := 241) (show z_pt 267 115 = some (5, .putfield 26, [10, 8, 6126]) by decide +kernel) (by decide +kernel) ⟨rfl, rfl⟩ ?_
        refine R_at (pc := 118) ?_
        refine R_pure (pc := 118) (pc' := 119) (st' := [.ref 241]) (show z_pt 267 118 = some (5, .aload_n 0, []) by decide +kernel) rfl (fun _ _ _ => rfl) ?_
        refine R_const (pc := 119) (pc' := 120) (v := 1) (show z_ptc 267 119 = some (120, 1) by decide +kernel) ?_
        obtain ⟨q53, e54, h⟩ := z_bs h
        refine R_call (pc := 120) (rr := []) (show z_pt 267 120 = some (5, .invokevirtual 75, [0, 165, 1, 6195, 6197, 36, 1012, 6198]) by decide +kernel) rfl (show z_r2 165 = some (10, 2, true) by decide +kernel) rfl rfl (Or.inr ⟨_, _, rfl, (by decide +kernel)⟩) (pm_fails_run  e54) (by omega) ?_
        refine R_at2 (pc := 123) (st := [.int q53.1]) ?_
        cases h
        exact R_retI (show z_pt 267 123 = some (5, .ireturn, []) by decide +kernel) (by decide +kernel)
def pm_errorPosition  (μ : z_Mem)  : Option (Int32 × z_Mem) := if (μ 241 8) = (-1) then (pm_fails μ 1).bind fun q4 => some (q4.1, q4.2) else (pm_done μ (μ 241 8)).bind fun q2 => some (q2.1, q2.2)
theorem pm_errorPosition_run  {μ : z_Mem}   {r : (Int32 × z_Mem)} (h : pm_errorPosition μ = some r) : Rn 1 268 0 [(0, .ref 241)] [] μ (.inl (some (.int r.1))) r.2 := by
  unfold pm_errorPosition at h
  refine R_pure (pc := 0) (pc' := 1) (st' := [.ref 241]) (show z_pt 268 0 = some (1, .aload_n 0, []) by decide +kernel) rfl (fun _ _ _ => rfl) ?_
  refine R_getI (pc := 1) (a := 241) (show z_pt 268 1 = some (1, .getfield 26, [10, 8, 6126]) by decide +kernel) (by decide +kernel) ?_
  refine R_at (pc := 4) ?_
  refine R_const (pc := 4) (pc' := 5) (v := (-1)) (show z_ptc 268 4 = some (5, (-1)) by decide +kernel) ?_
  refine R_icmne (pc := 5) (t := 16) (show z_pt 268 5 = some (1, .if_icmp .ne 11, []) by decide +kernel) (by decide) (fun c1 => ?_) (fun c1 => ?_)
  · rw [if_neg c1] at h
    refine R_pure (pc := 16) (pc' := 17) (st' := [.ref 241]) (show z_pt 268 16 = some (1, .aload_n 0, []) by decide +kernel) rfl (fun _ _ _ => rfl) ?_
    refine R_pure (pc := 17) (pc' := 18) (st' := [.ref 241, .ref 241]) (show z_pt 268 17 = some (1, .aload_n 0, []) by decide +kernel) rfl (fun _ _ _ => rfl) ?_
    refine R_getI (pc := 18) (a := 241) (show z_pt 268 18 = some (1, .getfield 26, [10, 8, 6126]) by decide +kernel) (by decide +kernel) ?_
    refine R_at (pc := 21) ?_
    obtain ⟨q2, e3, h⟩ := z_bs h
    refine R_call (pc := 21) (rr := []) (show z_pt 268 21 = some (1, .invokevirtual 79, [0, 164, 1, 6199, 6201, 37, 1012, 6202]) by decide +kernel) rfl (show z_r2 164 = some (10, 2, true) by decide +kernel) rfl rfl (Or.inr ⟨_, _, rfl, (by decide +kernel)⟩) (pm_done_run  e3) (by omega) ?_
    refine R_at2 (pc := 24) (st := [.int q2.1]) ?_
    cases h
    exact R_retI (show z_pt 268 24 = some (1, .ireturn, []) by decide +kernel) (by decide +kernel)
  · rw [if_pos c1] at h
    refine R_pure (pc := 8) (pc' := 9) (st' := [.ref 241]) (show z_pt 268 8 = some (1, .aload_n 0, []) by decide +kernel) rfl (fun _ _ _ => rfl) ?_
    refine R_const (pc := 9) (pc' := 10) (v := 1) (show z_ptc 268 9 = some (10, 1) by decide +kernel) ?_
    obtain ⟨q4, e5, h⟩ := z_bs h
    refine R_call (pc := 10) (rr := []) (show z_pt 268 10 = some (1, .invokevirtual 75, [0, 165, 1, 6195, 6197, 36, 1012, 6198]) by decide +kernel) rfl (show z_r2 165 = some (10, 2, true) by decide +kernel) rfl rfl (Or.inr ⟨_, _, rfl, (by decide +kernel)⟩) (pm_fails_run  e5) (by omega) ?_
    refine R_at2 (pc := 13) (st := [.int q4.1]) ?_
    refine R_pure (pc := 13) (pc' := 24) (show z_pt 268 13 = some (1, .goto 11, []) by decide +kernel) rfl (fun _ _ _ => rfl) ?_
    cases h
    exact R_retI (show z_pt 268 24 = some (1, .ireturn, []) by decide +kernel) (by decide +kernel)
def pm_failedCommand  (μ : z_Mem)  : Option (Int32 × z_Mem) := if (μ 241 9) = (-1) then (pm_fails μ 1).bind fun q4 => some (q4.1, q4.2) else (pm_done μ (μ 241 9)).bind fun q2 => some (q2.1, q2.2)
theorem pm_failedCommand_run  {μ : z_Mem}   {r : (Int32 × z_Mem)} (h : pm_failedCommand μ = some r) : Rn 1 269 0 [(0, .ref 241)] [] μ (.inl (some (.int r.1))) r.2 := by
  unfold pm_failedCommand at h
  refine R_pure (pc := 0) (pc' := 1) (st' := [.ref 241]) (show z_pt 269 0 = some (1, .aload_n 0, []) by decide +kernel) rfl (fun _ _ _ => rfl) ?_
  refine R_getI (pc := 1) (a := 241) (show z_pt 269 1 = some (1, .getfield 30, [10, 9, 6127]) by decide +kernel) (by decide +kernel) ?_
  refine R_at (pc := 4) ?_
  refine R_const (pc := 4) (pc' := 5) (v := (-1)) (show z_ptc 269 4 = some (5, (-1)) by decide +kernel) ?_
  refine R_icmne (pc := 5) (t := 16) (show z_pt 269 5 = some (1, .if_icmp .ne 11, []) by decide +kernel) (by decide) (fun c1 => ?_) (fun c1 => ?_)
  · rw [if_neg c1] at h
    refine R_pure (pc := 16) (pc' := 17) (st' := [.ref 241]) (show z_pt 269 16 = some (1, .aload_n 0, []) by decide +kernel) rfl (fun _ _ _ => rfl) ?_
    refine R_pure (pc := 17) (pc' := 18) (st' := [.ref 241, .ref 241]) (show z_pt 269 17 = some (1, .aload_n 0, []) by decide +kernel) rfl (fun _ _ _ => rfl) ?_
    refine R_getI (pc := 18) (a := 241) (show z_pt 269 18 = some (1, .getfield 30, [10, 9, 6127]) by decide +kernel) (by decide +kernel) ?_
    refine R_at (pc := 21) ?_
    obtain ⟨q2, e3, h⟩ := z_bs h
    refine R_call (pc := 21) (rr := []) (show z_pt 269 21 = some (1, .invokevirtual 79, [0, 164, 1, 6199, 6201, 37, 1012, 6202]) by decide +kernel) rfl (show z_r2 164 = some (10, 2, true) by decide +kernel) rfl rfl (Or.inr ⟨_, _, rfl, (by decide +kernel)⟩) (pm_done_run  e3) (by omega) ?_
    refine R_at2 (pc := 24) (st := [.int q2.1]) ?_
    cases h
    exact R_retI (show z_pt 269 24 = some (1, .ireturn, []) by decide +kernel) (by decide +kernel)
  · rw [if_pos c1] at h
    refine R_pure (pc := 8) (pc' := 9) (st' := [.ref 241]) (show z_pt 269 8 = some (1, .aload_n 0, []) by decide +kernel) rfl (fun _ _ _ => rfl) ?_
    refine R_const (pc := 9) (pc' := 10) (v := 1) (show z_ptc 269 9 = some (10, 1) by decide +kernel) ?_
    obtain ⟨q4, e5, h⟩ := z_bs h
    refine R_call (pc := 10) (rr := []) (show z_pt 269 10 = some (1, .invokevirtual 75, [0, 165, 1, 6195, 6197, 36, 1012, 6198]) by decide +kernel) rfl (show z_r2 165 = some (10, 2, true) by decide +kernel) rfl rfl (Or.inr ⟨_, _, rfl, (by decide +kernel)⟩) (pm_fails_run  e5) (by omega) ?_
    refine R_at2 (pc := 13) (st := [.int q4.1]) ?_
    refine R_pure (pc := 13) (pc' := 24) (show z_pt 269 13 = some (1, .goto 11, []) by decide +kernel) rfl (fun _ _ _ => rfl) ?_
    cases h
    exact R_retI (show z_pt 269 24 = some (1, .ireturn, []) by decide +kernel) (by decide +kernel)
def pm_undo  (μ : z_Mem)  : Option (Int32 × z_Mem) := if (μ 241 3) = 0 then (pm_fails μ 1).bind fun q6 => some (q6.1, q6.2) else (pm_copy 244 2648 242 331 (z_u μ 241 3 ((μ 241 3) - 1)) (((z_u μ 241 3 ((μ 241 3) - 1)) 241 3) * 331) 0).bind fun q2 => (pm_done q2 (q2 241 3)).bind fun q4 => some (q4.1, q4.2)
theorem pm_undo_run  {μ : z_Mem}   {r : (Int32 × z_Mem)} (h : pm_undo μ = some r) : Rn 1 270 0 [(0, .ref 241)] [] μ (.inl (some (.int r.1))) r.2 := by
  unfold pm_undo at h
  refine R_pure (pc := 0) (pc' := 1) (st' := [.ref 241]) (show z_pt 270 0 = some (1, .aload_n 0, []) by decide +kernel) rfl (fun _ _ _ => rfl) ?_
  refine R_getI (pc := 1) (a := 241) (show z_pt 270 1 = some (1, .getfield 52, [10, 3, 6121]) by decide +kernel) (by decide +kernel) ?_
  refine R_at (pc := 4) ?_
  refine R_ifne (pc := 4) (t := 13) (show z_pt 270 4 = some (1, .ifCond .ne 9, []) by decide +kernel) (by decide) (fun c1 => ?_) (fun c1 => ?_)
  · rw [if_neg c1] at h
    refine R_pure (pc := 13) (pc' := 14) (st' := [.ref 241]) (show z_pt 270 13 = some (1, .aload_n 0, []) by decide +kernel) rfl (fun _ _ _ => rfl) ?_
    refine R_pure (pc := 14) (pc' := 15) (st' := [.ref 241, .ref 241]) (show z_pt 270 14 = some (1, .dup, []) by decide +kernel) rfl (fun _ _ _ => rfl) ?_
    refine R_getI (pc := 15) (a := 241) (show z_pt 270 15 = some (1, .getfield 52, [10, 3, 6121]) by decide +kernel) (by decide +kernel) ?_
    refine R_at (pc := 18) ?_
    refine R_const (pc := 18) (pc' := 19) (v := 1) (show z_ptc 270 18 = some (19, 1) by decide +kernel) ?_
    refine R_pure (pc := 19) (pc' := 20) (st' := [.int ((μ 241 3) - 1), .ref 241]) (show z_pt 270 19 = some (1, .isub, []) by decide +kernel) rfl (fun _ _ _ => rfl) ?_
    refine R_putI (pc := 20) (a := 241) (show z_pt 270 20 = some (1, .putfield 52, [10, 3, 6121]) by decide +kernel) (by decide +kernel) ⟨rfl, rfl⟩ ?_
    refine R_at (pc := 23) ?_
    refine R_pure (pc := 23) (pc' := 24) (st' := [.ref 241]) (show z_pt 270 23 = some (1, .aload_n 0, []) by decide +kernel) rfl (fun _ _ _ => rfl) ?_
    refine R_getR (pc := 24) (a := 241) (b := 244) (show z_pt 270 24 = some (1, .getfield 16, [10, 2, 6120]) by decide +kernel) (by decide +kernel) ?_
    refine R_at (pc := 27) ?_
    refine R_pure (pc := 27) (pc' := 28) (st' := [.ref 241, .ref 244]) (show z_pt 270 27 = some (1, .aload_n 0, []) by decide +kernel) rfl (fun _ _ _ => rfl) ?_
    refine R_getI (pc := 28) (a := 241) (show z_pt 270 28 = some (1, .getfield 52, [10, 3, 6121]) by decide +kernel) (by decide +kernel) ?_
    refine R_at (pc := 31) ?_
    refine R_const (pc := 31) (pc' := 34) (v := 331) (show z_ptc 270 31 = some (34, 331) by decide +kernel) ?_
    refine R_pure (pc := 34) (pc' := 35) (st' := [.int (((z_u μ 241 3 ((μ 241 3) - 1)) 241 3) * 331), .ref 244]) (show z_pt 270 34 = some (1, .imul, []) by decide +kernel) rfl (fun _ _ _ => rfl) ?_
    refine R_pure (pc := 35) (pc' := 36) (st' := [.ref 241, .int (((z_u μ 241 3 ((μ 241 3) - 1)) 241 3) * 331), .ref 244]) (show z_pt 270 35 = some (1, .aload_n 0, []) by decide +kernel) rfl (fun _ _ _ => rfl) ?_
    refine R_getR (pc := 36) (a := 241) (b := 242) (show z_pt 270 36 = some (1, .getfield 7, [10, 0, 6118]) by decide +kernel) (by decide +kernel) ?_
    refine R_at (pc := 39) ?_
    refine R_const (pc := 39) (pc' := 40) (v := 0) (show z_ptc 270 39 = some (40, 0) by decide +kernel) ?_
    obtain ⟨q2, e3, h⟩ := z_bs h
    refine R_call (pc := 40) (rr := []) (show z_pt 270 40 = some (1, .invokestatic 48, [1, 166, 4, 6185, 6186, 0, 1012, 6187]) by decide +kernel) rfl (show z_r2 166 = some (10, 5, true) by decide +kernel) rfl rfl (Or.inl (by decide)) (pm_copy_run (show z_ar 244 0 2648 = true by decide +kernel) (show z_ar 242 0 331 = true by decide +kernel) e3) (by omega) ?_
    refine R_at2 (pc := 43) (st := []) ?_
    refine R_pure (pc := 43) (pc' := 44) (st' := [.ref 241]) (show z_pt 270 43 = some (1, .aload_n 0, []) by decide +kernel) rfl (fun _ _ _ => rfl) ?_
    refine R_pure (pc := 44) (pc' := 45) (st' := [.ref 241, .ref 241]) (show z_pt 270 44 = some (1, .aload_n 0, []) by decide +kernel) rfl (fun _ _ _ => rfl) ?_
    refine R_getI (pc := 45) (a := 241) (show z_pt 270 45 = some (1, .getfield 52, [10, 3, 6121]) by decide +kernel) (by decide +kernel) ?_
    refine R_at (pc := 48) ?_
    obtain ⟨q4, e5, h⟩ := z_bs h
    refine R_call (pc := 48) (rr := []) (show z_pt 270 48 = some (1, .invokevirtual 79, [0, 164, 1, 6199, 6201, 37, 1012, 6202]) by decide +kernel) rfl (show z_r2 164 = some (10, 2, true) by decide +kernel) rfl rfl (Or.inr ⟨_, _, rfl, (by decide +kernel)⟩) (pm_done_run  e5) (by omega) ?_
    refine R_at2 (pc := 51) (st := [.int q4.1]) ?_
    cases h
    exact R_retI (show z_pt 270 51 = some (1, .ireturn, []) by decide +kernel) (by decide +kernel)
  · rw [if_pos c1] at h
    refine R_pure (pc := 7) (pc' := 8) (st' := [.ref 241]) (show z_pt 270 7 = some (1, .aload_n 0, []) by decide +kernel) rfl (fun _ _ _ => rfl) ?_
    refine R_const (pc := 8) (pc' := 9) (v := 1) (show z_ptc 270 8 = some (9, 1) by decide +kernel) ?_
    obtain ⟨q6, e7, h⟩ := z_bs h
    refine R_call (pc := 9) (rr := []) (show z_pt 270 9 = some (1, .invokevirtual 75, [0, 165, 1, 6195, 6197, 36, 1012, 6198]) by decide +kernel) rfl (show z_r2 165 = some (10, 2, true) by decide +kernel) rfl rfl (Or.inr ⟨_, _, rfl, (by decide +kernel)⟩) (pm_fails_run  e7) (by omega) ?_
    refine R_at2 (pc := 12) (st := [.int q6.1]) ?_
    cases h
    exact R_retI (show z_pt 270 12 = some (1, .ireturn, []) by decide +kernel) (by decide +kernel)
def pm_undoCount  (μ : z_Mem)  : Option (Int32 × z_Mem) := (pm_done μ (μ 241 3)).bind fun q1 => some (q1.1, q1.2)
theorem pm_undoCount_run  {μ : z_Mem}   {r : (Int32 × z_Mem)} (h : pm_undoCount μ = some r) : Rn 1 271 0 [(0, .ref 241)] [] μ (.inl (some (.int r.1))) r.2 := by
  unfold pm_undoCount at h
  refine R_pure (pc := 0) (pc' := 1) (st' := [.ref 241]) (show z_pt 271 0 = some (1, .aload_n 0, []) by decide +kernel) rfl (fun _ _ _ => rfl) ?_
  refine R_pure (pc := 1) (pc' := 2) (st' := [.ref 241, .ref 241]) (show z_pt 271 1 = some (1, .aload_n 0, []) by decide +kernel) rfl (fun _ _ _ => rfl) ?_
  refine R_getI (pc := 2) (a := 241) (show z_pt 271 2 = some (1, .getfield 52, [10, 3, 6121]) by decide +kernel) (by decide +kernel) ?_
  refine R_at (pc := 5) ?_
  obtain ⟨q1, e2, h⟩ := z_bs h
  refine R_call (pc := 5) (rr := []) (show z_pt 271 5 = some (1, .invokevirtual 79, [0, 164, 1, 6199, 6201, 37, 1012, 6202]) by decide +kernel) rfl (show z_r2 164 = some (10, 2, true) by decide +kernel) rfl rfl (Or.inr ⟨_, _, rfl, (by decide +kernel)⟩) (pm_done_run  e2) (by omega) ?_
  refine R_at2 (pc := 8) (st := [.int q1.1]) ?_
  cases h
  exact R_retI (show z_pt 271 8 = some (1, .ireturn, []) by decide +kernel) (by decide +kernel)
def pm_save  (μ : z_Mem)  : Option (Int32 × z_Mem) := (pm_copy 242 331 245 331 μ 0 0).bind fun q1 => (pm_done (z_u q1 241 5 1) ((z_u q1 241 5 1) 242 0)).bind fun q3 => some (q3.1, q3.2)
theorem pm_save_run  {μ : z_Mem}   {r : (Int32 × z_Mem)} (h : pm_save μ = some r) : Rn 1 272 0 [(0, .ref 241)] [] μ (.inl (some (.int r.1))) r.2 := by
  unfold pm_save at h
  refine R_pure (pc := 0) (pc' := 1) (st' := [.ref 241]) (show z_pt 272 0 = some (1, .aload_n 0, []) by decide +kernel) rfl (fun _ _ _ => rfl) ?_
  refine R_getR (pc := 1) (a := 241) (b := 242) (show z_pt 272 1 = some (1, .getfield 7, [10, 0, 6118]) by decide +kernel) (by decide +kernel) ?_
  refine R_at (pc := 4) ?_
  refine R_const (pc := 4) (pc' := 5) (v := 0) (show z_ptc 272 4 = some (5, 0) by decide +kernel) ?_
  refine R_pure (pc := 5) (pc' := 6) (st' := [.ref 241, .int 0, .ref 242]) (show z_pt 272 5 = some (1, .aload_n 0, []) by decide +kernel) rfl (fun _ _ _ => rfl) ?_
  refine R_getR (pc := 6) (a := 241) (b := 245) (show z_pt 272 6 = some (1, .getfield 19, [10, 4, 6122]) by decide +kernel) (by decide +kernel) ?_
  refine R_at (pc := 9) ?_
  refine R_const (pc := 9) (pc' := 10) (v := 0) (show z_ptc 272 9 = some (10, 0) by decide +kernel) ?_
  obtain ⟨q1, e2, h⟩ := z_bs h
  refine R_call (pc := 10) (rr := []) (show z_pt 272 10 = some (1, .invokestatic 48, [1, 166, 4, 6185, 6186, 0, 1012, 6187]) by decide +kernel) rfl (show z_r2 166 = some (10, 5, true) by decide +kernel) rfl rfl (Or.inl (by decide)) (pm_copy_run (show z_ar 242 0 331 = true by decide +kernel) (show z_ar 245 0 331 = true by decide +kernel) e2) (by omega) ?_
  refine R_at2 (pc := 13) (st := []) ?_
  refine R_pure (pc := 13) (pc' := 14) (st' := [.ref 241]) (show z_pt 272 13 = some (1, .aload_n 0, []) by decide +kernel) rfl (fun _ _ _ => rfl) ?_
  refine R_const (pc := 14) (pc' := 15) (v := 1) (show z_ptc 272 14 = some (15, 1) by decide +kernel) ?_
  refine R_putI (pc := 15) (a := 241) (show z_pt 272 15 = some (1, .putfield 261, [10, 5, 6123]) by decide +kernel) (by decide +kernel) (by decide) ?_
  refine R_at (pc := 18) ?_
  refine R_pure (pc := 18) (pc' := 19) (st' := [.ref 241]) (show z_pt 272 18 = some (1, .aload_n 0, []) by decide +kernel) rfl (fun _ _ _ => rfl) ?_
  refine R_pure (pc := 19) (pc' := 20) (st' := [.ref 241, .ref 241]) (show z_pt 272 19 = some (1, .aload_n 0, []) by decide +kernel) rfl (fun _ _ _ => rfl) ?_
  refine R_getR (pc := 20) (a := 241) (b := 242) (show z_pt 272 20 = some (1, .getfield 7, [10, 0, 6118]) by decide +kernel) (by decide +kernel) ?_
  refine R_at (pc := 23) ?_
  refine R_const (pc := 23) (pc' := 24) (v := 0) (show z_ptc 272 23 = some (24, 0) by decide +kernel) ?_
  refine R_ialdK (pc := 24) (a := 242) (n := 331) (jn := 0) (show z_pt 272 24 = some (1, .iaload, []) by decide +kernel) (show z_ar 242 0 331 = true by decide +kernel) (by decide) (by decide) ?_
  refine R_at (pc := 25) ?_
  obtain ⟨q3, e4, h⟩ := z_bs h
  refine R_call (pc := 25) (rr := []) (show z_pt 272 25 = some (1, .invokevirtual 79, [0, 164, 1, 6199, 6201, 37, 1012, 6202]) by decide +kernel) rfl (show z_r2 164 = some (10, 2, true) by decide +kernel) rfl rfl (Or.inr ⟨_, _, rfl, (by decide +kernel)⟩) (pm_done_run  e4) (by omega) ?_
  refine R_at2 (pc := 28) (st := [.int q3.1]) ?_
  cases h
  exact R_retI (show z_pt 272 28 = some (1, .ireturn, []) by decide +kernel) (by decide +kernel)
def pm_restore  (μ : z_Mem)  : Option (Int32 × z_Mem) := if (μ 241 5) = 0 then (pm_fails μ 1).bind fun q6 => some (q6.1, q6.2) else (pm_copy 245 331 242 331 μ 0 0).bind fun q2 => (pm_done (z_u q2 241 3 0) ((z_u q2 241 3 0) 242 0)).bind fun q4 => some (q4.1, q4.2)
theorem pm_restore_run  {μ : z_Mem}   {r : (Int32 × z_Mem)} (h : pm_restore μ = some r) : Rn 1 273 0 [(0, .ref 241)] [] μ (.inl (some (.int r.1))) r.2 := by
  unfold pm_restore at h
  refine R_pure (pc := 0) (pc' := 1) (st' := [.ref 241]) (show z_pt 273 0 = some (1, .aload_n 0, []) by decide +kernel) rfl (fun _ _ _ => rfl) ?_
  refine R_getI (pc := 1) (a := 241) (show z_pt 273 1 = some (1, .getfield 261, [10, 5, 6123]) by decide +kernel) (by decide +kernel) ?_
  refine R_at (pc := 4) ?_
  refine R_ifne (pc := 4) (t := 13) (show z_pt 273 4 = some (1, .ifCond .ne 9, []) by decide +kernel) (by decide) (fun c1 => ?_) (fun c1 => ?_)
  · rw [if_neg c1] at h
    refine R_pure (pc := 13) (pc' := 14) (st' := [.ref 241]) (show z_pt 273 13 = some (1, .aload_n 0, []) by decide +kernel) rfl (fun _ _ _ => rfl) ?_
    refine R_getR (pc := 14) (a := 241) (b := 245) (show z_pt 273 14 = some (1, .getfield 19, [10, 4, 6122]) by decide +kernel) (by decide +kernel) ?_
    refine R_at (pc := 17) ?_
    refine R_const (pc := 17) (pc' := 18) (v := 0) (show z_ptc 273 17 = some (18, 0) by decide +kernel) ?_
    refine R_pure (pc := 18) (pc' := 19) (st' := [.ref 241, .int 0, .ref 245]) (show z_pt 273 18 = some (1, .aload_n 0, []) by decide +kernel) rfl (fun _ _ _ => rfl) ?_
    refine R_getR (pc := 19) (a := 241) (b := 242) (show z_pt 273 19 = some (1, .getfield 7, [10, 0, 6118]) by decide +kernel) (by decide +kernel) ?_
    refine R_at (pc := 22) ?_
    refine R_const (pc := 22) (pc' := 23) (v := 0) (show z_ptc 273 22 = some (23, 0) by decide +kernel) ?_
    obtain ⟨q2, e3, h⟩ := z_bs h
    refine R_call (pc := 23) (rr := []) (show z_pt 273 23 = some (1, .invokestatic 48, [1, 166, 4, 6185, 6186, 0, 1012, 6187]) by decide +kernel) rfl (show z_r2 166 = some (10, 5, true) by decide +kernel) rfl rfl (Or.inl (by decide)) (pm_copy_run (show z_ar 245 0 331 = true by decide +kernel) (show z_ar 242 0 331 = true by decide +kernel) e3) (by omega) ?_
    refine R_at2 (pc := 26) (st := []) ?_
    refine R_pure (pc := 26) (pc' := 27) (st' := [.ref 241]) (show z_pt 273 26 = some (1, .aload_n 0, []) by decide +kernel) rfl (fun _ _ _ => rfl) ?_
    refine R_const (pc := 27) (pc' := 28) (v := 0) (show z_ptc 273 27 = some (28, 0) by decide +kernel) ?_
    refine R_putI (pc := 28) (a := 241) (show z_pt 273 28 = some (1, .putfield 52, [10, 3, 6121]) by decide +kernel) (by decide +kernel) ⟨rfl, rfl⟩ ?_
    refine R_at (pc := 31) ?_
    refine R_pure (pc := 31) (pc' := 32) (st' := [.ref 241]) (show z_pt 273 31 = some (1, .aload_n 0, []) by decide +kernel) rfl (fun _ _ _ => rfl) ?_
    refine R_pure (pc := 32) (pc' := 33) (st' := [.ref 241, .ref 241]) (show z_pt 273 32 = some (1, .aload_n 0, []) by decide +kernel) rfl (fun _ _ _ => rfl) ?_
    refine R_getR (pc := 33) (a := 241) (b := 242) (show z_pt 273 33 = some (1, .getfield 7, [10, 0, 6118]) by decide +kernel) (by decide +kernel) ?_
    refine R_at (pc := 36) ?_
    refine R_const (pc := 36) (pc' := 37) (v := 0) (show z_ptc 273 36 = some (37, 0) by decide +kernel) ?_
    refine R_ialdK (pc := 37) (a := 242) (n := 331) (jn := 0) (show z_pt 273 37 = some (1, .iaload, []) by decide +kernel) (show z_ar 242 0 331 = true by decide +kernel) (by decide) (by decide) ?_
    refine R_at (pc := 38) ?_
    obtain ⟨q4, e5, h⟩ := z_bs h
    refine R_call (pc := 38) (rr := []) (show z_pt 273 38 = some (1, .invokevirtual 79, [0, 164, 1, 6199, 6201, 37, 1012, 6202]) by decide +kernel) rfl (show z_r2 164 = some (10, 2, true) by decide +kernel) rfl rfl (Or.inr ⟨_, _, rfl, (by decide +kernel)⟩) (pm_done_run  e5) (by omega) ?_
    refine R_at2 (pc := 41) (st := [.int q4.1]) ?_
    cases h
    exact R_retI (show z_pt 273 41 = some (1, .ireturn, []) by decide +kernel) (by decide +kernel)
  · rw [if_pos c1] at h
    refine R_pure (pc := 7) (pc' := 8) (st' := [.ref 241]) (show z_pt 273 7 = some (1, .aload_n 0, []) by decide +kernel) rfl (fun _ _ _ => rfl) ?_
    refine R_const (pc := 8) (pc' := 9) (v := 1) (show z_ptc 273 8 = some (9, 1) by decide +kernel) ?_
    obtain ⟨q6, e7, h⟩ := z_bs h
    refine R_call (pc := 9) (rr := []) (show z_pt 273 9 = some (1, .invokevirtual 75, [0, 165, 1, 6195, 6197, 36, 1012, 6198]) by decide +kernel) rfl (show z_r2 165 = some (10, 2, true) by decide +kernel) rfl rfl (Or.inr ⟨_, _, rfl, (by decide +kernel)⟩) (pm_fails_run  e7) (by omega) ?_
    refine R_at2 (pc := 12) (st := [.int q6.1]) ?_
    cases h
    exact R_retI (show z_pt 273 12 = some (1, .ireturn, []) by decide +kernel) (by decide +kernel)
def pJ_max  (μ : z_Mem) (i0 : Int32) (i1 : Int32) : Option Int32 := if i0 < i1 then some i1 else some i0
theorem pJ_max_run  {μ : z_Mem} {i0 : Int32} {i1 : Int32}  {r : Int32} (h : pJ_max μ i0 i1 = some r) : Rn 0 322 0 [(0, .int i0), (1, .int i1)] [] μ (.inl (some (.int r))) μ := by
  unfold pJ_max at h
  refine R_pure (pc := 0) (pc' := 1) (st' := [.int i0]) (show z_pt 322 0 = some (2, .iload_n 0, []) by decide +kernel) rfl (fun _ _ _ => rfl) ?_
  refine R_pure (pc := 1) (pc' := 2) (st' := [.int i1, .int i0]) (show z_pt 322 1 = some (2, .iload_n 1, []) by decide +kernel) rfl (fun _ _ _ => rfl) ?_
  refine R_icmlt (pc := 2) (t := 9) (show z_pt 322 2 = some (2, .if_icmp .lt 7, []) by decide +kernel) (by decide) (fun c1 => ?_) (fun c1 => ?_)
  · rw [if_pos c1] at h
    refine R_pure (pc := 9) (pc' := 10) (st' := [.int i1]) (show z_pt 322 9 = some (2, .iload_n 1, []) by decide +kernel) rfl (fun _ _ _ => rfl) ?_
    cases h
    exact R_retI (show z_pt 322 10 = some (2, .ireturn, []) by decide +kernel) (by decide +kernel)
  · rw [if_neg c1] at h
    refine R_pure (pc := 5) (pc' := 6) (st' := [.int i0]) (show z_pt 322 5 = some (2, .iload_n 0, []) by decide +kernel) rfl (fun _ _ _ => rfl) ?_
    refine R_pure (pc := 6) (pc' := 10) (show z_pt 322 6 = some (2, .goto 4, []) by decide +kernel) rfl (fun _ _ _ => rfl) ?_
    cases h
    exact R_retI (show z_pt 322 10 = some (2, .ireturn, []) by decide +kernel) (by decide +kernel)
end ZP11
