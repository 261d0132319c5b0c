/-! build: a new object and what the script makes of it. -/
section ZBLD
def pB_a1 (K : z_Mem → Option z_Mem) (z k : Int32) (μ : z_Mem) : Option z_Mem := (pL_act μ 0 ((8 : Int32) + ((z >>> ((((2 : Int32) + ((2 : Int32) * k)) : Int32) &&& 31)) &&& 31)) 0 0).bind fun q1 => K q1.2
theorem pB_a1_run {sc0 : Nat × (Nat → Int32)} {E : Nat} {K : z_Mem → Option z_Mem} {z k : Int32} {μ r : z_Mem} {o : z_R} (hK : ∀ μ r, K μ = some r → Ro sc0 E 40 152 46 [(0, .ref 2000), (1, .ref 0), (2, .int z), (3, .int k)] [] μ o r) (h : pB_a1 K z k μ = some r) : Ro sc0 (1 + E) 40 152 25 [(0, .ref 2000), (1, .ref 0), (2, .int z), (3, .int k)] [] μ o r := by
  have hK : ∀ μ r, K μ = some r → Ro sc0 E 40 152 46 [(0, .ref 2000), (1, .ref 0), (2, .int z), (3, .int k)] [] μ o r := hK
  unfold pB_a1 at h
  refine O_pure (pc := 25) (pc' := 26) (st' := [.ref 0]) (show z_pt 152 25 = some (6, .aload_n 1, []) by decide +kernel) rfl (fun _ _ _ => rfl) ?_
  refine O_const (pc := 26) (pc' := 27) (v := 0) (show z_ptc 152 26 = some (27, 0) by decide +kernel) ?_
  refine O_const (pc := 27) (pc' := 29) (v := 8) (show z_ptc 152 27 = some (29, 8) by decide +kernel) ?_
  refine O_pure (pc := 29) (pc' := 30) (st' := [.int z, .int 8, .int 0, .ref 0]) (show z_pt 152 29 = some (6, .iload_n 2, []) by decide +kernel) rfl (fun _ _ _ => rfl) ?_
  refine O_const (pc := 30) (pc' := 31) (v := 2) (show z_ptc 152 30 = some (31, 2) by decide +kernel) ?_
  refine O_const (pc := 31) (pc' := 32) (v := 2) (show z_ptc 152 31 = some (32, 2) by decide +kernel) ?_
  refine O_pure (pc := 32) (pc' := 33) (st' := [.int k, .int 2, .int 2, .int z, .int 8, .int 0, .ref 0]) (show z_pt 152 32 = some (6, .iload_n 3, []) by decide +kernel) rfl (fun _ _ _ => rfl) ?_
  refine O_pure (pc := 33) (pc' := 34) (st' := [.int ((2 : Int32) * k), .int 2, .int z, .int 8, .int 0, .ref 0]) (show z_pt 152 33 = some (6, .imul, []) by decide +kernel) rfl (fun _ _ _ => rfl) ?_
  refine O_pure (pc := 34) (pc' := 35) (st' := [.int ((2 : Int32) + ((2 : Int32) * k)), .int z, .int 8, .int 0, .ref 0]) (show z_pt 152 34 = some (6, .iadd, []) by decide +kernel) rfl (fun _ _ _ => rfl) ?_
  refine O_pure (pc := 35) (pc' := 36) (st' := [.int (z >>> ((((2 : Int32) + ((2 : Int32) * k)) : Int32) &&& 31)), .int 8, .int 0, .ref 0]) (show z_pt 152 35 = some (6, .ishr, []) by decide +kernel) rfl (fun _ _ _ => rfl) ?_
  refine O_const (pc := 36) (pc' := 38) (v := 31) (show z_ptc 152 36 = some (38, 31) by decide +kernel) ?_
  refine O_pure (pc := 38) (pc' := 39) (st' := [.int ((z >>> ((((2 : Int32) + ((2 : Int32) * k)) : Int32) &&& 31)) &&& 31), .int 8, .int 0, .ref 0]) (show z_pt 152 38 = some (6, .iand, []) by decide +kernel) rfl (fun _ _ _ => rfl) ?_
  refine O_pure (pc := 39) (pc' := 40) (st' := [.int ((8 : Int32) + ((z >>> ((((2 : Int32) + ((2 : Int32) * k)) : Int32) &&& 31)) &&& 31)), .int 0, .ref 0]) (show z_pt 152 39 = some (6, .iadd, []) by decide +kernel) rfl (fun _ _ _ => rfl) ?_
  refine O_const (pc := 40) (pc' := 41) (v := 0) (show z_ptc 152 40 = some (41, 0) by decide +kernel) ?_
  refine O_const (pc := 41) (pc' := 42) (v := 0) (show z_ptc 152 41 = some (42, 0) by decide +kernel) ?_
  obtain ⟨q1, e2, h⟩ := z_bs h
  refine O_call (E1 := 1) (E2 := E) (pc := 42) (rr := []) (show z_pt 152 42 = some (6, .invokestatic 30, [5, 153, 5, 5112, 5113, 0, 1000, 5114]) by decide +kernel) rfl (show z_r3 5 153 = some (11, 6, true) by decide +kernel) rfl rfl (Or.inl (by decide)) (pL_act_run  e2) (by omega) (by omega) ?_
  refine O_at2 (pc := 45) (st := [.int q1.1]) ?_
  refine O_pure (pc := 45) (pc' := 46) (st' := []) (show z_pt 152 45 = some (6, .pop, []) by decide +kernel) rfl (fun _ _ _ => rfl) ?_
  exact Ro_up (by omega) (Nat.le_refl _) (hK _ _ h)
def pB_a2 (K : z_Mem → Option z_Mem) (z k : Int32) (μ : z_Mem) : Option z_Mem := if k ≤ 0 then K μ else if k = 0 then none else (pL_act μ 1 (((z >>> ((((3 : Int32) + ((2 : Int32) * k)) : Int32) &&& 31)) &&& 7) - ((z >>> ((((3 : Int32) + ((2 : Int32) * k)) : Int32) &&& 31)) &&& 7) / k * k) k (((z >>> ((k : Int32) &&& 31)) &&& 7) - ((z >>> ((k : Int32) &&& 31)) &&& 7) / 6 * 6)).bind fun q3 => K q3.2
theorem pB_a2_run {sc0 : Nat × (Nat → Int32)} {E : Nat} {K : z_Mem → Option z_Mem} {z k : Int32} {μ r : z_Mem} {o : z_R} (hK : ∀ μ r, K μ = some r → Ro sc0 E 40 152 78 [(0, .ref 2000), (1, .ref 0), (2, .int z), (3, .int k)] [] μ o r) (h : pB_a2 K z k μ = some r) : Ro sc0 (1 + E) 40 152 46 [(0, .ref 2000), (1, .ref 0), (2, .int z), (3, .int k)] [] μ o r := by
  have hK : ∀ μ r, K μ = some r → Ro sc0 E 40 152 78 [(0, .ref 2000), (1, .ref 0), (2, .int z), (3, .int k)] [] μ o r := hK
  unfold pB_a2 at h
  refine O_pure (pc := 46) (pc' := 47) (st' := [.int k]) (show z_pt 152 46 = some (6, .iload_n 3, []) by decide +kernel) rfl (fun _ _ _ => rfl) ?_
  refine O_ifle (pc := 47) (t := 78) (show z_pt 152 47 = some (6, .ifCond .le 31, []) by decide +kernel) (by decide) (fun c1 => ?_) (fun c1 => ?_)
  · rw [if_pos c1] at h
    exact Ro_up (by omega) (Nat.le_refl _) (hK _ _ h)
  · rw [if_neg c1] at h
    refine O_pure (pc := 50) (pc' := 51) (st' := [.ref 0]) (show z_pt 152 50 = some (6, .aload_n 1, []) by decide +kernel) rfl (fun _ _ _ => rfl) ?_
    refine O_const (pc := 51) (pc' := 52) (v := 1) (show z_ptc 152 51 = some (52, 1) by decide +kernel) ?_
    refine O_pure (pc := 52) (pc' := 53) (st' := [.int z, .int 1, .ref 0]) (show z_pt 152 52 = some (6, .iload_n 2, []) by decide +kernel) rfl (fun _ _ _ => rfl) ?_
    refine O_const (pc := 53) (pc' := 54) (v := 3) (show z_ptc 152 53 = some (54, 3) by decide +kernel) ?_
    refine O_const (pc := 54) (pc' := 55) (v := 2) (show z_ptc 152 54 = some (55, 2) by decide +kernel) ?_
    refine O_pure (pc := 55) (pc' := 56) (st' := [.int k, .int 2, .int 3, .int z, .int 1, .ref 0]) (show z_pt 152 55 = some (6, .iload_n 3, []) by decide +kernel) rfl (fun _ _ _ => rfl) ?_
    refine O_pure (pc := 56) (pc' := 57) (st' := [.int ((2 : Int32) * k), .int 3, .int z, .int 1, .ref 0]) (show z_pt 152 56 = some (6, .imul, []) by decide +kernel) rfl (fun _ _ _ => rfl) ?_
    refine O_pure (pc := 57) (pc' := 58) (st' := [.int ((3 : Int32) + ((2 : Int32) * k)), .int z, .int 1, .ref 0]) (show z_pt 152 57 = some (6, .iadd, []) by decide +kernel) rfl (fun _ _ _ => rfl) ?_
    refine O_pure (pc := 58) (pc' := 59) (st' := [.int (z >>> ((((3 : Int32) + ((2 : Int32) * k)) : Int32) &&& 31)), .int 1, .ref 0]) (show z_pt 152 58 = some (6, .ishr, []) by decide +kernel) rfl (fun _ _ _ => rfl) ?_
    refine O_const (pc := 59) (pc' := 61) (v := 7) (show z_ptc 152 59 = some (61, 7) by decide +kernel) ?_
    refine O_pure (pc := 61) (pc' := 62) (st' := [.int ((z >>> ((((3 : Int32) + ((2 : Int32) * k)) : Int32) &&& 31)) &&& 7), .int 1, .ref 0]) (show z_pt 152 61 = some (6, .iand, []) by decide +kernel) rfl (fun _ _ _ => rfl) ?_
    refine O_pure (pc := 62) (pc' := 63) (st' := [.int k, .int ((z >>> ((((3 : Int32) + ((2 : Int32) * k)) : Int32) &&& 31)) &&& 7), .int 1, .ref 0]) (show z_pt 152 62 = some (6, .iload_n 3, []) by decide +kernel) rfl (fun _ _ _ => rfl) ?_
    obtain ⟨g2, h⟩ := z_ng h
    refine O_rem (x := ((z >>> ((((3 : Int32) + ((2 : Int32) * k)) : Int32) &&& 31)) &&& 7)) (y := k) (show z_pt 152 63 = some (6, .irem, []) by decide +kernel) g2 ?_
    refine O_pure (pc := 64) (pc' := 65) (st' := [.int k, .int (((z >>> ((((3 : Int32) + ((2 : Int32) * k)) : Int32) &&& 31)) &&& 7) - ((z >>> ((((3 : Int32) + ((2 : Int32) * k)) : Int32) &&& 31)) &&& 7) / k * k), .int 1, .ref 0]) (show z_pt 152 64 = some (6, .iload_n 3, []) by decide +kernel) rfl (fun _ _ _ => rfl) ?_
    refine O_pure (pc := 65) (pc' := 66) (st' := [.int z, .int k, .int (((z >>> ((((3 : Int32) + ((2 : Int32) * k)) : Int32) &&& 31)) &&& 7) - ((z >>> ((((3 : Int32) + ((2 : Int32) * k)) : Int32) &&& 31)) &&& 7) / k * k), .int 1, .ref 0]) (show z_pt 152 65 = some (6, .iload_n 2, []) by decide +kernel) rfl (fun _ _ _ => rfl) ?_
    refine O_pure (pc := 66) (pc' := 67) (st' := [.int k, .int z, .int k, .int (((z >>> ((((3 : Int32) + ((2 : Int32) * k)) : Int32) &&& 31)) &&& 7) - ((z >>> ((((3 : Int32) + ((2 : Int32) * k)) : Int32) &&& 31)) &&& 7) / k * k), .int 1, .ref 0]) (show z_pt 152 66 = some (6, .iload_n 3, []) by decide +kernel) rfl (fun _ _ _ => rfl) ?_
    refine O_pure (pc := 67) (pc' := 68) (st' := [.int (z >>> ((k : Int32) &&& 31)), .int k, .int (((z >>> ((((3 : Int32) + ((2 : Int32) * k)) : Int32) &&& 31)) &&& 7) - ((z >>> ((((3 : Int32) + ((2 : Int32) * k)) : Int32) &&& 31)) &&& 7) / k * k), .int 1, .ref 0]) (show z_pt 152 67 = some (6, .ishr, []) by decide +kernel) rfl (fun _ _ _ => rfl) ?_
    refine O_const (pc := 68) (pc' := 70) (v := 7) (show z_ptc 152 68 = some (70, 7) by decide +kernel) ?_
    refine O_pure (pc := 70) (pc' := 71) (st' := [.int ((z >>> ((k : Int32) &&& 31)) &&& 7), .int k, .int (((z >>> ((((3 : Int32) + ((2 : Int32) * k)) : Int32) &&& 31)) &&& 7) - ((z >>> ((((3 : Int32) + ((2 : Int32) * k)) : Int32) &&& 31)) &&& 7) / k * k), .int 1, .ref 0]) (show z_pt 152 70 = some (6, .iand, []) by decide +kernel) rfl (fun _ _ _ => rfl) ?_
    refine O_const (pc := 71) (pc' := 73) (v := 6) (show z_ptc 152 71 = some (73, 6) by decide +kernel) ?_
    refine O_rem (x := ((z >>> ((k : Int32) &&& 31)) &&& 7)) (y := 6) (show z_pt 152 73 = some (6, .irem, []) by decide +kernel) (by decide) ?_
    obtain ⟨q3, e4, h⟩ := z_bs h
    refine O_call (E1 := 1) (E2 := E) (pc := 74) (rr := []) (show z_pt 152 74 = some (6, .invokestatic 30, [5, 153, 5, 5112, 5113, 0, 1000, 5114]) by decide +kernel) rfl (show z_r3 5 153 = some (11, 6, true) by decide +kernel) rfl rfl (Or.inl (by decide)) (pL_act_run  e4) (by omega) (by omega) ?_
    refine O_at2 (pc := 77) (st := [.int q3.1]) ?_
    refine O_pure (pc := 77) (pc' := 78) (st' := []) (show z_pt 152 77 = some (6, .pop, []) by decide +kernel) rfl (fun _ _ _ => rfl) ?_
    exact Ro_up (by omega) (Nat.le_refl _) (hK _ _ h)
def pB_s1 (K : z_Mem → Option z_Mem) (z k c g : Int32) (μ : z_Mem) : Option z_Mem := if g = 0 then none else (pL_act μ 3 ((c &&& 15) - (c &&& 15) / g * g) (((c >>> ((4 : Int32) &&& 31)) &&& 31) - 15) 0).bind fun q2 => K q2.2
theorem pB_s1_run {sc0 : Nat × (Nat → Int32)} {E : Nat} {K : z_Mem → Option z_Mem} {z k c g : Int32} {μ r : z_Mem} {o : z_R} (hK : ∀ μ r, K μ = some r → Ro sc0 E 40 152 130 [(0, .ref 2000), (1, .ref 0), (2, .int z), (3, .int k), (4, .int c), (5, .int g)] [] μ o r) (h : pB_s1 K z k c g μ = some r) : Ro sc0 (1 + E) 40 152 105 [(0, .ref 2000), (1, .ref 0), (2, .int z), (3, .int k), (4, .int c), (5, .int g)] [] μ o r := by
  have hK : ∀ μ r, K μ = some r → Ro sc0 E 40 152 130 [(0, .ref 2000), (1, .ref 0), (2, .int z), (3, .int k), (4, .int c), (5, .int g)] [] μ o r := hK
  unfold pB_s1 at h
  refine O_pure (pc := 105) (pc' := 106) (st' := [.ref 0]) (show z_pt 152 105 = some (6, .aload_n 1, []) by decide +kernel) rfl (fun _ _ _ => rfl) ?_
  refine O_const (pc := 106) (pc' := 107) (v := 3) (show z_ptc 152 106 = some (107, 3) by decide +kernel) ?_
  refine O_pure (pc := 107) (pc' := 109) (st' := [.int c, .int 3, .ref 0]) (show z_pt 152 107 = some (6, .iload 4, []) by decide +kernel) rfl (fun _ _ _ => rfl) ?_
  refine O_const (pc := 109) (pc' := 111) (v := 15) (show z_ptc 152 109 = some (111, 15) by decide +kernel) ?_
  refine O_pure (pc := 111) (pc' := 112) (st' := [.int (c &&& 15), .int 3, .ref 0]) (show z_pt 152 111 = some (6, .iand, []) by decide +kernel) rfl (fun _ _ _ => rfl) ?_
  refine O_pure (pc := 112) (pc' := 114) (st' := [.int g, .int (c &&& 15), .int 3, .ref 0]) (show z_pt 152 112 = some (6, .iload 5, []) by decide +kernel) rfl (fun _ _ _ => rfl) ?_
  obtain ⟨g1, h⟩ := z_ng h
  refine O_rem (x := (c &&& 15)) (y := g) (show z_pt 152 114 = some (6, .irem, []) by decide +kernel) g1 ?_
  refine O_pure (pc := 115) (pc' := 117) (st' := [.int c, .int ((c &&& 15) - (c &&& 15) / g * g), .int 3, .ref 0]) (show z_pt 152 115 = some (6, .iload 4, []) by decide +kernel) rfl (fun _ _ _ => rfl) ?_
  refine O_const (pc := 117) (pc' := 118) (v := 4) (show z_ptc 152 117 = some (118, 4) by decide +kernel) ?_
  refine O_pure (pc := 118) (pc' := 119) (st' := [.int (c >>> ((4 : Int32) &&& 31)), .int ((c &&& 15) - (c &&& 15) / g * g), .int 3, .ref 0]) (show z_pt 152 118 = some (6, .ishr, []) by decide +kernel) rfl (fun _ _ _ => rfl) ?_
  refine O_const (pc := 119) (pc' := 121) (v := 31) (show z_ptc 152 119 = some (121, 31) by decide +kernel) ?_
  refine O_pure (pc := 121) (pc' := 122) (st' := [.int ((c >>> ((4 : Int32) &&& 31)) &&& 31), .int ((c &&& 15) - (c &&& 15) / g * g), .int 3, .ref 0]) (show z_pt 152 121 = some (6, .iand, []) by decide +kernel) rfl (fun _ _ _ => rfl) ?_
  refine O_const (pc := 122) (pc' := 124) (v := 15) (show z_ptc 152 122 = some (124, 15) by decide +kernel) ?_
  refine O_pure (pc := 124) (pc' := 125) (st' := [.int (((c >>> ((4 : Int32) &&& 31)) &&& 31) - 15), .int ((c &&& 15) - (c &&& 15) / g * g), .int 3, .ref 0]) (show z_pt 152 124 = some (6, .isub, []) by decide +kernel) rfl (fun _ _ _ => rfl) ?_
  refine O_const (pc := 125) (pc' := 126) (v := 0) (show z_ptc 152 125 = some (126, 0) by decide +kernel) ?_
  obtain ⟨q2, e3, h⟩ := z_bs h
  refine O_call (E1 := 1) (E2 := E) (pc := 126) (rr := []) (show z_pt 152 126 = some (6, .invokestatic 30, [5, 153, 5, 5112, 5113, 0, 1000, 5114]) by decide +kernel) rfl (show z_r3 5 153 = some (11, 6, true) by decide +kernel) rfl rfl (Or.inl (by decide)) (pL_act_run  e3) (by omega) (by omega) ?_
  refine O_at2 (pc := 129) (st := [.int q2.1]) ?_
  refine O_pure (pc := 129) (pc' := 130) (st' := []) (show z_pt 152 129 = some (6, .pop, []) by decide +kernel) rfl (fun _ _ _ => rfl) ?_
  exact Ro_up (by omega) (Nat.le_refl _) (hK _ _ h)
def pB_s2 (K : z_Mem → Option z_Mem) (z k c g : Int32) (μ : z_Mem) : Option z_Mem := if g = 0 then none else (pL_act μ 3 (((c >>> ((2 : Int32) &&& 31)) &&& 15) - ((c >>> ((2 : Int32) &&& 31)) &&& 15) / g * g) (((c >>> ((9 : Int32) &&& 31)) &&& 127) - 64) 0).bind fun q2 => K q2.2
theorem pB_s2_run {sc0 : Nat × (Nat → Int32)} {E : Nat} {K : z_Mem → Option z_Mem} {z k c g : Int32} {μ r : z_Mem} {o : z_R} (hK : ∀ μ r, K μ = some r → Ro sc0 E 40 152 158 [(0, .ref 2000), (1, .ref 0), (2, .int z), (3, .int k), (4, .int c), (5, .int g)] [] μ o r) (h : pB_s2 K z k c g μ = some r) : Ro sc0 (1 + E) 40 152 130 [(0, .ref 2000), (1, .ref 0), (2, .int z), (3, .int k), (4, .int c), (5, .int g)] [] μ o r := by
  have hK : ∀ μ r, K μ = some r → Ro sc0 E 40 152 158 [(0, .ref 2000), (1, .ref 0), (2, .int z), (3, .int k), (4, .int c), (5, .int g)] [] μ o r := hK
  unfold pB_s2 at h
  refine O_pure (pc := 130) (pc' := 131) (st' := [.ref 0]) (show z_pt 152 130 = some (6, .aload_n 1, []) by decide +kernel) rfl (fun _ _ _ => rfl) ?_
  refine O_const (pc := 131) (pc' := 132) (v := 3) (show z_ptc 152 131 = some (132, 3) by decide +kernel) ?_
  refine O_pure (pc := 132) (pc' := 134) (st' := [.int c, .int 3, .ref 0]) (show z_pt 152 132 = some (6, .iload 4, []) by decide +kernel) rfl (fun _ _ _ => rfl) ?_
  refine O_const (pc := 134) (pc' := 135) (v := 2) (show z_ptc 152 134 = some (135, 2) by decide +kernel) ?_
  refine O_pure (pc := 135) (pc' := 136) (st' := [.int (c >>> ((2 : Int32) &&& 31)), .int 3, .ref 0]) (show z_pt 152 135 = some (6, .ishr, []) by decide +kernel) rfl (fun _ _ _ => rfl) ?_
  refine O_const (pc := 136) (pc' := 138) (v := 15) (show z_ptc 152 136 = some (138, 15) by decide +kernel) ?_
  refine O_pure (pc := 138) (pc' := 139) (st' := [.int ((c >>> ((2 : Int32) &&& 31)) &&& 15), .int 3, .ref 0]) (show z_pt 152 138 = some (6, .iand, []) by decide +kernel) rfl (fun _ _ _ => rfl) ?_
  refine O_pure (pc := 139) (pc' := 141) (st' := [.int g, .int ((c >>> ((2 : Int32) &&& 31)) &&& 15), .int 3, .ref 0]) (show z_pt 152 139 = some (6, .iload 5, []) by decide +kernel) rfl (fun _ _ _ => rfl) ?_
  obtain ⟨g1, h⟩ := z_ng h
  refine O_rem (x := ((c >>> ((2 : Int32) &&& 31)) &&& 15)) (y := g) (show z_pt 152 141 = some (6, .irem, []) by decide +kernel) g1 ?_
  refine O_pure (pc := 142) (pc' := 144) (st' := [.int c, .int (((c >>> ((2 : Int32) &&& 31)) &&& 15) - ((c >>> ((2 : Int32) &&& 31)) &&& 15) / g * g), .int 3, .ref 0]) (show z_pt 152 142 = some (6, .iload 4, []) by decide +kernel) rfl (fun _ _ _ => rfl) ?_
  refine O_const (pc := 144) (pc' := 146) (v := 9) (show z_ptc 152 144 = some (146, 9) by decide +kernel) ?_
  refine O_pure (pc := 146) (pc' := 147) (st' := [.int (c >>> ((9 : Int32) &&& 31)), .int (((c >>> ((2 : Int32) &&& 31)) &&& 15) - ((c >>> ((2 : Int32) &&& 31)) &&& 15) / g * g), .int 3, .ref 0]) (show z_pt 152 146 = some (6, .ishr, []) by decide +kernel) rfl (fun _ _ _ => rfl) ?_
  refine O_const (pc := 147) (pc' := 149) (v := 127) (show z_ptc 152 147 = some (149, 127) by decide +kernel) ?_
  refine O_pure (pc := 149) (pc' := 150) (st' := [.int ((c >>> ((9 : Int32) &&& 31)) &&& 127), .int (((c >>> ((2 : Int32) &&& 31)) &&& 15) - ((c >>> ((2 : Int32) &&& 31)) &&& 15) / g * g), .int 3, .ref 0]) (show z_pt 152 149 = some (6, .iand, []) by decide +kernel) rfl (fun _ _ _ => rfl) ?_
  refine O_const (pc := 150) (pc' := 152) (v := 64) (show z_ptc 152 150 = some (152, 64) by decide +kernel) ?_
  refine O_pure (pc := 152) (pc' := 153) (st' := [.int (((c >>> ((9 : Int32) &&& 31)) &&& 127) - 64), .int (((c >>> ((2 : Int32) &&& 31)) &&& 15) - ((c >>> ((2 : Int32) &&& 31)) &&& 15) / g * g), .int 3, .ref 0]) (show z_pt 152 152 = some (6, .isub, []) by decide +kernel) rfl (fun _ _ _ => rfl) ?_
  refine O_const (pc := 153) (pc' := 154) (v := 0) (show z_ptc 152 153 = some (154, 0) by decide +kernel) ?_
  obtain ⟨q2, e3, h⟩ := z_bs h
  refine O_call (E1 := 1) (E2 := E) (pc := 154) (rr := []) (show z_pt 152 154 = some (6, .invokestatic 30, [5, 153, 5, 5112, 5113, 0, 1000, 5114]) by decide +kernel) rfl (show z_r3 5 153 = some (11, 6, true) by decide +kernel) rfl rfl (Or.inl (by decide)) (pL_act_run  e3) (by omega) (by omega) ?_
  refine O_at2 (pc := 157) (st := [.int q2.1]) ?_
  refine O_pure (pc := 157) (pc' := 158) (st' := []) (show z_pt 152 157 = some (6, .pop, []) by decide +kernel) rfl (fun _ _ _ => rfl) ?_
  exact Ro_up (by omega) (Nat.le_refl _) (hK _ _ h)
def pB_s3 (K : z_Mem → Option z_Mem) (z k c g : Int32) (μ : z_Mem) : Option z_Mem := if ((c >>> ((16 : Int32) &&& 31)) &&& 3) = 0 then if g = 0 then none else (pL_act μ 4 (((c >>> ((5 : Int32) &&& 31)) &&& 15) - ((c >>> ((5 : Int32) &&& 31)) &&& 15) / g * g) ((3 : Int32) + ((c >>> ((18 : Int32) &&& 31)) &&& 7)) 0).bind fun q3 => K q3.2 else K μ
theorem pB_s3_run {sc0 : Nat × (Nat → Int32)} {E : Nat} {K : z_Mem → Option z_Mem} {z k c g : Int32} {μ r : z_Mem} {o : z_R} (hK : ∀ μ r, K μ = some r → Ro sc0 E 40 152 195 [(0, .ref 2000), (1, .ref 0), (2, .int z), (3, .int k), (4, .int c), (5, .int g)] [] μ o r) (h : pB_s3 K z k c g μ = some r) : Ro sc0 (1 + E) 40 152 158 [(0, .ref 2000), (1, .ref 0), (2, .int z), (3, .int k), (4, .int c), (5, .int g)] [] μ o r := by
  have hK : ∀ μ r, K μ = some r → Ro sc0 E 40 152 195 [(0, .ref 2000), (1, .ref 0), (2, .int z), (3, .int k), (4, .int c), (5, .int g)] [] μ o r := hK
  unfold pB_s3 at h
  refine O_pure (pc := 158) (pc' := 160) (st' := [.int c]) (show z_pt 152 158 = some (6, .iload 4, []) by decide +kernel) rfl (fun _ _ _ => rfl) ?_
  refine O_const (pc := 160) (pc' := 162) (v := 16) (show z_ptc 152 160 = some (162, 16) by decide +kernel) ?_
  refine O_pure (pc := 162) (pc' := 163) (st' := [.int (c >>> ((16 : Int32) &&& 31))]) (show z_pt 152 162 = some (6, .ishr, []) by decide +kernel) rfl (fun _ _ _ => rfl) ?_
  refine O_const (pc := 163) (pc' := 164) (v := 3) (show z_ptc 152 163 = some (164, 3) by decide +kernel) ?_
  refine O_pure (pc := 164) (pc' := 165) (st' := [.int ((c >>> ((16 : Int32) &&& 31)) &&& 3)]) (show z_pt 152 164 = some (6, .iand, []) by decide +kernel) rfl (fun _ _ _ => rfl) ?_
  refine O_ifne (pc := 165) (t := 195) (show z_pt 152 165 = some (6, .ifCond .ne 30, []) by decide +kernel) (by decide) (fun c1 => ?_) (fun c1 => ?_)
  · rw [if_neg c1] at h
    exact Ro_up (by omega) (Nat.le_refl _) (hK _ _ h)
  · rw [if_pos c1] at h
    refine O_pure (pc := 168) (pc' := 169) (st' := [.ref 0]) (show z_pt 152 168 = some (6, .aload_n 1, []) by decide +kernel) rfl (fun _ _ _ => rfl) ?_
    refine O_const (pc := 169) (pc' := 170) (v := 4) (show z_ptc 152 169 = some (170, 4) by decide +kernel) ?_
    refine O_pure (pc := 170) (pc' := 172) (st' := [.int c, .int 4, .ref 0]) (show z_pt 152 170 = some (6, .iload 4, []) by decide +kernel) rfl (fun _ _ _ => rfl) ?_
    refine O_const (pc := 172) (pc' := 173) (v := 5) (show z_ptc 152 172 = some (173, 5) by decide +kernel) ?_
    refine O_pure (pc := 173) (pc' := 174) (st' := [.int (c >>> ((5 : Int32) &&& 31)), .int 4, .ref 0]) (show z_pt 152 173 = some (6, .ishr, []) by decide +kernel) rfl (fun _ _ _ => rfl) ?_
    refine O_const (pc := 174) (pc' := 176) (v := 15) (show z_ptc 152 174 = some (176, 15) by decide +kernel) ?_
    refine O_pure (pc := 176) (pc' := 177) (st' := [.int ((c >>> ((5 : Int32) &&& 31)) &&& 15), .int 4, .ref 0]) (show z_pt 152 176 = some (6, .iand, []) by decide +kernel) rfl (fun _ _ _ => rfl) ?_
    refine O_pure (pc := 177) (pc' := 179) (st' := [.int g, .int ((c >>> ((5 : Int32) &&& 31)) &&& 15), .int 4, .ref 0]) (show z_pt 152 177 = some (6, .iload 5, []) by decide +kernel) rfl (fun _ _ _ => rfl) ?_
    obtain ⟨g2, h⟩ := z_ng h
    refine O_rem (x := ((c >>> ((5 : Int32) &&& 31)) &&& 15)) (y := g) (show z_pt 152 179 = some (6, .irem, []) by decide +kernel) g2 ?_
    refine O_const (pc := 180) (pc' := 181) (v := 3) (show z_ptc 152 180 = some (181, 3) by decide +kernel) ?_
    refine O_pure (pc := 181) (pc' := 183) (st' := [.int c, .int 3, .int (((c >>> ((5 : Int32) &&& 31)) &&& 15) - ((c >>> ((5 : Int32) &&& 31)) &&& 15) / g * g), .int 4, .ref 0]) (show z_pt 152 181 = some (6, .iload 4, []) by decide +kernel) rfl (fun _ _ _ => rfl) ?_
    refine O_const (pc := 183) (pc' := 185) (v := 18) (show z_ptc 152 183 = some (185, 18) by decide +kernel) ?_
    refine O_pure (pc := 185) (pc' := 186) (st' := [.int (c >>> ((18 : Int32) &&& 31)), .int 3, .int (((c >>> ((5 : Int32) &&& 31)) &&& 15) - ((c >>> ((5 : Int32) &&& 31)) &&& 15) / g * g), .int 4, .ref 0]) (show z_pt 152 185 = some (6, .ishr, []) by decide +kernel) rfl (fun _ _ _ => rfl) ?_
    refine O_const (pc := 186) (pc' := 188) (v := 7) (show z_ptc 152 186 = some (188, 7) by decide +kernel) ?_
    refine O_pure (pc := 188) (pc' := 189) (st' := [.int ((c >>> ((18 : Int32) &&& 31)) &&& 7), .int 3, .int (((c >>> ((5 : Int32) &&& 31)) &&& 15) - ((c >>> ((5 : Int32) &&& 31)) &&& 15) / g * g), .int 4, .ref 0]) (show z_pt 152 188 = some (6, .iand, []) by decide +kernel) rfl (fun _ _ _ => rfl) ?_
    refine O_pure (pc := 189) (pc' := 190) (st' := [.int ((3 : Int32) + ((c >>> ((18 : Int32) &&& 31)) &&& 7)), .int (((c >>> ((5 : Int32) &&& 31)) &&& 15) - ((c >>> ((5 : Int32) &&& 31)) &&& 15) / g * g), .int 4, .ref 0]) (show z_pt 152 189 = some (6, .iadd, []) by decide +kernel) rfl (fun _ _ _ => rfl) ?_
    refine O_const (pc := 190) (pc' := 191) (v := 0) (show z_ptc 152 190 = some (191, 0) by decide +kernel) ?_
    obtain ⟨q3, e4, h⟩ := z_bs h
    refine O_call (E1 := 1) (E2 := E) (pc := 191) (rr := []) (show z_pt 152 191 = some (6, .invokestatic 30, [5, 153, 5, 5112, 5113, 0, 1000, 5114]) by decide +kernel) rfl (show z_r3 5 153 = some (11, 6, true) by decide +kernel) rfl rfl (Or.inl (by decide)) (pL_act_run  e4) (by omega) (by omega) ?_
    refine O_at2 (pc := 194) (st := [.int q3.1]) ?_
    refine O_pure (pc := 194) (pc' := 195) (st' := []) (show z_pt 152 194 = some (6, .pop, []) by decide +kernel) rfl (fun _ _ _ => rfl) ?_
    exact Ro_up (by omega) (Nat.le_refl _) (hK _ _ h)
def pB_s4 (K : z_Mem → Option z_Mem) (z k c g : Int32) (μ : z_Mem) : Option z_Mem := if ((c >>> ((16 : Int32) &&& 31)) &&& 3) = 1 then (pL_act μ 5 (((c >>> ((4 : Int32) &&& 31)) &&& 4095) - ((c >>> ((4 : Int32) &&& 31)) &&& 4095) / 3600 * 3600) (((c >>> ((18 : Int32) &&& 31)) &&& 63) - 32) 0).bind fun q2 => K q2.2 else K μ
theorem pB_s4_run {sc0 : Nat × (Nat → Int32)} {E : Nat} {K : z_Mem → Option z_Mem} {z k c g : Int32} {μ r : z_Mem} {o : z_R} (hK : ∀ μ r, K μ = some r → Ro sc0 E 40 152 236 [(0, .ref 2000), (1, .ref 0), (2, .int z), (3, .int k), (4, .int c), (5, .int g)] [] μ o r) (h : pB_s4 K z k c g μ = some r) : Ro sc0 (1 + E) 40 152 195 [(0, .ref 2000), (1, .ref 0), (2, .int z), (3, .int k), (4, .int c), (5, .int g)] [] μ o r := by
  have hK : ∀ μ r, K μ = some r → Ro sc0 E 40 152 236 [(0, .ref 2000), (1, .ref 0), (2, .int z), (3, .int k), (4, .int c), (5, .int g)] [] μ o r := hK
  unfold pB_s4 at h
  refine O_pure (pc := 195) (pc' := 197) (st' := [.int c]) (show z_pt 152 195 = some (6, .iload 4, []) by decide +kernel) rfl (fun _ _ _ => rfl) ?_
  refine O_const (pc := 197) (pc' := 199) (v := 16) (show z_ptc 152 197 = some (199, 16) by decide +kernel) ?_
  refine O_pure (pc := 199) (pc' := 200) (st' := [.int (c >>> ((16 : Int32) &&& 31))]) (show z_pt 152 199 = some (6, .ishr, []) by decide +kernel) rfl (fun _ _ _ => rfl) ?_
  refine O_const (pc := 200) (pc' := 201) (v := 3) (show z_ptc 152 200 = some (201, 3) by decide +kernel) ?_
  refine O_pure (pc := 201) (pc' := 202) (st' := [.int ((c >>> ((16 : Int32) &&& 31)) &&& 3)]) (show z_pt 152 201 = some (6, .iand, []) by decide +kernel) rfl (fun _ _ _ => rfl) ?_
  refine O_const (pc := 202) (pc' := 203) (v := 1) (show z_ptc 152 202 = some (203, 1) by decide +kernel) ?_
  refine O_icmne (pc := 203) (t := 236) (show z_pt 152 203 = some (6, .if_icmp .ne 33, []) by decide +kernel) (by decide) (fun c1 => ?_) (fun c1 => ?_)
  · rw [if_neg c1] at h
    exact Ro_up (by omega) (Nat.le_refl _) (hK _ _ h)
  · rw [if_pos c1] at h
    refine O_pure (pc := 206) (pc' := 207) (st' := [.ref 0]) (show z_pt 152 206 = some (6, .aload_n 1, []) by decide +kernel) rfl (fun _ _ _ => rfl) ?_
    refine O_const (pc := 207) (pc' := 208) (v := 5) (show z_ptc 152 207 = some (208, 5) by decide +kernel) ?_
    refine O_pure (pc := 208) (pc' := 210) (st' := [.int c, .int 5, .ref 0]) (show z_pt 152 208 = some (6, .iload 4, []) by decide +kernel) rfl (fun _ _ _ => rfl) ?_
    refine O_const (pc := 210) (pc' := 211) (v := 4) (show z_ptc 152 210 = some (211, 4) by decide +kernel) ?_
    refine O_pure (pc := 211) (pc' := 212) (st' := [.int (c >>> ((4 : Int32) &&& 31)), .int 5, .ref 0]) (show z_pt 152 211 = some (6, .ishr, []) by decide +kernel) rfl (fun _ _ _ => rfl) ?_
    refine O_const (pc := 212) (pc' := 215) (v := 4095) (show z_ptc 152 212 = some (215, 4095) by decide +kernel) ?_
    refine O_pure (pc := 215) (pc' := 216) (st' := [.int ((c >>> ((4 : Int32) &&& 31)) &&& 4095), .int 5, .ref 0]) (show z_pt 152 215 = some (6, .iand, []) by decide +kernel) rfl (fun _ _ _ => rfl) ?_
    refine O_const (pc := 216) (pc' := 219) (v := 3600) (show z_ptc 152 216 = some (219, 3600) by decide +kernel) ?_
    refine O_rem (x := ((c >>> ((4 : Int32) &&& 31)) &&& 4095)) (y := 3600) (show z_pt 152 219 = some (6, .irem, []) by decide +kernel) (by decide) ?_
    refine O_pure (pc := 220) (pc' := 222) (st' := [.int c, .int (((c >>> ((4 : Int32) &&& 31)) &&& 4095) - ((c >>> ((4 : Int32) &&& 31)) &&& 4095) / 3600 * 3600), .int 5, .ref 0]) (show z_pt 152 220 = some (6, .iload 4, []) by decide +kernel) rfl (fun _ _ _ => rfl) ?_
    refine O_const (pc := 222) (pc' := 224) (v := 18) (show z_ptc 152 222 = some (224, 18) by decide +kernel) ?_
    refine O_pure (pc := 224) (pc' := 225) (st' := [.int (c >>> ((18 : Int32) &&& 31)), .int (((c >>> ((4 : Int32) &&& 31)) &&& 4095) - ((c >>> ((4 : Int32) &&& 31)) &&& 4095) / 3600 * 3600), .int 5, .ref 0]) (show z_pt 152 224 = some (6, .ishr, []) by decide +kernel) rfl (fun _ _ _ => rfl) ?_
    refine O_const (pc := 225) (pc' := 227) (v := 63) (show z_ptc 152 225 = some (227, 63) by decide +kernel) ?_
    refine O_pure (pc := 227) (pc' := 228) (st' := [.int ((c >>> ((18 : Int32) &&& 31)) &&& 63), .int (((c >>> ((4 : Int32) &&& 31)) &&& 4095) - ((c >>> ((4 : Int32) &&& 31)) &&& 4095) / 3600 * 3600), .int 5, .ref 0]) (show z_pt 152 227 = some (6, .iand, []) by decide +kernel) rfl (fun _ _ _ => rfl) ?_
    refine O_const (pc := 228) (pc' := 230) (v := 32) (show z_ptc 152 228 = some (230, 32) by decide +kernel) ?_
    refine O_pure (pc := 230) (pc' := 231) (st' := [.int (((c >>> ((18 : Int32) &&& 31)) &&& 63) - 32), .int (((c >>> ((4 : Int32) &&& 31)) &&& 4095) - ((c >>> ((4 : Int32) &&& 31)) &&& 4095) / 3600 * 3600), .int 5, .ref 0]) (show z_pt 152 230 = some (6, .isub, []) by decide +kernel) rfl (fun _ _ _ => rfl) ?_
    refine O_const (pc := 231) (pc' := 232) (v := 0) (show z_ptc 152 231 = some (232, 0) by decide +kernel) ?_
    obtain ⟨q2, e3, h⟩ := z_bs h
    refine O_call (E1 := 1) (E2 := E) (pc := 232) (rr := []) (show z_pt 152 232 = some (6, .invokestatic 30, [5, 153, 5, 5112, 5113, 0, 1000, 5114]) by decide +kernel) rfl (show z_r3 5 153 = some (11, 6, true) by decide +kernel) rfl rfl (Or.inl (by decide)) (pL_act_run  e3) (by omega) (by omega) ?_
    refine O_at2 (pc := 235) (st := [.int q2.1]) ?_
    refine O_pure (pc := 235) (pc' := 236) (st' := []) (show z_pt 152 235 = some (6, .pop, []) by decide +kernel) rfl (fun _ _ _ => rfl) ?_
    exact Ro_up (by omega) (Nat.le_refl _) (hK _ _ h)
def pB_s5 (K : z_Mem → Option z_Mem) (z k c g : Int32) (μ : z_Mem) : Option z_Mem := if ((c >>> ((16 : Int32) &&& 31)) &&& 7) = 2 then if g = 0 then none else if g = 0 then none else (pL_act μ 2 (((c >>> ((18 : Int32) &&& 31)) &&& 15) - ((c >>> ((18 : Int32) &&& 31)) &&& 15) / g * g) (((c >>> ((22 : Int32) &&& 31)) &&& 15) - ((c >>> ((22 : Int32) &&& 31)) &&& 15) / g * g) 0).bind fun q4 => K q4.2 else K μ
theorem pB_s5_run {sc0 : Nat × (Nat → Int32)} {E : Nat} {K : z_Mem → Option z_Mem} {z k c g : Int32} {μ r : z_Mem} {o : z_R} (hK : ∀ μ r, K μ = some r → Ro sc0 E 40 152 277 [(0, .ref 2000), (1, .ref 0), (2, .int z), (3, .int k), (4, .int c), (5, .int g)] [] μ o r) (h : pB_s5 K z k c g μ = some r) : Ro sc0 (1 + E) 40 152 236 [(0, .ref 2000), (1, .ref 0), (2, .int z), (3, .int k), (4, .int c), (5, .int g)] [] μ o r := by
  have hK : ∀ μ r, K μ = some r → Ro sc0 E 40 152 277 [(0, .ref 2000), (1, .ref 0), (2, .int z), (3, .int k), (4, .int c), (5, .int g)] [] μ o r := hK
  unfold pB_s5 at h
  refine O_pure (pc := 236) (pc' := 238) (st' := [.int c]) (show z_pt 152 236 = some (6, .iload 4, []) by decide +kernel) rfl (fun _ _ _ => rfl) ?_
  refine O_const (pc := 238) (pc' := 240) (v := 16) (show z_ptc 152 238 = some (240, 16) by decide +kernel) ?_
  refine O_pure (pc := 240) (pc' := 241) (st' := [.int (c >>> ((16 : Int32) &&& 31))]) (show z_pt 152 240 = some (6, .ishr, []) by decide +kernel) rfl (fun _ _ _ => rfl) ?_
  refine O_const (pc := 241) (pc' := 243) (v := 7) (show z_ptc 152 241 = some (243, 7) by decide +kernel) ?_
  refine O_pure (pc := 243) (pc' := 244) (st' := [.int ((c >>> ((16 : Int32) &&& 31)) &&& 7)]) (show z_pt 152 243 = some (6, .iand, []) by decide +kernel) rfl (fun _ _ _ => rfl) ?_
  refine O_const (pc := 244) (pc' := 245) (v := 2) (show z_ptc 152 244 = some (245, 2) by decide +kernel) ?_
  refine O_icmne (pc := 245) (t := 277) (show z_pt 152 245 = some (6, .if_icmp .ne 32, []) by decide +kernel) (by decide) (fun c1 => ?_) (fun c1 => ?_)
  · rw [if_neg c1] at h
    exact Ro_up (by omega) (Nat.le_refl _) (hK _ _ h)
  · rw [if_pos c1] at h
    refine O_pure (pc := 248) (pc' := 249) (st' := [.ref 0]) (show z_pt 152 248 = some (6, .aload_n 1, []) by decide +kernel) rfl (fun _ _ _ => rfl) ?_
    refine O_const (pc := 249) (pc' := 250) (v := 2) (show z_ptc 152 249 = some (250, 2) by decide +kernel) ?_
    refine O_pure (pc := 250) (pc' := 252) (st' := [.int c, .int 2, .ref 0]) (show z_pt 152 250 = some (6, .iload 4, []) by decide +kernel) rfl (fun _ _ _ => rfl) ?_
    refine O_const (pc := 252) (pc' := 254) (v := 18) (show z_ptc 152 252 = some (254, 18) by decide +kernel) ?_
    refine O_pure (pc := 254) (pc' := 255) (st' := [.int (c >>> ((18 : Int32) &&& 31)), .int 2, .ref 0]) (show z_pt 152 254 = some (6, .ishr, []) by decide +kernel) rfl (fun _ _ _ => rfl) ?_
    refine O_const (pc := 255) (pc' := 257) (v := 15) (show z_ptc 152 255 = some (257, 15) by decide +kernel) ?_
    refine O_pure (pc := 257) (pc' := 258) (st' := [.int ((c >>> ((18 : Int32) &&& 31)) &&& 15), .int 2, .ref 0]) (show z_pt 152 257 = some (6, .iand, []) by decide +kernel) rfl (fun _ _ _ => rfl) ?_
    refine O_pure (pc := 258) (pc' := 260) (st' := [.int g, .int ((c >>> ((18 : Int32) &&& 31)) &&& 15), .int 2, .ref 0]) (show z_pt 152 258 = some (6, .iload 5, []) by decide +kernel) rfl (fun _ _ _ => rfl) ?_
    obtain ⟨g2, h⟩ := z_ng h
    refine O_rem (x := ((c >>> ((18 : Int32) &&& 31)) &&& 15)) (y := g) (show z_pt 152 260 = some (6, .irem, []) by decide +kernel) g2 ?_
    refine O_pure (pc := 261) (pc' := 263) (st' := [.int c, .int (((c >>> ((18 : Int32) &&& 31)) &&& 15) - ((c >>> ((18 : Int32) &&& 31)) &&& 15) / g * g), .int 2, .ref 0]) (show z_pt 152 261 = some (6, .iload 4, []) by decide +kernel) rfl (fun _ _ _ => rfl) ?_
    refine O_const (pc := 263) (pc' := 265) (v := 22) (show z_ptc 152 263 = some (265, 22) by decide +kernel) ?_
    refine O_pure (pc := 265) (pc' := 266) (st' := [.int (c >>> ((22 : Int32) &&& 31)), .int (((c >>> ((18 : Int32) &&& 31)) &&& 15) - ((c >>> ((18 : Int32) &&& 31)) &&& 15) / g * g), .int 2, .ref 0]) (show z_pt 152 265 = some (6, .ishr, []) by decide +kernel) rfl (fun _ _ _ => rfl) ?_
    refine O_const (pc := 266) (pc' := 268) (v := 15) (show z_ptc 152 266 = some (268, 15) by decide +kernel) ?_
    refine O_pure (pc := 268) (pc' := 269) (st' := [.int ((c >>> ((22 : Int32) &&& 31)) &&& 15), .int (((c >>> ((18 : Int32) &&& 31)) &&& 15) - ((c >>> ((18 : Int32) &&& 31)) &&& 15) / g * g), .int 2, .ref 0]) (show z_pt 152 268 = some (6, .iand, []) by decide +kernel) rfl (fun _ _ _ => rfl) ?_
    refine O_pure (pc := 269) (pc' := 271) (st' := [.int g, .int ((c >>> ((22 : Int32) &&& 31)) &&& 15), .int (((c >>> ((18 : Int32) &&& 31)) &&& 15) - ((c >>> ((18 : Int32) &&& 31)) &&& 15) / g * g), .int 2, .ref 0]) (show z_pt 152 269 = some (6, .iload 5, []) by decide +kernel) rfl (fun _ _ _ => rfl) ?_
    obtain ⟨g3, h⟩ := z_ng h
    refine O_rem (x := ((c >>> ((22 : Int32) &&& 31)) &&& 15)) (y := g) (show z_pt 152 271 = some (6, .irem, []) by decide +kernel) g3 ?_
    refine O_const (pc := 272) (pc' := 273) (v := 0) (show z_ptc 152 272 = some (273, 0) by decide +kernel) ?_
    obtain ⟨q4, e5, h⟩ := z_bs h
    refine O_call (E1 := 1) (E2 := E) (pc := 273) (rr := []) (show z_pt 152 273 = some (6, .invokestatic 30, [5, 153, 5, 5112, 5113, 0, 1000, 5114]) by decide +kernel) rfl (show z_r3 5 153 = some (11, 6, true) by decide +kernel) rfl rfl (Or.inl (by decide)) (pL_act_run  e5) (by omega) (by omega) ?_
    refine O_at2 (pc := 276) (st := [.int q4.1]) ?_
    refine O_pure (pc := 276) (pc' := 277) (st' := []) (show z_pt 152 276 = some (6, .pop, []) by decide +kernel) rfl (fun _ _ _ => rfl) ?_
    exact Ro_up (by omega) (Nat.le_refl _) (hK _ _ h)
def pB_s6 (K : z_Mem → Option z_Mem) (z k c g : Int32) (μ : z_Mem) : Option z_Mem := if ((c >>> ((16 : Int32) &&& 31)) &&& 7) = 6 then if g = 0 then none else if g = 0 then none else (pL_act μ 1 (((c >>> ((18 : Int32) &&& 31)) &&& 15) - ((c >>> ((18 : Int32) &&& 31)) &&& 15) / g * g) (((c >>> ((22 : Int32) &&& 31)) &&& 15) - ((c >>> ((22 : Int32) &&& 31)) &&& 15) / g * g) ((c >>> ((26 : Int32) &&& 31)) &&& 3)).bind fun q4 => K q4.2 else K μ
theorem pB_s6_run {sc0 : Nat × (Nat → Int32)} {E : Nat} {K : z_Mem → Option z_Mem} {z k c g : Int32} {μ r : z_Mem} {o : z_R} (hK : ∀ μ r, K μ = some r → Ro sc0 E 40 152 325 [(0, .ref 2000), (1, .ref 0), (2, .int z), (3, .int k), (4, .int c), (5, .int g)] [] μ o r) (h : pB_s6 K z k c g μ = some r) : Ro sc0 (1 + E) 40 152 277 [(0, .ref 2000), (1, .ref 0), (2, .int z), (3, .int k), (4, .int c), (5, .int g)] [] μ o r := by
  have hK : ∀ μ r, K μ = some r → Ro sc0 E 40 152 325 [(0, .ref 2000), (1, .ref 0), (2, .int z), (3, .int k), (4, .int c), (5, .int g)] [] μ o r := hK
  unfold pB_s6 at h
  refine O_pure (pc := 277) (pc' := 279) (st' := [.int c]) (show z_pt 152 277 = some (6, .iload 4, []) by decide +kernel) rfl (fun _ _ _ => rfl) ?_
  refine O_const (pc := 279) (pc' := 281) (v := 16) (show z_ptc 152 279 = some (281, 16) by decide +kernel) ?_
  refine O_pure (pc := 281) (pc' := 282) (st' := [.int (c >>> ((16 : Int32) &&& 31))]) (show z_pt 152 281 = some (6, .ishr, []) by decide +kernel) rfl (fun _ _ _ => rfl) ?_
  refine O_const (pc := 282) (pc' := 284) (v := 7) (show z_ptc 152 282 = some (284, 7) by decide +kernel) ?_
  refine O_pure (pc := 284) (pc' := 285) (st' := [.int ((c >>> ((16 : Int32) &&& 31)) &&& 7)]) (show z_pt 152 284 = some (6, .iand, []) by decide +kernel) rfl (fun _ _ _ => rfl) ?_
  refine O_const (pc := 285) (pc' := 287) (v := 6) (show z_ptc 152 285 = some (287, 6) by decide +kernel) ?_
  refine O_icmne (pc := 287) (t := 325) (show z_pt 152 287 = some (6, .if_icmp .ne 38, []) by decide +kernel) (by decide) (fun c1 => ?_) (fun c1 => ?_)
  · rw [if_neg c1] at h
    exact Ro_up (by omega) (Nat.le_refl _) (hK _ _ h)
  · rw [if_pos c1] at h
    refine O_pure (pc := 290) (pc' := 291) (st' := [.ref 0]) (show z_pt 152 290 = some (6, .aload_n 1, []) by decide +kernel) rfl (fun _ _ _ => rfl) ?_
    refine O_const (pc := 291) (pc' := 292) (v := 1) (show z_ptc 152 291 = some (292, 1) by decide +kernel) ?_
    refine O_pure (pc := 292) (pc' := 294) (st' := [.int c, .int 1, .ref 0]) (show z_pt 152 292 = some (6, .iload 4, []) by decide +kernel) rfl (fun _ _ _ => rfl) ?_
    refine O_const (pc := 294) (pc' := 296) (v := 18) (show z_ptc 152 294 = some (296, 18) by decide +kernel) ?_
    refine O_pure (pc := 296) (pc' := 297) (st' := [.int (c >>> ((18 : Int32) &&& 31)), .int 1, .ref 0]) (show z_pt 152 296 = some (6, .ishr, []) by decide +kernel) rfl (fun _ _ _ => rfl) ?_
    refine O_const (pc := 297) (pc' := 299) (v := 15) (show z_ptc 152 297 = some (299, 15) by decide +kernel) ?_
    refine O_pure (pc := 299) (pc' := 300) (st' := [.int ((c >>> ((18 : Int32) &&& 31)) &&& 15), .int 1, .ref 0]) (show z_pt 152 299 = some (6, .iand, []) by decide +kernel) rfl (fun _ _ _ => rfl) ?_
    refine O_pure (pc := 300) (pc' := 302) (st' := [.int g, .int ((c >>> ((18 : Int32) &&& 31)) &&& 15), .int 1, .ref 0]) (show z_pt 152 300 = some (6, .iload 5, []) by decide +kernel) rfl (fun _ _ _ => rfl) ?_
    obtain ⟨g2, h⟩ := z_ng h
    refine O_rem (x := ((c >>> ((18 : Int32) &&& 31)) &&& 15)) (y := g) (show z_pt 152 302 = some (6, .irem, []) by decide +kernel) g2 ?_
    refine O_pure (pc := 303) (pc' := 305) (st' := [.int c, .int (((c >>> ((18 : Int32) &&& 31)) &&& 15) - ((c >>> ((18 : Int32) &&& 31)) &&& 15) / g * g), .int 1, .ref 0]) (show z_pt 152 303 = some (6, .iload 4, []) by decide +kernel) rfl (fun _ _ _ => rfl) ?_
    refine O_const (pc := 305) (pc' := 307) (v := 22) (show z_ptc 152 305 = some (307, 22) by decide +kernel) ?_
    refine O_pure (pc := 307) (pc' := 308) (st' := [.int (c >>> ((22 : Int32) &&& 31)), .int (((c >>> ((18 : Int32) &&& 31)) &&& 15) - ((c >>> ((18 : Int32) &&& 31)) &&& 15) / g * g), .int 1, .ref 0]) (show z_pt 152 307 = some (6, .ishr, []) by decide +kernel) rfl (fun _ _ _ => rfl) ?_
    refine O_const (pc := 308) (pc' := 310) (v := 15) (show z_ptc 152 308 = some (310, 15) by decide +kernel) ?_
    refine O_pure (pc := 310) (pc' := 311) (st' := [.int ((c >>> ((22 : Int32) &&& 31)) &&& 15), .int (((c >>> ((18 : Int32) &&& 31)) &&& 15) - ((c >>> ((18 : Int32) &&& 31)) &&& 15) / g * g), .int 1, .ref 0]) (show z_pt 152 310 = some (6, .iand, []) by decide +kernel) rfl (fun _ _ _ => rfl) ?_
    refine O_pure (pc := 311) (pc' := 313) (st' := [.int g, .int ((c >>> ((22 : Int32) &&& 31)) &&& 15), .int (((c >>> ((18 : Int32) &&& 31)) &&& 15) - ((c >>> ((18 : Int32) &&& 31)) &&& 15) / g * g), .int 1, .ref 0]) (show z_pt 152 311 = some (6, .iload 5, []) by decide +kernel) rfl (fun _ _ _ => rfl) ?_
    obtain ⟨g3, h⟩ := z_ng h
    refine O_rem (x := ((c >>> ((22 : Int32) &&& 31)) &&& 15)) (y := g) (show z_pt 152 313 = some (6, .irem, []) by decide +kernel) g3 ?_
    refine O_pure (pc := 314) (pc' := 316) (st' := [.int c, .int (((c >>> ((22 : Int32) &&& 31)) &&& 15) - ((c >>> ((22 : Int32) &&& 31)) &&& 15) / g * g), .int (((c >>> ((18 : Int32) &&& 31)) &&& 15) - ((c >>> ((18 : Int32) &&& 31)) &&& 15) / g * g), .int 1, .ref 0]) (show z_pt 152 314 = some (6, .iload 4, []) by decide +kernel) rfl (fun _ _ _ => rfl) ?_
    refine O_const (pc := 316) (pc' := 318) (v := 26) (show z_ptc 152 316 = some (318, 26) by decide +kernel) ?_
    refine O_pure (pc := 318) (pc' := 319) (st' := [.int (c >>> ((26 : Int32) &&& 31)), .int (((c >>> ((22 : Int32) &&& 31)) &&& 15) - ((c >>> ((22 : Int32) &&& 31)) &&& 15) / g * g), .int (((c >>> ((18 : Int32) &&& 31)) &&& 15) - ((c >>> ((18 : Int32) &&& 31)) &&& 15) / g * g), .int 1, .ref 0]) (show z_pt 152 318 = some (6, .ishr, []) by decide +kernel) rfl (fun _ _ _ => rfl) ?_
    refine O_const (pc := 319) (pc' := 320) (v := 3) (show z_ptc 152 319 = some (320, 3) by decide +kernel) ?_
    refine O_pure (pc := 320) (pc' := 321) (st' := [.int ((c >>> ((26 : Int32) &&& 31)) &&& 3), .int (((c >>> ((22 : Int32) &&& 31)) &&& 15) - ((c >>> ((22 : Int32) &&& 31)) &&& 15) / g * g), .int (((c >>> ((18 : Int32) &&& 31)) &&& 15) - ((c >>> ((18 : Int32) &&& 31)) &&& 15) / g * g), .int 1, .ref 0]) (show z_pt 152 320 = some (6, .iand, []) by decide +kernel) rfl (fun _ _ _ => rfl) ?_
    obtain ⟨q4, e5, h⟩ := z_bs h
    refine O_call (E1 := 1) (E2 := E) (pc := 321) (rr := []) (show z_pt 152 321 = some (6, .invokestatic 30, [5, 153, 5, 5112, 5113, 0, 1000, 5114]) by decide +kernel) rfl (show z_r3 5 153 = some (11, 6, true) by decide +kernel) rfl rfl (Or.inl (by decide)) (pL_act_run  e5) (by omega) (by omega) ?_
    refine O_at2 (pc := 324) (st := [.int q4.1]) ?_
    refine O_pure (pc := 324) (pc' := 325) (st' := []) (show z_pt 152 324 = some (6, .pop, []) by decide +kernel) rfl (fun _ _ _ => rfl) ?_
    exact Ro_up (by omega) (Nat.le_refl _) (hK _ _ h)
def pB_s7 (K : z_Mem → Option z_Mem) (z k c g : Int32) (μ : z_Mem) : Option z_Mem := if ((c >>> ((16 : Int32) &&& 31)) &&& 7) = 3 then (pL_act μ 7 ((1 : Int32) + ((c >>> ((19 : Int32) &&& 31)) &&& 31)) 0 0).bind fun q2 => K q2.2 else K μ
theorem pB_s7_run {sc0 : Nat × (Nat → Int32)} {E : Nat} {K : z_Mem → Option z_Mem} {z k c g : Int32} {μ r : z_Mem} {o : z_R} (hK : ∀ μ r, K μ = some r → Ro sc0 E 40 152 356 [(0, .ref 2000), (1, .ref 0), (2, .int z), (3, .int k), (4, .int c), (5, .int g)] [] μ o r) (h : pB_s7 K z k c g μ = some r) : Ro sc0 (1 + E) 40 152 325 [(0, .ref 2000), (1, .ref 0), (2, .int z), (3, .int k), (4, .int c), (5, .int g)] [] μ o r := by
  have hK : ∀ μ r, K μ = some r → Ro sc0 E 40 152 356 [(0, .ref 2000), (1, .ref 0), (2, .int z), (3, .int k), (4, .int c), (5, .int g)] [] μ o r := hK
  unfold pB_s7 at h
  refine O_pure (pc := 325) (pc' := 327) (st' := [.int c]) (show z_pt 152 325 = some (6, .iload 4, []) by decide +kernel) rfl (fun _ _ _ => rfl) ?_
  refine O_const (pc := 327) (pc' := 329) (v := 16) (show z_ptc 152 327 = some (329, 16) by decide +kernel) ?_
  refine O_pure (pc := 329) (pc' := 330) (st' := [.int (c >>> ((16 : Int32) &&& 31))]) (show z_pt 152 329 = some (6, .ishr, []) by decide +kernel) rfl (fun _ _ _ => rfl) ?_
  refine O_const (pc := 330) (pc' := 332) (v := 7) (show z_ptc 152 330 = some (332, 7) by decide +kernel) ?_
  refine O_pure (pc := 332) (pc' := 333) (st' := [.int ((c >>> ((16 : Int32) &&& 31)) &&& 7)]) (show z_pt 152 332 = some (6, .iand, []) by decide +kernel) rfl (fun _ _ _ => rfl) ?_
  refine O_const (pc := 333) (pc' := 334) (v := 3) (show z_ptc 152 333 = some (334, 3) by decide +kernel) ?_
  refine O_icmne (pc := 334) (t := 356) (show z_pt 152 334 = some (6, .if_icmp .ne 22, []) by decide +kernel) (by decide) (fun c1 => ?_) (fun c1 => ?_)
  · rw [if_neg c1] at h
    exact Ro_up (by omega) (Nat.le_refl _) (hK _ _ h)
  · rw [if_pos c1] at h
    refine O_pure (pc := 337) (pc' := 338) (st' := [.ref 0]) (show z_pt 152 337 = some (6, .aload_n 1, []) by decide +kernel) rfl (fun _ _ _ => rfl) ?_
    refine O_const (pc := 338) (pc' := 340) (v := 7) (show z_ptc 152 338 = some (340, 7) by decide +kernel) ?_
    refine O_const (pc := 340) (pc' := 341) (v := 1) (show z_ptc 152 340 = some (341, 1) by decide +kernel) ?_
    refine O_pure (pc := 341) (pc' := 343) (st' := [.int c, .int 1, .int 7, .ref 0]) (show z_pt 152 341 = some (6, .iload 4, []) by decide +kernel) rfl (fun _ _ _ => rfl) ?_
    refine O_const (pc := 343) (pc' := 345) (v := 19) (show z_ptc 152 343 = some (345, 19) by decide +kernel) ?_
    refine O_pure (pc := 345) (pc' := 346) (st' := [.int (c >>> ((19 : Int32) &&& 31)), .int 1, .int 7, .ref 0]) (show z_pt 152 345 = some (6, .ishr, []) by decide +kernel) rfl (fun _ _ _ => rfl) ?_
    refine O_const (pc := 346) (pc' := 348) (v := 31) (show z_ptc 152 346 = some (348, 31) by decide +kernel) ?_
    refine O_pure (pc := 348) (pc' := 349) (st' := [.int ((c >>> ((19 : Int32) &&& 31)) &&& 31), .int 1, .int 7, .ref 0]) (show z_pt 152 348 = some (6, .iand, []) by decide +kernel) rfl (fun _ _ _ => rfl) ?_
    refine O_pure (pc := 349) (pc' := 350) (st' := [.int ((1 : Int32) + ((c >>> ((19 : Int32) &&& 31)) &&& 31)), .int 7, .ref 0]) (show z_pt 152 349 = some (6, .iadd, []) by decide +kernel) rfl (fun _ _ _ => rfl) ?_
    refine O_const (pc := 350) (pc' := 351) (v := 0) (show z_ptc 152 350 = some (351, 0) by decide +kernel) ?_
    refine O_const (pc := 351) (pc' := 352) (v := 0) (show z_ptc 152 351 = some (352, 0) by decide +kernel) ?_
    obtain ⟨q2, e3, h⟩ := z_bs h
    refine O_call (E1 := 1) (E2 := E) (pc := 352) (rr := []) (show z_pt 152 352 = some (6, .invokestatic 30, [5, 153, 5, 5112, 5113, 0, 1000, 5114]) by decide +kernel) rfl (show z_r3 5 153 = some (11, 6, true) by decide +kernel) rfl rfl (Or.inl (by decide)) (pL_act_run  e3) (by omega) (by omega) ?_
    refine O_at2 (pc := 355) (st := [.int q2.1]) ?_
    refine O_pure (pc := 355) (pc' := 356) (st' := []) (show z_pt 152 355 = some (6, .pop, []) by decide +kernel) rfl (fun _ _ _ => rfl) ?_
    exact Ro_up (by omega) (Nat.le_refl _) (hK _ _ h)
def pB_s8 (K : z_Mem → Option z_Mem) (z k c g : Int32) (μ : z_Mem) : Option z_Mem := if ((c >>> ((16 : Int32) &&& 31)) &&& 7) = 7 then (pL_act μ 8 ((97 : Int32) + ((c >>> ((19 : Int32) &&& 31)) &&& 1)) ((c >>> ((20 : Int32) &&& 31)) &&& 3) 0).bind fun q2 => K q2.2 else K μ
theorem pB_s8_run {sc0 : Nat × (Nat → Int32)} {E : Nat} {K : z_Mem → Option z_Mem} {z k c g : Int32} {μ r : z_Mem} {o : z_R} (hK : ∀ μ r, K μ = some r → Ro sc0 E 40 152 394 [(0, .ref 2000), (1, .ref 0), (2, .int z), (3, .int k), (4, .int c), (5, .int g)] [] μ o r) (h : pB_s8 K z k c g μ = some r) : Ro sc0 (1 + E) 40 152 356 [(0, .ref 2000), (1, .ref 0), (2, .int z), (3, .int k), (4, .int c), (5, .int g)] [] μ o r := by
  have hK : ∀ μ r, K μ = some r → Ro sc0 E 40 152 394 [(0, .ref 2000), (1, .ref 0), (2, .int z), (3, .int k), (4, .int c), (5, .int g)] [] μ o r := hK
  unfold pB_s8 at h
  refine O_pure (pc := 356) (pc' := 358) (st' := [.int c]) (show z_pt 152 356 = some (6, .iload 4, []) by decide +kernel) rfl (fun _ _ _ => rfl) ?_
  refine O_const (pc := 358) (pc' := 360) (v := 16) (show z_ptc 152 358 = some (360, 16) by decide +kernel) ?_
  refine O_pure (pc := 360) (pc' := 361) (st' := [.int (c >>> ((16 : Int32) &&& 31))]) (show z_pt 152 360 = some (6, .ishr, []) by decide +kernel) rfl (fun _ _ _ => rfl) ?_
  refine O_const (pc := 361) (pc' := 363) (v := 7) (show z_ptc 152 361 = some (363, 7) by decide +kernel) ?_
  refine O_pure (pc := 363) (pc' := 364) (st' := [.int ((c >>> ((16 : Int32) &&& 31)) &&& 7)]) (show z_pt 152 363 = some (6, .iand, []) by decide +kernel) rfl (fun _ _ _ => rfl) ?_
  refine O_const (pc := 364) (pc' := 366) (v := 7) (show z_ptc 152 364 = some (366, 7) by decide +kernel) ?_
  refine O_icmne (pc := 366) (t := 394) (show z_pt 152 366 = some (6, .if_icmp .ne 28, []) by decide +kernel) (by decide) (fun c1 => ?_) (fun c1 => ?_)
  · rw [if_neg c1] at h
    exact Ro_up (by omega) (Nat.le_refl _) (hK _ _ h)
  · rw [if_pos c1] at h
    refine O_pure (pc := 369) (pc' := 370) (st' := [.ref 0]) (show z_pt 152 369 = some (6, .aload_n 1, []) by decide +kernel) rfl (fun _ _ _ => rfl) ?_
    refine O_const (pc := 370) (pc' := 372) (v := 8) (show z_ptc 152 370 = some (372, 8) by decide +kernel) ?_
    refine O_const (pc := 372) (pc' := 374) (v := 97) (show z_ptc 152 372 = some (374, 97) by decide +kernel) ?_
    refine O_pure (pc := 374) (pc' := 376) (st' := [.int c, .int 97, .int 8, .ref 0]) (show z_pt 152 374 = some (6, .iload 4, []) by decide +kernel) rfl (fun _ _ _ => rfl) ?_
    refine O_const (pc := 376) (pc' := 378) (v := 19) (show z_ptc 152 376 = some (378, 19) by decide +kernel) ?_
    refine O_pure (pc := 378) (pc' := 379) (st' := [.int (c >>> ((19 : Int32) &&& 31)), .int 97, .int 8, .ref 0]) (show z_pt 152 378 = some (6, .ishr, []) by decide +kernel) rfl (fun _ _ _ => rfl) ?_
    refine O_const (pc := 379) (pc' := 380) (v := 1) (show z_ptc 152 379 = some (380, 1) by decide +kernel) ?_
    refine O_pure (pc := 380) (pc' := 381) (st' := [.int ((c >>> ((19 : Int32) &&& 31)) &&& 1), .int 97, .int 8, .ref 0]) (show z_pt 152 380 = some (6, .iand, []) by decide +kernel) rfl (fun _ _ _ => rfl) ?_
    refine O_pure (pc := 381) (pc' := 382) (st' := [.int ((97 : Int32) + ((c >>> ((19 : Int32) &&& 31)) &&& 1)), .int 8, .ref 0]) (show z_pt 152 381 = some (6, .iadd, []) by decide +kernel) rfl (fun _ _ _ => rfl) ?_
    refine O_pure (pc := 382) (pc' := 384) (st' := [.int c, .int ((97 : Int32) + ((c >>> ((19 : Int32) &&& 31)) &&& 1)), .int 8, .ref 0]) (show z_pt 152 382 = some (6, .iload 4, []) by decide +kernel) rfl (fun _ _ _ => rfl) ?_
    refine O_const (pc := 384) (pc' := 386) (v := 20) (show z_ptc 152 384 = some (386, 20) by decide +kernel) ?_
    refine O_pure (pc := 386) (pc' := 387) (st' := [.int (c >>> ((20 : Int32) &&& 31)), .int ((97 : Int32) + ((c >>> ((19 : Int32) &&& 31)) &&& 1)), .int 8, .ref 0]) (show z_pt 152 386 = some (6, .ishr, []) by decide +kernel) rfl (fun _ _ _ => rfl) ?_
    refine O_const (pc := 387) (pc' := 388) (v := 3) (show z_ptc 152 387 = some (388, 3) by decide +kernel) ?_
    refine O_pure (pc := 388) (pc' := 389) (st' := [.int ((c >>> ((20 : Int32) &&& 31)) &&& 3), .int ((97 : Int32) + ((c >>> ((19 : Int32) &&& 31)) &&& 1)), .int 8, .ref 0]) (show z_pt 152 388 = some (6, .iand, []) by decide +kernel) rfl (fun _ _ _ => rfl) ?_
    refine O_const (pc := 389) (pc' := 390) (v := 0) (show z_ptc 152 389 = some (390, 0) by decide +kernel) ?_
    obtain ⟨q2, e3, h⟩ := z_bs h
    refine O_call (E1 := 1) (E2 := E) (pc := 390) (rr := []) (show z_pt 152 390 = some (6, .invokestatic 30, [5, 153, 5, 5112, 5113, 0, 1000, 5114]) by decide +kernel) rfl (show z_r3 5 153 = some (11, 6, true) by decide +kernel) rfl rfl (Or.inl (by decide)) (pL_act_run  e3) (by omega) (by omega) ?_
    refine O_at2 (pc := 393) (st := [.int q2.1]) ?_
    refine O_pure (pc := 393) (pc' := 394) (st' := []) (show z_pt 152 393 = some (6, .pop, []) by decide +kernel) rfl (fun _ _ _ => rfl) ?_
    exact Ro_up (by omega) (Nat.le_refl _) (hK _ _ h)
def pB_s9 (K : z_Mem → Option z_Mem) (z k c g : Int32) (μ : z_Mem) : Option z_Mem := if ((c >>> ((24 : Int32) &&& 31)) &&& 15) = 5 then (pL_act μ 6 ((c >>> ((28 : Int32) &&& 31)) &&& 3) 0 0).bind fun q2 => K q2.2 else K μ
theorem pB_s9_run {sc0 : Nat × (Nat → Int32)} {E : Nat} {K : z_Mem → Option z_Mem} {z k c g : Int32} {μ r : z_Mem} {o : z_R} (hK : ∀ μ r, K μ = some r → Ro sc0 E 40 152 422 [(0, .ref 2000), (1, .ref 0), (2, .int z), (3, .int k), (4, .int c), (5, .int g)] [] μ o r) (h : pB_s9 K z k c g μ = some r) : Ro sc0 (1 + E) 40 152 394 [(0, .ref 2000), (1, .ref 0), (2, .int z), (3, .int k), (4, .int c), (5, .int g)] [] μ o r := by
  have hK : ∀ μ r, K μ = some r → Ro sc0 E 40 152 422 [(0, .ref 2000), (1, .ref 0), (2, .int z), (3, .int k), (4, .int c), (5, .int g)] [] μ o r := hK
  unfold pB_s9 at h
  refine O_pure (pc := 394) (pc' := 396) (st' := [.int c]) (show z_pt 152 394 = some (6, .iload 4, []) by decide +kernel) rfl (fun _ _ _ => rfl) ?_
  refine O_const (pc := 396) (pc' := 398) (v := 24) (show z_ptc 152 396 = some (398, 24) by decide +kernel) ?_
  refine O_pure (pc := 398) (pc' := 399) (st' := [.int (c >>> ((24 : Int32) &&& 31))]) (show z_pt 152 398 = some (6, .ishr, []) by decide +kernel) rfl (fun _ _ _ => rfl) ?_
  refine O_const (pc := 399) (pc' := 401) (v := 15) (show z_ptc 152 399 = some (401, 15) by decide +kernel) ?_
  refine O_pure (pc := 401) (pc' := 402) (st' := [.int ((c >>> ((24 : Int32) &&& 31)) &&& 15)]) (show z_pt 152 401 = some (6, .iand, []) by decide +kernel) rfl (fun _ _ _ => rfl) ?_
  refine O_const (pc := 402) (pc' := 403) (v := 5) (show z_ptc 152 402 = some (403, 5) by decide +kernel) ?_
  refine O_icmne (pc := 403) (t := 422) (show z_pt 152 403 = some (6, .if_icmp .ne 19, []) by decide +kernel) (by decide) (fun c1 => ?_) (fun c1 => ?_)
  · rw [if_neg c1] at h
    exact Ro_up (by omega) (Nat.le_refl _) (hK _ _ h)
  · rw [if_pos c1] at h
    refine O_pure (pc := 406) (pc' := 407) (st' := [.ref 0]) (show z_pt 152 406 = some (6, .aload_n 1, []) by decide +kernel) rfl (fun _ _ _ => rfl) ?_
    refine O_const (pc := 407) (pc' := 409) (v := 6) (show z_ptc 152 407 = some (409, 6) by decide +kernel) ?_
    refine O_pure (pc := 409) (pc' := 411) (st' := [.int c, .int 6, .ref 0]) (show z_pt 152 409 = some (6, .iload 4, []) by decide +kernel) rfl (fun _ _ _ => rfl) ?_
    refine O_const (pc := 411) (pc' := 413) (v := 28) (show z_ptc 152 411 = some (413, 28) by decide +kernel) ?_
    refine O_pure (pc := 413) (pc' := 414) (st' := [.int (c >>> ((28 : Int32) &&& 31)), .int 6, .ref 0]) (show z_pt 152 413 = some (6, .ishr, []) by decide +kernel) rfl (fun _ _ _ => rfl) ?_
    refine O_const (pc := 414) (pc' := 415) (v := 3) (show z_ptc 152 414 = some (415, 3) by decide +kernel) ?_
    refine O_pure (pc := 415) (pc' := 416) (st' := [.int ((c >>> ((28 : Int32) &&& 31)) &&& 3), .int 6, .ref 0]) (show z_pt 152 415 = some (6, .iand, []) by decide +kernel) rfl (fun _ _ _ => rfl) ?_
    refine O_const (pc := 416) (pc' := 417) (v := 0) (show z_ptc 152 416 = some (417, 0) by decide +kernel) ?_
    refine O_const (pc := 417) (pc' := 418) (v := 0) (show z_ptc 152 417 = some (418, 0) by decide +kernel) ?_
    obtain ⟨q2, e3, h⟩ := z_bs h
    refine O_call (E1 := 1) (E2 := E) (pc := 418) (rr := []) (show z_pt 152 418 = some (6, .invokestatic 30, [5, 153, 5, 5112, 5113, 0, 1000, 5114]) by decide +kernel) rfl (show z_r3 5 153 = some (11, 6, true) by decide +kernel) rfl rfl (Or.inl (by decide)) (pL_act_run  e3) (by omega) (by omega) ?_
    refine O_at2 (pc := 421) (st := [.int q2.1]) ?_
    refine O_pure (pc := 421) (pc' := 422) (st' := []) (show z_pt 152 421 = some (6, .pop, []) by decide +kernel) rfl (fun _ _ _ => rfl) ?_
    exact Ro_up (by omega) (Nat.le_refl _) (hK _ _ h)
def pB_s10 (K : z_Mem → Option z_Mem) (z k c g : Int32) (μ : z_Mem) : Option z_Mem := if ((c >>> ((24 : Int32) &&& 31)) &&& 7) = 6 then (pL_act μ 10 0 ((c >>> ((28 : Int32) &&& 31)) &&& 1) 0).bind fun q2 => K q2.2 else K μ
theorem pB_s10_run {sc0 : Nat × (Nat → Int32)} {E : Nat} {K : z_Mem → Option z_Mem} {z k c g : Int32} {μ r : z_Mem} {o : z_R} (hK : ∀ μ r, K μ = some r → Ro sc0 E 40 152 451 [(0, .ref 2000), (1, .ref 0), (2, .int z), (3, .int k), (4, .int c), (5, .int g)] [] μ o r) (h : pB_s10 K z k c g μ = some r) : Ro sc0 (1 + E) 40 152 422 [(0, .ref 2000), (1, .ref 0), (2, .int z), (3, .int k), (4, .int c), (5, .int g)] [] μ o r := by
  have hK : ∀ μ r, K μ = some r → Ro sc0 E 40 152 451 [(0, .ref 2000), (1, .ref 0), (2, .int z), (3, .int k), (4, .int c), (5, .int g)] [] μ o r := hK
  unfold pB_s10 at h
  refine O_pure (pc := 422) (pc' := 424) (st' := [.int c]) (show z_pt 152 422 = some (6, .iload 4, []) by decide +kernel) rfl (fun _ _ _ => rfl) ?_
  refine O_const (pc := 424) (pc' := 426) (v := 24) (show z_ptc 152 424 = some (426, 24) by decide +kernel) ?_
  refine O_pure (pc := 426) (pc' := 427) (st' := [.int (c >>> ((24 : Int32) &&& 31))]) (show z_pt 152 426 = some (6, .ishr, []) by decide +kernel) rfl (fun _ _ _ => rfl) ?_
  refine O_const (pc := 427) (pc' := 429) (v := 7) (show z_ptc 152 427 = some (429, 7) by decide +kernel) ?_
  refine O_pure (pc := 429) (pc' := 430) (st' := [.int ((c >>> ((24 : Int32) &&& 31)) &&& 7)]) (show z_pt 152 429 = some (6, .iand, []) by decide +kernel) rfl (fun _ _ _ => rfl) ?_
  refine O_const (pc := 430) (pc' := 432) (v := 6) (show z_ptc 152 430 = some (432, 6) by decide +kernel) ?_
  refine O_icmne (pc := 432) (t := 451) (show z_pt 152 432 = some (6, .if_icmp .ne 19, []) by decide +kernel) (by decide) (fun c1 => ?_) (fun c1 => ?_)
  · rw [if_neg c1] at h
    exact Ro_up (by omega) (Nat.le_refl _) (hK _ _ h)
  · rw [if_pos c1] at h
    refine O_pure (pc := 435) (pc' := 436) (st' := [.ref 0]) (show z_pt 152 435 = some (6, .aload_n 1, []) by decide +kernel) rfl (fun _ _ _ => rfl) ?_
    refine O_const (pc := 436) (pc' := 438) (v := 10) (show z_ptc 152 436 = some (438, 10) by decide +kernel) ?_
    refine O_const (pc := 438) (pc' := 439) (v := 0) (show z_ptc 152 438 = some (439, 0) by decide +kernel) ?_
    refine O_pure (pc := 439) (pc' := 441) (st' := [.int c, .int 0, .int 10, .ref 0]) (show z_pt 152 439 = some (6, .iload 4, []) by decide +kernel) rfl (fun _ _ _ => rfl) ?_
    refine O_const (pc := 441) (pc' := 443) (v := 28) (show z_ptc 152 441 = some (443, 28) by decide +kernel) ?_
    refine O_pure (pc := 443) (pc' := 444) (st' := [.int (c >>> ((28 : Int32) &&& 31)), .int 0, .int 10, .ref 0]) (show z_pt 152 443 = some (6, .ishr, []) by decide +kernel) rfl (fun _ _ _ => rfl) ?_
    refine O_const (pc := 444) (pc' := 445) (v := 1) (show z_ptc 152 444 = some (445, 1) by decide +kernel) ?_
    refine O_pure (pc := 445) (pc' := 446) (st' := [.int ((c >>> ((28 : Int32) &&& 31)) &&& 1), .int 0, .int 10, .ref 0]) (show z_pt 152 445 = some (6, .iand, []) by decide +kernel) rfl (fun _ _ _ => rfl) ?_
    refine O_const (pc := 446) (pc' := 447) (v := 0) (show z_ptc 152 446 = some (447, 0) by decide +kernel) ?_
    obtain ⟨q2, e3, h⟩ := z_bs h
    refine O_call (E1 := 1) (E2 := E) (pc := 447) (rr := []) (show z_pt 152 447 = some (6, .invokestatic 30, [5, 153, 5, 5112, 5113, 0, 1000, 5114]) by decide +kernel) rfl (show z_r3 5 153 = some (11, 6, true) by decide +kernel) rfl rfl (Or.inl (by decide)) (pL_act_run  e3) (by omega) (by omega) ?_
    refine O_at2 (pc := 450) (st := [.int q2.1]) ?_
    refine O_pure (pc := 450) (pc' := 451) (st' := []) (show z_pt 152 450 = some (6, .pop, []) by decide +kernel) rfl (fun _ _ _ => rfl) ?_
    exact Ro_up (by omega) (Nat.le_refl _) (hK _ _ h)
def pB_s11 (K : z_Mem → Option z_Mem) (z k c g : Int32) (μ : z_Mem) : Option z_Mem := if ((c >>> ((24 : Int32) &&& 31)) &&& 15) = 9 then (pL_act μ 0 ((8 : Int32) + (c &&& 31)) 0 0).bind fun q2 => K q2.2 else K μ
theorem pB_s11_run {sc0 : Nat × (Nat → Int32)} {E : Nat} {K : z_Mem → Option z_Mem} {z k c g : Int32} {μ r : z_Mem} {o : z_R} (hK : ∀ μ r, K μ = some r → Ro sc0 E 40 152 480 [(0, .ref 2000), (1, .ref 0), (2, .int z), (3, .int k), (4, .int c), (5, .int g)] [] μ o r) (h : pB_s11 K z k c g μ = some r) : Ro sc0 (1 + E) 40 152 451 [(0, .ref 2000), (1, .ref 0), (2, .int z), (3, .int k), (4, .int c), (5, .int g)] [] μ o r := by
  have hK : ∀ μ r, K μ = some r → Ro sc0 E 40 152 480 [(0, .ref 2000), (1, .ref 0), (2, .int z), (3, .int k), (4, .int c), (5, .int g)] [] μ o r := hK
  unfold pB_s11 at h
  refine O_pure (pc := 451) (pc' := 453) (st' := [.int c]) (show z_pt 152 451 = some (6, .iload 4, []) by decide +kernel) rfl (fun _ _ _ => rfl) ?_
  refine O_const (pc := 453) (pc' := 455) (v := 24) (show z_ptc 152 453 = some (455, 24) by decide +kernel) ?_
  refine O_pure (pc := 455) (pc' := 456) (st' := [.int (c >>> ((24 : Int32) &&& 31))]) (show z_pt 152 455 = some (6, .ishr, []) by decide +kernel) rfl (fun _ _ _ => rfl) ?_
  refine O_const (pc := 456) (pc' := 458) (v := 15) (show z_ptc 152 456 = some (458, 15) by decide +kernel) ?_
  refine O_pure (pc := 458) (pc' := 459) (st' := [.int ((c >>> ((24 : Int32) &&& 31)) &&& 15)]) (show z_pt 152 458 = some (6, .iand, []) by decide +kernel) rfl (fun _ _ _ => rfl) ?_
  refine O_const (pc := 459) (pc' := 461) (v := 9) (show z_ptc 152 459 = some (461, 9) by decide +kernel) ?_
  refine O_icmne (pc := 461) (t := 480) (show z_pt 152 461 = some (6, .if_icmp .ne 19, []) by decide +kernel) (by decide) (fun c1 => ?_) (fun c1 => ?_)
  · rw [if_neg c1] at h
    exact Ro_up (by omega) (Nat.le_refl _) (hK _ _ h)
  · rw [if_pos c1] at h
    refine O_pure (pc := 464) (pc' := 465) (st' := [.ref 0]) (show z_pt 152 464 = some (6, .aload_n 1, []) by decide +kernel) rfl (fun _ _ _ => rfl) ?_
    refine O_const (pc := 465) (pc' := 466) (v := 0) (show z_ptc 152 465 = some (466, 0) by decide +kernel) ?_
    refine O_const (pc := 466) (pc' := 468) (v := 8) (show z_ptc 152 466 = some (468, 8) by decide +kernel) ?_
    refine O_pure (pc := 468) (pc' := 470) (st' := [.int c, .int 8, .int 0, .ref 0]) (show z_pt 152 468 = some (6, .iload 4, []) by decide +kernel) rfl (fun _ _ _ => rfl) ?_
    refine O_const (pc := 470) (pc' := 472) (v := 31) (show z_ptc 152 470 = some (472, 31) by decide +kernel) ?_
    refine O_pure (pc := 472) (pc' := 473) (st' := [.int (c &&& 31), .int 8, .int 0, .ref 0]) (show z_pt 152 472 = some (6, .iand, []) by decide +kernel) rfl (fun _ _ _ => rfl) ?_
    refine O_pure (pc := 473) (pc' := 474) (st' := [.int ((8 : Int32) + (c &&& 31)), .int 0, .ref 0]) (show z_pt 152 473 = some (6, .iadd, []) by decide +kernel) rfl (fun _ _ _ => rfl) ?_
    refine O_const (pc := 474) (pc' := 475) (v := 0) (show z_ptc 152 474 = some (475, 0) by decide +kernel) ?_
    refine O_const (pc := 475) (pc' := 476) (v := 0) (show z_ptc 152 475 = some (476, 0) by decide +kernel) ?_
    obtain ⟨q2, e3, h⟩ := z_bs h
    refine O_call (E1 := 1) (E2 := E) (pc := 476) (rr := []) (show z_pt 152 476 = some (6, .invokestatic 30, [5, 153, 5, 5112, 5113, 0, 1000, 5114]) by decide +kernel) rfl (show z_r3 5 153 = some (11, 6, true) by decide +kernel) rfl rfl (Or.inl (by decide)) (pL_act_run  e3) (by omega) (by omega) ?_
    refine O_at2 (pc := 479) (st := [.int q2.1]) ?_
    refine O_pure (pc := 479) (pc' := 480) (st' := []) (show z_pt 152 479 = some (6, .pop, []) by decide +kernel) rfl (fun _ _ _ => rfl) ?_
    exact Ro_up (by omega) (Nat.le_refl _) (hK _ _ h)
def pB_L1 (z : Int32) (K : z_Mem → Option z_Mem) : Nat → z_Mem → Int32 → Option z_Mem
  | 0 => fun _ _ => none
  | n + 1 => fun μ k => if (4 + (z &&& 3)) ≤ k then K μ else pB_a1 (fun m => pB_a2 (fun m => pB_L1 z K n m (k + 1)) z k m) z k μ
def pB_L2 (S : Int32 → Int32) (z : Int32) : Nat → z_Mem → Int32 → Option z_Mem
  | 0 => fun _ _ => none
  | n + 1 => fun μ k => if 13 ≤ k then some μ else if k < 0 then none else (fun c => (pG_gearCount μ).bind fun g => pB_s1 (fun m => pB_s2 (fun m => pB_s3 (fun m => pB_s4 (fun m => pB_s5 (fun m => pB_s6 (fun m => pB_s7 (fun m => pB_s8 (fun m => pB_s9 (fun m => pB_s10 (fun m => pB_s11 (fun m => pB_L2 S z n m (k + 1)) z k c g m) z k c g m) z k c g m) z k c g m) z k c g m) z k c g m) z k c g m) z k c g m) z k c g m) z k c g m) z k c g μ) (S k)
/-- what build makes of a new object -/
def pB (S : Int32 → Int32) (μ : z_Mem) : Option z_Mem := pB_L1 (S 0) (fun m => pB_L2 S (S 0) 13 m 1) 8 μ 0
theorem pB_L1_run {sc0 : Nat × (Nat → Int32)} {E : Nat} {K : z_Mem → Option z_Mem} {z : Int32} {o : z_R} (hK : ∀ (k : Int32) μ r, K μ = some r → Ro sc0 E 40 152 84 [(0, .ref 2000), (1, .ref 0), (2, .int z), (3, .int k)] [] μ o r) : ∀ (n : Nat) (k : Int32) (μ r : z_Mem), pB_L1 z K n μ k = some r → Ro sc0 (2 * n + E) 40 152 16 [(0, .ref 2000), (1, .ref 0), (2, .int z), (3, .int k)] [] μ o r := by
  intro n
  induction n with
  | zero => intro k μ r h; cases h
  | succ n ih =>
    intro k μ r h
    have h : (if (4 + (z &&& 3)) ≤ k then K μ else pB_a1 (fun m => pB_a2 (fun m => pB_L1 z K n m (k + 1)) z k m) z k μ) = some r := h
    refine O_pure (pc := 16) (pc' := 17) (st' := [.int k]) (show z_pt 152 16 = some (6, .iload_n 3, []) by decide +kernel) rfl (fun _ _ _ => rfl) ?_
    refine O_const (pc := 17) (pc' := 18) (v := 4) (show z_ptc 152 17 = some (18, 4) by decide +kernel) ?_
    refine O_pure (pc := 18) (pc' := 19) (st' := [.int z, .int 4, .int k]) (show z_pt 152 18 = some (6, .iload_n 2, []) by decide +kernel) rfl (fun _ _ _ => rfl) ?_
    refine O_const (pc := 19) (pc' := 20) (v := 3) (show z_ptc 152 19 = some (20, 3) by decide +kernel) ?_
    refine O_pure (pc := 20) (pc' := 21) (st' := [.int (z &&& 3), .int 4, .int k]) (show z_pt 152 20 = some (6, .iand, []) by decide +kernel) rfl (fun _ _ _ => rfl) ?_
    refine O_pure (pc := 21) (pc' := 22) (st' := [.int (4 + (z &&& 3)), .int k]) (show z_pt 152 21 = some (6, .iadd, []) by decide +kernel) rfl (fun _ _ _ => rfl) ?_
    refine O_icmge (pc := 22) (t := 84) (show z_pt 152 22 = some (6, .if_icmp .ge 62, []) by decide +kernel) (by decide) (fun c1 => ?_) (fun c1 => ?_)
    · rw [if_pos c1] at h
      exact Ro_up (by omega) (Nat.le_refl _) (hK k μ r h)
    · rw [if_neg c1] at h
      refine Ro_up (E := 1 + (1 + (2 * n + E))) (by omega) (Nat.le_refl _) (pB_a1_run (fun μ r h => pB_a2_run (fun μ r h => ?_) h) h)
      refine O_inc (pc := 78) (pc' := 81) (ls' := [(0, .ref 2000), (1, .ref 0), (2, .int z), (3, .int (k + 1))]) (c := 1) (show z_pt 152 78 = some (6, .iinc 3 1, []) by decide +kernel) (by decide) rfl rfl ?_
      refine O_pure (pc := 81) (pc' := 16) (ls' := [(0, .ref 2000), (1, .ref 0), (2, .int z), (3, .int (k + 1))]) (st' := []) (show z_pt 152 81 = some (6, .goto (-65), [4]) by decide +kernel) rfl (fun _ _ _ => rfl) ?_
      exact ih _ _ _ h
theorem pB_L2_run {sc0 : Nat × (Nat → Int32)} {z : Int32} (hL : sc0.1 ≤ 260) : ∀ (n : Nat) (k : Int32) (μ r : z_Mem), pB_L2 (z_S sc0) z n μ k = some r → Ro sc0 (11 * n) 40 152 86 [(0, .ref 2000), (1, .ref 0), (2, .int z), (3, .int k)] [] μ (.inl (some (.ref 0))) r := by
  intro n
  induction n with
  | zero => intro k μ r h; cases h
  | succ n ih =>
    intro k μ r h
    have h : (if 13 ≤ k then some μ else if k < 0 then none else (fun S n c => (pG_gearCount μ).bind fun g => pB_s1 (fun m => pB_s2 (fun m => pB_s3 (fun m => pB_s4 (fun m => pB_s5 (fun m => pB_s6 (fun m => pB_s7 (fun m => pB_s8 (fun m => pB_s9 (fun m => pB_s10 (fun m => pB_s11 (fun m => pB_L2 S z n m (k + 1)) z k c g m) z k c g m) z k c g m) z k c g m) z k c g m) z k c g m) z k c g m) z k c g m) z k c g m) z k c g m) z k c g μ) (z_S sc0) n (z_S sc0 k)) = some r := h
    refine O_pure (pc := 86) (pc' := 87) (st' := [.int k]) (show z_pt 152 86 = some (6, .iload_n 3, []) by decide +kernel) rfl (fun _ _ _ => rfl) ?_
    refine O_const (pc := 87) (pc' := 89) (v := 13) (show z_ptc 152 87 = some (89, 13) by decide +kernel) ?_
    refine O_icmge (pc := 89) (t := 486) (show z_pt 152 89 = some (6, .if_icmp .ge 397, []) by decide +kernel) (by decide) (fun c1 => ?_) (fun c1 => ?_)
    · rw [if_pos c1] at h
      cases h
      refine O_pure (pc := 486) (pc' := 487) (st' := [.ref 0]) (show z_pt 152 486 = some (6, .aload_n 1, []) by decide +kernel) rfl (fun _ _ _ => rfl) ?_
      exact O_fin (show z_pt 152 487 = some (6, .areturn, []) by decide +kernel) rfl (show z_rt 152 = some (some (.object "GearObservatory")) by decide +kernel) rfl
    · rw [if_neg c1] at h
      obtain ⟨c2, h⟩ := z_ng h
      refine O_pure (pc := 92) (pc' := 93) (st' := [.ref 2000]) (show z_pt 152 92 = some (6, .aload_n 0, []) by decide +kernel) rfl (fun _ _ _ => rfl) ?_
      refine O_pure (pc := 93) (pc' := 94) (st' := [.int k, .ref 2000]) (show z_pt 152 93 = some (6, .iload_n 3, []) by decide +kernel) rfl (fun _ _ _ => rfl) ?_
      refine O_call (E1 := 0) (E2 := 11 * (n + 1)) (pc := 94) (rr := []) (show z_pt 152 94 = some (6, .invokestatic 24, [1, 150, 2, 5093, 5094, 0, 1000, 5095]) by decide +kernel) rfl (show z_r3 1 150 = some (11, 2, true) by decide +kernel) rfl rfl (Or.inl (by decide)) (pL_at_run hL c2) (by omega) (by omega) ?_
      refine O_at2 (pc := 97) (st := [.int (z_S sc0 k)]) ?_
      generalize z_S sc0 k = c at h ⊢
      dsimp only at h
      refine O_pure (pc := 97) (pc' := 99) (ls' := [(0, .ref 2000), (1, .ref 0), (2, .int z), (3, .int k), (4, .int c)]) (st' := []) (show z_pt 152 97 = some (6, .istore 4, []) by decide +kernel) rfl (fun _ _ _ => rfl) ?_
      refine O_pure (pc := 99) (pc' := 100) (st' := [.ref 0]) (show z_pt 152 99 = some (6, .aload_n 1, []) by decide +kernel) rfl (fun _ _ _ => rfl) ?_
      obtain ⟨g, e1, h⟩ := z_bs h
      refine O_call (E1 := 0) (E2 := 11 * (n + 1)) (pc := 100) (rr := []) (show z_pt 152 100 = some (6, .invokevirtual 34, [0, 79, 0, 3045, 3046, 3047, 1001, 3048]) by decide +kernel) rfl (show z_r3 0 79 = some (9, 1, true) by decide +kernel) rfl rfl (Or.inr ⟨_, _, rfl, (by decide +kernel)⟩) (Ro_of0 (pG_gearCount_run e1)) (by omega) (by omega) ?_
      refine O_at2 (pc := 103) (st := [.int g]) ?_
      refine O_pure (pc := 103) (pc' := 105) (ls' := [(0, .ref 2000), (1, .ref 0), (2, .int z), (3, .int k), (4, .int c), (5, .int g)]) (st' := []) (show z_pt 152 103 = some (6, .istore 5, []) by decide +kernel) rfl (fun _ _ _ => rfl) ?_
      refine Ro_up (E := 1 + (1 + (1 + (1 + (1 + (1 + (1 + (1 + (1 + (1 + (1 + 11 * n))))))))))) (by omega) (Nat.le_refl _) (pB_s1_run (fun μ r h => pB_s2_run (fun μ r h => pB_s3_run (fun μ r h => pB_s4_run (fun μ r h => pB_s5_run (fun μ r h => pB_s6_run (fun μ r h => pB_s7_run (fun μ r h => pB_s8_run (fun μ r h => pB_s9_run (fun μ r h => pB_s10_run (fun μ r h => pB_s11_run (fun μ r h => ?_) h) h) h) h) h) h) h) h) h) h) h)
      refine O_inc (pc := 480) (pc' := 483) (ls' := [(0, .ref 2000), (1, .ref 0), (2, .int z), (3, .int (k + 1)), (4, .int c), (5, .int g)]) (c := 1) (show z_pt 152 480 = some (6, .iinc 3 1, []) by decide +kernel) (by decide) rfl rfl ?_
      refine O_pure (pc := 483) (pc' := 86) (ls' := [(0, .ref 2000), (1, .ref 0), (2, .int z), (3, .int (k + 1))]) (st' := []) (show z_pt 152 483 = some (6, .goto (-397), [4]) by decide +kernel) rfl (fun _ _ _ => rfl) ?_
      exact ih _ _ _ h
/-- build from behind the making of the object -/
theorem pB_run {sc0 : Nat × (Nat → Int32)} (hL : sc0.1 ≤ 260) {μ r : z_Mem} (h : pB (z_S sc0) μ = some r) : Ro sc0 200 40 152 8 [(0, .ref 2000), (1, .ref 0)] [] μ (.inl (some (.ref 0))) r := by
  unfold pB at h
  refine O_pure (pc := 8) (pc' := 9) (st' := [.ref 2000]) (show z_pt 152 8 = some (6, .aload_n 0, []) by decide +kernel) rfl (fun _ _ _ => rfl) ?_
  refine O_const (pc := 9) (pc' := 10) (v := 0) (show z_ptc 152 9 = some (10, 0) by decide +kernel) ?_
  refine O_call (E1 := 0) (E2 := 200) (pc := 10) (rr := []) (show z_pt 152 10 = some (6, .invokestatic 24, [1, 150, 2, 5093, 5094, 0, 1000, 5095]) by decide +kernel) rfl (show z_r3 1 150 = some (11, 2, true) by decide +kernel) rfl rfl (Or.inl (by decide)) (pL_at_run hL (by decide)) (by omega) (by omega) ?_
  refine O_at2 (pc := 13) (st := [.int (z_S sc0 0)]) ?_
  generalize z_S sc0 0 = z at h ⊢
  refine O_pure (pc := 13) (pc' := 14) (ls' := [(0, .ref 2000), (1, .ref 0), (2, .int z)]) (st' := []) (show z_pt 152 13 = some (6, .istore_n 2, []) by decide +kernel) rfl (fun _ _ _ => rfl) ?_
  refine O_const (pc := 14) (pc' := 15) (v := 0) (show z_ptc 152 14 = some (15, 0) by decide +kernel) ?_
  refine O_pure (pc := 15) (pc' := 16) (ls' := [(0, .ref 2000), (1, .ref 0), (2, .int z), (3, .int 0)]) (st' := []) (show z_pt 152 15 = some (6, .istore_n 3, []) by decide +kernel) rfl (fun _ _ _ => rfl) ?_
  refine Ro_up (E := 2 * 8 + 11 * 13) (by omega) (Nat.le_refl _) (pB_L1_run (fun k μ r h => ?_) 8 0 μ r h)
  refine O_const (pc := 84) (pc' := 85) (v := 1) (show z_ptc 152 84 = some (85, 1) by decide +kernel) ?_
  refine O_pure (pc := 85) (pc' := 86) (ls' := [(0, .ref 2000), (1, .ref 0), (2, .int z), (3, .int 1)]) (st' := []) (show z_pt 152 85 = some (6, .istore_n 3, []) by decide +kernel) rfl (fun _ _ _ => rfl) ?_
  exact pB_L2_run hL 13 1 μ r h
end ZBLD
