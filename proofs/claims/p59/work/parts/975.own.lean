/-! The law's own methods over one object at row 0. -/
section ZOWN
/-- an exception's number in the law's own words -/
def z_aV : Int32 ⊕ Nat → Option Int32
  | .inl v => some v
  | .inr 0 => some (-5001)
  | .inr 1 => some (-5002)
  | .inr 2 => some (-5003)
  | .inr 3 => some (-5004)
  | .inr _ => none
def z_aX : Nat → Int32
  | 0 => -5001 | 1 => -5002 | 2 => -5003 | _ => -5004
def z_actH (pc : Nat) : Bool := (List.range 4).all (fun X => decide (z_hdx 153 pc X = some (203 + 6 * X, 5)) && (decide (z_ptc 153 (203 + 6 * X) = some (206 + 6 * X, z_aX X)) && decide (z_pt 153 (206 + 6 * X) = some (6, .ireturn, []))))
theorem z_aV_X {X : Nat} {v : Int32} (h : z_aV (.inr X) = some v) : X < 4 ∧ z_aX X = v := by
  unfold z_aV at h
  split at h
  · rename_i q; cases q
  · rename_i q; cases q; cases h; exact ⟨by decide, rfl⟩
  · rename_i q; cases q; cases h; exact ⟨by decide, rfl⟩
  · rename_i q; cases q; cases h; exact ⟨by decide, rfl⟩
  · rename_i q; cases q; cases h; exact ⟨by decide, rfl⟩
  · cases h
def z_iX (o : Option (Int32 ⊕ Nat)) : Option Int32 := o.bind fun r => match r with
  | .inl v => some v
  | .inr _ => none
def z_iXM (o : Option ((Int32 ⊕ Nat) × z_Mem)) : Option (Int32 × z_Mem) := o.bind fun q => match q.1 with
  | .inl v => some (v, q.2)
  | .inr _ => none
theorem z_iX_eq {o : Option (Int32 ⊕ Nat)} {v : Int32} (h : z_iX o = some v) : o = some (.inl v) := by
  unfold z_iX at h
  obtain ⟨r, e, h⟩ := z_bs h
  cases r with
  | inl x => cases h; exact e
  | inr x => cases h
theorem z_iXM_eq {o : Option ((Int32 ⊕ Nat) × z_Mem)} {v : Int32 × z_Mem} (h : z_iXM o = some v) : o = some (.inl v.1, v.2) := by
  unfold z_iXM at h
  obtain ⟨⟨r, m⟩, e, h⟩ := z_bs h
  cases r with
  | inl x => cases h; exact e
  | inr x => cases h
section
variable {sc0 : Nat × (Nat → Int32)} {E D k pc nL : Nat} {ls ls' : z_Ls} {st st' : List Value} {μ μ1 μ2 : z_Mem} {o : z_R} {i : Instr} {ax : List Nat}
theorem O_actI {k2 n c2 nl2 : Nat} {D2 : Nat} {r : Int32 ⊕ Nat} {v : Int32} {b q1 q2 q3 q4 q5 : Nat} {rest : List Value} (hp : z_pt 153 pc = some (6, i, [0, k2, n, q1, q2, q3, q4, q5])) (hk : z_kd i [0, k2, n, q1, q2, q3, q4, q5] = 3) (h2 : z_r3 0 k2 = some (c2, nl2, true)) (ha : z_args 0 n st = some (.ref b :: rest, [])) (hb : (Nat.ble (lg_sl (.ref b :: rest)).length nl2 && Nat.ble (z_cat []) 8) = true) (hrc : z_ci b c2 = true) (hr : Rn D2 k2 0 (lv_args 0 (.ref b :: rest)) [] μ (z_oX r) μ1) (hd : D2 + 1 ≤ D) (hv : z_aV r = some v) (hret : z_pt 153 (pc + 3) = some (6, .ireturn, [])) (hh : z_actH pc = true) : Ro sc0 1 D 153 pc ls st μ (.inl (some (.int v))) μ1 := by
  cases r with
  | inl x =>
    cases hv
    exact O_call (E1 := 0) (E2 := 0) hp hk h2 ha hb (Or.inr ⟨_, _, rfl, hrc⟩) (Ro_of0 hr) hd (by omega) (O_retI hret (by decide +kernel))
  | inr X =>
    obtain ⟨hX, rfl⟩ := z_aV_X hv
    have h9 := List.all_eq_true.mp hh X (List.mem_range.mpr hX)
    simp only [Bool.and_eq_true, decide_eq_true_eq] at h9
    exact O_callC (E1 := 1) (E2 := 0) hp hk h2 ha hb (Or.inr ⟨_, _, rfl, hrc⟩) (Ro_of hr (Nat.le_refl _)) hd (by omega) (by decide) h9.1 (O_const h9.2.1 (O_retI h9.2.2 (by decide +kernel)))
end
def pL_act (μ : z_Mem) (i1 i2 i3 i4 : Int32) : Option (Int32 × z_Mem) := if i1 = 0 then (pG_addGear μ i2).bind fun q => (z_aV q.1).bind fun v => some (v, q.2) else if i1 = 1 then (pG_mesh μ i2 i3 i4).bind fun q => (z_aV q.1).bind fun v => some (v, q.2) else if i1 = 2 then (pG_part μ i2 i3).bind fun q => (z_aV q.1).bind fun v => some (v, q.2) else if i1 = 3 then (pG_turn μ i2 i3).bind fun q => (z_aV q.1).bind fun v => some (v, q.2) else if i1 = 4 then (pG_addWheel μ i2 i3).bind fun q => (z_aV q.1).bind fun v => some (v, q.2) else if i1 = 5 then (pG_addStar μ i2 i3).bind fun q => (z_aV q.1).bind fun v => some (v, q.2) else if i1 = 6 then (pG_removeStar μ i2).bind fun q => (z_aV q.1).bind fun v => some (v, q.2) else if i1 = 7 then (pG_passHours μ i2).bind fun q => (z_aV q.1).bind fun v => some (v, q.2) else if i1 = 8 then (pG_catalogue μ (((i2 : Int32).toUInt32 % 65536).toInt32) i3).bind fun q => (z_aV q.1).bind fun v => some (v, q.2) else if i1 = 9 then (pG_forget μ (((i2 : Int32).toUInt32 % 65536).toInt32) i3).bind fun q => (z_aV q.1).bind fun v => some (v, q.2) else if i1 = 10 then (pG_follow μ i2 i3).bind fun q => (z_aV q.1).bind fun v => some (v, q.2) else if i1 = 11 then (pG_freePlay μ i2 i3).bind fun q => (z_aV q.1).bind fun v => some (v, q.2) else if i1 = 12 then (pG_freePlayByTurning μ i2 i3).bind fun q => (z_aV q.1).bind fun v => some (v, q.2) else if i1 = 13 then (pG_ratioNumerator μ i2 i3).bind fun q => (z_aV q.1).bind fun v => some (v, q.2) else if i1 = 14 then (pG_ratioNumeratorByChain μ i2 i3).bind fun q => (z_aV q.1).bind fun v => some (v, q.2) else if i1 = 15 then (pG_ratioDenominator μ i2 i3).bind fun q => (z_aV q.1).bind fun v => some (v, q.2) else (pG_changedSince μ (((i2 : Int32).toUInt32 % 65536).toInt32) i3).bind fun q => (z_aV q).bind fun v => some (v, μ)
theorem pL_act_run {sc0 : Nat × (Nat → Int32)} {μ : z_Mem} {i1 i2 i3 i4 : Int32} {r : Int32 × z_Mem} (h : pL_act μ i1 i2 i3 i4 = some r) : Ro sc0 1 18 153 0 [(0, .ref 0), (1, .int i1), (2, .int i2), (3, .int i3), (4, .int i4)] [] μ (.inl (some (.int r.1))) r.2 := by
  unfold pL_act at h
  refine O_pure (pc := 0) (pc' := 1) (st' := [.int i1]) (show z_pt 153 0 = some (6, .iload_n 1, []) by decide +kernel) rfl (fun _ _ _ => rfl) ?_
  by_cases c0 : i1 = 0
  · rw [if_pos c0] at h
    refine O_sw (pc := 1) (t := 80) (v := 0) (show z_pt 153 1 = some (6, .tableswitch 192 0 15 #[79, 85, 94, 101, 108, 115, 122, 128, 134, 142, 150, 157, 164, 171, 178, 185], []) by decide +kernel) c0 (show z_swt 153 1 0 = some 80 by decide +kernel) ?_
    refine O_pure (pc := 80) (pc' := 81) (st' := [.ref 0]) (show z_pt 153 80 = some (6, .aload_n 0, []) by decide +kernel) rfl (fun _ _ _ => rfl) ?_
    refine O_pure (pc := 81) (pc' := 82) (st' := [.int i2, .ref 0]) (show z_pt 153 81 = some (6, .iload_n 2, []) by decide +kernel) rfl (fun _ _ _ => rfl) ?_
    obtain ⟨q, e1, h⟩ := z_bs h
    obtain ⟨v, e2, h⟩ := z_bs h
    cases h
    exact O_actI (show z_pt 153 82 = some (6, .invokevirtual 37, [0, 75, 1, 2068, 2069, 2070, 1001, 2071]) by decide +kernel) rfl (show z_r3 0 75 = some (9, 2, true) by decide +kernel) rfl rfl (by decide +kernel) (pG_addGear_run e1) (by omega) e2 (show z_pt 153 85 = some (6, .ireturn, []) by decide +kernel) (by decide +kernel)
  rw [if_neg c0] at h
  by_cases c1 : i1 = 1
  · rw [if_pos c1] at h
    refine O_sw (pc := 1) (t := 86) (v := 1) (show z_pt 153 1 = some (6, .tableswitch 192 0 15 #[79, 85, 94, 101, 108, 115, 122, 128, 134, 142, 150, 157, 164, 171, 178, 185], []) by decide +kernel) c1 (show z_swt 153 1 1 = some 86 by decide +kernel) ?_
    refine O_pure (pc := 86) (pc' := 87) (st' := [.ref 0]) (show z_pt 153 86 = some (6, .aload_n 0, []) by decide +kernel) rfl (fun _ _ _ => rfl) ?_
    refine O_pure (pc := 87) (pc' := 88) (st' := [.int i2, .ref 0]) (show z_pt 153 87 = some (6, .iload_n 2, []) by decide +kernel) rfl (fun _ _ _ => rfl) ?_
    refine O_pure (pc := 88) (pc' := 89) (st' := [.int i3, .int i2, .ref 0]) (show z_pt 153 88 = some (6, .iload_n 3, []) by decide +kernel) rfl (fun _ _ _ => rfl) ?_
    refine O_pure (pc := 89) (pc' := 91) (st' := [.int i4, .int i3, .int i2, .ref 0]) (show z_pt 153 89 = some (6, .iload 4, []) by decide +kernel) rfl (fun _ _ _ => rfl) ?_
    obtain ⟨q, e1, h⟩ := z_bs h
    obtain ⟨v, e2, h⟩ := z_bs h
    cases h
    exact O_actI (show z_pt 153 91 = some (6, .invokevirtual 41, [0, 76, 3, 5150, 5151, 5152, 1001, 5153]) by decide +kernel) rfl (show z_r3 0 76 = some (9, 4, true) by decide +kernel) rfl rfl (by decide +kernel) (pG_mesh_run e1) (by omega) e2 (show z_pt 153 94 = some (6, .ireturn, []) by decide +kernel) (by decide +kernel)
  rw [if_neg c1] at h
  by_cases c2 : i1 = 2
  · rw [if_pos c2] at h
    refine O_sw (pc := 1) (t := 95) (v := 2) (show z_pt 153 1 = some (6, .tableswitch 192 0 15 #[79, 85, 94, 101, 108, 115, 122, 128, 134, 142, 150, 157, 164, 171, 178, 185], []) by decide +kernel) c2 (show z_swt 153 1 2 = some 95 by decide +kernel) ?_
    refine O_pure (pc := 95) (pc' := 96) (st' := [.ref 0]) (show z_pt 153 95 = some (6, .aload_n 0, []) by decide +kernel) rfl (fun _ _ _ => rfl) ?_
    refine O_pure (pc := 96) (pc' := 97) (st' := [.int i2, .ref 0]) (show z_pt 153 96 = some (6, .iload_n 2, []) by decide +kernel) rfl (fun _ _ _ => rfl) ?_
    refine O_pure (pc := 97) (pc' := 98) (st' := [.int i3, .int i2, .ref 0]) (show z_pt 153 97 = some (6, .iload_n 3, []) by decide +kernel) rfl (fun _ _ _ => rfl) ?_
    obtain ⟨q, e1, h⟩ := z_bs h
    obtain ⟨v, e2, h⟩ := z_bs h
    cases h
    exact O_actI (show z_pt 153 98 = some (6, .invokevirtual 45, [0, 77, 2, 2237, 2238, 2239, 1001, 3000]) by decide +kernel) rfl (show z_r3 0 77 = some (9, 3, true) by decide +kernel) rfl rfl (by decide +kernel) (pG_part_run e1) (by omega) e2 (show z_pt 153 101 = some (6, .ireturn, []) by decide +kernel) (by decide +kernel)
  rw [if_neg c2] at h
  by_cases c3 : i1 = 3
  · rw [if_pos c3] at h
    refine O_sw (pc := 1) (t := 102) (v := 3) (show z_pt 153 1 = some (6, .tableswitch 192 0 15 #[79, 85, 94, 101, 108, 115, 122, 128, 134, 142, 150, 157, 164, 171, 178, 185], []) by decide +kernel) c3 (show z_swt 153 1 3 = some 102 by decide +kernel) ?_
    refine O_pure (pc := 102) (pc' := 103) (st' := [.ref 0]) (show z_pt 153 102 = some (6, .aload_n 0, []) by decide +kernel) rfl (fun _ _ _ => rfl) ?_
    refine O_pure (pc := 103) (pc' := 104) (st' := [.int i2, .ref 0]) (show z_pt 153 103 = some (6, .iload_n 2, []) by decide +kernel) rfl (fun _ _ _ => rfl) ?_
    refine O_pure (pc := 104) (pc' := 105) (st' := [.int i3, .int i2, .ref 0]) (show z_pt 153 104 = some (6, .iload_n 3, []) by decide +kernel) rfl (fun _ _ _ => rfl) ?_
    obtain ⟨q, e1, h⟩ := z_bs h
    obtain ⟨v, e2, h⟩ := z_bs h
    cases h
    exact O_actI (show z_pt 153 105 = some (6, .invokevirtual 49, [0, 78, 2, 3021, 3022, 3023, 1001, 3024]) by decide +kernel) rfl (show z_r3 0 78 = some (9, 3, true) by decide +kernel) rfl rfl (by decide +kernel) (pG_turn_run e1) (by omega) e2 (show z_pt 153 108 = some (6, .ireturn, []) by decide +kernel) (by decide +kernel)
  rw [if_neg c3] at h
  by_cases c4 : i1 = 4
  · rw [if_pos c4] at h
    refine O_sw (pc := 1) (t := 109) (v := 4) (show z_pt 153 1 = some (6, .tableswitch 192 0 15 #[79, 85, 94, 101, 108, 115, 122, 128, 134, 142, 150, 157, 164, 171, 178, 185], []) by decide +kernel) c4 (show z_swt 153 1 4 = some 109 by decide +kernel) ?_
    refine O_pure (pc := 109) (pc' := 110) (st' := [.ref 0]) (show z_pt 153 109 = some (6, .aload_n 0, []) by decide +kernel) rfl (fun _ _ _ => rfl) ?_
    refine O_pure (pc := 110) (pc' := 111) (st' := [.int i2, .ref 0]) (show z_pt 153 110 = some (6, .iload_n 2, []) by decide +kernel) rfl (fun _ _ _ => rfl) ?_
    refine O_pure (pc := 111) (pc' := 112) (st' := [.int i3, .int i2, .ref 0]) (show z_pt 153 111 = some (6, .iload_n 3, []) by decide +kernel) rfl (fun _ _ _ => rfl) ?_
    obtain ⟨q, e1, h⟩ := z_bs h
    obtain ⟨v, e2, h⟩ := z_bs h
    cases h
    exact O_actI (show z_pt 153 112 = some (6, .invokevirtual 52, [0, 95, 2, 3165, 3166, 3167, 1001, 3168]) by decide +kernel) rfl (show z_r3 0 95 = some (9, 3, true) by decide +kernel) rfl rfl (by decide +kernel) (pG_addWheel_run e1) (by omega) e2 (show z_pt 153 115 = some (6, .ireturn, []) by decide +kernel) (by decide +kernel)
  rw [if_neg c4] at h
  by_cases c5 : i1 = 5
  · rw [if_pos c5] at h
    refine O_sw (pc := 1) (t := 116) (v := 5) (show z_pt 153 1 = some (6, .tableswitch 192 0 15 #[79, 85, 94, 101, 108, 115, 122, 128, 134, 142, 150, 157, 164, 171, 178, 185], []) by decide +kernel) c5 (show z_swt 153 1 5 = some 116 by decide +kernel) ?_
    refine O_pure (pc := 116) (pc' := 117) (st' := [.ref 0]) (show z_pt 153 116 = some (6, .aload_n 0, []) by decide +kernel) rfl (fun _ _ _ => rfl) ?_
    refine O_pure (pc := 117) (pc' := 118) (st' := [.int i2, .ref 0]) (show z_pt 153 117 = some (6, .iload_n 2, []) by decide +kernel) rfl (fun _ _ _ => rfl) ?_
    refine O_pure (pc := 118) (pc' := 119) (st' := [.int i3, .int i2, .ref 0]) (show z_pt 153 118 = some (6, .iload_n 3, []) by decide +kernel) rfl (fun _ _ _ => rfl) ?_
    obtain ⟨q, e1, h⟩ := z_bs h
    obtain ⟨v, e2, h⟩ := z_bs h
    cases h
    exact O_actI (show z_pt 153 119 = some (6, .invokevirtual 55, [0, 102, 2, 3236, 3237, 3238, 1001, 3239]) by decide +kernel) rfl (show z_r3 0 102 = some (9, 3, true) by decide +kernel) rfl rfl (by decide +kernel) (pG_addStar_run e1) (by omega) e2 (show z_pt 153 122 = some (6, .ireturn, []) by decide +kernel) (by decide +kernel)
  rw [if_neg c5] at h
  by_cases c6 : i1 = 6
  · rw [if_pos c6] at h
    refine O_sw (pc := 1) (t := 123) (v := 6) (show z_pt 153 1 = some (6, .tableswitch 192 0 15 #[79, 85, 94, 101, 108, 115, 122, 128, 134, 142, 150, 157, 164, 171, 178, 185], []) by decide +kernel) c6 (show z_swt 153 1 6 = some 123 by decide +kernel) ?_
    refine O_pure (pc := 123) (pc' := 124) (st' := [.ref 0]) (show z_pt 153 123 = some (6, .aload_n 0, []) by decide +kernel) rfl (fun _ _ _ => rfl) ?_
    refine O_pure (pc := 124) (pc' := 125) (st' := [.int i2, .ref 0]) (show z_pt 153 124 = some (6, .iload_n 2, []) by decide +kernel) rfl (fun _ _ _ => rfl) ?_
    obtain ⟨q, e1, h⟩ := z_bs h
    obtain ⟨v, e2, h⟩ := z_bs h
    cases h
    exact O_actI (show z_pt 153 125 = some (6, .invokevirtual 58, [0, 103, 1, 4008, 4009, 4010, 1001, 4011]) by decide +kernel) rfl (show z_r3 0 103 = some (9, 2, true) by decide +kernel) rfl rfl (by decide +kernel) (pG_removeStar_run e1) (by omega) e2 (show z_pt 153 128 = some (6, .ireturn, []) by decide +kernel) (by decide +kernel)
  rw [if_neg c6] at h
  by_cases c7 : i1 = 7
  · rw [if_pos c7] at h
    refine O_sw (pc := 1) (t := 129) (v := 7) (show z_pt 153 1 = some (6, .tableswitch 192 0 15 #[79, 85, 94, 101, 108, 115, 122, 128, 134, 142, 150, 157, 164, 171, 178, 185], []) by decide +kernel) c7 (show z_swt 153 1 7 = some 129 by decide +kernel) ?_
    refine O_pure (pc := 129) (pc' := 130) (st' := [.ref 0]) (show z_pt 153 129 = some (6, .aload_n 0, []) by decide +kernel) rfl (fun _ _ _ => rfl) ?_
    refine O_pure (pc := 130) (pc' := 131) (st' := [.int i2, .ref 0]) (show z_pt 153 130 = some (6, .iload_n 2, []) by decide +kernel) rfl (fun _ _ _ => rfl) ?_
    obtain ⟨q, e1, h⟩ := z_bs h
    obtain ⟨v, e2, h⟩ := z_bs h
    cases h
    exact O_actI (show z_pt 153 131 = some (6, .invokevirtual 61, [0, 107, 1, 4028, 4029, 4030, 1001, 4031]) by decide +kernel) rfl (show z_r3 0 107 = some (9, 2, true) by decide +kernel) rfl rfl (by decide +kernel) (pG_passHours_run e1) (by omega) e2 (show z_pt 153 134 = some (6, .ireturn, []) by decide +kernel) (by decide +kernel)
  rw [if_neg c7] at h
  by_cases c8 : i1 = 8
  · rw [if_pos c8] at h
    refine O_sw (pc := 1) (t := 135) (v := 8) (show z_pt 153 1 = some (6, .tableswitch 192 0 15 #[79, 85, 94, 101, 108, 115, 122, 128, 134, 142, 150, 157, 164, 171, 178, 185], []) by decide +kernel) c8 (show z_swt 153 1 8 = some 135 by decide +kernel) ?_
    refine O_pure (pc := 135) (pc' := 136) (st' := [.ref 0]) (show z_pt 153 135 = some (6, .aload_n 0, []) by decide +kernel) rfl (fun _ _ _ => rfl) ?_
    refine O_pure (pc := 136) (pc' := 137) (st' := [.int i2, .ref 0]) (show z_pt 153 136 = some (6, .iload_n 2, []) by decide +kernel) rfl (fun _ _ _ => rfl) ?_
    refine O_pure (pc := 137) (pc' := 138) (st' := [.int (((i2 : Int32).toUInt32 % 65536).toInt32), .ref 0]) (show z_pt 153 137 = some (6, .i2c, []) by decide +kernel) rfl (fun _ _ _ => rfl) ?_
    refine O_pure (pc := 138) (pc' := 139) (st' := [.int i3, .int (((i2 : Int32).toUInt32 % 65536).toInt32), .ref 0]) (show z_pt 153 138 = some (6, .iload_n 3, []) by decide +kernel) rfl (fun _ _ _ => rfl) ?_
    obtain ⟨q, e1, h⟩ := z_bs h
    obtain ⟨v, e2, h⟩ := z_bs h
    cases h
    exact O_actI (show z_pt 153 139 = some (6, .invokevirtual 64, [0, 111, 2, 4066, 4067, 4068, 1001, 4069]) by decide +kernel) rfl (show z_r3 0 111 = some (9, 3, true) by decide +kernel) rfl rfl (by decide +kernel) (pG_catalogue_run e1) (by omega) e2 (show z_pt 153 142 = some (6, .ireturn, []) by decide +kernel) (by decide +kernel)
  rw [if_neg c8] at h
  by_cases c9 : i1 = 9
  · rw [if_pos c9] at h
    refine O_sw (pc := 1) (t := 143) (v := 9) (show z_pt 153 1 = some (6, .tableswitch 192 0 15 #[79, 85, 94, 101, 108, 115, 122, 128, 134, 142, 150, 157, 164, 171, 178, 185], []) by decide +kernel) c9 (show z_swt 153 1 9 = some 143 by decide +kernel) ?_
    refine O_pure (pc := 143) (pc' := 144) (st' := [.ref 0]) (show z_pt 153 143 = some (6, .aload_n 0, []) by decide +kernel) rfl (fun _ _ _ => rfl) ?_
    refine O_pure (pc := 144) (pc' := 145) (st' := [.int i2, .ref 0]) (show z_pt 153 144 = some (6, .iload_n 2, []) by decide +kernel) rfl (fun _ _ _ => rfl) ?_
    refine O_pure (pc := 145) (pc' := 146) (st' := [.int (((i2 : Int32).toUInt32 % 65536).toInt32), .ref 0]) (show z_pt 153 145 = some (6, .i2c, []) by decide +kernel) rfl (fun _ _ _ => rfl) ?_
    refine O_pure (pc := 146) (pc' := 147) (st' := [.int i3, .int (((i2 : Int32).toUInt32 % 65536).toInt32), .ref 0]) (show z_pt 153 146 = some (6, .iload_n 3, []) by decide +kernel) rfl (fun _ _ _ => rfl) ?_
    obtain ⟨q, e1, h⟩ := z_bs h
    obtain ⟨v, e2, h⟩ := z_bs h
    cases h
    exact O_actI (show z_pt 153 147 = some (6, .invokevirtual 68, [0, 112, 2, 4086, 4087, 4088, 1001, 4089]) by decide +kernel) rfl (show z_r3 0 112 = some (9, 3, true) by decide +kernel) rfl rfl (by decide +kernel) (pG_forget_run e1) (by omega) e2 (show z_pt 153 150 = some (6, .ireturn, []) by decide +kernel) (by decide +kernel)
  rw [if_neg c9] at h
  by_cases c10 : i1 = 10
  · rw [if_pos c10] at h
    refine O_sw (pc := 1) (t := 151) (v := 10) (show z_pt 153 1 = some (6, .tableswitch 192 0 15 #[79, 85, 94, 101, 108, 115, 122, 128, 134, 142, 150, 157, 164, 171, 178, 185], []) by decide +kernel) c10 (show z_swt 153 1 10 = some 151 by decide +kernel) ?_
    refine O_pure (pc := 151) (pc' := 152) (st' := [.ref 0]) (show z_pt 153 151 = some (6, .aload_n 0, []) by decide +kernel) rfl (fun _ _ _ => rfl) ?_
    refine O_pure (pc := 152) (pc' := 153) (st' := [.int i2, .ref 0]) (show z_pt 153 152 = some (6, .iload_n 2, []) by decide +kernel) rfl (fun _ _ _ => rfl) ?_
    refine O_pure (pc := 153) (pc' := 154) (st' := [.int i3, .int i2, .ref 0]) (show z_pt 153 153 = some (6, .iload_n 3, []) by decide +kernel) rfl (fun _ _ _ => rfl) ?_
    obtain ⟨q, e1, h⟩ := z_bs h
    obtain ⟨v, e2, h⟩ := z_bs h
    cases h
    exact O_actI (show z_pt 153 154 = some (6, .invokevirtual 71, [0, 101, 2, 3228, 3229, 3230, 1001, 3231]) by decide +kernel) rfl (show z_r3 0 101 = some (9, 3, true) by decide +kernel) rfl rfl (by decide +kernel) (pG_follow_run e1) (by omega) e2 (show z_pt 153 157 = some (6, .ireturn, []) by decide +kernel) (by decide +kernel)
  rw [if_neg c10] at h
  by_cases c11 : i1 = 11
  · rw [if_pos c11] at h
    refine O_sw (pc := 1) (t := 158) (v := 11) (show z_pt 153 1 = some (6, .tableswitch 192 0 15 #[79, 85, 94, 101, 108, 115, 122, 128, 134, 142, 150, 157, 164, 171, 178, 185], []) by decide +kernel) c11 (show z_swt 153 1 11 = some 158 by decide +kernel) ?_
    refine O_pure (pc := 158) (pc' := 159) (st' := [.ref 0]) (show z_pt 153 158 = some (6, .aload_n 0, []) by decide +kernel) rfl (fun _ _ _ => rfl) ?_
    refine O_pure (pc := 159) (pc' := 160) (st' := [.int i2, .ref 0]) (show z_pt 153 159 = some (6, .iload_n 2, []) by decide +kernel) rfl (fun _ _ _ => rfl) ?_
    refine O_pure (pc := 160) (pc' := 161) (st' := [.int i3, .int i2, .ref 0]) (show z_pt 153 160 = some (6, .iload_n 3, []) by decide +kernel) rfl (fun _ _ _ => rfl) ?_
    obtain ⟨q, e1, h⟩ := z_bs h
    obtain ⟨v, e2, h⟩ := z_bs h
    cases h
    exact O_actI (show z_pt 153 161 = some (6, .invokevirtual 74, [0, 93, 2, 3146, 3147, 3148, 1001, 3149]) by decide +kernel) rfl (show z_r3 0 93 = some (9, 3, true) by decide +kernel) rfl rfl (by decide +kernel) (pG_freePlay_run e1) (by omega) e2 (show z_pt 153 164 = some (6, .ireturn, []) by decide +kernel) (by decide +kernel)
  rw [if_neg c11] at h
  by_cases c12 : i1 = 12
  · rw [if_pos c12] at h
    refine O_sw (pc := 1) (t := 165) (v := 12) (show z_pt 153 1 = some (6, .tableswitch 192 0 15 #[79, 85, 94, 101, 108, 115, 122, 128, 134, 142, 150, 157, 164, 171, 178, 185], []) by decide +kernel) c12 (show z_swt 153 1 12 = some 165 by decide +kernel) ?_
    refine O_pure (pc := 165) (pc' := 166) (st' := [.ref 0]) (show z_pt 153 165 = some (6, .aload_n 0, []) by decide +kernel) rfl (fun _ _ _ => rfl) ?_
    refine O_pure (pc := 166) (pc' := 167) (st' := [.int i2, .ref 0]) (show z_pt 153 166 = some (6, .iload_n 2, []) by decide +kernel) rfl (fun _ _ _ => rfl) ?_
    refine O_pure (pc := 167) (pc' := 168) (st' := [.int i3, .int i2, .ref 0]) (show z_pt 153 167 = some (6, .iload_n 3, []) by decide +kernel) rfl (fun _ _ _ => rfl) ?_
    obtain ⟨q, e1, h⟩ := z_bs h
    obtain ⟨v, e2, h⟩ := z_bs h
    cases h
    exact O_actI (show z_pt 153 168 = some (6, .invokevirtual 77, [0, 94, 2, 3155, 3156, 3157, 1001, 3158]) by decide +kernel) rfl (show z_r3 0 94 = some (9, 3, true) by decide +kernel) rfl rfl (by decide +kernel) (pG_freePlayByTurning_run e1) (by omega) e2 (show z_pt 153 171 = some (6, .ireturn, []) by decide +kernel) (by decide +kernel)
  rw [if_neg c12] at h
  by_cases c13 : i1 = 13
  · rw [if_pos c13] at h
    refine O_sw (pc := 1) (t := 172) (v := 13) (show z_pt 153 1 = some (6, .tableswitch 192 0 15 #[79, 85, 94, 101, 108, 115, 122, 128, 134, 142, 150, 157, 164, 171, 178, 185], []) by decide +kernel) c13 (show z_swt 153 1 13 = some 172 by decide +kernel) ?_
    refine O_pure (pc := 172) (pc' := 173) (st' := [.ref 0]) (show z_pt 153 172 = some (6, .aload_n 0, []) by decide +kernel) rfl (fun _ _ _ => rfl) ?_
    refine O_pure (pc := 173) (pc' := 174) (st' := [.int i2, .ref 0]) (show z_pt 153 173 = some (6, .iload_n 2, []) by decide +kernel) rfl (fun _ _ _ => rfl) ?_
    refine O_pure (pc := 174) (pc' := 175) (st' := [.int i3, .int i2, .ref 0]) (show z_pt 153 174 = some (6, .iload_n 3, []) by decide +kernel) rfl (fun _ _ _ => rfl) ?_
    obtain ⟨q, e1, h⟩ := z_bs h
    obtain ⟨v, e2, h⟩ := z_bs h
    cases h
    exact O_actI (show z_pt 153 175 = some (6, .invokevirtual 80, [0, 90, 2, 3106, 3107, 3108, 1001, 3109]) by decide +kernel) rfl (show z_r3 0 90 = some (9, 3, true) by decide +kernel) rfl rfl (by decide +kernel) (pG_ratioNumerator_run e1) (by omega) e2 (show z_pt 153 178 = some (6, .ireturn, []) by decide +kernel) (by decide +kernel)
  rw [if_neg c13] at h
  by_cases c14 : i1 = 14
  · rw [if_pos c14] at h
    refine O_sw (pc := 1) (t := 179) (v := 14) (show z_pt 153 1 = some (6, .tableswitch 192 0 15 #[79, 85, 94, 101, 108, 115, 122, 128, 134, 142, 150, 157, 164, 171, 178, 185], []) by decide +kernel) c14 (show z_swt 153 1 14 = some 179 by decide +kernel) ?_
    refine O_pure (pc := 179) (pc' := 180) (st' := [.ref 0]) (show z_pt 153 179 = some (6, .aload_n 0, []) by decide +kernel) rfl (fun _ _ _ => rfl) ?_
    refine O_pure (pc := 180) (pc' := 181) (st' := [.int i2, .ref 0]) (show z_pt 153 180 = some (6, .iload_n 2, []) by decide +kernel) rfl (fun _ _ _ => rfl) ?_
    refine O_pure (pc := 181) (pc' := 182) (st' := [.int i3, .int i2, .ref 0]) (show z_pt 153 181 = some (6, .iload_n 3, []) by decide +kernel) rfl (fun _ _ _ => rfl) ?_
    obtain ⟨q, e1, h⟩ := z_bs h
    obtain ⟨v, e2, h⟩ := z_bs h
    cases h
    exact O_actI (show z_pt 153 182 = some (6, .invokevirtual 83, [0, 92, 2, 3138, 3139, 3140, 1001, 3141]) by decide +kernel) rfl (show z_r3 0 92 = some (9, 3, true) by decide +kernel) rfl rfl (by decide +kernel) (pG_ratioNumeratorByChain_run e1) (by omega) e2 (show z_pt 153 185 = some (6, .ireturn, []) by decide +kernel) (by decide +kernel)
  rw [if_neg c14] at h
  by_cases c15 : i1 = 15
  · rw [if_pos c15] at h
    refine O_sw (pc := 1) (t := 186) (v := 15) (show z_pt 153 1 = some (6, .tableswitch 192 0 15 #[79, 85, 94, 101, 108, 115, 122, 128, 134, 142, 150, 157, 164, 171, 178, 185], []) by decide +kernel) c15 (show z_swt 153 1 15 = some 186 by decide +kernel) ?_
    refine O_pure (pc := 186) (pc' := 187) (st' := [.ref 0]) (show z_pt 153 186 = some (6, .aload_n 0, []) by decide +kernel) rfl (fun _ _ _ => rfl) ?_
    refine O_pure (pc := 187) (pc' := 188) (st' := [.int i2, .ref 0]) (show z_pt 153 187 = some (6, .iload_n 2, []) by decide +kernel) rfl (fun _ _ _ => rfl) ?_
    refine O_pure (pc := 188) (pc' := 189) (st' := [.int i3, .int i2, .ref 0]) (show z_pt 153 188 = some (6, .iload_n 3, []) by decide +kernel) rfl (fun _ _ _ => rfl) ?_
    obtain ⟨q, e1, h⟩ := z_bs h
    obtain ⟨v, e2, h⟩ := z_bs h
    cases h
    exact O_actI (show z_pt 153 189 = some (6, .invokevirtual 86, [0, 91, 2, 3130, 3131, 3132, 1001, 3133]) by decide +kernel) rfl (show z_r3 0 91 = some (9, 3, true) by decide +kernel) rfl rfl (by decide +kernel) (pG_ratioDenominator_run e1) (by omega) e2 (show z_pt 153 192 = some (6, .ireturn, []) by decide +kernel) (by decide +kernel)
  rw [if_neg c15] at h
  refine O_swd (pc := 1) (t := 193) (cs := [0, 1, 2, 3, 4, 5, 6, 7, 8, 9, 10, 11, 12, 13, 14, 15]) (show z_pt 153 1 = some (6, .tableswitch 192 0 15 #[79, 85, 94, 101, 108, 115, 122, 128, 134, 142, 150, 157, 164, 171, 178, 185], []) by decide +kernel) (show z_swd 153 1 [0, 1, 2, 3, 4, 5, 6, 7, 8, 9, 10, 11, 12, 13, 14, 15] = some 193 by decide +kernel) (z_nc c0 (z_nc c1 (z_nc c2 (z_nc c3 (z_nc c4 (z_nc c5 (z_nc c6 (z_nc c7 (z_nc c8 (z_nc c9 (z_nc c10 (z_nc c11 (z_nc c12 (z_nc c13 (z_nc c14 (z_nc c15 (z_nn _))))))))))))))))) ?_
  refine O_pure (pc := 193) (pc' := 194) (st' := [.ref 0]) (show z_pt 153 193 = some (6, .aload_n 0, []) by decide +kernel) rfl (fun _ _ _ => rfl) ?_
  refine O_pure (pc := 194) (pc' := 195) (st' := [.int i2, .ref 0]) (show z_pt 153 194 = some (6, .iload_n 2, []) by decide +kernel) rfl (fun _ _ _ => rfl) ?_
  refine O_pure (pc := 195) (pc' := 196) (st' := [.int (((i2 : Int32).toUInt32 % 65536).toInt32), .ref 0]) (show z_pt 153 195 = some (6, .i2c, []) by decide +kernel) rfl (fun _ _ _ => rfl) ?_
  refine O_pure (pc := 196) (pc' := 197) (st' := [.int i3, .int (((i2 : Int32).toUInt32 % 65536).toInt32), .ref 0]) (show z_pt 153 196 = some (6, .iload_n 3, []) by decide +kernel) rfl (fun _ _ _ => rfl) ?_
  obtain ⟨q, e1, h⟩ := z_bs h
  obtain ⟨v, e2, h⟩ := z_bs h
  cases h
  exact O_actI (show z_pt 153 197 = some (6, .invokevirtual 89, [0, 115, 2, 4117, 4118, 4119, 1001, 4120]) by decide +kernel) rfl (show z_r3 0 115 = some (9, 3, true) by decide +kernel) rfl rfl (by decide +kernel) (pG_changedSince_run e1) (by omega) e2 (show z_pt 153 200 = some (6, .ireturn, []) by decide +kernel) (by decide +kernel)
/-- the law's script, 0 behind its end -/
def z_S (sc : Nat × (Nat → Int32)) (k : Int32) : Int32 := if Int32.ofNat sc.1 ≤ k then 0 else sc.2 k.toNatClampNeg
theorem pL_at_run {sc0 : Nat × (Nat → Int32)} {μ : z_Mem} {k : Int32} (hL : sc0.1 ≤ 260) (hk : ¬ k < 0) : Ro sc0 0 0 150 0 [(0, .ref 2000), (1, .int k)] [] μ (.inl (some (.int (z_S sc0 k)))) μ := by
  unfold z_S
  refine O_pure (pc := 0) (pc' := 1) (st' := [.int k]) (show z_pt 150 0 = some (2, .iload_n 1, []) by decide +kernel) rfl (fun _ _ _ => rfl) ?_
  refine O_pure (pc := 1) (pc' := 2) (st' := [.ref 2000, .int k]) (show z_pt 150 1 = some (2, .aload_n 0, []) by decide +kernel) rfl (fun _ _ _ => rfl) ?_
  refine O_slen0 (pc := 2) (show z_pt 150 2 = some (2, .arraylength, []) by decide +kernel) ?_
  refine O_icmge (pc := 3) (t := 12) (show z_pt 150 3 = some (2, .if_icmp .ge 9, []) by decide +kernel) (by decide) (fun c1 => ?_) (fun c1 => ?_)
  · rw [if_pos c1]
    refine O_const (pc := 12) (pc' := 13) (v := 0) (show z_ptc 150 12 = some (13, 0) by decide +kernel) ?_
    exact O_retI (show z_pt 150 13 = some (2, .ireturn, []) by decide +kernel) (by decide +kernel)
  · rw [if_neg c1]
    refine O_pure (pc := 6) (pc' := 7) (st' := [.ref 2000]) (show z_pt 150 6 = some (2, .aload_n 0, []) by decide +kernel) rfl (fun _ _ _ => rfl) ?_
    refine O_pure (pc := 7) (pc' := 8) (st' := [.int k, .ref 2000]) (show z_pt 150 7 = some (2, .iload_n 1, []) by decide +kernel) rfl (fun _ _ _ => rfl) ?_
    refine O_sald (pc := 8) (show z_pt 150 8 = some (2, .iaload, []) by decide +kernel) ?_ ?_
    · obtain ⟨a, ha, rfl⟩ := w_nat (i := k) (by
        rw [Int32.le_iff_toInt_le]
        have := fun q => hk (Int32.lt_iff_toInt_lt.mpr q)
        exact Int.not_lt.mp this)
      exact (w_inn ha).mpr (Nat.lt_of_not_le (fun q => c1 ((w_le (by omega) ha).mpr q)))
    · refine O_pure (pc := 9) (pc' := 13) (show z_pt 150 9 = some (2, .goto 4, []) by decide +kernel) rfl (fun _ _ _ => rfl) ?_
      exact O_retI (show z_pt 150 13 = some (2, .ireturn, []) by decide +kernel) (by decide +kernel)
def pL_feeds : List Nat → z_Mem → Option z_Mem
  | [], μ => some μ
  | c :: l, μ => (z_iXM (pG_feed μ (Int32.ofNat c))).bind fun q => pL_feeds l q.2
def pL_put (sj : Nat) (μ : z_Mem) : Option z_Mem := pL_feeds (z_str sj) μ
theorem pL_put_L {sc0 : Nat × (Nat → Int32)} {sj : Nat} (hsj : Nat.blt sj 21 = true) (hj : (z_str sj).length < 1000) : ∀ (n i : Nat) (μ r : z_Mem), i + n = (z_str sj).length → pL_feeds ((z_str sj).drop i) μ = some r → Ro sc0 0 7 151 2 [(0, .ref 0), (1, .ref (1000 + sj)), (2, .int (Int32.ofNat i))] [] μ (.inl none) r := by
  intro n
  induction n with
  | zero =>
    intro i μ r hi h
    rw [List.drop_eq_nil_of_le (by omega)] at h
    cases h
    refine O_pure (pc := 2) (pc' := 3) (st' := [.int (Int32.ofNat i)]) (show z_pt 151 2 = some (3, .iload_n 2, []) by decide +kernel) rfl (fun _ _ _ => rfl) ?_
    refine O_pure (pc := 3) (pc' := 4) (st' := [.ref (1000 + sj), .int (Int32.ofNat i)]) (show z_pt 151 3 = some (3, .aload_n 1, []) by decide +kernel) rfl (fun _ _ _ => rfl) ?_
    refine O_slen (pc := 4) (show z_pt 151 4 = some (3, .invokevirtual 7, [8]) by decide +kernel) rfl hsj (by omega) rfl ?_
    refine O_icmge (pc := 7) (t := 26) (show z_pt 151 7 = some (3, .if_icmp .ge 19, []) by decide +kernel) (by decide) (fun c1 => ?_) (fun c1 => ?_)
    · exact O_retV (show z_pt 151 26 = some (3, .return_, []) by decide +kernel) (by decide +kernel)
    · exact absurd ((w_le (by omega) (by omega)).mpr (by omega)) c1
  | succ n ih =>
    intro i μ r hi h
    have hlt : i < (z_str sj).length := by omega
    rw [List.drop_eq_getElem_cons hlt] at h
    have h2 : ((z_iXM (pG_feed μ (Int32.ofNat (z_str sj)[i]))).bind fun q => pL_feeds ((z_str sj).drop (i + 1)) q.2) = some r := h
    obtain ⟨q, e, h⟩ := z_bs h2
    refine O_pure (pc := 2) (pc' := 3) (st' := [.int (Int32.ofNat i)]) (show z_pt 151 2 = some (3, .iload_n 2, []) by decide +kernel) rfl (fun _ _ _ => rfl) ?_
    refine O_pure (pc := 3) (pc' := 4) (st' := [.ref (1000 + sj), .int (Int32.ofNat i)]) (show z_pt 151 3 = some (3, .aload_n 1, []) by decide +kernel) rfl (fun _ _ _ => rfl) ?_
    refine O_slen (pc := 4) (show z_pt 151 4 = some (3, .invokevirtual 7, [8]) by decide +kernel) rfl hsj (by omega) rfl ?_
    refine O_icmge (pc := 7) (t := 26) (show z_pt 151 7 = some (3, .if_icmp .ge 19, []) by decide +kernel) (by decide) (fun c1 => ?_) (fun c1 => ?_)
    · exact absurd ((w_le (by omega) (by omega)).mp c1) (by omega)
    · refine O_pure (pc := 10) (pc' := 11) (st' := [.ref 0]) (show z_pt 151 10 = some (3, .aload_n 0, []) by decide +kernel) rfl (fun _ _ _ => rfl) ?_
      refine O_pure (pc := 11) (pc' := 12) (st' := [.ref (1000 + sj), .ref 0]) (show z_pt 151 11 = some (3, .aload_n 1, []) by decide +kernel) rfl (fun _ _ _ => rfl) ?_
      refine O_pure (pc := 12) (pc' := 13) (st' := [.int (Int32.ofNat i), .ref (1000 + sj), .ref 0]) (show z_pt 151 12 = some (3, .iload_n 2, []) by decide +kernel) rfl (fun _ _ _ => rfl) ?_
      refine O_sch (pc := 13) (show z_pt 151 13 = some (3, .invokevirtual 13, [9]) by decide +kernel) rfl hsj ((w_inn (by omega)).mpr hlt) (by omega) rfl ?_
      rw [w_tn (by omega), show (z_str sj).getD i 0 = (z_str sj)[i] by rw [List.getD_eq_getElem?_getD, List.getElem?_eq_getElem hlt]; rfl]
      refine O_call (E1 := 0) (E2 := 0) (pc := 16) (rr := []) (show z_pt 151 16 = some (3, .invokevirtual 17, [0, 118, 1, 5101, 5102, 5103, 1001, 5104]) by decide +kernel) rfl (show z_r3 0 118 = some (9, 2, true) by decide +kernel) rfl rfl (Or.inr ⟨_, _, rfl, (by decide +kernel)⟩) (Ro_of0 (pG_feed_run (z_iXM_eq e))) (by omega) (by omega) ?_
      refine O_at2 (pc := 19) (st := [.int q.1]) ?_
      refine O_pure (pc := 19) (pc' := 20) (st' := []) (show z_pt 151 19 = some (3, .pop, []) by decide +kernel) rfl (fun _ _ _ => rfl) ?_
      refine O_inc (pc := 20) (pc' := 23) (ls' := [(0, .ref 0), (1, .ref (1000 + sj)), (2, .int (Int32.ofNat i + 1))]) (c := 1) (show z_pt 151 20 = some (3, .iinc 2 1, []) by decide +kernel) (by decide) rfl rfl ?_
      refine O_pure (pc := 23) (pc' := 2) (ls' := [(0, .ref 0), (1, .ref (1000 + sj)), (2, .int (Int32.ofNat i + 1))]) (st' := []) (show z_pt 151 23 = some (3, .goto (-21), [3]) by decide +kernel) rfl (fun _ _ _ => rfl) ?_
      rw [show Int32.ofNat i + 1 = Int32.ofNat (i + 1) from w_ar2]
      exact ih (i + 1) q.2 r (by omega) h
theorem pL_put_run {sc0 : Nat × (Nat → Int32)} {sj : Nat} {μ : z_Mem} (hsj : Nat.blt sj 21 = true) {r : z_Mem} (h : pL_put sj μ = some r) : Ro sc0 0 7 151 0 [(0, .ref 0), (1, .ref (1000 + sj))] [] μ (.inl none) r := by
  have hj : (z_str sj).length < 1000 := by
    have h1 : (List.range 21).all (fun j => decide ((z_str j).length < 1000)) = true := by decide +kernel
    exact of_decide_eq_true (List.all_eq_true.mp h1 sj (List.mem_range.mpr (Nat.le_of_ble_eq_true hsj)))
  refine O_const (pc := 0) (pc' := 1) (v := 0) (show z_ptc 151 0 = some (1, 0) by decide +kernel) ?_
  refine O_pure (pc := 1) (pc' := 2) (ls' := [(0, .ref 0), (1, .ref (1000 + sj)), (2, .int 0)]) (st' := []) (show z_pt 151 1 = some (3, .istore_n 2, []) by decide +kernel) rfl (fun _ _ _ => rfl) ?_
  exact pL_put_L hsj hj (z_str sj).length 0 μ r (by omega) h
def z_rV : Int32 ⊕ Nat → Option Int32
  | .inl v => some v
  | .inr 1 => some (-1)
  | .inr 5 => some (-2)
  | .inr _ => none
def pL_runs (μ : z_Mem) : Option (Int32 × z_Mem) := (pG_execute μ).bind fun q => (z_rV q.1).bind fun v => some (v, q.2)
theorem pL_runs_run {sc0 : Nat × (Nat → Int32)} {μ : z_Mem} {r : Int32 × z_Mem} (h : pL_runs μ = some r) : Ro sc0 1 20 156 0 [(0, .ref 0)] [] μ (.inl (some (.int r.1))) r.2 := by
  unfold pL_runs at h
  obtain ⟨⟨q, μ1⟩, e1, h⟩ := z_bs h
  obtain ⟨v, e2, h⟩ := z_bs h
  cases h
  refine O_pure (pc := 0) (pc' := 1) (st' := [.ref 0]) (show z_pt 156 0 = some (2, .aload_n 0, []) by decide +kernel) rfl (fun _ _ _ => rfl) ?_
  have hr := pG_execute_run e1
  cases q with
  | inl x =>
    cases e2
    exact O_call (E1 := 0) (E2 := 0) (rr := []) (show z_pt 156 1 = some (2, .invokevirtual 177, [0, 119, 0, 4161, 4162, 4163, 1001, 4164]) by decide +kernel) rfl (show z_r3 0 119 = some (9, 3, true) by decide +kernel) rfl rfl (Or.inr ⟨_, _, rfl, (by decide +kernel)⟩) (Ro_of0 hr) (by omega) (by omega) (O_retI (show z_pt 156 4 = some (2, .ireturn, []) by decide +kernel) (by decide +kernel))
  | inr X =>
    have hX : (X = 1 ∧ v = -1) ∨ (X = 5 ∧ v = -2) := by
      unfold z_rV at e2
      split at e2
      · rename_i q; cases q
      · rename_i q; cases q; cases e2; exact Or.inl ⟨rfl, rfl⟩
      · rename_i q; cases q; cases e2; exact Or.inr ⟨rfl, rfl⟩
      · cases e2
    rcases hX with ⟨rfl, rfl⟩ | ⟨rfl, rfl⟩
    · exact O_callC (E1 := 1) (E2 := 0) (rr := []) (show z_pt 156 1 = some (2, .invokevirtual 177, [0, 119, 0, 4161, 4162, 4163, 1001, 4164]) by decide +kernel) rfl (show z_r3 0 119 = some (9, 3, true) by decide +kernel) rfl rfl (Or.inr ⟨_, _, rfl, (by decide +kernel)⟩) (Ro_of hr (Nat.le_refl _)) (by omega) (by omega) (by decide) (show z_hdx 156 1 1 = some (6, 1) by decide +kernel) (O_const (pc' := 7) (v := -1) (show z_ptc 156 6 = some (7, -1) by decide +kernel) (O_retI (show z_pt 156 7 = some (2, .ireturn, []) by decide +kernel) (by decide +kernel)))
    · exact O_callC (E1 := 1) (E2 := 0) (rr := []) (show z_pt 156 1 = some (2, .invokevirtual 177, [0, 119, 0, 4161, 4162, 4163, 1001, 4164]) by decide +kernel) rfl (show z_r3 0 119 = some (9, 3, true) by decide +kernel) rfl rfl (Or.inr ⟨_, _, rfl, (by decide +kernel)⟩) (Ro_of hr (Nat.le_refl _)) (by omega) (by omega) (by decide) (show z_hdx 156 1 5 = some (9, 1) by decide +kernel) (O_const (pc' := 11) (v := -2) (show z_ptc 156 9 = some (11, -2) by decide +kernel) (O_retI (show z_pt 156 11 = some (2, .ireturn, []) by decide +kernel) (by decide +kernel)))
def pL_fails (sj : Nat) (μ : z_Mem) (i2 : Int32) : Option (Int32 × z_Mem) := (pL_put sj μ).bind fun q1 => (pL_runs q1).bind fun q3 => if q3.1 = (-1) then (z_iX (pG_errorPosition q3.2)).bind fun q6 => if q6 = i2 then some (1, q3.2) else some (0, q3.2) else some (0, q3.2)
theorem pL_fails_run {sc0 : Nat × (Nat → Int32)} {sj : Nat} {μ : z_Mem} {i2 : Int32} (hsj : Nat.blt sj 21 = true) {r : (Int32 × z_Mem)} (h : pL_fails sj μ i2 = some r) : Ro sc0 1 21 157 0 [(0, .ref 0), (1, .ref (1000 + sj)), (2, .int i2)] [] μ (.inl (some (.int r.1))) r.2 := by
  unfold pL_fails at h
  refine O_pure (pc := 0) (pc' := 1) (st' := [.ref 0]) (show z_pt 157 0 = some (3, .aload_n 0, []) by decide +kernel) rfl (fun _ _ _ => rfl) ?_
  refine O_pure (pc := 1) (pc' := 2) (st' := [.ref (1000 + sj), .ref 0]) (show z_pt 157 1 = some (3, .aload_n 1, []) by decide +kernel) rfl (fun _ _ _ => rfl) ?_
  obtain ⟨q1, e2, h⟩ := z_bs h
  refine O_call (E1 := 0) (E2 := 1) (pc := 2) (rr := []) (show z_pt 157 2 = some (3, .invokestatic 173, [1, 151, 2, 5096, 5097, 0, 1000, 5098]) by decide +kernel) rfl (show z_r3 1 151 = some (11, 3, true) by decide +kernel) rfl rfl (Or.inl (by decide)) (pL_put_run hsj e2) (by omega) (by omega) ?_
  refine O_at2 (pc := 5) (st := []) ?_
  refine O_pure (pc := 5) (pc' := 6) (st' := [.ref 0]) (show z_pt 157 5 = some (3, .aload_n 0, []) by decide +kernel) rfl (fun _ _ _ => rfl) ?_
  obtain ⟨q3, e4, h⟩ := z_bs h
  refine O_call (E1 := 1) (E2 := 0) (pc := 6) (rr := []) (show z_pt 157 6 = some (3, .invokestatic 185, [5, 156, 1, 5185, 5186, 0, 1000, 5187]) by decide +kernel) rfl (show z_r3 5 156 = some (11, 2, true) by decide +kernel) rfl rfl (Or.inl (by decide)) (pL_runs_run  e4) (by omega) (by omega) ?_
  refine O_at2 (pc := 9) (st := [.int q3.1]) ?_
  refine O_const (pc := 9) (pc' := 10) (v := (-1)) (show z_ptc 157 9 = some (10, (-1)) by decide +kernel) ?_
  refine O_icmne (pc := 10) (t := 25) (show z_pt 157 10 = some (3, .if_icmp .ne 15, []) by decide +kernel) (by decide) (fun c5 => ?_) (fun c5 => ?_)
  · rw [if_neg c5] at h
    refine O_const (pc := 25) (pc' := 26) (v := 0) (show z_ptc 157 25 = some (26, 0) by decide +kernel) ?_
    cases h
    exact O_retZ (show z_pt 157 26 = some (3, .ireturn, []) by decide +kernel) (t := .boolean) (by decide +kernel) (by decide)
  · rw [if_pos c5] at h
    refine O_pure (pc := 13) (pc' := 14) (st' := [.ref 0]) (show z_pt 157 13 = some (3, .aload_n 0, []) by decide +kernel) rfl (fun _ _ _ => rfl) ?_
    obtain ⟨q6, e7, h⟩ := z_bs h
    refine O_call (E1 := 0) (E2 := 0) (pc := 14) (rr := []) (show z_pt 157 14 = some (3, .invokevirtual 263, [0, 120, 0, 5192, 5193, 5194, 1001, 5195]) by decide +kernel) rfl (show z_r3 0 120 = some (9, 1, true) by decide +kernel) rfl rfl (Or.inr ⟨_, _, rfl, (by decide +kernel)⟩) (Ro_of0 (pG_errorPosition_run  (z_iX_eq e7))) (by omega) (by omega) ?_
    refine O_at2 (pc := 17) (st := [.int q6]) ?_
    refine O_pure (pc := 17) (pc' := 18) (st' := [.int i2, .int q6]) (show z_pt 157 17 = some (3, .iload_n 2, []) by decide +kernel) rfl (fun _ _ _ => rfl) ?_
    refine O_icmne (pc := 18) (t := 25) (show z_pt 157 18 = some (3, .if_icmp .ne 7, []) by decide +kernel) (by decide) (fun c8 => ?_) (fun c8 => ?_)
    · rw [if_neg c8] at h
      refine O_const (pc := 25) (pc' := 26) (v := 0) (show z_ptc 157 25 = some (26, 0) by decide +kernel) ?_
      cases h
      exact O_retZ (show z_pt 157 26 = some (3, .ireturn, []) by decide +kernel) (t := .boolean) (by decide +kernel) (by decide)
    · rw [if_pos c8] at h
      refine O_const (pc := 21) (pc' := 22) (v := 1) (show z_ptc 157 21 = some (22, 1) by decide +kernel) ?_
      refine O_pure (pc := 22) (pc' := 26) (show z_pt 157 22 = some (3, .goto 4, []) by decide +kernel) rfl (fun _ _ _ => rfl) ?_
      cases h
      exact O_retZ (show z_pt 157 26 = some (3, .ireturn, []) by decide +kernel) (t := .boolean) (by decide +kernel) (by decide)
def pL_state_L53_B (R : Int32 → Int32 → Option (Int32 × z_Mem))  (μ : z_Mem) (f2 : Int32) (K : Int32 → Int32 → Option (Int32 × z_Mem)) (a1 : Int32) (a3 : Int32) : Option (Int32 × z_Mem) := if f2 ≤ a3 then K a1 a3 else (z_iX (pG_doMesh μ f2 a3)).bind fun q15 => if q15 = 0 then R (((31 : Int32) * a1) + 0) (a3 + 1) else (z_iX (pG_gap μ f2 a3)).bind fun q18 => (z_iX (pG_slack μ f2 a3)).bind fun q20 => R (((31 : Int32) * a1) + (((1 : Int32) + q18) + ((10 : Int32) * q20))) (a3 + 1)
def pL_state_L53 : Nat → z_Mem → Int32 → (Int32 → Int32 → Option (Int32 × z_Mem)) → Int32 → Int32 → Option (Int32 × z_Mem)
  | 0 => fun _ _ _ _ _ => none
  | n + 1 => fun μ f2 K a1 a3 => pL_state_L53_B (pL_state_L53 n μ f2 K) μ f2 K a1 a3
theorem pL_state_L53_run {sc0 : Nat × (Nat → Int32)} {E : Nat}  (μ : z_Mem) (f2 : Int32) (K : Int32 → Int32 → Option (Int32 × z_Mem))  (D : Nat) (hD : 19 ≤ D) (hK : ∀ (a1 a3 : Int32) (r : (Int32 × z_Mem)), K a1 a3 = some r → Ro sc0 E D 154 101 [(0, .ref 0), (1, .int a1), (2, .int f2), (3, .int a3)] [] μ (.inl (some (.int r.1))) r.2) : ∀ (n : Nat) (a1 : Int32) (a3 : Int32) (r : (Int32 × z_Mem)), pL_state_L53 n μ f2 K a1 a3 = some r → Ro sc0 E D 154 53 [(0, .ref 0), (1, .int a1), (2, .int f2), (3, .int a3)] [] μ (.inl (some (.int r.1))) r.2 := by
  intro n
  induction n with
  | zero => intro a1 a3 r h; cases h
  | succ n ih =>
    intro a1 a3 r h
    have h : pL_state_L53_B (pL_state_L53 n μ f2 K) μ f2 K a1 a3 = some r := h
    unfold pL_state_L53_B at h
    refine O_pure (pc := 53) (pc' := 54) (st' := [.int a3]) (show z_pt 154 53 = some (4, .iload_n 3, []) by decide +kernel) rfl (fun _ _ _ => rfl) ?_
    refine O_pure (pc := 54) (pc' := 55) (st' := [.int f2, .int a3]) (show z_pt 154 54 = some (4, .iload_n 2, []) by decide +kernel) rfl (fun _ _ _ => rfl) ?_
    refine O_icmge (pc := 55) (t := 101) (show z_pt 154 55 = some (4, .if_icmp .ge 46, []) by decide +kernel) (by decide) (fun c14 => ?_) (fun c14 => ?_)
    · rw [if_pos c14] at h
      exact hK _ _  _ h
    · rw [if_neg c14] at h
      refine O_const (pc := 58) (pc' := 60) (v := 31) (show z_ptc 154 58 = some (60, 31) by decide +kernel) ?_
      refine O_pure (pc := 60) (pc' := 61) (st' := [.int a1, .int 31]) (show z_pt 154 60 = some (4, .iload_n 1, []) by decide +kernel) rfl (fun _ _ _ => rfl) ?_
      refine O_pure (pc := 61) (pc' := 62) (st' := [.int ((31 : Int32) * a1)]) (show z_pt 154 61 = some (4, .imul, []) by decide +kernel) rfl (fun _ _ _ => rfl) ?_
      refine O_pure (pc := 62) (pc' := 63) (st' := [.ref 0, .int ((31 : Int32) * a1)]) (show z_pt 154 62 = some (4, .aload_n 0, []) by decide +kernel) rfl (fun _ _ _ => rfl) ?_
      refine O_pure (pc := 63) (pc' := 64) (st' := [.int f2, .ref 0, .int ((31 : Int32) * a1)]) (show z_pt 154 63 = some (4, .iload_n 2, []) by decide +kernel) rfl (fun _ _ _ => rfl) ?_
      refine O_pure (pc := 64) (pc' := 65) (st' := [.int a3, .int f2, .ref 0, .int ((31 : Int32) * a1)]) (show z_pt 154 64 = some (4, .iload_n 3, []) by decide +kernel) rfl (fun _ _ _ => rfl) ?_
      obtain ⟨q15, e16, h⟩ := z_bs h
      refine O_call (E1 := 0) (E2 := E) (pc := 65) (rr := [.int ((31 : Int32) * a1)]) (show z_pt 154 65 = some (4, .invokevirtual 112, [0, 83, 2, 5165, 5166, 5167, 1001, 5168]) by decide +kernel) rfl (show z_r3 0 83 = some (9, 3, true) by decide +kernel) rfl rfl (Or.inr ⟨_, _, rfl, (by decide +kernel)⟩) (Ro_of0 (pG_doMesh_run  (z_iX_eq e16))) (by omega) (by omega) ?_
      refine O_at2 (pc := 68) (st := [.int q15, .int ((31 : Int32) * a1)]) ?_
      refine O_ifeq (pc := 68) (t := 92) (show z_pt 154 68 = some (4, .ifCond .eq 24, []) by decide +kernel) (by decide) (fun c17 => ?_) (fun c17 => ?_)
      · rw [if_pos c17] at h
        refine O_const (pc := 92) (pc' := 93) (v := 0) (show z_ptc 154 92 = some (93, 0) by decide +kernel) ?_
        refine O_pure (pc := 93) (pc' := 94) (st' := [.int (((31 : Int32) * a1) + 0)]) (show z_pt 154 93 = some (4, .iadd, []) by decide +kernel) rfl (fun _ _ _ => rfl) ?_
        refine O_pure (pc := 94) (pc' := 95) (ls' := [(0, .ref 0), (1, .int (((31 : Int32) * a1) + 0)), (2, .int f2), (3, .int a3)]) (st' := []) (show z_pt 154 94 = some (4, .istore_n 1, []) by decide +kernel) rfl (fun _ _ _ => rfl) ?_
        refine O_inc (pc := 95) (pc' := 98) (ls' := [(0, .ref 0), (1, .int (((31 : Int32) * a1) + 0)), (2, .int f2), (3, .int (a3 + 1))]) (c := 1) (show z_pt 154 95 = some (4, .iinc 3 1, []) by decide +kernel) (by decide) rfl rfl ?_
        refine O_pure (pc := 98) (pc' := 53) (ls' := [(0, .ref 0), (1, .int (((31 : Int32) * a1) + 0)), (2, .int f2), (3, .int (a3 + 1))]) (st' := []) (show z_pt 154 98 = some (4, .goto (-45), [4]) by decide +kernel) rfl (fun _ _ _ => rfl) ?_
        exact ih _ _ _  h
      · rw [if_neg c17] at h
        refine O_const (pc := 71) (pc' := 72) (v := 1) (show z_ptc 154 71 = some (72, 1) by decide +kernel) ?_
        refine O_pure (pc := 72) (pc' := 73) (st' := [.ref 0, .int 1, .int ((31 : Int32) * a1)]) (show z_pt 154 72 = some (4, .aload_n 0, []) by decide +kernel) rfl (fun _ _ _ => rfl) ?_
        refine O_pure (pc := 73) (pc' := 74) (st' := [.int f2, .ref 0, .int 1, .int ((31 : Int32) * a1)]) (show z_pt 154 73 = some (4, .iload_n 2, []) by decide +kernel) rfl (fun _ _ _ => rfl) ?_
        refine O_pure (pc := 74) (pc' := 75) (st' := [.int a3, .int f2, .ref 0, .int 1, .int ((31 : Int32) * a1)]) (show z_pt 154 74 = some (4, .iload_n 3, []) by decide +kernel) rfl (fun _ _ _ => rfl) ?_
        obtain ⟨q18, e19, h⟩ := z_bs h
        refine O_call (E1 := 0) (E2 := E) (pc := 75) (rr := [.int 1, .int ((31 : Int32) * a1)]) (show z_pt 154 75 = some (4, .invokevirtual 116, [0, 85, 2, 3057, 3058, 3059, 1001, 3060]) by decide +kernel) rfl (show z_r3 0 85 = some (9, 3, true) by decide +kernel) rfl rfl (Or.inr ⟨_, _, rfl, (by decide +kernel)⟩) (Ro_of0 (pG_gap_run  (z_iX_eq e19))) (by omega) (by omega) ?_
        refine O_at2 (pc := 78) (st := [.int q18, .int 1, .int ((31 : Int32) * a1)]) ?_
        refine O_pure (pc := 78) (pc' := 79) (st' := [.int ((1 : Int32) + q18), .int ((31 : Int32) * a1)]) (show z_pt 154 78 = some (4, .iadd, []) by decide +kernel) rfl (fun _ _ _ => rfl) ?_
        refine O_const (pc := 79) (pc' := 81) (v := 10) (show z_ptc 154 79 = some (81, 10) by decide +kernel) ?_
        refine O_pure (pc := 81) (pc' := 82) (st' := [.ref 0, .int 10, .int ((1 : Int32) + q18), .int ((31 : Int32) * a1)]) (show z_pt 154 81 = some (4, .aload_n 0, []) by decide +kernel) rfl (fun _ _ _ => rfl) ?_
        refine O_pure (pc := 82) (pc' := 83) (st' := [.int f2, .ref 0, .int 10, .int ((1 : Int32) + q18), .int ((31 : Int32) * a1)]) (show z_pt 154 82 = some (4, .iload_n 2, []) by decide +kernel) rfl (fun _ _ _ => rfl) ?_
        refine O_pure (pc := 83) (pc' := 84) (st' := [.int a3, .int f2, .ref 0, .int 10, .int ((1 : Int32) + q18), .int ((31 : Int32) * a1)]) (show z_pt 154 83 = some (4, .iload_n 3, []) by decide +kernel) rfl (fun _ _ _ => rfl) ?_
        obtain ⟨q20, e21, h⟩ := z_bs h
        refine O_call (E1 := 0) (E2 := E) (pc := 84) (rr := [.int 10, .int ((1 : Int32) + q18), .int ((31 : Int32) * a1)]) (show z_pt 154 84 = some (4, .invokevirtual 119, [0, 84, 2, 5169, 5170, 5171, 1001, 5172]) by decide +kernel) rfl (show z_r3 0 84 = some (9, 3, true) by decide +kernel) rfl rfl (Or.inr ⟨_, _, rfl, (by decide +kernel)⟩) (Ro_of0 (pG_slack_run  (z_iX_eq e21))) (by omega) (by omega) ?_
        refine O_at2 (pc := 87) (st := [.int q20, .int 10, .int ((1 : Int32) + q18), .int ((31 : Int32) * a1)]) ?_
        refine O_pure (pc := 87) (pc' := 88) (st' := [.int ((10 : Int32) * q20), .int ((1 : Int32) + q18), .int ((31 : Int32) * a1)]) (show z_pt 154 87 = some (4, .imul, []) by decide +kernel) rfl (fun _ _ _ => rfl) ?_
        refine O_pure (pc := 88) (pc' := 89) (st' := [.int (((1 : Int32) + q18) + ((10 : Int32) * q20)), .int ((31 : Int32) * a1)]) (show z_pt 154 88 = some (4, .iadd, []) by decide +kernel) rfl (fun _ _ _ => rfl) ?_
        refine O_pure (pc := 89) (pc' := 93) (show z_pt 154 89 = some (4, .goto 4, []) by decide +kernel) rfl (fun _ _ _ => rfl) ?_
        refine O_pure (pc := 93) (pc' := 94) (st' := [.int (((31 : Int32) * a1) + (((1 : Int32) + q18) + ((10 : Int32) * q20)))]) (show z_pt 154 93 = some (4, .iadd, []) by decide +kernel) rfl (fun _ _ _ => rfl) ?_
        refine O_pure (pc := 94) (pc' := 95) (ls' := [(0, .ref 0), (1, .int (((31 : Int32) * a1) + (((1 : Int32) + q18) + ((10 : Int32) * q20)))), (2, .int f2), (3, .int a3)]) (st' := []) (show z_pt 154 94 = some (4, .istore_n 1, []) by decide +kernel) rfl (fun _ _ _ => rfl) ?_
        refine O_inc (pc := 95) (pc' := 98) (ls' := [(0, .ref 0), (1, .int (((31 : Int32) * a1) + (((1 : Int32) + q18) + ((10 : Int32) * q20)))), (2, .int f2), (3, .int (a3 + 1))]) (c := 1) (show z_pt 154 95 = some (4, .iinc 3 1, []) by decide +kernel) (by decide) rfl rfl ?_
        refine O_pure (pc := 98) (pc' := 53) (ls' := [(0, .ref 0), (1, .int (((31 : Int32) * a1) + (((1 : Int32) + q18) + ((10 : Int32) * q20)))), (2, .int f2), (3, .int (a3 + 1))]) (st' := []) (show z_pt 154 98 = some (4, .goto (-45), [4]) by decide +kernel) rfl (fun _ _ _ => rfl) ?_
        exact ih _ _ _  h
def pL_state_L23_B (R : Int32 → Int32 → Option (Int32 × z_Mem))  (μ : z_Mem)  (K : Int32 → Int32 → Option (Int32 × z_Mem)) (a1 : Int32) (a2 : Int32) : Option (Int32 × z_Mem) := (pG_gearCount μ).bind fun q7 => if q7 ≤ a2 then K a1 a2 else (z_iX (pG_teeth μ a2)).bind fun q10 => (z_iX (pG_position μ a2)).bind fun q12 => pL_state_L53 z_fu μ a2 (fun k22 k23 => R k22 (a2 + 1)) (((31 : Int32) * (((31 : Int32) * a1) + q10)) + q12) 0
def pL_state_L23 : Nat → z_Mem → (Int32 → Int32 → Option (Int32 × z_Mem)) → Int32 → Int32 → Option (Int32 × z_Mem)
  | 0 => fun _ _ _ _ => none
  | n + 1 => fun μ K a1 a2 => pL_state_L23_B (pL_state_L23 n μ K) μ K a1 a2
theorem pL_state_L23_run {sc0 : Nat × (Nat → Int32)} {E : Nat}  (μ : z_Mem)  (K : Int32 → Int32 → Option (Int32 × z_Mem))  (D : Nat) (hD : 19 ≤ D) (hK : ∀ (a1 a2 : Int32) (r : (Int32 × z_Mem)), K a1 a2 = some r → Ro sc0 E D 154 107 [(0, .ref 0), (1, .int a1), (2, .int a2)] [] μ (.inl (some (.int r.1))) r.2) : ∀ (n : Nat) (a1 : Int32) (a2 : Int32) (r : (Int32 × z_Mem)), pL_state_L23 n μ K a1 a2 = some r → Ro sc0 E D 154 23 [(0, .ref 0), (1, .int a1), (2, .int a2)] [] μ (.inl (some (.int r.1))) r.2 := by
  intro n
  induction n with
  | zero => intro a1 a2 r h; cases h
  | succ n ih =>
    intro a1 a2 r h
    have h : pL_state_L23_B (pL_state_L23 n μ K) μ K a1 a2 = some r := h
    unfold pL_state_L23_B at h
    refine O_pure (pc := 23) (pc' := 24) (st' := [.int a2]) (show z_pt 154 23 = some (4, .iload_n 2, []) by decide +kernel) rfl (fun _ _ _ => rfl) ?_
    refine O_pure (pc := 24) (pc' := 25) (st' := [.ref 0, .int a2]) (show z_pt 154 24 = some (4, .aload_n 0, []) by decide +kernel) rfl (fun _ _ _ => rfl) ?_
    obtain ⟨q7, e8, h⟩ := z_bs h
    refine O_call (E1 := 0) (E2 := E) (pc := 25) (rr := [.int a2]) (show z_pt 154 25 = some (4, .invokevirtual 34, [0, 79, 0, 3045, 3046, 3047, 1001, 3048]) by decide +kernel) rfl (show z_r3 0 79 = some (9, 1, true) by decide +kernel) rfl rfl (Or.inr ⟨_, _, rfl, (by decide +kernel)⟩) (Ro_of0 (pG_gearCount_run  e8)) (by omega) (by omega) ?_
    refine O_at2 (pc := 28) (st := [.int q7, .int a2]) ?_
    refine O_icmge (pc := 28) (t := 107) (show z_pt 154 28 = some (4, .if_icmp .ge 79, []) by decide +kernel) (by decide) (fun c9 => ?_) (fun c9 => ?_)
    · rw [if_pos c9] at h
      exact hK _ _  _ h
    · rw [if_neg c9] at h
      refine O_const (pc := 31) (pc' := 33) (v := 31) (show z_ptc 154 31 = some (33, 31) by decide +kernel) ?_
      refine O_const (pc := 33) (pc' := 35) (v := 31) (show z_ptc 154 33 = some (35, 31) by decide +kernel) ?_
      refine O_pure (pc := 35) (pc' := 36) (st' := [.int a1, .int 31, .int 31]) (show z_pt 154 35 = some (4, .iload_n 1, []) by decide +kernel) rfl (fun _ _ _ => rfl) ?_
      refine O_pure (pc := 36) (pc' := 37) (st' := [.int ((31 : Int32) * a1), .int 31]) (show z_pt 154 36 = some (4, .imul, []) by decide +kernel) rfl (fun _ _ _ => rfl) ?_
      refine O_pure (pc := 37) (pc' := 38) (st' := [.ref 0, .int ((31 : Int32) * a1), .int 31]) (show z_pt 154 37 = some (4, .aload_n 0, []) by decide +kernel) rfl (fun _ _ _ => rfl) ?_
      refine O_pure (pc := 38) (pc' := 39) (st' := [.int a2, .ref 0, .int ((31 : Int32) * a1), .int 31]) (show z_pt 154 38 = some (4, .iload_n 2, []) by decide +kernel) rfl (fun _ _ _ => rfl) ?_
      obtain ⟨q10, e11, h⟩ := z_bs h
      refine O_call (E1 := 0) (E2 := E) (pc := 39) (rr := [.int ((31 : Int32) * a1), .int 31]) (show z_pt 154 39 = some (4, .invokevirtual 106, [0, 80, 1, 5161, 5162, 5163, 1001, 5164]) by decide +kernel) rfl (show z_r3 0 80 = some (9, 2, true) by decide +kernel) rfl rfl (Or.inr ⟨_, _, rfl, (by decide +kernel)⟩) (Ro_of0 (pG_teeth_run  (z_iX_eq e11))) (by omega) (by omega) ?_
      refine O_at2 (pc := 42) (st := [.int q10, .int ((31 : Int32) * a1), .int 31]) ?_
      refine O_pure (pc := 42) (pc' := 43) (st' := [.int (((31 : Int32) * a1) + q10), .int 31]) (show z_pt 154 42 = some (4, .iadd, []) by decide +kernel) rfl (fun _ _ _ => rfl) ?_
      refine O_pure (pc := 43) (pc' := 44) (st' := [.int ((31 : Int32) * (((31 : Int32) * a1) + q10))]) (show z_pt 154 43 = some (4, .imul, []) by decide +kernel) rfl (fun _ _ _ => rfl) ?_
      refine O_pure (pc := 44) (pc' := 45) (st' := [.ref 0, .int ((31 : Int32) * (((31 : Int32) * a1) + q10))]) (show z_pt 154 44 = some (4, .aload_n 0, []) by decide +kernel) rfl (fun _ _ _ => rfl) ?_
      refine O_pure (pc := 45) (pc' := 46) (st' := [.int a2, .ref 0, .int ((31 : Int32) * (((31 : Int32) * a1) + q10))]) (show z_pt 154 45 = some (4, .iload_n 2, []) by decide +kernel) rfl (fun _ _ _ => rfl) ?_
      obtain ⟨q12, e13, h⟩ := z_bs h
      refine O_call (E1 := 0) (E2 := E) (pc := 46) (rr := [.int ((31 : Int32) * (((31 : Int32) * a1) + q10))]) (show z_pt 154 46 = some (4, .invokevirtual 109, [0, 81, 1, 3049, 3050, 3051, 1001, 3052]) by decide +kernel) rfl (show z_r3 0 81 = some (9, 2, true) by decide +kernel) rfl rfl (Or.inr ⟨_, _, rfl, (by decide +kernel)⟩) (Ro_of0 (pG_position_run  (z_iX_eq e13))) (by omega) (by omega) ?_
      refine O_at2 (pc := 49) (st := [.int q12, .int ((31 : Int32) * (((31 : Int32) * a1) + q10))]) ?_
      refine O_pure (pc := 49) (pc' := 50) (st' := [.int (((31 : Int32) * (((31 : Int32) * a1) + q10)) + q12)]) (show z_pt 154 49 = some (4, .iadd, []) by decide +kernel) rfl (fun _ _ _ => rfl) ?_
      refine O_pure (pc := 50) (pc' := 51) (ls' := [(0, .ref 0), (1, .int (((31 : Int32) * (((31 : Int32) * a1) + q10)) + q12)), (2, .int a2)]) (st' := []) (show z_pt 154 50 = some (4, .istore_n 1, []) by decide +kernel) rfl (fun _ _ _ => rfl) ?_
      refine O_const (pc := 51) (pc' := 52) (v := 0) (show z_ptc 154 51 = some (52, 0) by decide +kernel) ?_
      refine O_pure (pc := 52) (pc' := 53) (ls' := [(0, .ref 0), (1, .int (((31 : Int32) * (((31 : Int32) * a1) + q10)) + q12)), (2, .int a2), (3, .int 0)]) (st' := []) (show z_pt 154 52 = some (4, .istore_n 3, []) by decide +kernel) rfl (fun _ _ _ => rfl) ?_
      refine pL_state_L53_run  _ _ _  _ (by omega) ?_ _ _ _ _ h
      intro k22 k23 r h
      refine O_inc (pc := 101) (pc' := 104) (ls' := [(0, .ref 0), (1, .int k22), (2, .int (a2 + 1)), (3, .int k23)]) (c := 1) (show z_pt 154 101 = some (4, .iinc 2 1, []) by decide +kernel) (by decide) rfl rfl ?_
      refine O_pure (pc := 104) (pc' := 23) (ls' := [(0, .ref 0), (1, .int k22), (2, .int (a2 + 1))]) (st' := []) (show z_pt 154 104 = some (4, .goto (-81), [3]) by decide +kernel) rfl (fun _ _ _ => rfl) ?_
      exact ih _ _ _  h
def pL_state_L109_B (R : Int32 → Int32 → Option (Int32 × z_Mem))  (μ : z_Mem)  (K : Int32 → Int32 → Option (Int32 × z_Mem)) (a1 : Int32) (a2 : Int32) : Option (Int32 × z_Mem) := (pG_wheelCount μ).bind fun q26 => if q26 ≤ a2 then K a1 a2 else (z_iX (pG_gearOf μ a2)).bind fun q29 => (z_iX (pG_spokeDirection μ a2 1)).bind fun q31 => R (((31 : Int32) * (((31 : Int32) * a1) + q29)) + q31) (a2 + 1)
def pL_state_L109 : Nat → z_Mem → (Int32 → Int32 → Option (Int32 × z_Mem)) → Int32 → Int32 → Option (Int32 × z_Mem)
  | 0 => fun _ _ _ _ => none
  | n + 1 => fun μ K a1 a2 => pL_state_L109_B (pL_state_L109 n μ K) μ K a1 a2
theorem pL_state_L109_run {sc0 : Nat × (Nat → Int32)} {E : Nat}  (μ : z_Mem)  (K : Int32 → Int32 → Option (Int32 × z_Mem))  (D : Nat) (hD : 19 ≤ D) (hK : ∀ (a1 a2 : Int32) (r : (Int32 × z_Mem)), K a1 a2 = some r → Ro sc0 E D 154 144 [(0, .ref 0), (1, .int a1), (2, .int a2)] [] μ (.inl (some (.int r.1))) r.2) : ∀ (n : Nat) (a1 : Int32) (a2 : Int32) (r : (Int32 × z_Mem)), pL_state_L109 n μ K a1 a2 = some r → Ro sc0 E D 154 109 [(0, .ref 0), (1, .int a1), (2, .int a2)] [] μ (.inl (some (.int r.1))) r.2 := by
  intro n
  induction n with
  | zero => intro a1 a2 r h; cases h
  | succ n ih =>
    intro a1 a2 r h
    have h : pL_state_L109_B (pL_state_L109 n μ K) μ K a1 a2 = some r := h
    unfold pL_state_L109_B at h
    refine O_pure (pc := 109) (pc' := 110) (st' := [.int a2]) (show z_pt 154 109 = some (4, .iload_n 2, []) by decide +kernel) rfl (fun _ _ _ => rfl) ?_
    refine O_pure (pc := 110) (pc' := 111) (st' := [.ref 0, .int a2]) (show z_pt 154 110 = some (4, .aload_n 0, []) by decide +kernel) rfl (fun _ _ _ => rfl) ?_
    obtain ⟨q26, e27, h⟩ := z_bs h
    refine O_call (E1 := 0) (E2 := E) (pc := 111) (rr := [.int a2]) (show z_pt 154 111 = some (4, .invokevirtual 122, [0, 96, 0, 5173, 5174, 5175, 1001, 5176]) by decide +kernel) rfl (show z_r3 0 96 = some (9, 1, true) by decide +kernel) rfl rfl (Or.inr ⟨_, _, rfl, (by decide +kernel)⟩) (Ro_of0 (pG_wheelCount_run  e27)) (by omega) (by omega) ?_
    refine O_at2 (pc := 114) (st := [.int q26, .int a2]) ?_
    refine O_icmge (pc := 114) (t := 144) (show z_pt 154 114 = some (4, .if_icmp .ge 30, []) by decide +kernel) (by decide) (fun c28 => ?_) (fun c28 => ?_)
    · rw [if_pos c28] at h
      exact hK _ _  _ h
    · rw [if_neg c28] at h
      refine O_const (pc := 117) (pc' := 119) (v := 31) (show z_ptc 154 117 = some (119, 31) by decide +kernel) ?_
      refine O_const (pc := 119) (pc' := 121) (v := 31) (show z_ptc 154 119 = some (121, 31) by decide +kernel) ?_
      refine O_pure (pc := 121) (pc' := 122) (st' := [.int a1, .int 31, .int 31]) (show z_pt 154 121 = some (4, .iload_n 1, []) by decide +kernel) rfl (fun _ _ _ => rfl) ?_
      refine O_pure (pc := 122) (pc' := 123) (st' := [.int ((31 : Int32) * a1), .int 31]) (show z_pt 154 122 = some (4, .imul, []) by decide +kernel) rfl (fun _ _ _ => rfl) ?_
      refine O_pure (pc := 123) (pc' := 124) (st' := [.ref 0, .int ((31 : Int32) * a1), .int 31]) (show z_pt 154 123 = some (4, .aload_n 0, []) by decide +kernel) rfl (fun _ _ _ => rfl) ?_
      refine O_pure (pc := 124) (pc' := 125) (st' := [.int a2, .ref 0, .int ((31 : Int32) * a1), .int 31]) (show z_pt 154 124 = some (4, .iload_n 2, []) by decide +kernel) rfl (fun _ _ _ => rfl) ?_
      obtain ⟨q29, e30, h⟩ := z_bs h
      refine O_call (E1 := 0) (E2 := E) (pc := 125) (rr := [.int ((31 : Int32) * a1), .int 31]) (show z_pt 154 125 = some (4, .invokevirtual 125, [0, 97, 1, 5177, 5178, 5179, 1001, 5180]) by decide +kernel) rfl (show z_r3 0 97 = some (9, 2, true) by decide +kernel) rfl rfl (Or.inr ⟨_, _, rfl, (by decide +kernel)⟩) (Ro_of0 (pG_gearOf_run  (z_iX_eq e30))) (by omega) (by omega) ?_
      refine O_at2 (pc := 128) (st := [.int q29, .int ((31 : Int32) * a1), .int 31]) ?_
      refine O_pure (pc := 128) (pc' := 129) (st' := [.int (((31 : Int32) * a1) + q29), .int 31]) (show z_pt 154 128 = some (4, .iadd, []) by decide +kernel) rfl (fun _ _ _ => rfl) ?_
      refine O_pure (pc := 129) (pc' := 130) (st' := [.int ((31 : Int32) * (((31 : Int32) * a1) + q29))]) (show z_pt 154 129 = some (4, .imul, []) by decide +kernel) rfl (fun _ _ _ => rfl) ?_
      refine O_pure (pc := 130) (pc' := 131) (st' := [.ref 0, .int ((31 : Int32) * (((31 : Int32) * a1) + q29))]) (show z_pt 154 130 = some (4, .aload_n 0, []) by decide +kernel) rfl (fun _ _ _ => rfl) ?_
      refine O_pure (pc := 131) (pc' := 132) (st' := [.int a2, .ref 0, .int ((31 : Int32) * (((31 : Int32) * a1) + q29))]) (show z_pt 154 131 = some (4, .iload_n 2, []) by decide +kernel) rfl (fun _ _ _ => rfl) ?_
      refine O_const (pc := 132) (pc' := 133) (v := 1) (show z_ptc 154 132 = some (133, 1) by decide +kernel) ?_
      obtain ⟨q31, e32, h⟩ := z_bs h
      refine O_call (E1 := 0) (E2 := E) (pc := 133) (rr := [.int ((31 : Int32) * (((31 : Int32) * a1) + q29))]) (show z_pt 154 133 = some (4, .invokevirtual 128, [0, 98, 2, 3177, 3178, 3179, 1001, 3180]) by decide +kernel) rfl (show z_r3 0 98 = some (9, 3, true) by decide +kernel) rfl rfl (Or.inr ⟨_, _, rfl, (by decide +kernel)⟩) (Ro_of0 (pG_spokeDirection_run  (z_iX_eq e32))) (by omega) (by omega) ?_
      refine O_at2 (pc := 136) (st := [.int q31, .int ((31 : Int32) * (((31 : Int32) * a1) + q29))]) ?_
      refine O_pure (pc := 136) (pc' := 137) (st' := [.int (((31 : Int32) * (((31 : Int32) * a1) + q29)) + q31)]) (show z_pt 154 136 = some (4, .iadd, []) by decide +kernel) rfl (fun _ _ _ => rfl) ?_
      refine O_pure (pc := 137) (pc' := 138) (ls' := [(0, .ref 0), (1, .int (((31 : Int32) * (((31 : Int32) * a1) + q29)) + q31)), (2, .int a2)]) (st' := []) (show z_pt 154 137 = some (4, .istore_n 1, []) by decide +kernel) rfl (fun _ _ _ => rfl) ?_
      refine O_inc (pc := 138) (pc' := 141) (ls' := [(0, .ref 0), (1, .int (((31 : Int32) * (((31 : Int32) * a1) + q29)) + q31)), (2, .int (a2 + 1))]) (c := 1) (show z_pt 154 138 = some (4, .iinc 2 1, []) by decide +kernel) (by decide) rfl rfl ?_
      refine O_pure (pc := 141) (pc' := 109) (ls' := [(0, .ref 0), (1, .int (((31 : Int32) * (((31 : Int32) * a1) + q29)) + q31)), (2, .int (a2 + 1))]) (st' := []) (show z_pt 154 141 = some (4, .goto (-32), [3]) by decide +kernel) rfl (fun _ _ _ => rfl) ?_
      exact ih _ _ _  h
def pL_state_L146_B (R : Int32 → Int32 → Option (Int32 × z_Mem))  (μ : z_Mem)  (K : Int32 → Int32 → Option (Int32 × z_Mem)) (a1 : Int32) (a2 : Int32) : Option (Int32 × z_Mem) := (pG_starCount μ).bind fun q35 => if q35 ≤ a2 then K a1 a2 else (z_iX (pG_star μ a2)).bind fun q38 => (z_iX (pG_star μ a2)).bind fun q40 => (z_iX (pG_direction μ q40)).bind fun q42 => (z_iX (pG_star μ a2)).bind fun q44 => (z_iX (pG_directionAfter μ q44 7)).bind fun q46 => R (((31 : Int32) * (((31 : Int32) * (((31 : Int32) * a1) + q38)) + q42)) + q46) (a2 + 1)
def pL_state_L146 : Nat → z_Mem → (Int32 → Int32 → Option (Int32 × z_Mem)) → Int32 → Int32 → Option (Int32 × z_Mem)
  | 0 => fun _ _ _ _ => none
  | n + 1 => fun μ K a1 a2 => pL_state_L146_B (pL_state_L146 n μ K) μ K a1 a2
theorem pL_state_L146_run {sc0 : Nat × (Nat → Int32)} {E : Nat}  (μ : z_Mem)  (K : Int32 → Int32 → Option (Int32 × z_Mem))  (D : Nat) (hD : 19 ≤ D) (hK : ∀ (a1 a2 : Int32) (r : (Int32 × z_Mem)), K a1 a2 = some r → Ro sc0 E D 154 199 [(0, .ref 0), (1, .int a1), (2, .int a2)] [] μ (.inl (some (.int r.1))) r.2) : ∀ (n : Nat) (a1 : Int32) (a2 : Int32) (r : (Int32 × z_Mem)), pL_state_L146 n μ K a1 a2 = some r → Ro sc0 E D 154 146 [(0, .ref 0), (1, .int a1), (2, .int a2)] [] μ (.inl (some (.int r.1))) r.2 := by
  intro n
  induction n with
  | zero => intro a1 a2 r h; cases h
  | succ n ih =>
    intro a1 a2 r h
    have h : pL_state_L146_B (pL_state_L146 n μ K) μ K a1 a2 = some r := h
    unfold pL_state_L146_B at h
    refine O_pure (pc := 146) (pc' := 147) (st' := [.int a2]) (show z_pt 154 146 = some (4, .iload_n 2, []) by decide +kernel) rfl (fun _ _ _ => rfl) ?_
    refine O_pure (pc := 147) (pc' := 148) (st' := [.ref 0, .int a2]) (show z_pt 154 147 = some (4, .aload_n 0, []) by decide +kernel) rfl (fun _ _ _ => rfl) ?_
    obtain ⟨q35, e36, h⟩ := z_bs h
    refine O_call (E1 := 0) (E2 := E) (pc := 148) (rr := [.int a2]) (show z_pt 154 148 = some (4, .invokevirtual 131, [0, 104, 0, 5181, 5182, 5183, 1001, 5184]) by decide +kernel) rfl (show z_r3 0 104 = some (9, 1, true) by decide +kernel) rfl rfl (Or.inr ⟨_, _, rfl, (by decide +kernel)⟩) (Ro_of0 (pG_starCount_run  e36)) (by omega) (by omega) ?_
    refine O_at2 (pc := 151) (st := [.int q35, .int a2]) ?_
    refine O_icmge (pc := 151) (t := 199) (show z_pt 154 151 = some (4, .if_icmp .ge 48, []) by decide +kernel) (by decide) (fun c37 => ?_) (fun c37 => ?_)
    · rw [if_pos c37] at h
      exact hK _ _  _ h
    · rw [if_neg c37] at h
      refine O_const (pc := 154) (pc' := 156) (v := 31) (show z_ptc 154 154 = some (156, 31) by decide +kernel) ?_
      refine O_const (pc := 156) (pc' := 158) (v := 31) (show z_ptc 154 156 = some (158, 31) by decide +kernel) ?_
      refine O_const (pc := 158) (pc' := 160) (v := 31) (show z_ptc 154 158 = some (160, 31) by decide +kernel) ?_
      refine O_pure (pc := 160) (pc' := 161) (st' := [.int a1, .int 31, .int 31, .int 31]) (show z_pt 154 160 = some (4, .iload_n 1, []) by decide +kernel) rfl (fun _ _ _ => rfl) ?_
      refine O_pure (pc := 161) (pc' := 162) (st' := [.int ((31 : Int32) * a1), .int 31, .int 31]) (show z_pt 154 161 = some (4, .imul, []) by decide +kernel) rfl (fun _ _ _ => rfl) ?_
      refine O_pure (pc := 162) (pc' := 163) (st' := [.ref 0, .int ((31 : Int32) * a1), .int 31, .int 31]) (show z_pt 154 162 = some (4, .aload_n 0, []) by decide +kernel) rfl (fun _ _ _ => rfl) ?_
      refine O_pure (pc := 163) (pc' := 164) (st' := [.int a2, .ref 0, .int ((31 : Int32) * a1), .int 31, .int 31]) (show z_pt 154 163 = some (4, .iload_n 2, []) by decide +kernel) rfl (fun _ _ _ => rfl) ?_
      obtain ⟨q38, e39, h⟩ := z_bs h
      refine O_call (E1 := 0) (E2 := E) (pc := 164) (rr := [.int ((31 : Int32) * a1), .int 31, .int 31]) (show z_pt 154 164 = some (4, .invokevirtual 134, [0, 105, 1, 4020, 4021, 4022, 1001, 4023]) by decide +kernel) rfl (show z_r3 0 105 = some (9, 2, true) by decide +kernel) rfl rfl (Or.inr ⟨_, _, rfl, (by decide +kernel)⟩) (Ro_of0 (pG_star_run  (z_iX_eq e39))) (by omega) (by omega) ?_
      refine O_at2 (pc := 167) (st := [.int q38, .int ((31 : Int32) * a1), .int 31, .int 31]) ?_
      refine O_pure (pc := 167) (pc' := 168) (st' := [.int (((31 : Int32) * a1) + q38), .int 31, .int 31]) (show z_pt 154 167 = some (4, .iadd, []) by decide +kernel) rfl (fun _ _ _ => rfl) ?_
      refine O_pure (pc := 168) (pc' := 169) (st' := [.int ((31 : Int32) * (((31 : Int32) * a1) + q38)), .int 31]) (show z_pt 154 168 = some (4, .imul, []) by decide +kernel) rfl (fun _ _ _ => rfl) ?_
      refine O_pure (pc := 169) (pc' := 170) (st' := [.ref 0, .int ((31 : Int32) * (((31 : Int32) * a1) + q38)), .int 31]) (show z_pt 154 169 = some (4, .aload_n 0, []) by decide +kernel) rfl (fun _ _ _ => rfl) ?_
      refine O_pure (pc := 170) (pc' := 171) (st' := [.ref 0, .ref 0, .int ((31 : Int32) * (((31 : Int32) * a1) + q38)), .int 31]) (show z_pt 154 170 = some (4, .aload_n 0, []) by decide +kernel) rfl (fun _ _ _ => rfl) ?_
      refine O_pure (pc := 171) (pc' := 172) (st' := [.int a2, .ref 0, .ref 0, .int ((31 : Int32) * (((31 : Int32) * a1) + q38)), .int 31]) (show z_pt 154 171 = some (4, .iload_n 2, []) by decide +kernel) rfl (fun _ _ _ => rfl) ?_
      obtain ⟨q40, e41, h⟩ := z_bs h
      refine O_call (E1 := 0) (E2 := E) (pc := 172) (rr := [.ref 0, .int ((31 : Int32) * (((31 : Int32) * a1) + q38)), .int 31]) (show z_pt 154 172 = some (4, .invokevirtual 134, [0, 105, 1, 4020, 4021, 4022, 1001, 4023]) by decide +kernel) rfl (show z_r3 0 105 = some (9, 2, true) by decide +kernel) rfl rfl (Or.inr ⟨_, _, rfl, (by decide +kernel)⟩) (Ro_of0 (pG_star_run  (z_iX_eq e41))) (by omega) (by omega) ?_
      refine O_at2 (pc := 175) (st := [.int q40, .ref 0, .int ((31 : Int32) * (((31 : Int32) * a1) + q38)), .int 31]) ?_
      obtain ⟨q42, e43, h⟩ := z_bs h
      refine O_call (E1 := 0) (E2 := E) (pc := 175) (rr := [.int ((31 : Int32) * (((31 : Int32) * a1) + q38)), .int 31]) (show z_pt 154 175 = some (4, .invokevirtual 137, [0, 106, 1, 4024, 4025, 4026, 1001, 4027]) by decide +kernel) rfl (show z_r3 0 106 = some (9, 2, true) by decide +kernel) rfl rfl (Or.inr ⟨_, _, rfl, (by decide +kernel)⟩) (Ro_of0 (pG_direction_run  (z_iX_eq e43))) (by omega) (by omega) ?_
      refine O_at2 (pc := 178) (st := [.int q42, .int ((31 : Int32) * (((31 : Int32) * a1) + q38)), .int 31]) ?_
      refine O_pure (pc := 178) (pc' := 179) (st' := [.int (((31 : Int32) * (((31 : Int32) * a1) + q38)) + q42), .int 31]) (show z_pt 154 178 = some (4, .iadd, []) by decide +kernel) rfl (fun _ _ _ => rfl) ?_
      refine O_pure (pc := 179) (pc' := 180) (st' := [.int ((31 : Int32) * (((31 : Int32) * (((31 : Int32) * a1) + q38)) + q42))]) (show z_pt 154 179 = some (4, .imul, []) by decide +kernel) rfl (fun _ _ _ => rfl) ?_
      refine O_pure (pc := 180) (pc' := 181) (st' := [.ref 0, .int ((31 : Int32) * (((31 : Int32) * (((31 : Int32) * a1) + q38)) + q42))]) (show z_pt 154 180 = some (4, .aload_n 0, []) by decide +kernel) rfl (fun _ _ _ => rfl) ?_
      refine O_pure (pc := 181) (pc' := 182) (st' := [.ref 0, .ref 0, .int ((31 : Int32) * (((31 : Int32) * (((31 : Int32) * a1) + q38)) + q42))]) (show z_pt 154 181 = some (4, .aload_n 0, []) by decide +kernel) rfl (fun _ _ _ => rfl) ?_
      refine O_pure (pc := 182) (pc' := 183) (st' := [.int a2, .ref 0, .ref 0, .int ((31 : Int32) * (((31 : Int32) * (((31 : Int32) * a1) + q38)) + q42))]) (show z_pt 154 182 = some (4, .iload_n 2, []) by decide +kernel) rfl (fun _ _ _ => rfl) ?_
      obtain ⟨q44, e45, h⟩ := z_bs h
      refine O_call (E1 := 0) (E2 := E) (pc := 183) (rr := [.ref 0, .int ((31 : Int32) * (((31 : Int32) * (((31 : Int32) * a1) + q38)) + q42))]) (show z_pt 154 183 = some (4, .invokevirtual 134, [0, 105, 1, 4020, 4021, 4022, 1001, 4023]) by decide +kernel) rfl (show z_r3 0 105 = some (9, 2, true) by decide +kernel) rfl rfl (Or.inr ⟨_, _, rfl, (by decide +kernel)⟩) (Ro_of0 (pG_star_run  (z_iX_eq e45))) (by omega) (by omega) ?_
      refine O_at2 (pc := 186) (st := [.int q44, .ref 0, .int ((31 : Int32) * (((31 : Int32) * (((31 : Int32) * a1) + q38)) + q42))]) ?_
      refine O_const (pc := 186) (pc' := 188) (v := 7) (show z_ptc 154 186 = some (188, 7) by decide +kernel) ?_
      obtain ⟨q46, e47, h⟩ := z_bs h
      refine O_call (E1 := 0) (E2 := E) (pc := 188) (rr := [.int ((31 : Int32) * (((31 : Int32) * (((31 : Int32) * a1) + q38)) + q42))]) (show z_pt 154 188 = some (4, .invokevirtual 140, [0, 108, 2, 4045, 4046, 4047, 1001, 4048]) by decide +kernel) rfl (show z_r3 0 108 = some (9, 6, true) by decide +kernel) rfl rfl (Or.inr ⟨_, _, rfl, (by decide +kernel)⟩) (Ro_of0 (pG_directionAfter_run  (z_iX_eq e47))) (by omega) (by omega) ?_
      refine O_at2 (pc := 191) (st := [.int q46, .int ((31 : Int32) * (((31 : Int32) * (((31 : Int32) * a1) + q38)) + q42))]) ?_
      refine O_pure (pc := 191) (pc' := 192) (st' := [.int (((31 : Int32) * (((31 : Int32) * (((31 : Int32) * a1) + q38)) + q42)) + q46)]) (show z_pt 154 191 = some (4, .iadd, []) by decide +kernel) rfl (fun _ _ _ => rfl) ?_
      refine O_pure (pc := 192) (pc' := 193) (ls' := [(0, .ref 0), (1, .int (((31 : Int32) * (((31 : Int32) * (((31 : Int32) * a1) + q38)) + q42)) + q46)), (2, .int a2)]) (st' := []) (show z_pt 154 192 = some (4, .istore_n 1, []) by decide +kernel) rfl (fun _ _ _ => rfl) ?_
      refine O_inc (pc := 193) (pc' := 196) (ls' := [(0, .ref 0), (1, .int (((31 : Int32) * (((31 : Int32) * (((31 : Int32) * a1) + q38)) + q42)) + q46)), (2, .int (a2 + 1))]) (c := 1) (show z_pt 154 193 = some (4, .iinc 2 1, []) by decide +kernel) (by decide) rfl rfl ?_
      refine O_pure (pc := 196) (pc' := 146) (ls' := [(0, .ref 0), (1, .int (((31 : Int32) * (((31 : Int32) * (((31 : Int32) * a1) + q38)) + q42)) + q46)), (2, .int (a2 + 1))]) (st' := []) (show z_pt 154 196 = some (4, .goto (-50), [3]) by decide +kernel) rfl (fun _ _ _ => rfl) ?_
      exact ih _ _ _  h
def pL_state  (μ : z_Mem)  : Option (Int32 × z_Mem) := (pG_gearCount μ).bind fun q1 => (pG_meshCount μ).bind fun q3 => (pG_turnedTeeth μ).bind fun q5 => pL_state_L23 z_fu μ (fun k24 k25 => pL_state_L109 z_fu μ (fun k33 k34 => pL_state_L146 z_fu μ (fun k48 k49 => (pL_act μ 16 ((97 : Int32) + ((0 : Int32) &&& 1)) ((0 : Int32) >>> ((1 : Int32) &&& 31)) 0).bind fun q51 => (pL_act q51.2 16 ((97 : Int32) + (((0 + 1) : Int32) &&& 1)) (((0 + 1) : Int32) >>> ((1 : Int32) &&& 31)) 0).bind fun q54 => (pL_act q54.2 16 ((97 : Int32) + ((((0 + 1) + 1) : Int32) &&& 1)) ((((0 + 1) + 1) : Int32) >>> ((1 : Int32) &&& 31)) 0).bind fun q57 => (pL_act q57.2 16 ((97 : Int32) + (((((0 + 1) + 1) + 1) : Int32) &&& 1)) (((((0 + 1) + 1) + 1) : Int32) >>> ((1 : Int32) &&& 31)) 0).bind fun q60 => (pL_act q60.2 16 ((97 : Int32) + ((((((0 + 1) + 1) + 1) + 1) : Int32) &&& 1)) ((((((0 + 1) + 1) + 1) + 1) : Int32) >>> ((1 : Int32) &&& 31)) 0).bind fun q63 => (pL_act q63.2 16 ((97 : Int32) + (((((((0 + 1) + 1) + 1) + 1) + 1) : Int32) &&& 1)) (((((((0 + 1) + 1) + 1) + 1) + 1) : Int32) >>> ((1 : Int32) &&& 31)) 0).bind fun q66 => (pL_act q66.2 16 ((97 : Int32) + ((((((((0 + 1) + 1) + 1) + 1) + 1) + 1) : Int32) &&& 1)) ((((((((0 + 1) + 1) + 1) + 1) + 1) + 1) : Int32) >>> ((1 : Int32) &&& 31)) 0).bind fun q69 => (pL_act q69.2 16 ((97 : Int32) + (((((((((0 + 1) + 1) + 1) + 1) + 1) + 1) + 1) : Int32) &&& 1)) (((((((((0 + 1) + 1) + 1) + 1) + 1) + 1) + 1) : Int32) >>> ((1 : Int32) &&& 31)) 0).bind fun q72 => some ((((31 : Int32) * (((31 : Int32) * (((31 : Int32) * (((31 : Int32) * (((31 : Int32) * (((31 : Int32) * (((31 : Int32) * (((31 : Int32) * k48) + q51.1)) + q54.1)) + q57.1)) + q60.1)) + q63.1)) + q66.1)) + q69.1)) + q72.1), q72.2)) k33 0) k24 0) (((31 : Int32) * (((31 : Int32) * q1) + q3)) + q5) 0
theorem pL_state_run {sc0 : Nat × (Nat → Int32)} {μ : z_Mem}   {r : (Int32 × z_Mem)} (h : pL_state μ = some r) : Ro sc0 8 19 154 0 [(0, .ref 0)] [] μ (.inl (some (.int r.1))) r.2 := by
  unfold pL_state at h
  refine O_const (pc := 0) (pc' := 2) (v := 31) (show z_ptc 154 0 = some (2, 31) by decide +kernel) ?_
  refine O_const (pc := 2) (pc' := 4) (v := 31) (show z_ptc 154 2 = some (4, 31) by decide +kernel) ?_
  refine O_pure (pc := 4) (pc' := 5) (st' := [.ref 0, .int 31, .int 31]) (show z_pt 154 4 = some (4, .aload_n 0, []) by decide +kernel) rfl (fun _ _ _ => rfl) ?_
  obtain ⟨q1, e2, h⟩ := z_bs h
  refine O_call (E1 := 0) (E2 := 8) (pc := 5) (rr := [.int 31, .int 31]) (show z_pt 154 5 = some (4, .invokevirtual 34, [0, 79, 0, 3045, 3046, 3047, 1001, 3048]) by decide +kernel) rfl (show z_r3 0 79 = some (9, 1, true) by decide +kernel) rfl rfl (Or.inr ⟨_, _, rfl, (by decide +kernel)⟩) (Ro_of0 (pG_gearCount_run  e2)) (by omega) (by omega) ?_
  refine O_at2 (pc := 8) (st := [.int q1, .int 31, .int 31]) ?_
  refine O_pure (pc := 8) (pc' := 9) (st' := [.int ((31 : Int32) * q1), .int 31]) (show z_pt 154 8 = some (4, .imul, []) by decide +kernel) rfl (fun _ _ _ => rfl) ?_
  refine O_pure (pc := 9) (pc' := 10) (st' := [.ref 0, .int ((31 : Int32) * q1), .int 31]) (show z_pt 154 9 = some (4, .aload_n 0, []) by decide +kernel) rfl (fun _ _ _ => rfl) ?_
  obtain ⟨q3, e4, h⟩ := z_bs h
  refine O_call (E1 := 0) (E2 := 8) (pc := 10) (rr := [.int ((31 : Int32) * q1), .int 31]) (show z_pt 154 10 = some (4, .invokevirtual 100, [0, 82, 0, 5157, 5158, 5159, 1001, 5160]) by decide +kernel) rfl (show z_r3 0 82 = some (9, 1, true) by decide +kernel) rfl rfl (Or.inr ⟨_, _, rfl, (by decide +kernel)⟩) (Ro_of0 (pG_meshCount_run  e4)) (by omega) (by omega) ?_
  refine O_at2 (pc := 13) (st := [.int q3, .int ((31 : Int32) * q1), .int 31]) ?_
  refine O_pure (pc := 13) (pc' := 14) (st' := [.int (((31 : Int32) * q1) + q3), .int 31]) (show z_pt 154 13 = some (4, .iadd, []) by decide +kernel) rfl (fun _ _ _ => rfl) ?_
  refine O_pure (pc := 14) (pc' := 15) (st' := [.int ((31 : Int32) * (((31 : Int32) * q1) + q3))]) (show z_pt 154 14 = some (4, .imul, []) by decide +kernel) rfl (fun _ _ _ => rfl) ?_
  refine O_pure (pc := 15) (pc' := 16) (st' := [.ref 0, .int ((31 : Int32) * (((31 : Int32) * q1) + q3))]) (show z_pt 154 15 = some (4, .aload_n 0, []) by decide +kernel) rfl (fun _ _ _ => rfl) ?_
  obtain ⟨q5, e6, h⟩ := z_bs h
  refine O_call (E1 := 0) (E2 := 8) (pc := 16) (rr := [.int ((31 : Int32) * (((31 : Int32) * q1) + q3))]) (show z_pt 154 16 = some (4, .invokevirtual 103, [0, 89, 0, 3102, 3103, 3104, 1001, 3105]) by decide +kernel) rfl (show z_r3 0 89 = some (9, 1, true) by decide +kernel) rfl rfl (Or.inr ⟨_, _, rfl, (by decide +kernel)⟩) (Ro_of0 (pG_turnedTeeth_run  e6)) (by omega) (by omega) ?_
  refine O_at2 (pc := 19) (st := [.int q5, .int ((31 : Int32) * (((31 : Int32) * q1) + q3))]) ?_
  refine O_pure (pc := 19) (pc' := 20) (st' := [.int (((31 : Int32) * (((31 : Int32) * q1) + q3)) + q5)]) (show z_pt 154 19 = some (4, .iadd, []) by decide +kernel) rfl (fun _ _ _ => rfl) ?_
  refine O_pure (pc := 20) (pc' := 21) (ls' := [(0, .ref 0), (1, .int (((31 : Int32) * (((31 : Int32) * q1) + q3)) + q5))]) (st' := []) (show z_pt 154 20 = some (4, .istore_n 1, []) by decide +kernel) rfl (fun _ _ _ => rfl) ?_
  refine O_const (pc := 21) (pc' := 22) (v := 0) (show z_ptc 154 21 = some (22, 0) by decide +kernel) ?_
  refine O_pure (pc := 22) (pc' := 23) (ls' := [(0, .ref 0), (1, .int (((31 : Int32) * (((31 : Int32) * q1) + q3)) + q5)), (2, .int 0)]) (st' := []) (show z_pt 154 22 = some (4, .istore_n 2, []) by decide +kernel) rfl (fun _ _ _ => rfl) ?_
  refine pL_state_L23_run  _  _  _ (by omega) ?_ _ _ _ _ h
  intro k24 k25 r h
  refine O_const (pc := 107) (pc' := 108) (v := 0) (show z_ptc 154 107 = some (108, 0) by decide +kernel) ?_
  refine O_pure (pc := 108) (pc' := 109) (ls' := [(0, .ref 0), (1, .int k24), (2, .int 0)]) (st' := []) (show z_pt 154 108 = some (4, .istore_n 2, []) by decide +kernel) rfl (fun _ _ _ => rfl) ?_
  refine pL_state_L109_run  _  _  _ (by omega) ?_ _ _ _ _ h
  intro k33 k34 r h
  refine O_const (pc := 144) (pc' := 145) (v := 0) (show z_ptc 154 144 = some (145, 0) by decide +kernel) ?_
  refine O_pure (pc := 145) (pc' := 146) (ls' := [(0, .ref 0), (1, .int k33), (2, .int 0)]) (st' := []) (show z_pt 154 145 = some (4, .istore_n 2, []) by decide +kernel) rfl (fun _ _ _ => rfl) ?_
  refine pL_state_L146_run  _  _  _ (by omega) ?_ _ _ _ _ h
  intro k48 k49 r h
  refine O_const (pc := 199) (pc' := 200) (v := 0) (show z_ptc 154 199 = some (200, 0) by decide +kernel) ?_
  refine O_pure (pc := 200) (pc' := 201) (ls' := [(0, .ref 0), (1, .int k48), (2, .int 0)]) (st' := []) (show z_pt 154 200 = some (4, .istore_n 2, []) by decide +kernel) rfl (fun _ _ _ => rfl) ?_
  refine O_pure (pc := 201) (pc' := 202) (st' := [.int 0]) (show z_pt 154 201 = some (4, .iload_n 2, []) by decide +kernel) rfl (fun _ _ _ => rfl) ?_
  refine O_const (pc := 202) (pc' := 204) (v := 8) (show z_ptc 154 202 = some (204, 8) by decide +kernel) ?_
  refine O_icmge (pc := 204) (t := 235) (show z_pt 154 204 = some (4, .if_icmp .ge 31, []) by decide +kernel) (by decide) (fun c50 => ?_) (fun c50 => ?_)
  · exact absurd c50 (by decide)
  · skip
    refine O_const (pc := 207) (pc' := 209) (v := 31) (show z_ptc 154 207 = some (209, 31) by decide +kernel) ?_
    refine O_pure (pc := 209) (pc' := 210) (st' := [.int k48, .int 31]) (show z_pt 154 209 = some (4, .iload_n 1, []) by decide +kernel) rfl (fun _ _ _ => rfl) ?_
    refine O_pure (pc := 210) (pc' := 211) (st' := [.int ((31 : Int32) * k48)]) (show z_pt 154 210 = some (4, .imul, []) by decide +kernel) rfl (fun _ _ _ => rfl) ?_
    refine O_pure (pc := 211) (pc' := 212) (st' := [.ref 0, .int ((31 : Int32) * k48)]) (show z_pt 154 211 = some (4, .aload_n 0, []) by decide +kernel) rfl (fun _ _ _ => rfl) ?_
    refine O_const (pc := 212) (pc' := 214) (v := 16) (show z_ptc 154 212 = some (214, 16) by decide +kernel) ?_
    refine O_const (pc := 214) (pc' := 216) (v := 97) (show z_ptc 154 214 = some (216, 97) by decide +kernel) ?_
    refine O_pure (pc := 216) (pc' := 217) (st' := [.int 0, .int 97, .int 16, .ref 0, .int ((31 : Int32) * k48)]) (show z_pt 154 216 = some (4, .iload_n 2, []) by decide +kernel) rfl (fun _ _ _ => rfl) ?_
    refine O_const (pc := 217) (pc' := 218) (v := 1) (show z_ptc 154 217 = some (218, 1) by decide +kernel) ?_
    refine O_pure (pc := 218) (pc' := 219) (st' := [.int ((0 : Int32) &&& 1), .int 97, .int 16, .ref 0, .int ((31 : Int32) * k48)]) (show z_pt 154 218 = some (4, .iand, []) by decide +kernel) rfl (fun _ _ _ => rfl) ?_
    refine O_pure (pc := 219) (pc' := 220) (st' := [.int ((97 : Int32) + ((0 : Int32) &&& 1)), .int 16, .ref 0, .int ((31 : Int32) * k48)]) (show z_pt 154 219 = some (4, .iadd, []) by decide +kernel) rfl (fun _ _ _ => rfl) ?_
    refine O_pure (pc := 220) (pc' := 221) (st' := [.int 0, .int ((97 : Int32) + ((0 : Int32) &&& 1)), .int 16, .ref 0, .int ((31 : Int32) * k48)]) (show z_pt 154 220 = some (4, .iload_n 2, []) by decide +kernel) rfl (fun _ _ _ => rfl) ?_
    refine O_const (pc := 221) (pc' := 222) (v := 1) (show z_ptc 154 221 = some (222, 1) by decide +kernel) ?_
    refine O_pure (pc := 222) (pc' := 223) (st' := [.int ((0 : Int32) >>> ((1 : Int32) &&& 31)), .int ((97 : Int32) + ((0 : Int32) &&& 1)), .int 16, .ref 0, .int ((31 : Int32) * k48)]) (show z_pt 154 222 = some (4, .ishr, []) by decide +kernel) rfl (fun _ _ _ => rfl) ?_
    refine O_const (pc := 223) (pc' := 224) (v := 0) (show z_ptc 154 223 = some (224, 0) by decide +kernel) ?_
    obtain ⟨q51, e52, h⟩ := z_bs h
    refine O_call (E1 := 1) (E2 := 7) (pc := 224) (rr := [.int ((31 : Int32) * k48)]) (show z_pt 154 224 = some (4, .invokestatic 30, [5, 153, 5, 5112, 5113, 0, 1000, 5114]) by decide +kernel) rfl (show z_r3 5 153 = some (11, 6, true) by decide +kernel) rfl rfl (Or.inl (by decide)) (pL_act_run  e52) (by omega) (by omega) ?_
    refine O_at2 (pc := 227) (st := [.int q51.1, .int ((31 : Int32) * k48)]) ?_
    refine O_pure (pc := 227) (pc' := 228) (st' := [.int (((31 : Int32) * k48) + q51.1)]) (show z_pt 154 227 = some (4, .iadd, []) by decide +kernel) rfl (fun _ _ _ => rfl) ?_
    refine O_pure (pc := 228) (pc' := 229) (ls' := [(0, .ref 0), (1, .int (((31 : Int32) * k48) + q51.1)), (2, .int 0)]) (st' := []) (show z_pt 154 228 = some (4, .istore_n 1, []) by decide +kernel) rfl (fun _ _ _ => rfl) ?_
    refine O_inc (pc := 229) (pc' := 232) (ls' := [(0, .ref 0), (1, .int (((31 : Int32) * k48) + q51.1)), (2, .int (0 + 1))]) (c := 1) (show z_pt 154 229 = some (4, .iinc 2 1, []) by decide +kernel) (by decide) rfl rfl ?_
    refine O_pure (pc := 232) (pc' := 201) (ls' := [(0, .ref 0), (1, .int (((31 : Int32) * k48) + q51.1)), (2, .int (0 + 1))]) (st' := []) (show z_pt 154 232 = some (4, .goto (-31), [3]) by decide +kernel) rfl (fun _ _ _ => rfl) ?_
    refine O_pure (pc := 201) (pc' := 202) (st' := [.int (0 + 1)]) (show z_pt 154 201 = some (4, .iload_n 2, []) by decide +kernel) rfl (fun _ _ _ => rfl) ?_
    refine O_const (pc := 202) (pc' := 204) (v := 8) (show z_ptc 154 202 = some (204, 8) by decide +kernel) ?_
    refine O_icmge (pc := 204) (t := 235) (show z_pt 154 204 = some (4, .if_icmp .ge 31, []) by decide +kernel) (by decide) (fun c53 => ?_) (fun c53 => ?_)
    · exact absurd c53 (by decide)
    · skip
      refine O_const (pc := 207) (pc' := 209) (v := 31) (show z_ptc 154 207 = some (209, 31) by decide +kernel) ?_
      refine O_pure (pc := 209) (pc' := 210) (st' := [.int (((31 : Int32) * k48) + q51.1), .int 31]) (show z_pt 154 209 = some (4, .iload_n 1, []) by decide +kernel) rfl (fun _ _ _ => rfl) ?_
      refine O_pure (pc := 210) (pc' := 211) (st' := [.int ((31 : Int32) * (((31 : Int32) * k48) + q51.1))]) (show z_pt 154 210 = some (4, .imul, []) by decide +kernel) rfl (fun _ _ _ => rfl) ?_
      refine O_pure (pc := 211) (pc' := 212) (st' := [.ref 0, .int ((31 : Int32) * (((31 : Int32) * k48) + q51.1))]) (show z_pt 154 211 = some (4, .aload_n 0, []) by decide +kernel) rfl (fun _ _ _ => rfl) ?_
      refine O_const (pc := 212) (pc' := 214) (v := 16) (show z_ptc 154 212 = some (214, 16) by decide +kernel) ?_
      refine O_const (pc := 214) (pc' := 216) (v := 97) (show z_ptc 154 214 = some (216, 97) by decide +kernel) ?_
      refine O_pure (pc := 216) (pc' := 217) (st' := [.int (0 + 1), .int 97, .int 16, .ref 0, .int ((31 : Int32) * (((31 : Int32) * k48) + q51.1))]) (show z_pt 154 216 = some (4, .iload_n 2, []) by decide +kernel) rfl (fun _ _ _ => rfl) ?_
      refine O_const (pc := 217) (pc' := 218) (v := 1) (show z_ptc 154 217 = some (218, 1) by decide +kernel) ?_
      refine O_pure (pc := 218) (pc' := 219) (st' := [.int (((0 + 1) : Int32) &&& 1), .int 97, .int 16, .ref 0, .int ((31 : Int32) * (((31 : Int32) * k48) + q51.1))]) (show z_pt 154 218 = some (4, .iand, []) by decide +kernel) rfl (fun _ _ _ => rfl) ?_
      refine O_pure (pc := 219) (pc' := 220) (st' := [.int ((97 : Int32) + (((0 + 1) : Int32) &&& 1)), .int 16, .ref 0, .int ((31 : Int32) * (((31 : Int32) * k48) + q51.1))]) (show z_pt 154 219 = some (4, .iadd, []) by decide +kernel) rfl (fun _ _ _ => rfl) ?_
      refine O_pure (pc := 220) (pc' := 221) (st' := [.int (0 + 1), .int ((97 : Int32) + (((0 + 1) : Int32) &&& 1)), .int 16, .ref 0, .int ((31 : Int32) * (((31 : Int32) * k48) + q51.1))]) (show z_pt 154 220 = some (4, .iload_n 2, []) by decide +kernel) rfl (fun _ _ _ => rfl) ?_
      refine O_const (pc := 221) (pc' := 222) (v := 1) (show z_ptc 154 221 = some (222, 1) by decide +kernel) ?_
      refine O_pure (pc := 222) (pc' := 223) (st' := [.int (((0 + 1) : Int32) >>> ((1 : Int32) &&& 31)), .int ((97 : Int32) + (((0 + 1) : Int32) &&& 1)), .int 16, .ref 0, .int ((31 : Int32) * (((31 : Int32) * k48) + q51.1))]) (show z_pt 154 222 = some (4, .ishr, []) by decide +kernel) rfl (fun _ _ _ => rfl) ?_
      refine O_const (pc := 223) (pc' := 224) (v := 0) (show z_ptc 154 223 = some (224, 0) by decide +kernel) ?_
      obtain ⟨q54, e55, h⟩ := z_bs h
      refine O_call (E1 := 1) (E2 := 6) (pc := 224) (rr := [.int ((31 : Int32) * (((31 : Int32) * k48) + q51.1))]) (show z_pt 154 224 = some (4, .invokestatic 30, [5, 153, 5, 5112, 5113, 0, 1000, 5114]) by decide +kernel) rfl (show z_r3 5 153 = some (11, 6, true) by decide +kernel) rfl rfl (Or.inl (by decide)) (pL_act_run  e55) (by omega) (by omega) ?_
      refine O_at2 (pc := 227) (st := [.int q54.1, .int ((31 : Int32) * (((31 : Int32) * k48) + q51.1))]) ?_
      refine O_pure (pc := 227) (pc' := 228) (st' := [.int (((31 : Int32) * (((31 : Int32) * k48) + q51.1)) + q54.1)]) (show z_pt 154 227 = some (4, .iadd, []) by decide +kernel) rfl (fun _ _ _ => rfl) ?_
      refine O_pure (pc := 228) (pc' := 229) (ls' := [(0, .ref 0), (1, .int (((31 : Int32) * (((31 : Int32) * k48) + q51.1)) + q54.1)), (2, .int (0 + 1))]) (st' := []) (show z_pt 154 228 = some (4, .istore_n 1, []) by decide +kernel) rfl (fun _ _ _ => rfl) ?_
      refine O_inc (pc := 229) (pc' := 232) (ls' := [(0, .ref 0), (1, .int (((31 : Int32) * (((31 : Int32) * k48) + q51.1)) + q54.1)), (2, .int ((0 + 1) + 1))]) (c := 1) (show z_pt 154 229 = some (4, .iinc 2 1, []) by decide +kernel) (by decide) rfl rfl ?_
      refine O_pure (pc := 232) (pc' := 201) (ls' := [(0, .ref 0), (1, .int (((31 : Int32) * (((31 : Int32) * k48) + q51.1)) + q54.1)), (2, .int ((0 + 1) + 1))]) (st' := []) (show z_pt 154 232 = some (4, .goto (-31), [3]) by decide +kernel) rfl (fun _ _ _ => rfl) ?_
      refine O_pure (pc := 201) (pc' := 202) (st' := [.int ((0 + 1) + 1)]) (show z_pt 154 201 = some (4, .iload_n 2, []) by decide +kernel) rfl (fun _ _ _ => rfl) ?_
      refine O_const (pc := 202) (pc' := 204) (v := 8) (show z_ptc 154 202 = some (204, 8) by decide +kernel) ?_
      refine O_icmge (pc := 204) (t := 235) (show z_pt 154 204 = some (4, .if_icmp .ge 31, []) by decide +kernel) (by decide) (fun c56 => ?_) (fun c56 => ?_)
      · exact absurd c56 (by decide)
      · skip
        refine O_const (pc := 207) (pc' := 209) (v := 31) (show z_ptc 154 207 = some (209, 31) by decide +kernel) ?_
        refine O_pure (pc := 209) (pc' := 210) (st' := [.int (((31 : Int32) * (((31 : Int32) * k48) + q51.1)) + q54.1), .int 31]) (show z_pt 154 209 = some (4, .iload_n 1, []) by decide +kernel) rfl (fun _ _ _ => rfl) ?_
        refine O_pure (pc := 210) (pc' := 211) (st' := [.int ((31 : Int32) * (((31 : Int32) * (((31 : Int32) * k48) + q51.1)) + q54.1))]) (show z_pt 154 210 = some (4, .imul, []) by decide +kernel) rfl (fun _ _ _ => rfl) ?_
        refine O_pure (pc := 211) (pc' := 212) (st' := [.ref 0, .int ((31 : Int32) * (((31 : Int32) * (((31 : Int32) * k48) + q51.1)) + q54.1))]) (show z_pt 154 211 = some (4, .aload_n 0, []) by decide +kernel) rfl (fun _ _ _ => rfl) ?_
        refine O_const (pc := 212) (pc' := 214) (v := 16) (show z_ptc 154 212 = some (214, 16) by decide +kernel) ?_
        refine O_const (pc := 214) (pc' := 216) (v := 97) (show z_ptc 154 214 = some (216, 97) by decide +kernel) ?_
        refine O_pure (pc := 216) (pc' := 217) (st' := [.int ((0 + 1) + 1), .int 97, .int 16, .ref 0, .int ((31 : Int32) * (((31 : Int32) * (((31 : Int32) * k48) + q51.1)) + q54.1))]) (show z_pt 154 216 = some (4, .iload_n 2, []) by decide +kernel) rfl (fun _ _ _ => rfl) ?_
        refine O_const (pc := 217) (pc' := 218) (v := 1) (show z_ptc 154 217 = some (218, 1) by decide +kernel) ?_
        refine O_pure (pc := 218) (pc' := 219) (st' := [.int ((((0 + 1) + 1) : Int32) &&& 1), .int 97, .int 16, .ref 0, .int ((31 : Int32) * (((31 : Int32) * (((31 : Int32) * k48) + q51.1)) + q54.1))]) (show z_pt 154 218 = some (4, .iand, []) by decide +kernel) rfl (fun _ _ _ => rfl) ?_
        refine O_pure (pc := 219) (pc' := 220) (st' := [.int ((97 : Int32) + ((((0 + 1) + 1) : Int32) &&& 1)), .int 16, .ref 0, .int ((31 : Int32) * (((31 : Int32) * (((31 : Int32) * k48) + q51.1)) + q54.1))]) (show z_pt 154 219 = some (4, .iadd, []) by decide +kernel) rfl (fun _ _ _ => rfl) ?_
        refine O_pure (pc := 220) (pc' := 221) (st' := [.int ((0 + 1) + 1), .int ((97 : Int32) + ((((0 + 1) + 1) : Int32) &&& 1)), .int 16, .ref 0, .int ((31 : Int32) * (((31 : Int32) * (((31 : Int32) * k48) + q51.1)) + q54.1))]) (show z_pt 154 220 = some (4, .iload_n 2, []) by decide +kernel) rfl (fun _ _ _ => rfl) ?_
        refine O_const (pc := 221) (pc' := 222) (v := 1) (show z_ptc 154 221 = some (222, 1) by decide +kernel) ?_
        refine O_pure (pc := 222) (pc' := 223) (st' := [.int ((((0 + 1) + 1) : Int32) >>> ((1 : Int32) &&& 31)), .int ((97 : Int32) + ((((0 + 1) + 1) : Int32) &&& 1)), .int 16, .ref 0, .int ((31 : Int32) * (((31 : Int32) * (((31 : Int32) * k48) + q51.1)) + q54.1))]) (show z_pt 154 222 = some (4, .ishr, []) by decide +kernel) rfl (fun _ _ _ => rfl) ?_
        refine O_const (pc := 223) (pc' := 224) (v := 0) (show z_ptc 154 223 = some (224, 0) by decide +kernel) ?_
        obtain ⟨q57, e58, h⟩ := z_bs h
        refine O_call (E1 := 1) (E2 := 5) (pc := 224) (rr := [.int ((31 : Int32) * (((31 : Int32) * (((31 : Int32) * k48) + q51.1)) + q54.1))]) (show z_pt 154 224 = some (4, .invokestatic 30, [5, 153, 5, 5112, 5113, 0, 1000, 5114]) by decide +kernel) rfl (show z_r3 5 153 = some (11, 6, true) by decide +kernel) rfl rfl (Or.inl (by decide)) (pL_act_run  e58) (by omega) (by omega) ?_
        refine O_at2 (pc := 227) (st := [.int q57.1, .int ((31 : Int32) * (((31 : Int32) * (((31 : Int32) * k48) + q51.1)) + q54.1))]) ?_
        refine O_pure (pc := 227) (pc' := 228) (st' := [.int (((31 : Int32) * (((31 : Int32) * (((31 : Int32) * k48) + q51.1)) + q54.1)) + q57.1)]) (show z_pt 154 227 = some (4, .iadd, []) by decide +kernel) rfl (fun _ _ _ => rfl) ?_
        refine O_pure (pc := 228) (pc' := 229) (ls' := [(0, .ref 0), (1, .int (((31 : Int32) * (((31 : Int32) * (((31 : Int32) * k48) + q51.1)) + q54.1)) + q57.1)), (2, .int ((0 + 1) + 1))]) (st' := []) (show z_pt 154 228 = some (4, .istore_n 1, []) by decide +kernel) rfl (fun _ _ _ => rfl) ?_
        refine O_inc (pc := 229) (pc' := 232) (ls' := [(0, .ref 0), (1, .int (((31 : Int32) * (((31 : Int32) * (((31 : Int32) * k48) + q51.1)) + q54.1)) + q57.1)), (2, .int (((0 + 1) + 1) + 1))]) (c := 1) (show z_pt 154 229 = some (4, .iinc 2 1, []) by decide +kernel) (by decide) rfl rfl ?_
        refine O_pure (pc := 232) (pc' := 201) (ls' := [(0, .ref 0), (1, .int (((31 : Int32) * (((31 : Int32) * (((31 : Int32) * k48) + q51.1)) + q54.1)) + q57.1)), (2, .int (((0 + 1) + 1) + 1))]) (st' := []) (show z_pt 154 232 = some (4, .goto (-31), [3]) by decide +kernel) rfl (fun _ _ _ => rfl) ?_
        refine O_pure (pc := 201) (pc' := 202) (st' := [.int (((0 + 1) + 1) + 1)]) (show z_pt 154 201 = some (4, .iload_n 2, []) by decide +kernel) rfl (fun _ _ _ => rfl) ?_
        refine O_const (pc := 202) (pc' := 204) (v := 8) (show z_ptc 154 202 = some (204, 8) by decide +kernel) ?_
        refine O_icmge (pc := 204) (t := 235) (show z_pt 154 204 = some (4, .if_icmp .ge 31, []) by decide +kernel) (by decide) (fun c59 => ?_) (fun c59 => ?_)
        · exact absurd c59 (by decide)
        · skip
          refine O_const (pc := 207) (pc' := 209) (v := 31) (show z_ptc 154 207 = some (209, 31) by decide +kernel) ?_
          refine O_pure (pc := 209) (pc' := 210) (st' := [.int (((31 : Int32) * (((31 : Int32) * (((31 : Int32) * k48) + q51.1)) + q54.1)) + q57.1), .int 31]) (show z_pt 154 209 = some (4, .iload_n 1, []) by decide +kernel) rfl (fun _ _ _ => rfl) ?_
          refine O_pure (pc := 210) (pc' := 211) (st' := [.int ((31 : Int32) * (((31 : Int32) * (((31 : Int32) * (((31 : Int32) * k48) + q51.1)) + q54.1)) + q57.1))]) (show z_pt 154 210 = some (4, .imul, []) by decide +kernel) rfl (fun _ _ _ => rfl) ?_
          refine O_pure (pc := 211) (pc' := 212) (st' := [.ref 0, .int ((31 : Int32) * (((31 : Int32) * (((31 : Int32) * (((31 : Int32) * k48) + q51.1)) + q54.1)) + q57.1))]) (show z_pt 154 211 = some (4, .aload_n 0, []) by decide +kernel) rfl (fun _ _ _ => rfl) ?_
          refine O_const (pc := 212) (pc' := 214) (v := 16) (show z_ptc 154 212 = some (214, 16) by decide +kernel) ?_
          refine O_const (pc := 214) (pc' := 216) (v := 97) (show z_ptc 154 214 = some (216, 97) by decide +kernel) ?_
          refine O_pure (pc := 216) (pc' := 217) (st' := [.int (((0 + 1) + 1) + 1), .int 97, .int 16, .ref 0, .int ((31 : Int32) * (((31 : Int32) * (((31 : Int32) * (((31 : Int32) * k48) + q51.1)) + q54.1)) + q57.1))]) (show z_pt 154 216 = some (4, .iload_n 2, []) by decide +kernel) rfl (fun _ _ _ => rfl) ?_
          refine O_const (pc := 217) (pc' := 218) (v := 1) (show z_ptc 154 217 = some (218, 1) by decide +kernel) ?_
          refine O_pure (pc := 218) (pc' := 219) (st' := [.int (((((0 + 1) + 1) + 1) : Int32) &&& 1), .int 97, .int 16, .ref 0, .int ((31 : Int32) * (((31 : Int32) * (((31 : Int32) * (((31 : Int32) * k48) + q51.1)) + q54.1)) + q57.1))]) (show z_pt 154 218 = some (4, .iand, []) by decide +kernel) rfl (fun _ _ _ => rfl) ?_
          refine O_pure (pc := 219) (pc' := 220) (st' := [.int ((97 : Int32) + (((((0 + 1) + 1) + 1) : Int32) &&& 1)), .int 16, .ref 0, .int ((31 : Int32) * (((31 : Int32) * (((31 : Int32) * (((31 : Int32) * k48) + q51.1)) + q54.1)) + q57.1))]) (show z_pt 154 219 = some (4, .iadd, []) by decide +kernel) rfl (fun _ _ _ => rfl) ?_
          refine O_pure (pc := 220) (pc' := 221) (st' := [.int (((0 + 1) + 1) + 1), .int ((97 : Int32) + (((((0 + 1) + 1) + 1) : Int32) &&& 1)), .int 16, .ref 0, .int ((31 : Int32) * (((31 : Int32) * (((31 : Int32) * (((31 : Int32) * k48) + q51.1)) + q54.1)) + q57.1))]) (show z_pt 154 220 = some (4, .iload_n 2, []) by decide +kernel) rfl (fun _ _ _ => rfl) ?_
          refine O_const (pc := 221) (pc' := 222) (v := 1) (show z_ptc 154 221 = some (222, 1) by decide +kernel) ?_
          refine O_pure (pc := 222) (pc' := 223) (st' := [.int (((((0 + 1) + 1) + 1) : Int32) >>> ((1 : Int32) &&& 31)), .int ((97 : Int32) + (((((0 + 1) + 1) + 1) : Int32) &&& 1)), .int 16, .ref 0, .int ((31 : Int32) * (((31 : Int32) * (((31 : Int32) * (((31 : Int32) * k48) + q51.1)) + q54.1)) + q57.1))]) (show z_pt 154 222 = some (4, .ishr, []) by decide +kernel) rfl (fun _ _ _ => rfl) ?_
          refine O_const (pc := 223) (pc' := 224) (v := 0) (show z_ptc 154 223 = some (224, 0) by decide +kernel) ?_
          obtain ⟨q60, e61, h⟩ := z_bs h
          refine O_call (E1 := 1) (E2 := 4) (pc := 224) (rr := [.int ((31 : Int32) * (((31 : Int32) * (((31 : Int32) * (((31 : Int32) * k48) + q51.1)) + q54.1)) + q57.1))]) (show z_pt 154 224 = some (4, .invokestatic 30, [5, 153, 5, 5112, 5113, 0, 1000, 5114]) by decide +kernel) rfl (show z_r3 5 153 = some (11, 6, true) by decide +kernel) rfl rfl (Or.inl (by decide)) (pL_act_run  e61) (by omega) (by omega) ?_
          refine O_at2 (pc := 227) (st := [.int q60.1, .int ((31 : Int32) * (((31 : Int32) * (((31 : Int32) * (((31 : Int32) * k48) + q51.1)) + q54.1)) + q57.1))]) ?_
          refine O_pure (pc := 227) (pc' := 228) (st' := [.int (((31 : Int32) * (((31 : Int32) * (((31 : Int32) * (((31 : Int32) * k48) + q51.1)) + q54.1)) + q57.1)) + q60.1)]) (show z_pt 154 227 = some (4, .iadd, []) by decide +kernel) rfl (fun _ _ _ => rfl) ?_
          refine O_pure (pc := 228) (pc' := 229) (ls' := [(0, .ref 0), (1, .int (((31 : Int32) * (((31 : Int32) * (((31 : Int32) * (((31 : Int32) * k48) + q51.1)) + q54.1)) + q57.1)) + q60.1)), (2, .int (((0 + 1) + 1) + 1))]) (st' := []) (show z_pt 154 228 = some (4, .istore_n 1, []) by decide +kernel) rfl (fun _ _ _ => rfl) ?_
          refine O_inc (pc := 229) (pc' := 232) (ls' := [(0, .ref 0), (1, .int (((31 : Int32) * (((31 : Int32) * (((31 : Int32) * (((31 : Int32) * k48) + q51.1)) + q54.1)) + q57.1)) + q60.1)), (2, .int ((((0 + 1) + 1) + 1) + 1))]) (c := 1) (show z_pt 154 229 = some (4, .iinc 2 1, []) by decide +kernel) (by decide) rfl rfl ?_
          refine O_pure (pc := 232) (pc' := 201) (ls' := [(0, .ref 0), (1, .int (((31 : Int32) * (((31 : Int32) * (((31 : Int32) * (((31 : Int32) * k48) + q51.1)) + q54.1)) + q57.1)) + q60.1)), (2, .int ((((0 + 1) + 1) + 1) + 1))]) (st' := []) (show z_pt 154 232 = some (4, .goto (-31), [3]) by decide +kernel) rfl (fun _ _ _ => rfl) ?_
          refine O_pure (pc := 201) (pc' := 202) (st' := [.int ((((0 + 1) + 1) + 1) + 1)]) (show z_pt 154 201 = some (4, .iload_n 2, []) by decide +kernel) rfl (fun _ _ _ => rfl) ?_
          refine O_const (pc := 202) (pc' := 204) (v := 8) (show z_ptc 154 202 = some (204, 8) by decide +kernel) ?_
          refine O_icmge (pc := 204) (t := 235) (show z_pt 154 204 = some (4, .if_icmp .ge 31, []) by decide +kernel) (by decide) (fun c62 => ?_) (fun c62 => ?_)
          · exact absurd c62 (by decide)
          · skip
            refine O_const (pc := 207) (pc' := 209) (v := 31) (show z_ptc 154 207 = some (209, 31) by decide +kernel) ?_
            refine O_pure (pc := 209) (pc' := 210) (st' := [.int (((31 : Int32) * (((31 : Int32) * (((31 : Int32) * (((31 : Int32) * k48) + q51.1)) + q54.1)) + q57.1)) + q60.1), .int 31]) (show z_pt 154 209 = some (4, .iload_n 1, []) by decide +kernel) rfl (fun _ _ _ => rfl) ?_
            refine O_pure (pc := 210) (pc' := 211) (st' := [.int ((31 : Int32) * (((31 : Int32) * (((31 : Int32) * (((31 : Int32) * (((31 : Int32) * k48) + q51.1)) + q54.1)) + q57.1)) + q60.1))]) (show z_pt 154 210 = some (4, .imul, []) by decide +kernel) rfl (fun _ _ _ => rfl) ?_
            refine O_pure (pc := 211) (pc' := 212) (st' := [.ref 0, .int ((31 : Int32) * (((31 : Int32) * (((31 : Int32) * (((31 : Int32) * (((31 : Int32) * k48) + q51.1)) + q54.1)) + q57.1)) + q60.1))]) (show z_pt 154 211 = some (4, .aload_n 0, []) by decide +kernel) rfl (fun _ _ _ => rfl) ?_
            refine O_const (pc := 212) (pc' := 214) (v := 16) (show z_ptc 154 212 = some (214, 16) by decide +kernel) ?_
            refine O_const (pc := 214) (pc' := 216) (v := 97) (show z_ptc 154 214 = some (216, 97) by decide +kernel) ?_
            refine O_pure (pc := 216) (pc' := 217) (st' := [.int ((((0 + 1) + 1) + 1) + 1), .int 97, .int 16, .ref 0, .int ((31 : Int32) * (((31 : Int32) * (((31 : Int32) * (((31 : Int32) * (((31 : Int32) * k48) + q51.1)) + q54.1)) + q57.1)) + q60.1))]) (show z_pt 154 216 = some (4, .iload_n 2, []) by decide +kernel) rfl (fun _ _ _ => rfl) ?_
            refine O_const (pc := 217) (pc' := 218) (v := 1) (show z_ptc 154 217 = some (218, 1) by decide +kernel) ?_
            refine O_pure (pc := 218) (pc' := 219) (st' := [.int ((((((0 + 1) + 1) + 1) + 1) : Int32) &&& 1), .int 97, .int 16, .ref 0, .int ((31 : Int32) * (((31 : Int32) * (((31 : Int32) * (((31 : Int32) * (((31 : Int32) * k48) + q51.1)) + q54.1)) + q57.1)) + q60.1))]) (show z_pt 154 218 = some (4, .iand, []) by decide +kernel) rfl (fun _ _ _ => rfl) ?_
            refine O_pure (pc := 219) (pc' := 220) (st' := [.int ((97 : Int32) + ((((((0 + 1) + 1) + 1) + 1) : Int32) &&& 1)), .int 16, .ref 0, .int ((31 : Int32) * (((31 : Int32) * (((31 : Int32) * (((31 : Int32) * (((31 : Int32) * k48) + q51.1)) + q54.1)) + q57.1)) + q60.1))]) (show z_pt 154 219 = some (4, .iadd, []) by decide +kernel) rfl (fun _ _ _ => rfl) ?_
            refine O_pure (pc := 220) (pc' := 221) (st' := [.int ((((0 + 1) + 1) + 1) + 1), .int ((97 : Int32) + ((((((0 + 1) + 1) + 1) + 1) : Int32) &&& 1)), .int 16, .ref 0, .int ((31 : Int32) * (((31 : Int32) * (((31 : Int32) * (((31 : Int32) * (((31 : Int32) * k48) + q51.1)) + q54.1)) + q57.1)) + q60.1))]) (show z_pt 154 220 = some (4, .iload_n 2, []) by decide +kernel) rfl (fun _ _ _ => rfl) ?_
            refine O_const (pc := 221) (pc' := 222) (v := 1) (show z_ptc 154 221 = some (222, 1) by decide +kernel) ?_
            refine O_pure (pc := 222) (pc' := 223) (st' := [.int ((((((0 + 1) + 1) + 1) + 1) : Int32) >>> ((1 : Int32) &&& 31)), .int ((97 : Int32) + ((((((0 + 1) + 1) + 1) + 1) : Int32) &&& 1)), .int 16, .ref 0, .int ((31 : Int32) * (((31 : Int32) * (((31 : Int32) * (((31 : Int32) * (((31 : Int32) * k48) + q51.1)) + q54.1)) + q57.1)) + q60.1))]) (show z_pt 154 222 = some (4, .ishr, []) by decide +kernel) rfl (fun _ _ _ => rfl) ?_
            refine O_const (pc := 223) (pc' := 224) (v := 0) (show z_ptc 154 223 = some (224, 0) by decide +kernel) ?_
            obtain ⟨q63, e64, h⟩ := z_bs h
            refine O_call (E1 := 1) (E2 := 3) (pc := 224) (rr := [.int ((31 : Int32) * (((31 : Int32) * (((31 : Int32) * (((31 : Int32) * (((31 : Int32) * k48) + q51.1)) + q54.1)) + q57.1)) + q60.1))]) (show z_pt 154 224 = some (4, .invokestatic 30, [5, 153, 5, 5112, 5113, 0, 1000, 5114]) by decide +kernel) rfl (show z_r3 5 153 = some (11, 6, true) by decide +kernel) rfl rfl (Or.inl (by decide)) (pL_act_run  e64) (by omega) (by omega) ?_
            refine O_at2 (pc := 227) (st := [.int q63.1, .int ((31 : Int32) * (((31 : Int32) * (((31 : Int32) * (((31 : Int32) * (((31 : Int32) * k48) + q51.1)) + q54.1)) + q57.1)) + q60.1))]) ?_
            refine O_pure (pc := 227) (pc' := 228) (st' := [.int (((31 : Int32) * (((31 : Int32) * (((31 : Int32) * (((31 : Int32) * (((31 : Int32) * k48) + q51.1)) + q54.1)) + q57.1)) + q60.1)) + q63.1)]) (show z_pt 154 227 = some (4, .iadd, []) by decide +kernel) rfl (fun _ _ _ => rfl) ?_
            refine O_pure (pc := 228) (pc' := 229) (ls' := [(0, .ref 0), (1, .int (((31 : Int32) * (((31 : Int32) * (((31 : Int32) * (((31 : Int32) * (((31 : Int32) * k48) + q51.1)) + q54.1)) + q57.1)) + q60.1)) + q63.1)), (2, .int ((((0 + 1) + 1) + 1) + 1))]) (st' := []) (show z_pt 154 228 = some (4, .istore_n 1, []) by decide +kernel) rfl (fun _ _ _ => rfl) ?_
            refine O_inc (pc := 229) (pc' := 232) (ls' := [(0, .ref 0), (1, .int (((31 : Int32) * (((31 : Int32) * (((31 : Int32) * (((31 : Int32) * (((31 : Int32) * k48) + q51.1)) + q54.1)) + q57.1)) + q60.1)) + q63.1)), (2, .int (((((0 + 1) + 1) + 1) + 1) + 1))]) (c := 1) (show z_pt 154 229 = some (4, .iinc 2 1, []) by decide +kernel) (by decide) rfl rfl ?_
            refine O_pure (pc := 232) (pc' := 201) (ls' := [(0, .ref 0), (1, .int (((31 : Int32) * (((31 : Int32) * (((31 : Int32) * (((31 : Int32) * (((31 : Int32) * k48) + q51.1)) + q54.1)) + q57.1)) + q60.1)) + q63.1)), (2, .int (((((0 + 1) + 1) + 1) + 1) + 1))]) (st' := []) (show z_pt 154 232 = some (4, .goto (-31), [3]) by decide +kernel) rfl (fun _ _ _ => rfl) ?_
            refine O_pure (pc := 201) (pc' := 202) (st' := [.int (((((0 + 1) + 1) + 1) + 1) + 1)]) (show z_pt 154 201 = some (4, .iload_n 2, []) by decide +kernel) rfl (fun _ _ _ => rfl) ?_
            refine O_const (pc := 202) (pc' := 204) (v := 8) (show z_ptc 154 202 = some (204, 8) by decide +kernel) ?_
            refine O_icmge (pc := 204) (t := 235) (show z_pt 154 204 = some (4, .if_icmp .ge 31, []) by decide +kernel) (by decide) (fun c65 => ?_) (fun c65 => ?_)
            · exact absurd c65 (by decide)
            · skip
              refine O_const (pc := 207) (pc' := 209) (v := 31) (show z_ptc 154 207 = some (209, 31) by decide +kernel) ?_
              refine O_pure (pc := 209) (pc' := 210) (st' := [.int (((31 : Int32) * (((31 : Int32) * (((31 : Int32) * (((31 : Int32) * (((31 : Int32) * k48) + q51.1)) + q54.1)) + q57.1)) + q60.1)) + q63.1), .int 31]) (show z_pt 154 209 = some (4, .iload_n 1, []) by decide +kernel) rfl (fun _ _ _ => rfl) ?_
              refine O_pure (pc := 210) (pc' := 211) (st' := [.int ((31 : Int32) * (((31 : Int32) * (((31 : Int32) * (((31 : Int32) * (((31 : Int32) * (((31 : Int32) * k48) + q51.1)) + q54.1)) + q57.1)) + q60.1)) + q63.1))]) (show z_pt 154 210 = some (4, .imul, []) by decide +kernel) rfl (fun _ _ _ => rfl) ?_
              refine O_pure (pc := 211) (pc' := 212) (st' := [.ref 0, .int ((31 : Int32) * (((31 : Int32) * (((31 : Int32) * (((31 : Int32) * (((31 : Int32) * (((31 : Int32) * k48) + q51.1)) + q54.1)) + q57.1)) + q60.1)) + q63.1))]) (show z_pt 154 211 = some (4, .aload_n 0, []) by decide +kernel) rfl (fun _ _ _ => rfl) ?_
              refine O_const (pc := 212) (pc' := 214) (v := 16) (show z_ptc 154 212 = some (214, 16) by decide +kernel) ?_
              refine O_const (pc := 214) (pc' := 216) (v := 97) (show z_ptc 154 214 = some (216, 97) by decide +kernel) ?_
              refine O_pure (pc := 216) (pc' := 217) (st' := [.int (((((0 + 1) + 1) + 1) + 1) + 1), .int 97, .int 16, .ref 0, .int ((31 : Int32) * (((31 : Int32) * (((31 : Int32) * (((31 : Int32) * (((31 : Int32) * (((31 : Int32) * k48) + q51.1)) + q54.1)) + q57.1)) + q60.1)) + q63.1))]) (show z_pt 154 216 = some (4, .iload_n 2, []) by decide +kernel) rfl (fun _ _ _ => rfl) ?_
              refine O_const (pc := 217) (pc' := 218) (v := 1) (show z_ptc 154 217 = some (218, 1) by decide +kernel) ?_
              refine O_pure (pc := 218) (pc' := 219) (st' := [.int (((((((0 + 1) + 1) + 1) + 1) + 1) : Int32) &&& 1), .int 97, .int 16, .ref 0, .int ((31 : Int32) * (((31 : Int32) * (((31 : Int32) * (((31 : Int32) * (((31 : Int32) * (((31 : Int32) * k48) + q51.1)) + q54.1)) + q57.1)) + q60.1)) + q63.1))]) (show z_pt 154 218 = some (4, .iand, []) by decide +kernel) rfl (fun _ _ _ => rfl) ?_
              refine O_pure (pc := 219) (pc' := 220) (st' := [.int ((97 : Int32) + (((((((0 + 1) + 1) + 1) + 1) + 1) : Int32) &&& 1)), .int 16, .ref 0, .int ((31 : Int32) * (((31 : Int32) * (((31 : Int32) * (((31 : Int32) * (((31 : Int32) * (((31 : Int32) * k48) + q51.1)) + q54.1)) + q57.1)) + q60.1)) + q63.1))]) (show z_pt 154 219 = some (4, .iadd, []) by decide +kernel) rfl (fun _ _ _ => rfl) ?_
              refine O_pure (pc := 220) (pc' := 221) (st' := [.int (((((0 + 1) + 1) + 1) + 1) + 1), .int ((97 : Int32) + (((((((0 + 1) + 1) + 1) + 1) + 1) : Int32) &&& 1)), .int 16, .ref 0, .int ((31 : Int32) * (((31 : Int32) * (((31 : Int32) * (((31 : Int32) * (((31 : Int32) * (((31 : Int32) * k48) + q51.1)) + q54.1)) + q57.1)) + q60.1)) + q63.1))]) (show z_pt 154 220 = some (4, .iload_n 2, []) by decide +kernel) rfl (fun _ _ _ => rfl) ?_
              refine O_const (pc := 221) (pc' := 222) (v := 1) (show z_ptc 154 221 = some (222, 1) by decide +kernel) ?_
              refine O_pure (pc := 222) (pc' := 223) (st' := [.int (((((((0 + 1) + 1) + 1) + 1) + 1) : Int32) >>> ((1 : Int32) &&& 31)), .int ((97 : Int32) + (((((((0 + 1) + 1) + 1) + 1) + 1) : Int32) &&& 1)), .int 16, .ref 0, .int ((31 : Int32) * (((31 : Int32) * (((31 : Int32) * (((31 : Int32) * (((31 : Int32) * (((31 : Int32) * k48) + q51.1)) + q54.1)) + q57.1)) + q60.1)) + q63.1))]) (show z_pt 154 222 = some (4, .ishr, []) by decide +kernel) rfl (fun _ _ _ => rfl) ?_
              refine O_const (pc := 223) (pc' := 224) (v := 0) (show z_ptc 154 223 = some (224, 0) by decide +kernel) ?_
              obtain ⟨q66, e67, h⟩ := z_bs h
              refine O_call (E1 := 1) (E2 := 2) (pc := 224) (rr := [.int ((31 : Int32) * (((31 : Int32) * (((31 : Int32) * (((31 : Int32) * (((31 : Int32) * (((31 : Int32) * k48) + q51.1)) + q54.1)) + q57.1)) + q60.1)) + q63.1))]) (show z_pt 154 224 = some (4, .invokestatic 30, [5, 153, 5, 5112, 5113, 0, 1000, 5114]) by decide +kernel) rfl (show z_r3 5 153 = some (11, 6, true) by decide +kernel) rfl rfl (Or.inl (by decide)) (pL_act_run  e67) (by omega) (by omega) ?_
              refine O_at2 (pc := 227) (st := [.int q66.1, .int ((31 : Int32) * (((31 : Int32) * (((31 : Int32) * (((31 : Int32) * (((31 : Int32) * (((31 : Int32) * k48) + q51.1)) + q54.1)) + q57.1)) + q60.1)) + q63.1))]) ?_
              refine O_pure (pc := 227) (pc' := 228) (st' := [.int (((31 : Int32) * (((31 : Int32) * (((31 : Int32) * (((31 : Int32) * (((31 : Int32) * (((31 : Int32) * k48) + q51.1)) + q54.1)) + q57.1)) + q60.1)) + q63.1)) + q66.1)]) (show z_pt 154 227 = some (4, .iadd, []) by decide +kernel) rfl (fun _ _ _ => rfl) ?_
              refine O_pure (pc := 228) (pc' := 229) (ls' := [(0, .ref 0), (1, .int (((31 : Int32) * (((31 : Int32) * (((31 : Int32) * (((31 : Int32) * (((31 : Int32) * (((31 : Int32) * k48) + q51.1)) + q54.1)) + q57.1)) + q60.1)) + q63.1)) + q66.1)), (2, .int (((((0 + 1) + 1) + 1) + 1) + 1))]) (st' := []) (show z_pt 154 228 = some (4, .istore_n 1, []) by decide +kernel) rfl (fun _ _ _ => rfl) ?_
              refine O_inc (pc := 229) (pc' := 232) (ls' := [(0, .ref 0), (1, .int (((31 : Int32) * (((31 : Int32) * (((31 : Int32) * (((31 : Int32) * (((31 : Int32) * (((31 : Int32) * k48) + q51.1)) + q54.1)) + q57.1)) + q60.1)) + q63.1)) + q66.1)), (2, .int ((((((0 + 1) + 1) + 1) + 1) + 1) + 1))]) (c := 1) (show z_pt 154 229 = some (4, .iinc 2 1, []) by decide +kernel) (by decide) rfl rfl ?_
              refine O_pure (pc := 232) (pc' := 201) (ls' := [(0, .ref 0), (1, .int (((31 : Int32) * (((31 : Int32) * (((31 : Int32) * (((31 : Int32) * (((31 : Int32) * (((31 : Int32) * k48) + q51.1)) + q54.1)) + q57.1)) + q60.1)) + q63.1)) + q66.1)), (2, .int ((((((0 + 1) + 1) + 1) + 1) + 1) + 1))]) (st' := []) (show z_pt 154 232 = some (4, .goto (-31), [3]) by decide +kernel) rfl (fun _ _ _ => rfl) ?_
              refine O_pure (pc := 201) (pc' := 202) (st' := [.int ((((((0 + 1) + 1) + 1) + 1) + 1) + 1)]) (show z_pt 154 201 = some (4, .iload_n 2, []) by decide +kernel) rfl (fun _ _ _ => rfl) ?_
              refine O_const (pc := 202) (pc' := 204) (v := 8) (show z_ptc 154 202 = some (204, 8) by decide +kernel) ?_
              refine O_icmge (pc := 204) (t := 235) (show z_pt 154 204 = some (4, .if_icmp .ge 31, []) by decide +kernel) (by decide) (fun c68 => ?_) (fun c68 => ?_)
              · exact absurd c68 (by decide)
              · skip
                refine O_const (pc := 207) (pc' := 209) (v := 31) (show z_ptc 154 207 = some (209, 31) by decide +kernel) ?_
                refine O_pure (pc := 209) (pc' := 210) (st' := [.int (((31 : Int32) * (((31 : Int32) * (((31 : Int32) * (((31 : Int32) * (((31 : Int32) * (((31 : Int32) * k48) + q51.1)) + q54.1)) + q57.1)) + q60.1)) + q63.1)) + q66.1), .int 31]) (show z_pt 154 209 = some (4, .iload_n 1, []) by decide +kernel) rfl (fun _ _ _ => rfl) ?_
                refine O_pure (pc := 210) (pc' := 211) (st' := [.int ((31 : Int32) * (((31 : Int32) * (((31 : Int32) * (((31 : Int32) * (((31 : Int32) * (((31 : Int32) * (((31 : Int32) * k48) + q51.1)) + q54.1)) + q57.1)) + q60.1)) + q63.1)) + q66.1))]) (show z_pt 154 210 = some (4, .imul, []) by decide +kernel) rfl (fun _ _ _ => rfl) ?_
                refine O_pure (pc := 211) (pc' := 212) (st' := [.ref 0, .int ((31 : Int32) * (((31 : Int32) * (((31 : Int32) * (((31 : Int32) * (((31 : Int32) * (((31 : Int32) * (((31 : Int32) * k48) + q51.1)) + q54.1)) + q57.1)) + q60.1)) + q63.1)) + q66.1))]) (show z_pt 154 211 = some (4, .aload_n 0, []) by decide +kernel) rfl (fun _ _ _ => rfl) ?_
                refine O_const (pc := 212) (pc' := 214) (v := 16) (show z_ptc 154 212 = some (214, 16) by decide +kernel) ?_
                refine O_const (pc := 214) (pc' := 216) (v := 97) (show z_ptc 154 214 = some (216, 97) by decide +kernel) ?_
                refine O_pure (pc := 216) (pc' := 217) (st' := [.int ((((((0 + 1) + 1) + 1) + 1) + 1) + 1), .int 97, .int 16, .ref 0, .int ((31 : Int32) * (((31 : Int32) * (((31 : Int32) * (((31 : Int32) * (((31 : Int32) * (((31 : Int32) * (((31 : Int32) * k48) + q51.1)) + q54.1)) + q57.1)) + q60.1)) + q63.1)) + q66.1))]) (show z_pt 154 216 = some (4, .iload_n 2, []) by decide +kernel) rfl (fun _ _ _ => rfl) ?_
                refine O_const (pc := 217) (pc' := 218) (v := 1) (show z_ptc 154 217 = some (218, 1) by decide +kernel) ?_
                refine O_pure (pc := 218) (pc' := 219) (st' := [.int ((((((((0 + 1) + 1) + 1) + 1) + 1) + 1) : Int32) &&& 1), .int 97, .int 16, .ref 0, .int ((31 : Int32) * (((31 : Int32) * (((31 : Int32) * (((31 : Int32) * (((31 : Int32) * (((31 : Int32) * (((31 : Int32) * k48) + q51.1)) + q54.1)) + q57.1)) + q60.1)) + q63.1)) + q66.1))]) (show z_pt 154 218 = some (4, .iand, []) by decide +kernel) rfl (fun _ _ _ => rfl) ?_
                refine O_pure (pc := 219) (pc' := 220) (st' := [.int ((97 : Int32) + ((((((((0 + 1) + 1) + 1) + 1) + 1) + 1) : Int32) &&& 1)), .int 16, .ref 0, .int ((31 : Int32) * (((31 : Int32) * (((31 : Int32) * (((31 : Int32) * (((31 : Int32) * (((31 : Int32) * (((31 : Int32) * k48) + q51.1)) + q54.1)) + q57.1)) + q60.1)) + q63.1)) + q66.1))]) (show z_pt 154 219 = some (4, .iadd, []) by decide +kernel) rfl (fun _ _ _ => rfl) ?_
                refine O_pure (pc := 220) (pc' := 221) (st' := [.int ((((((0 + 1) + 1) + 1) + 1) + 1) + 1), .int ((97 : Int32) + ((((((((0 + 1) + 1) + 1) + 1) + 1) + 1) : Int32) &&& 1)), .int 16, .ref 0, .int ((31 : Int32) * (((31 : Int32) * (((31 : Int32) * (((31 : Int32) * (((31 : Int32) * (((31 : Int32) * (((31 : Int32) * k48) + q51.1)) + q54.1)) + q57.1)) + q60.1)) + q63.1)) + q66.1))]) (show z_pt 154 220 = some (4, .iload_n 2, []) by decide +kernel) rfl (fun _ _ _ => rfl) ?_
                refine O_const (pc := 221) (pc' := 222) (v := 1) (show z_ptc 154 221 = some (222, 1) by decide +kernel) ?_
                refine O_pure (pc := 222) (pc' := 223) (st' := [.int ((((((((0 + 1) + 1) + 1) + 1) + 1) + 1) : Int32) >>> ((1 : Int32) &&& 31)), .int ((97 : Int32) + ((((((((0 + 1) + 1) + 1) + 1) + 1) + 1) : Int32) &&& 1)), .int 16, .ref 0, .int ((31 : Int32) * (((31 : Int32) * (((31 : Int32) * (((31 : Int32) * (((31 : Int32) * (((31 : Int32) * (((31 : Int32) * k48) + q51.1)) + q54.1)) + q57.1)) + q60.1)) + q63.1)) + q66.1))]) (show z_pt 154 222 = some (4, .ishr, []) by decide +kernel) rfl (fun _ _ _ => rfl) ?_
                refine O_const (pc := 223) (pc' := 224) (v := 0) (show z_ptc 154 223 = some (224, 0) by decide +kernel) ?_
                obtain ⟨q69, e70, h⟩ := z_bs h
                refine O_call (E1 := 1) (E2 := 1) (pc := 224) (rr := [.int ((31 : Int32) * (((31 : Int32) * (((31 : Int32) * (((31 : Int32) * (((31 : Int32) * (((31 : Int32) * (((31 : Int32) * k48) + q51.1)) + q54.1)) + q57.1)) + q60.1)) + q63.1)) + q66.1))]) (show z_pt 154 224 = some (4, .invokestatic 30, [5, 153, 5, 5112, 5113, 0, 1000, 5114]) by decide +kernel) rfl (show z_r3 5 153 = some (11, 6, true) by decide +kernel) rfl rfl (Or.inl (by decide)) (pL_act_run  e70) (by omega) (by omega) ?_
                refine O_at2 (pc := 227) (st := [.int q69.1, .int ((31 : Int32) * (((31 : Int32) * (((31 : Int32) * (((31 : Int32) * (((31 : Int32) * (((31 : Int32) * (((31 : Int32) * k48) + q51.1)) + q54.1)) + q57.1)) + q60.1)) + q63.1)) + q66.1))]) ?_
                refine O_pure (pc := 227) (pc' := 228) (st' := [.int (((31 : Int32) * (((31 : Int32) * (((31 : Int32) * (((31 : Int32) * (((31 : Int32) * (((31 : Int32) * (((31 : Int32) * k48) + q51.1)) + q54.1)) + q57.1)) + q60.1)) + q63.1)) + q66.1)) + q69.1)]) (show z_pt 154 227 = some (4, .iadd, []) by decide +kernel) rfl (fun _ _ _ => rfl) ?_
                refine O_pure (pc := 228) (pc' := 229) (ls' := [(0, .ref 0), (1, .int (((31 : Int32) * (((31 : Int32) * (((31 : Int32) * (((31 : Int32) * (((31 : Int32) * (((31 : Int32) * (((31 : Int32) * k48) + q51.1)) + q54.1)) + q57.1)) + q60.1)) + q63.1)) + q66.1)) + q69.1)), (2, .int ((((((0 + 1) + 1) + 1) + 1) + 1) + 1))]) (st' := []) (show z_pt 154 228 = some (4, .istore_n 1, []) by decide +kernel) rfl (fun _ _ _ => rfl) ?_
                refine O_inc (pc := 229) (pc' := 232) (ls' := [(0, .ref 0), (1, .int (((31 : Int32) * (((31 : Int32) * (((31 : Int32) * (((31 : Int32) * (((31 : Int32) * (((31 : Int32) * (((31 : Int32) * k48) + q51.1)) + q54.1)) + q57.1)) + q60.1)) + q63.1)) + q66.1)) + q69.1)), (2, .int (((((((0 + 1) + 1) + 1) + 1) + 1) + 1) + 1))]) (c := 1) (show z_pt 154 229 = some (4, .iinc 2 1, []) by decide +kernel) (by decide) rfl rfl ?_
                refine O_pure (pc := 232) (pc' := 201) (ls' := [(0, .ref 0), (1, .int (((31 : Int32) * (((31 : Int32) * (((31 : Int32) * (((31 : Int32) * (((31 : Int32) * (((31 : Int32) * (((31 : Int32) * k48) + q51.1)) + q54.1)) + q57.1)) + q60.1)) + q63.1)) + q66.1)) + q69.1)), (2, .int (((((((0 + 1) + 1) + 1) + 1) + 1) + 1) + 1))]) (st' := []) (show z_pt 154 232 = some (4, .goto (-31), [3]) by decide +kernel) rfl (fun _ _ _ => rfl) ?_
                refine O_pure (pc := 201) (pc' := 202) (st' := [.int (((((((0 + 1) + 1) + 1) + 1) + 1) + 1) + 1)]) (show z_pt 154 201 = some (4, .iload_n 2, []) by decide +kernel) rfl (fun _ _ _ => rfl) ?_
                refine O_const (pc := 202) (pc' := 204) (v := 8) (show z_ptc 154 202 = some (204, 8) by decide +kernel) ?_
                refine O_icmge (pc := 204) (t := 235) (show z_pt 154 204 = some (4, .if_icmp .ge 31, []) by decide +kernel) (by decide) (fun c71 => ?_) (fun c71 => ?_)
                · exact absurd c71 (by decide)
                · skip
                  refine O_const (pc := 207) (pc' := 209) (v := 31) (show z_ptc 154 207 = some (209, 31) by decide +kernel) ?_
                  refine O_pure (pc := 209) (pc' := 210) (st' := [.int (((31 : Int32) * (((31 : Int32) * (((31 : Int32) * (((31 : Int32) * (((31 : Int32) * (((31 : Int32) * (((31 : Int32) * k48) + q51.1)) + q54.1)) + q57.1)) + q60.1)) + q63.1)) + q66.1)) + q69.1), .int 31]) (show z_pt 154 209 = some (4, .iload_n 1, []) by decide +kernel) rfl (fun _ _ _ => rfl) ?_
                  refine O_pure (pc := 210) (pc' := 211) (st' := [.int ((31 : Int32) * (((31 : Int32) * (((31 : Int32) * (((31 : Int32) * (((31 : Int32) * (((31 : Int32) * (((31 : Int32) * (((31 : Int32) * k48) + q51.1)) + q54.1)) + q57.1)) + q60.1)) + q63.1)) + q66.1)) + q69.1))]) (show z_pt 154 210 = some (4, .imul, []) by decide +kernel) rfl (fun _ _ _ => rfl) ?_
                  refine O_pure (pc := 211) (pc' := 212) (st' := [.ref 0, .int ((31 : Int32) * (((31 : Int32) * (((31 : Int32) * (((31 : Int32) * (((31 : Int32) * (((31 : Int32) * (((31 : Int32) * (((31 : Int32) * k48) + q51.1)) + q54.1)) + q57.1)) + q60.1)) + q63.1)) + q66.1)) + q69.1))]) (show z_pt 154 211 = some (4, .aload_n 0, []) by decide +kernel) rfl (fun _ _ _ => rfl) ?_
                  refine O_const (pc := 212) (pc' := 214) (v := 16) (show z_ptc 154 212 = some (214, 16) by decide +kernel) ?_
                  refine O_const (pc := 214) (pc' := 216) (v := 97) (show z_ptc 154 214 = some (216, 97) by decide +kernel) ?_
                  refine O_pure (pc := 216) (pc' := 217) (st' := [.int (((((((0 + 1) + 1) + 1) + 1) + 1) + 1) + 1), .int 97, .int 16, .ref 0, .int ((31 : Int32) * (((31 : Int32) * (((31 : Int32) * (((31 : Int32) * (((31 : Int32) * (((31 : Int32) * (((31 : Int32) * (((31 : Int32) * k48) + q51.1)) + q54.1)) + q57.1)) + q60.1)) + q63.1)) + q66.1)) + q69.1))]) (show z_pt 154 216 = some (4, .iload_n 2, []) by decide +kernel) rfl (fun _ _ _ => rfl) ?_
                  refine O_const (pc := 217) (pc' := 218) (v := 1) (show z_ptc 154 217 = some (218, 1) by decide +kernel) ?_
                  refine O_pure (pc := 218) (pc' := 219) (st' := [.int (((((((((0 + 1) + 1) + 1) + 1) + 1) + 1) + 1) : Int32) &&& 1), .int 97, .int 16, .ref 0, .int ((31 : Int32) * (((31 : Int32) * (((31 : Int32) * (((31 : Int32) * (((31 : Int32) * (((31 : Int32) * (((31 : Int32) * (((31 : Int32) * k48) + q51.1)) + q54.1)) + q57.1)) + q60.1)) + q63.1)) + q66.1)) + q69.1))]) (show z_pt 154 218 = some (4, .iand, []) by decide +kernel) rfl (fun _ _ _ => rfl) ?_
                  refine O_pure (pc := 219) (pc' := 220) (st' := [.int ((97 : Int32) + (((((((((0 + 1) + 1) + 1) + 1) + 1) + 1) + 1) : Int32) &&& 1)), .int 16, .ref 0, .int ((31 : Int32) * (((31 : Int32) * (((31 : Int32) * (((31 : Int32) * (((31 : Int32) * (((31 : Int32) * (((31 : Int32) * (((31 : Int32) * k48) + q51.1)) + q54.1)) + q57.1)) + q60.1)) + q63.1)) + q66.1)) + q69.1))]) (show z_pt 154 219 = some (4, .iadd, []) by decide +kernel) rfl (fun _ _ _ => rfl) ?_
                  refine O_pure (pc := 220) (pc' := 221) (st' := [.int (((((((0 + 1) + 1) + 1) + 1) + 1) + 1) + 1), .int ((97 : Int32) + (((((((((0 + 1) + 1) + 1) + 1) + 1) + 1) + 1) : Int32) &&& 1)), .int 16, .ref 0, .int ((31 : Int32) * (((31 : Int32) * (((31 : Int32) * (((31 : Int32) * (((31 : Int32) * (((31 : Int32) * (((31 : Int32) * (((31 : Int32) * k48) + q51.1)) + q54.1)) + q57.1)) + q60.1)) + q63.1)) + q66.1)) + q69.1))]) (show z_pt 154 220 = some (4, .iload_n 2, []) by decide +kernel) rfl (fun _ _ _ => rfl) ?_
                  refine O_const (pc := 221) (pc' := 222) (v := 1) (show z_ptc 154 221 = some (222, 1) by decide +kernel) ?_
                  refine O_pure (pc := 222) (pc' := 223) (st' := [.int (((((((((0 + 1) + 1) + 1) + 1) + 1) + 1) + 1) : Int32) >>> ((1 : Int32) &&& 31)), .int ((97 : Int32) + (((((((((0 + 1) + 1) + 1) + 1) + 1) + 1) + 1) : Int32) &&& 1)), .int 16, .ref 0, .int ((31 : Int32) * (((31 : Int32) * (((31 : Int32) * (((31 : Int32) * (((31 : Int32) * (((31 : Int32) * (((31 : Int32) * (((31 : Int32) * k48) + q51.1)) + q54.1)) + q57.1)) + q60.1)) + q63.1)) + q66.1)) + q69.1))]) (show z_pt 154 222 = some (4, .ishr, []) by decide +kernel) rfl (fun _ _ _ => rfl) ?_
                  refine O_const (pc := 223) (pc' := 224) (v := 0) (show z_ptc 154 223 = some (224, 0) by decide +kernel) ?_
                  obtain ⟨q72, e73, h⟩ := z_bs h
                  refine O_call (E1 := 1) (E2 := 0) (pc := 224) (rr := [.int ((31 : Int32) * (((31 : Int32) * (((31 : Int32) * (((31 : Int32) * (((31 : Int32) * (((31 : Int32) * (((31 : Int32) * (((31 : Int32) * k48) + q51.1)) + q54.1)) + q57.1)) + q60.1)) + q63.1)) + q66.1)) + q69.1))]) (show z_pt 154 224 = some (4, .invokestatic 30, [5, 153, 5, 5112, 5113, 0, 1000, 5114]) by decide +kernel) rfl (show z_r3 5 153 = some (11, 6, true) by decide +kernel) rfl rfl (Or.inl (by decide)) (pL_act_run  e73) (by omega) (by omega) ?_
                  refine O_at2 (pc := 227) (st := [.int q72.1, .int ((31 : Int32) * (((31 : Int32) * (((31 : Int32) * (((31 : Int32) * (((31 : Int32) * (((31 : Int32) * (((31 : Int32) * (((31 : Int32) * k48) + q51.1)) + q54.1)) + q57.1)) + q60.1)) + q63.1)) + q66.1)) + q69.1))]) ?_
                  refine O_pure (pc := 227) (pc' := 228) (st' := [.int (((31 : Int32) * (((31 : Int32) * (((31 : Int32) * (((31 : Int32) * (((31 : Int32) * (((31 : Int32) * (((31 : Int32) * (((31 : Int32) * k48) + q51.1)) + q54.1)) + q57.1)) + q60.1)) + q63.1)) + q66.1)) + q69.1)) + q72.1)]) (show z_pt 154 227 = some (4, .iadd, []) by decide +kernel) rfl (fun _ _ _ => rfl) ?_
                  refine O_pure (pc := 228) (pc' := 229) (ls' := [(0, .ref 0), (1, .int (((31 : Int32) * (((31 : Int32) * (((31 : Int32) * (((31 : Int32) * (((31 : Int32) * (((31 : Int32) * (((31 : Int32) * (((31 : Int32) * k48) + q51.1)) + q54.1)) + q57.1)) + q60.1)) + q63.1)) + q66.1)) + q69.1)) + q72.1)), (2, .int (((((((0 + 1) + 1) + 1) + 1) + 1) + 1) + 1))]) (st' := []) (show z_pt 154 228 = some (4, .istore_n 1, []) by decide +kernel) rfl (fun _ _ _ => rfl) ?_
                  refine O_inc (pc := 229) (pc' := 232) (ls' := [(0, .ref 0), (1, .int (((31 : Int32) * (((31 : Int32) * (((31 : Int32) * (((31 : Int32) * (((31 : Int32) * (((31 : Int32) * (((31 : Int32) * (((31 : Int32) * k48) + q51.1)) + q54.1)) + q57.1)) + q60.1)) + q63.1)) + q66.1)) + q69.1)) + q72.1)), (2, .int ((((((((0 + 1) + 1) + 1) + 1) + 1) + 1) + 1) + 1))]) (c := 1) (show z_pt 154 229 = some (4, .iinc 2 1, []) by decide +kernel) (by decide) rfl rfl ?_
                  refine O_pure (pc := 232) (pc' := 201) (ls' := [(0, .ref 0), (1, .int (((31 : Int32) * (((31 : Int32) * (((31 : Int32) * (((31 : Int32) * (((31 : Int32) * (((31 : Int32) * (((31 : Int32) * (((31 : Int32) * k48) + q51.1)) + q54.1)) + q57.1)) + q60.1)) + q63.1)) + q66.1)) + q69.1)) + q72.1)), (2, .int ((((((((0 + 1) + 1) + 1) + 1) + 1) + 1) + 1) + 1))]) (st' := []) (show z_pt 154 232 = some (4, .goto (-31), [3]) by decide +kernel) rfl (fun _ _ _ => rfl) ?_
                  refine O_pure (pc := 201) (pc' := 202) (st' := [.int ((((((((0 + 1) + 1) + 1) + 1) + 1) + 1) + 1) + 1)]) (show z_pt 154 201 = some (4, .iload_n 2, []) by decide +kernel) rfl (fun _ _ _ => rfl) ?_
                  refine O_const (pc := 202) (pc' := 204) (v := 8) (show z_ptc 154 202 = some (204, 8) by decide +kernel) ?_
                  refine O_icmge (pc := 204) (t := 235) (show z_pt 154 204 = some (4, .if_icmp .ge 31, []) by decide +kernel) (by decide) (fun c74 => ?_) (fun c74 => ?_)
                  · skip
                    refine O_pure (pc := 235) (pc' := 236) (st' := [.int (((31 : Int32) * (((31 : Int32) * (((31 : Int32) * (((31 : Int32) * (((31 : Int32) * (((31 : Int32) * (((31 : Int32) * (((31 : Int32) * k48) + q51.1)) + q54.1)) + q57.1)) + q60.1)) + q63.1)) + q66.1)) + q69.1)) + q72.1)]) (show z_pt 154 235 = some (4, .iload_n 1, []) by decide +kernel) rfl (fun _ _ _ => rfl) ?_
                    cases h
                    exact O_retI (show z_pt 154 236 = some (4, .ireturn, []) by decide +kernel) (by decide +kernel)
                  · exact absurd c74 (by decide)
end ZOWN
