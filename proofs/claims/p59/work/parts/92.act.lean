/-! One command carried out, in both. -/
section ZACT
theorem w_chf : (List.range 128).all (fun c => vp_nar .char (Int32.ofNat c) = Int32.ofNat c ∧ (((Int32.ofNat c).toUInt32 % 65536).toInt32) = Int32.ofNat c) = true := by decide +kernel
theorem w_ch1 {c : Nat} (h : c < 128) : vp_nar .char (Int32.ofNat c) = Int32.ofNat c ∧ (((Int32.ofNat c).toUInt32 % 65536).toInt32) = Int32.ofNat c := by
  have h1 := List.all_eq_true.mp w_chf c (List.mem_range.mpr h)
  exact of_decide_eq_true h1
section
variable {μ ν : z_Mem} {N i : Nat}
theorem w_vOf (hN : N ≤ 9) (hc : μ 34 1 = Int32.ofNat N) (hi : i < N) {j : Nat} (hj : j ≤ 2) : pR_valueOf μ (Int32.ofNat i) (Int32.ofNat j) = some (μ 36 (3 * i + j)) := by
  unfold pR_valueOf
  rw [if_neg (w_n0 (by omega)), hc, if_neg (fun q => by have := (w_le (by omega) (by omega)).mp q; omega), show Int32.ofNat i * 3 = Int32.ofNat (i * 3) from w_mr, w_aa, w_rdn (by omega) (by omega), show i * 3 + j = 3 * i + j by omega]
  rfl
theorem w_kOf (hN : N ≤ 9) (hc : μ 34 1 = Int32.ofNat N) (hi : i < N) : pR_kindOf μ (Int32.ofNat i) = some (μ 35 i) := by
  unfold pR_kindOf
  rw [if_neg (w_n0 (by omega)), hc, if_neg (fun q => by have := (w_le (by omega) (by omega)).mp q; omega), w_rdn (by omega) (by omega)]
  rfl
theorem w_cAct {n m : Nat} (hn : n ≤ 1000000) (hm : n + 99 ≤ m) (H : w_Rel n (w_st μ 1) (ν 242)) (hN : N ≤ 9) (hc : μ 34 1 = Int32.ofNat N) (hi : i < N) {kd : Int32} {a : Nat} {v : Nat → Int32} (hK : w_kd kd a v) (h35 : μ 35 i = kd) (h36 : ∀ x, x < a → μ 36 (3 * i + x) = v x) (g35 : ν 250 (4 * i) = kd) (g36 : ∀ x, x < a → ν 250 (4 * i + 1 + x) = v x) : ∃ es ac μ' b ν', pG_perform μ (Int32.ofNat i) = some (ac, μ') ∧ pm_carriesOut ν (Int32.ofNat (4 * i)) = some (b, ν') ∧ w_Core m es ac μ μ' b ν ν' := by
  have e : pG_perform μ (Int32.ofNat i) = (if kd = 103 then (pG_tryGear μ (μ 36 (3 * i + 0))).bind fun q10 => some (q10.1, q10.2) else if kd = 104 then (pG_tryHours μ (μ 36 (3 * i + 0))).bind fun q13 => some (q13.1, q13.2) else if kd = 109 then (pG_tryMesh μ (μ 36 (3 * i + 0)) (μ 36 (3 * i + 1)) (μ 36 (3 * i + 2))).bind fun q16 => some (q16.1, q16.2) else if kd = 110 then (pG_tryEntry μ ((((μ 36 (3 * i + 0)) : Int32).toUInt32 % 65536).toInt32) (μ 36 (3 * i + 1))).bind fun q19 => some (q19.1, q19.2) else if kd = 116 then (pG_tryTurn μ (μ 36 (3 * i + 0)) (μ 36 (3 * i + 1))).bind fun q22 => some (q22.1, q22.2) else if kd = 119 then (pG_tryWheel μ (μ 36 (3 * i + 0)) (μ 36 (3 * i + 1))).bind fun q25 => some (q25.1, q25.2) else some ((-3), μ)) := by
    unfold pG_perform
    rw [show pR_valueOf μ (Int32.ofNat i) 0 = _ from w_vOf hN hc hi (j := 0) (by omega), show pR_valueOf μ (Int32.ofNat i) 1 = _ from w_vOf hN hc hi (j := 1) (by omega), show pR_valueOf μ (Int32.ofNat i) 2 = _ from w_vOf hN hc hi (j := 2) (by omega), w_kOf hN hc hi, h35]
    rfl
  have e2 : pm_carriesOut ν (Int32.ofNat (4 * i)) = (if kd = 103 then (pm_addsGear ν (ν 250 (4 * i + 1))).bind fun q8 => some (q8.1, q8.2) else if kd = 109 then (z_rd ν 250 240 (Int32.ofNat (4 * i) + 3)).bind fun v11 => (pm_joins ν (ν 250 (4 * i + 1)) (ν 250 (4 * i + 2)) v11).bind fun q13 => some (q13.1, q13.2) else if kd = 110 then (pm_notes ν (ν 250 (4 * i + 1)) (ν 250 (4 * i + 2))).bind fun q16 => some (q16.1, q16.2) else if kd = 116 then (pm_turns ν (ν 250 (4 * i + 1)) (ν 250 (4 * i + 2))).bind fun q19 => some (q19.1, q19.2) else if kd = 119 then (pm_addsWheel ν (ν 250 (4 * i + 1)) (ν 250 (4 * i + 2))).bind fun q22 => some (q22.1, q22.2) else (pm_passes ν (ν 250 (4 * i + 1))).bind fun q24 => some (q24.1, q24.2)) := by
    unfold pm_carriesOut
    rw [show Int32.ofNat (4 * i) + 1 = Int32.ofNat (4 * i + 1) from w_ar2, show Int32.ofNat (4 * i) + 2 = Int32.ofNat (4 * i + 2) from w_ar2, w_rdn (j := 4 * i + 1) (by omega) (by omega), w_rdn (j := 4 * i + 2) (by omega) (by omega), w_rdn (j := 4 * i) (by omega) (by omega), g35]
    rfl
  rw [e, e2]
  rcases hK with ⟨rfl, rfl⟩ | ⟨rfl, rfl⟩ | ⟨rfl, rfl⟩ | ⟨rfl, rfl, l1, l2⟩ | ⟨rfl, rfl⟩ | ⟨rfl, rfl⟩
  · rw [if_pos rfl, if_pos rfl, h36 0 (by omega), show ν 250 (4 * i + 1) = v 0 from g36 0 (by omega)]
    obtain ⟨ac, μ', b, ν', x1, x2, x3⟩ := w_cGear (n := n) (m := m) (by omega) (v 0) μ ν H
    rw [x1, x2]
    exact ⟨_, ac, μ', b, ν', rfl, rfl, x3⟩
  · rw [if_neg (show ¬ (104 : Int32) = 103 by decide), if_pos rfl, if_neg (show ¬ (104 : Int32) = 103 by decide), if_neg (show ¬ (104 : Int32) = 109 by decide), if_neg (show ¬ (104 : Int32) = 110 by decide), if_neg (show ¬ (104 : Int32) = 116 by decide), if_neg (show ¬ (104 : Int32) = 119 by decide), h36 0 (by omega), show ν 250 (4 * i + 1) = v 0 from g36 0 (by omega)]
    obtain ⟨ac, μ', b, ν', x1, x2, x3⟩ := w_cHours (n := n) (m := m) hn hm (v 0) μ ν H
    rw [x1, x2]
    exact ⟨_, ac, μ', b, ν', rfl, rfl, x3⟩
  · rw [if_neg (show ¬ (109 : Int32) = 103 by decide), if_neg (show ¬ (109 : Int32) = 104 by decide), if_pos rfl, if_neg (show ¬ (109 : Int32) = 103 by decide), if_pos rfl, h36 0 (by omega), h36 1 (by omega), h36 2 (by omega), show ν 250 (4 * i + 1) = v 0 from g36 0 (by omega), show ν 250 (4 * i + 2) = v 1 from g36 1 (by omega), show Int32.ofNat (4 * i) + 3 = Int32.ofNat (4 * i + 3) from w_ar2, w_rdn (by omega) (by omega), show ν 250 (4 * i + 3) = v 2 from g36 2 (by omega)]
    obtain ⟨ac, μ', b, ν', x1, x2, x3⟩ := w_cMesh (n := n) (m := m) (by omega) (v 0) (v 1) (v 2) μ ν H
    dsimp only [Option.bind_some]
    rw [x1, x2]
    exact ⟨_, ac, μ', b, ν', rfl, rfl, x3⟩
  · obtain ⟨ch, hch, hv⟩ : ∃ ch, ch < 128 ∧ v 0 = Int32.ofNat ch := by
      obtain ⟨ch, h1, h2⟩ := w_nat (i := v 0) (Int32.le_trans (by decide) l1)
      rw [h2] at l2
      have : ch ≤ 122 := (w_ler (k := 122) (by decide) h1).mp l2
      exact ⟨ch, by omega, h2⟩
    rw [if_neg (show ¬ (110 : Int32) = 103 by decide), if_neg (show ¬ (110 : Int32) = 104 by decide), if_neg (show ¬ (110 : Int32) = 109 by decide), if_pos rfl, if_neg (show ¬ (110 : Int32) = 103 by decide), if_neg (show ¬ (110 : Int32) = 109 by decide), if_pos rfl, h36 0 (by omega), h36 1 (by omega), show ν 250 (4 * i + 1) = v 0 from g36 0 (by omega), show ν 250 (4 * i + 2) = v 1 from g36 1 (by omega), hv, (w_ch1 hch).2]
    obtain ⟨ac, μ', b, ν', x1, x2, x3⟩ := w_cEntry (n := n) (m := m) (by omega) (Int32.ofNat ch) (v 1) μ ν H
    rw [x1, x2]
    exact ⟨_, ac, μ', b, ν', rfl, rfl, x3⟩
  · rw [if_neg (show ¬ (116 : Int32) = 103 by decide), if_neg (show ¬ (116 : Int32) = 104 by decide), if_neg (show ¬ (116 : Int32) = 109 by decide), if_neg (show ¬ (116 : Int32) = 110 by decide), if_pos rfl, if_neg (show ¬ (116 : Int32) = 103 by decide), if_neg (show ¬ (116 : Int32) = 109 by decide), if_neg (show ¬ (116 : Int32) = 110 by decide), if_pos rfl, h36 0 (by omega), h36 1 (by omega), show ν 250 (4 * i + 1) = v 0 from g36 0 (by omega), show ν 250 (4 * i + 2) = v 1 from g36 1 (by omega)]
    obtain ⟨ac, μ', b, ν', x1, x2, x3⟩ := w_cTurn (n := n) (m := m) hn hm (v 0) (v 1) μ ν H
    rw [x1, x2]
    exact ⟨_, ac, μ', b, ν', rfl, rfl, x3⟩
  · rw [if_neg (show ¬ (119 : Int32) = 103 by decide), if_neg (show ¬ (119 : Int32) = 104 by decide), if_neg (show ¬ (119 : Int32) = 109 by decide), if_neg (show ¬ (119 : Int32) = 110 by decide), if_neg (show ¬ (119 : Int32) = 116 by decide), if_pos rfl, if_neg (show ¬ (119 : Int32) = 103 by decide), if_neg (show ¬ (119 : Int32) = 109 by decide), if_neg (show ¬ (119 : Int32) = 110 by decide), if_neg (show ¬ (119 : Int32) = 116 by decide), if_pos rfl, h36 0 (by omega), h36 1 (by omega), show ν 250 (4 * i + 1) = v 0 from g36 0 (by omega), show ν 250 (4 * i + 2) = v 1 from g36 1 (by omega)]
    obtain ⟨ac, μ', b, ν', x1, x2, x3⟩ := w_cWheel (n := n) (m := m) (by omega) (v 0) (v 1) μ ν H
    rw [x1, x2]
    exact ⟨_, ac, μ', b, ν', rfl, rfl, x3⟩
end
end ZACT
