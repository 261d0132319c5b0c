/-! Any one command read, in both. -/
section ZONE
section
variable {μ0 ν0 : z_Mem} {t s k : Nat}
theorem w_bs {α : Type} {x : Option α} : (x.bind fun q => some q) = x := by cases x <;> rfl
theorem w_n4 {ν : z_Mem} {a b c d : Nat} {α : Type} {H : z_Mem → Option α} : ((w_nds [a, b, c, d] ν).bind H) = (pm_needsThree ν (Int32.ofNat a) (Int32.ofNat b) (Int32.ofNat c)).bind fun q => (pm_needs q (Int32.ofNat d)).bind H := by
  rw [w_n3]
  simp only [w_nds, Option.bind_assoc, Option.bind_some]
theorem w_cmd_of {kd : Int32} {P : z_Mem → Option (Int32 × z_Mem)} {Q : z_Mem → Option z_Mem} (hC : ∀ μ, w_PC μ0 s k μ → pR_readCommand μ = P (z_u μ 35 k kd)) (hR : ∀ ν, w_PM ν0 s 0 ν → pm_parsesCommand ν (Int32.ofNat (4 * k)) = Q (z_u (z_u ν 241 15 (Int32.ofNat (s + 1))) 250 (4 * k) kd)) (h : w_cmT μ0 ν0 t s k kd P Q) : w_cmd μ0 ν0 t s k pR_readCommand (fun ν => pm_parsesCommand ν (Int32.ofNat (4 * k))) := by
  obtain ⟨o, s', a, v, h1, h2, h3, h4⟩ := h
  refine ⟨o, s', kd, a, v, h1, h2, fun μ hp => ?_, fun ν hp => ?_⟩
  · obtain ⟨μ', a1, a2, a3, a4, a5⟩ := h3 _ (w_PC_k hp (j := k) (v := kd))
    refine ⟨μ', (hC μ hp).trans a1, a2, fun j hj => ?_, fun j hj => ?_, fun ho => ⟨?_, a5 ho⟩⟩
    · rw [a3, w_u_at hj]
    · rw [a4 j hj, w_u_ne (by decide)]
    · rw [a3, w_u_eq]
  · obtain ⟨ν', a1, a2, a3, a4⟩ := h4 _ (w_PM_v (w_PM_s hp (s' := s + 1)) (j := 4 * k) (v := kd))
    refine ⟨ν', (hR ν hp).trans a1, a2, fun j hj => ?_, fun ho => ⟨?_, a4 ho⟩⟩
    · rw [a3 j (by omega), w_u_at (by omega), w_u_ne (by decide)]
    · rw [a3 _ (Nat.le_refl _), w_u_eq]
theorem w_pcS (hM : w_TM ν0 (μ0 22) t) (hT : w_Tx (μ0 22) t) (hs : s ≤ t) (hk : k ≤ 8) {ν : z_Mem} (h : w_PM ν0 s 0 ν) : pm_here ν = some (w_ah (μ0 22) t s) ∧ z_inb (Int32.ofNat (4 * k)) 240 = true ∧ (Int32.ofNat (4 * k)).toNatClampNeg = 4 * k ∧ ν 241 15 + 1 = Int32.ofNat (s + 1) :=
  ⟨w_hr hM hT h hs, (w_inn (by omega)).mpr (by omega), w_tn (by omega), by rw [h.1]; exact w_ar2⟩
theorem w_cmdAll (ht : μ0 21 0 = Int32.ofNat t) (hT : w_Tx (μ0 22) t) (hM : w_TM ν0 (μ0 22) t) (hs : s ≤ t) (hk : k ≤ 8) : w_cmd μ0 ν0 t s k pR_readCommand (fun ν => pm_parsesCommand ν (Int32.ofNat (4 * k))) := by
  have hC := fun μ (h : w_PC μ0 s k μ) => (w_rcS ht hT hs hk h).2
  have hR := fun ν (h : w_PM ν0 s 0 ν) => w_pcS hM hT hs hk h
  by_cases h1 : w_ah (μ0 22) t s = 103
  · refine w_cmd_of (kd := 103) (fun μ hp => ?_) (fun ν hp => ?_) (w_tG ht hT hM hs hk (sj := 0) (c1 := 101) (c2 := 97) (c3 := 114) (Or.inl rfl) rfl (by decide) h1)
    · rw [hC μ hp, h1]
      dsimp only
      rw [if_pos rfl]
      rfl
    · obtain ⟨r1, r2, r3, r4⟩ := hR ν hp
      unfold pm_parsesCommand
      rw [r1]
      dsimp only [Option.bind_some]
      rw [if_pos r2, if_pos h1, r3, r4, h1]
      rfl
  by_cases h2 : w_ah (μ0 22) t s = 104
  · refine w_cmd_of (kd := 104) (fun μ hp => ?_) (fun ν hp => ?_) (w_tG ht hT hM hs hk (sj := 5) (c1 := 111) (c2 := 117) (c3 := 114) (Or.inr rfl) rfl (by decide) h2)
    · rw [hC μ hp, h2]
      dsimp only
      rw [if_neg (show ¬ (104 : Int32) = 103 by decide), if_pos rfl]
      rfl
    · obtain ⟨r1, r2, r3, r4⟩ := hR ν hp
      unfold pm_parsesCommand
      rw [r1]
      dsimp only [Option.bind_some]
      rw [if_pos r2, if_neg h1, if_pos h2, r3, r4, h2]
      rfl
  by_cases h3 : w_ah (μ0 22) t s = 109
  · refine w_cmd_of (kd := 109) (fun μ hp => ?_) (fun ν hp => ?_) (w_tM ht hT hM hs hk h3)
    · rw [hC μ hp, h3]
      dsimp only
      rw [if_neg (show ¬ (109 : Int32) = 103 by decide), if_neg (show ¬ (109 : Int32) = 104 by decide), if_pos rfl]
      rfl
    · obtain ⟨r1, r2, r3, r4⟩ := hR ν hp
      unfold pm_parsesCommand
      rw [r1]
      dsimp only [Option.bind_some]
      rw [if_pos r2, if_neg h1, if_neg h2, if_pos h3, r3, r4, h3]
      rfl
  by_cases h4 : w_ah (μ0 22) t s = 110
  · refine w_cmd_of (kd := 110) (fun μ hp => ?_) (fun ν hp => ?_) (w_tN ht hT hM hs hk h4)
    · rw [hC μ hp, h4]
      dsimp only
      rw [if_neg (show ¬ (110 : Int32) = 103 by decide), if_neg (show ¬ (110 : Int32) = 104 by decide), if_neg (show ¬ (110 : Int32) = 109 by decide), if_pos rfl]
      rfl
    · obtain ⟨r1, r2, r3, r4⟩ := hR ν hp
      unfold pm_parsesCommand
      rw [r1]
      dsimp only [Option.bind_some]
      rw [if_pos r2, if_neg h1, if_neg h2, if_neg h3, if_pos h4, r3, r4, h4, w_bs]
      rfl
  by_cases h5 : w_ah (μ0 22) t s = 116
  · refine w_cmd_of (kd := 116) (fun μ hp => ?_) (fun ν hp => ?_) (w_tT ht hT hM hs hk h5)
    · rw [hC μ hp, h5]
      dsimp only
      rw [if_neg (show ¬ (116 : Int32) = 103 by decide), if_neg (show ¬ (116 : Int32) = 104 by decide), if_neg (show ¬ (116 : Int32) = 109 by decide), if_neg (show ¬ (116 : Int32) = 110 by decide), if_pos rfl]
      rfl
    · obtain ⟨r1, r2, r3, r4⟩ := hR ν hp
      unfold pm_parsesCommand
      rw [r1]
      dsimp only [Option.bind_some]
      rw [if_pos r2, if_neg h1, if_neg h2, if_neg h3, if_neg h4, if_pos h5, r3, r4, h5, w_bs]
      rfl
  by_cases h6 : w_ah (μ0 22) t s = 119
  · refine w_cmd_of (kd := 119) (fun μ hp => ?_) (fun ν hp => ?_) (w_tH ht hT hM hs hk h6)
    · rw [hC μ hp, h6]
      dsimp only
      rw [if_neg (show ¬ (119 : Int32) = 103 by decide), if_neg (show ¬ (119 : Int32) = 104 by decide), if_neg (show ¬ (119 : Int32) = 109 by decide), if_neg (show ¬ (119 : Int32) = 110 by decide), if_neg (show ¬ (119 : Int32) = 116 by decide), if_pos rfl]
      rfl
    · obtain ⟨r1, r2, r3, r4⟩ := hR ν hp
      unfold pm_parsesCommand
      rw [r1]
      dsimp only [Option.bind_some]
      rw [if_pos r2, if_neg h1, if_neg h2, if_neg h3, if_neg h4, if_neg h5, if_pos h6, r3, r4, h6, w_n4]
      rfl
  refine ⟨false, s, 0, 0, fun _ => 0, hs, (fun h => by cases h), fun μ hp => ?_, fun ν hp => ?_⟩
  · refine ⟨z_u μ 35 k (w_ah (μ0 22) t s), ?_, w_PC_k hp, fun j hj => w_u_at hj, fun j hj => by rw [w_u_ne (by decide)], fun h => by cases h⟩
    rw [hC μ hp]
    dsimp only
    rw [if_neg h1, if_neg h2, if_neg h3, if_neg h4, if_neg h5, if_neg h6]
    rfl
  · obtain ⟨r1, r2, r3, r4⟩ := hR ν hp
    refine ⟨z_u (z_u (z_u (z_u ν 241 15 (Int32.ofNat (s + 1))) 250 (4 * k) (w_ah (μ0 22) t s)) 241 16 1) 241 15 (Int32.ofNat s), ?_, w_PM_s (w_PM_w (w_PM_v (w_PM_s hp (s' := s + 1))) (w' := 1)), fun j hj => ?_, fun h => by cases h⟩
    · show pm_parsesCommand ν (Int32.ofNat (4 * k)) = _
      unfold pm_parsesCommand
      rw [r1]
      dsimp only [Option.bind_some]
      rw [if_pos r2, if_neg h1, if_neg h2, if_neg h3, if_neg h4, if_neg h5, if_neg h6, r3, r4, w_u_at (by decide : (15 : Nat) ≠ 16), w_u_ne (by decide : (241 : Nat) ≠ 250), w_u_eq, show Int32.ofNat (s + 1) - 1 = Int32.ofNat (s + 1 - 1) from w_sr (k := 1) (Nat.le_add_left _ _)]
      rfl
    · rw [w_u_ne (by decide), w_u_ne (by decide), w_u_at (by omega), w_u_ne (by decide)]
end
end ZONE
