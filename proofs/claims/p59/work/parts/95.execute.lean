/-! Executing the text, in both. -/
section ZEXE
theorem w_pfD {μ : z_Mem} : pG_performUpToFailure μ = pG_performUpToFailure_L2 z_fu (fun M6 k5 => some ((M6 34 1), M6)) μ (Int32.ofNat 0) := rfl
theorem w_tkB {μ : z_Mem} {o : Nat} (h : μ 57 1 = Int32.ofNat o) (ho : o < 9) : ∃ μ', pH_takeBack μ = some μ' ∧ (∀ q, ¬ (1 ≤ q ∧ q < 21) → μ' q = μ q) ∧ w_same (w_st μ (59 + 20 * o)) (w_st μ' 1) := by
  obtain ⟨μ', e1, e2, e3⟩ := w_copyA (μ := μ) (t := 1) (u := 59 + 20 * o) (by omega)
  refine ⟨μ', ?_, fun q hq => e2 q (by omega), e3⟩
  unfold pH_takeBack
  rw [h, if_pos ((w_inn (by omega)).mpr (by omega))]
  dsimp only [Option.bind_some]
  unfold z_rg
  rw [w_tn (by omega), e1]
  rfl
end ZEXE
