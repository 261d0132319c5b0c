/-! The first memory. -/
section ZINI
theorem i_z1 : ([(2, 0), (2, 1), (2, 2), (9, 0), (12, 0), (12, 1), (12, 2), (16, 0), (21, 0), (57, 0), (57, 1)] : List (Nat × Nat)).all (fun q => decide (z_mu0 q.1 q.2 = 0)) = true := by decide +kernel
theorem i_z2 : (List.range 10).all (fun j => decide (z_mu0 3 j = 0) && decide (z_mu0 4 j = 0)) = true := by decide +kernel
theorem i_RelZ {μ : z_Mem} {g : Nat → Int32} (g0 : ∀ j, j < 331 → g j = 0) (c0 : ∀ a j, (a, j) ∈ ([(2, 0), (2, 1), (2, 2), (9, 0), (12, 0), (12, 1), (12, 2), (16, 0), (21, 0), (57, 0), (57, 1)] : List (Nat × Nat)) → μ a j = 0) (c1 : ∀ j, j < 10 → μ 3 j = 0 ∧ μ 4 j = 0) : w_RelN 0 (w_st μ 1) g 0 0 0 0 0 := by
  refine ⟨⟨?_, ?_, by decide, fun i hi => ?_, fun i hi => ?_, fun i hi => absurd hi (Nat.not_lt_zero _), fun i _ hi => g0 _ (by omega), ?_⟩, ⟨?_, by decide, fun i hi => absurd hi (Nat.not_lt_zero _), fun i j hi => absurd hi (Nat.not_lt_zero _), fun a b hab hb => Or.inl ?_⟩, fun i hi => absurd hi (Nat.not_lt_zero _), ⟨?_, ?_, by decide, fun i hi => absurd hi (Nat.not_lt_zero _)⟩, ⟨?_, ?_, by decide, ?_, ?_, fun i hi => absurd hi (Nat.not_lt_zero _)⟩, ⟨?_, ?_, by decide, fun i hi => absurd hi (Nat.not_lt_zero _), fun i hi => absurd hi (Nat.not_lt_zero _), fun i hi => absurd hi (Nat.not_lt_zero _), fun i j hi => absurd hi (Nat.not_lt_zero _), fun i j hi => absurd hi (Nat.not_lt_zero _)⟩, ⟨fun i hi => ?_, ?_, ?_⟩⟩
  · exact c0 2 0 (by decide)
  · exact g0 _ (by decide)
  · show μ 3 i = _
    rw [(c1 i hi).1, g0 _ (by omega)]
  · show μ 4 i = _
    rw [(c1 i hi).2, g0 _ (by omega)]
  · show μ 2 2 = _
    rw [c0 2 2 (by decide), g0 _ (by decide)]
  · exact c0 2 1 (by decide)
  · have := w_pr_lt (a := a) (b := b) (by omega) hb
    exact g0 _ (by omega)
  · exact c0 9 0 (by decide)
  · exact g0 _ (by decide)
  · exact c0 12 0 (by decide)
  · exact g0 _ (by decide)
  · show μ 12 1 = _
    rw [c0 12 1 (by decide), g0 _ (by decide)]
  · show μ 12 2 = _
    rw [c0 12 2 (by decide), g0 _ (by decide)]
  · exact c0 16 0 (by decide)
  · exact g0 _ (by decide)
  · rw [g0 _ (by omega)]
    decide
  · rw [g0 _ (by decide)]
    decide
  · rw [g0 _ (by decide)]
    decide
theorem i_c0 (a j : Nat) (h : (a, j) ∈ ([(2, 0), (2, 1), (2, 2), (9, 0), (12, 0), (12, 1), (12, 2), (16, 0), (21, 0), (57, 0), (57, 1)] : List (Nat × Nat))) : z_mu0 a j = 0 := of_decide_eq_true (List.all_eq_true.mp i_z1 (a, j) h)
theorem i_Bz : Bz 0 z_mu0 := by
  refine ⟨⟨fun _ => 0, 0, 0, 0, 0, 0, i_RelZ (fun _ _ => rfl) i_c0 (fun j h => ?_)⟩, ⟨0, 0, i_c0 57 0 (by decide), by decide, i_c0 57 1 (by decide), by decide⟩, i_c0 21 0 (by decide)⟩
  have := List.all_eq_true.mp i_z2 j (List.mem_range.mpr h)
  rw [Bool.and_eq_true] at this
  exact ⟨of_decide_eq_true this.1, of_decide_eq_true this.2⟩
theorem i_build (S : Int32 → Int32) : ∃ r, pB S z_mu0 = some r ∧ (Bz 20000 r ∧ 4 ≤ r 2 0) := b_build i_Bz (by rw [i_c0 2 0 (by decide)]; exact Int32.le_refl _)
end ZINI
