/-! Feeding, undoing, saving, restoring. -/
section ZKEE
theorem w_core3 {n : Nat} {μ μ' : z_Mem} (h : ∀ k, (1 ≤ k ∧ k ≤ 20) ∨ (37 ≤ k ∧ k < 239) ∨ k = 242 ∨ k = 244 ∨ k = 245 → μ' k = μ k) (h3 : μ' 241 3 = μ 241 3) (h5 : μ' 241 5 = μ 241 5) (h07 : μ' 0 7 = μ 0 7) (I1 : w_Rel n (w_st μ 1) (μ 242)) (hS : w_Sv n μ) (hU : ∃ k o, w_Un n μ k o) : w_Rel n (w_st μ' 1) (μ' 242) ∧ w_Sv n μ' ∧ ∃ k o, w_Un n μ' k o := by
  obtain ⟨k, o, u1, u2, u3, u4, u5, u6⟩ := hU
  refine ⟨w_Rel_same (fun q j hj => ?_) (fun j _ => by rw [h 242 (by omega)]) I1, ⟨by rw [h07, h5]; exact hS.1, ?_⟩, k, o, by rw [h 57 (by omega)]; exact u1, by rw [h3]; exact u2, u3, by rw [h 57 (by omega)]; exact u4, u5, fun i hi => ?_⟩
  · have := w_sz_lt hj
    unfold w_st
    rw [h _ (by omega)]
  · rw [h07]
    refine hS.2.imp_right (fun q => ⟨q.1, w_Rel_same (fun k j hj => ?_) (fun j _ => by rw [h 245 (by omega)]) q.2⟩)
    have := w_sz_lt hj
    unfold w_st
    rw [h _ (by omega)]
  · refine w_Rel_same (fun q j hj => ?_) (fun j _ => ?_) (u6 i hi)
    · have := w_sz_lt hj
      unfold w_st
      rw [h _ (by omega)]
    · rw [h 244 (by omega)]
end ZKEE
