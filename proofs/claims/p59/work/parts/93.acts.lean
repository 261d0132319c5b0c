/-! The commands carried out one after another, in both. -/
section ZACS
section
variable {N : Nat} {kd : Nat → Int32} {a : Nat → Nat} {v : Nat → Nat → Int32}
/-- the commands of the text lie in both memories -/
def w_dat (N : Nat) (kd : Nat → Int32) (a : Nat → Nat) (v : Nat → Nat → Int32) (μ ν : z_Mem) : Prop := N ≤ 9 ∧ μ 34 1 = Int32.ofNat N ∧ ∀ i, i < N → w_kd (kd i) (a i) (v i) ∧ μ 35 i = kd i ∧ (∀ x, x < a i → μ 36 (3 * i + x) = v i x) ∧ ν 250 (4 * i) = kd i ∧ ∀ x, x < a i → ν 250 (4 * i + 1 + x) = v i x
theorem w_dat_k {μ μ' ν ν' : z_Mem} (h : w_dat N kd a v μ ν) (h1 : w_frC μ μ') (h2 : w_frM ν ν') : w_dat N kd a v μ' ν' := by
  obtain ⟨d1, d2, d3⟩ := h
  refine ⟨d1, by rw [h1 34 (by omega)]; exact d2, fun i hi => ?_⟩
  rw [h1 35 (by omega), h1 36 (by omega), h2.1 250 (by decide) (by decide) (by decide) (by decide)]
  exact d3 i hi
theorem w_frC_t {μ μ1 μ2 : z_Mem} (h : w_frC μ μ1) (h2 : w_frC μ1 μ2) : w_frC μ μ2 := fun k hk => (h2 k hk).trans (h k hk)
theorem w_frM_t {μ μ1 μ2 : z_Mem} (h : w_frM μ μ1) (h2 : w_frM μ1 μ2) : w_frM μ μ2 := ⟨fun k a b c d => (h2.1 k a b c d).trans (h.1 k a b c d), fun j hj => (h2.2 j hj).trans (h.2 j hj)⟩
end
end ZACS
