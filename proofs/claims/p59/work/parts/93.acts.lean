/-! The commands carried out one after another, in both. -/
section ZACS
section
variable {N : Nat} {kd : Nat → Int32} {a : Nat → Nat} {v : Nat → Nat → Int32}
/-- the commands of the text lie in both memories -/
def w_dat (N : Nat) (kd : Nat → Int32) (a : Nat → Nat) (v : Nat → Nat → Int32) (μ ν : z_Mem) : Prop := N ≤ 9 ∧ μ 34 1 = Int32.ofNat N ∧ ∀ i, i < N → w_kd (kd i) (a i) (v i) ∧ μ 35 i = kd i ∧ (∀ x, x < a i → μ 36 (3 * i + x) = v i x) ∧ ν 250 (4 * i) = kd i ∧ ∀ x, x < a i → ν 250 (4 * i + 1 + x) = v i x
theorem w_dat_k {μ μ' ν ν' : z_Mem} (h : w_dat N kd a v μ ν) (h1 : w_frC μ μ') (h2 : w_frM ν ν') : w_dat N kd a v μ' ν' := by
  obtain ⟨d1, d2, d3⟩ := h
  refine ⟨d1, by rw [h1 34 (by omega)]; exact d2, fun i hi => ?_⟩
  rw [h1 35 (by omega), h1 36 (by omega), h2.1 250 (by decide) (by decide) (by decide) (by decide)]
  exact d3 i hi
theorem w_frC_t {μ μ1 μ2 : z_Mem} (h : w_frC μ μ1) (h2 : w_frC μ1 μ2) : w_frC μ μ2 := fun k hk => (h2 k hk).trans (h k hk)
theorem w_frM_t {μ μ1 μ2 : z_Mem} (h : w_frM μ μ1) (h2 : w_frM μ1 μ2) : w_frM μ μ2 := ⟨fun k a b c d => (h2.1 k a b c d).trans (h.1 k a b c d), fun j hj => (h2.2 j hj).trans (h.2 j hj)⟩
theorem w_acts {K : z_Mem → Int32 → Option (Int32 × z_Mem)} {f2 : Int32} : ∀ (d i f g n : Nat) (μ ν : z_Mem), i + d = N → d < f → d < g → n + 99 * d ≤ 1000000 → w_Rel n (w_st μ 1) (ν 242) → w_dat N kd a v μ ν → 
    ∃ μ' ν', w_frC μ μ' ∧ w_frM ν ν' ∧ ((pG_performUpToFailure_L2 f (fun M6 k5 => some ((M6 34 1), M6)) μ (Int32.ofNat i) = some (Int32.ofNat N, μ') ∧ pm_execute_L130 g (Int32.ofNat N) f2 K ν (Int32.ofNat i) = K ν' (Int32.ofNat N) ∧ w_Rel (n + 99 * d) (w_st μ' 1) (ν' 242)) ∨
      ∃ j b, j < N ∧ pG_performUpToFailure_L2 f (fun M6 k5 => some ((M6 34 1), M6)) μ (Int32.ofNat i) = some (Int32.ofNat j, μ') ∧ pm_execute_L130 g (Int32.ofNat N) f2 K ν (Int32.ofNat i) = ((pm_kept (z_u (z_u ν' 241 9 (Int32.ofNat j)) 241 12 2) b).bind fun q22 => some (q22.1, q22.2))) := by
  intro d
  induction d with
  | zero =>
    intro i f g n μ ν hi hf hg hn H D
    have hN := D.1
    obtain ⟨f, rfl⟩ : ∃ x, f = x + 1 := ⟨f - 1, by omega⟩
    obtain ⟨g, rfl⟩ : ∃ x, g = x + 1 := ⟨g - 1, by omega⟩
    refine ⟨μ, ν, w_frC_rfl, ⟨fun _ _ _ _ _ => rfl, fun _ _ => rfl⟩, Or.inl ⟨?_, ?_, H⟩⟩
    · show pG_performUpToFailure_L2_B (pG_performUpToFailure_L2 f (fun M6 k5 => some ((M6 34 1), M6))) (fun M6 k5 => some ((M6 34 1), M6)) μ (Int32.ofNat i) = _
      unfold pG_performUpToFailure_L2_B
      rw [D.2.1, if_pos ((w_le (by omega) (by omega)).mpr (by omega))]
      show some (μ 34 1, μ) = _
      rw [D.2.1]
    · show pm_execute_L130_B (pm_execute_L130 g (Int32.ofNat N) f2 K) (Int32.ofNat N) f2 K ν (Int32.ofNat i) = _
      unfold pm_execute_L130_B
      rw [if_pos ((w_le (by omega) (by omega)).mpr (by omega)), show i = N by omega]
  | succ d ih =>
    intro i f g n μ ν hi hf hg hn H D
    have hN := D.1
    obtain ⟨f, rfl⟩ : ∃ x, f = x + 1 := ⟨f - 1, by omega⟩
    obtain ⟨g, rfl⟩ : ∃ x, g = x + 1 := ⟨g - 1, by omega⟩
    obtain ⟨k1, k2, k3, k4, k5⟩ := D.2.2 i (by omega)
    obtain ⟨es, ac, μ1, b, ν1, x1, x2, x3, x4, x5⟩ := w_cAct (n := n) (m := n + 99) (by omega) (Nat.le_refl _) H hN D.2.1 (show i < N by omega) k1 k2 k3 k4 k5
    have eC : ∀ (R : z_Mem → Int32 → Option (Int32 × z_Mem)) (K' : z_Mem → Int32 → Option (Int32 × z_Mem)), pG_performUpToFailure_L2_B R K' μ (Int32.ofNat i) = if 0 ≤ ac then R μ1 (Int32.ofNat (i + 1)) else some (Int32.ofNat i, μ1) := fun R K' => by
      unfold pG_performUpToFailure_L2_B
      rw [D.2.1, if_neg (fun q => by have := (w_le (by omega) (by omega)).mp q; omega), x1]
      dsimp only [Option.bind_some]
      rw [show Int32.ofNat i + 1 = Int32.ofNat (i + 1) from w_ar2]
    have eM : ∀ (R : z_Mem → Int32 → Option (Int32 × z_Mem)), pm_execute_L130_B R (Int32.ofNat N) f2 K ν (Int32.ofNat i) = if ν1 241 12 = 0 then R ν1 (Int32.ofNat (i + 1)) else (pm_kept (z_u (z_u ν1 241 9 (Int32.ofNat i)) 241 12 2) b).bind fun q22 => some (q22.1, q22.2) := fun R => by
      unfold pm_execute_L130_B
      rw [if_neg (fun q => by have := (w_le (by omega) (by omega)).mp q; omega), show (4 : Int32) * Int32.ofNat i = Int32.ofNat (4 * i) from w_ml, x2]
      dsimp only [Option.bind_some]
      rw [show Int32.ofNat i + 1 = Int32.ofNat (i + 1) from w_ar2]
    rcases x5 with ⟨y1, y2, y3, y4⟩ | ⟨j, E, y1, y2, y3, y4, y5, y6, y7⟩
    · obtain ⟨μ2, ν2, r1, r2, r3⟩ := ih (i + 1) f g (n + 99) μ1 ν1 (by omega) (by omega) (by omega) (by omega) y4 (w_dat_k D x3 x4)
      refine ⟨μ2, ν2, w_frC_t x3 r1, w_frM_t x4 r2, ?_⟩
      have e1 := eC (pG_performUpToFailure_L2 f (fun M6 k5 => some ((M6 34 1), M6))) (fun M6 k5 => some ((M6 34 1), M6))
      have e2 := eM (pm_execute_L130 g (Int32.ofNat N) f2 K)
      rw [if_pos y1] at e1
      rw [if_pos y3] at e2
      rcases r3 with ⟨z1, z2, z3⟩ | ⟨j, b', z0, z1, z2⟩
      · exact Or.inl ⟨e1.trans z1, e2.trans z2, by rw [show n + 99 * (d + 1) = n + 99 + 99 * d by omega]; exact z3⟩
      · exact Or.inr ⟨j, b', z0, e1.trans z1, e2.trans z2⟩
    · have e1 := eC (pG_performUpToFailure_L2 f (fun M6 k5 => some ((M6 34 1), M6))) (fun M6 k5 => some ((M6 34 1), M6))
      have e2 := eM (pm_execute_L130 g (Int32.ofNat N) f2 K)
      rw [if_neg (fun h => w_nn_ne h y2 y3)] at e1
      rw [if_neg (show ¬ ν1 241 12 = 0 by rw [y5]; exact fun q => by have : j + 1 = 0 := (w_eqr (k := 0) (by decide) (by omega)).mp q; omega)] at e2
      exact ⟨μ1, ν1, x3, x4, Or.inr ⟨i, b, by omega, e1, e2⟩⟩
end
end ZACS
