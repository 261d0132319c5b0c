/-! Copies of states, the class's and the reference's. -/
section ZCOPY
theorem w_u_ne {μ : z_Mem} {a j k : Nat} {v : Int32} (h : k ≠ a) : z_u μ a j v k = μ k := by
  funext i; unfold z_u; rw [if_neg h]
theorem w_u_eq {μ : z_Mem} {a j : Nat} {v : Int32} : z_u μ a j v a j = v := by unfold z_u; rw [if_pos rfl, if_pos rfl]
theorem w_u_at {μ : z_Mem} {a j i : Nat} {v : Int32} (h : i ≠ j) : z_u μ a j v a i = μ a i := by unfold z_u; rw [if_pos rfl, if_neg h]
theorem w_cp_ne {μ : z_Mem} {b a sp dp n k : Nat} (h : k ≠ a) : z_cp μ b a sp dp n k = μ k := by
  funext i; unfold z_cp; rw [if_neg h]
theorem w_cp_in {μ : z_Mem} {b a sp dp n i : Nat} (h : dp ≤ i ∧ i < dp + n) : z_cp μ b a sp dp n a i = μ b (sp + (i - dp)) := by unfold z_cp; rw [if_pos rfl, if_pos h]
theorem w_cp_out {μ : z_Mem} {b a sp dp n i : Nat} (h : ¬ (dp ≤ i ∧ i < dp + n)) : z_cp μ b a sp dp n a i = μ a i := by unfold z_cp; rw [if_pos rfl, if_neg h]
theorem w_cp0 {μ : z_Mem} {b a n i : Nat} (h : i < n) : z_cp μ b a 0 0 n a i = μ b i := by rw [w_cp_in ⟨Nat.zero_le _, by omega⟩]; congr 1; omega
/-- the class's state at t, its rows by their place -/
def w_st (μ : z_Mem) (t : Nat) : w_Cl := fun k => μ (t + k)
/-- up to row K the state at u has been copied onto that at t -/
def w_Pc (μ0 μ : z_Mem) (t u K : Nat) : Prop := (∀ k, k < t ∨ t + 20 ≤ k → μ k = μ0 k) ∧ ∀ k j, k < K → j < w_sz k → μ (t + k) j = μ0 (u + k) j
theorem w_Pc_row {μ0 μ μ' : z_Mem} {t u K : Nat} (hK : K < 20) (h : w_Pc μ0 μ t u K) (h1 : ∀ k, k ≠ t + K → μ' k = μ k) (h2 : ∀ j, j < w_sz K → μ' (t + K) j = μ0 (u + K) j) : w_Pc μ0 μ' t u (K + 1) := by
  refine ⟨fun k hk => (h1 k (by omega)).trans (h.1 k hk), fun k j hk hj => ?_⟩
  by_cases hkK : k = K
  · subst hkK; exact h2 j hj
  · rw [h1 (t + k) (by omega)]; exact h.2 k j (by omega) hj
section
variable {μ0 μ : z_Mem} {t u K : Nat}
theorem w_Pc_u (hd : t + 20 ≤ u ∨ u + 20 ≤ t) (h : w_Pc μ0 μ t u K) (hK : K < 20) (k : Nat) (hk : k < 20) : μ (u + k) = μ0 (u + k) := h.1 _ (by omega)
theorem w_Pc_cp {n : Nat} (hd : t + 20 ≤ u ∨ u + 20 ≤ t) (hK : K < 20) (hn : w_sz K = n) (h : w_Pc μ0 μ t u K) : w_Pc μ0 (z_cp μ (u + K) (t + K) 0 0 n) t u (K + 1) :=
  w_Pc_row hK h (fun k hk => w_cp_ne hk) (fun j hj => by rw [w_cp0 (by omega), w_Pc_u hd h hK K hK])
theorem w_Pc_1 (hd : t + 20 ≤ u ∨ u + 20 ≤ t) (hK : K < 20) (hn : w_sz K = 1) (h : w_Pc μ0 μ t u K) : w_Pc μ0 (z_u μ (t + K) 0 (μ (u + K) 0)) t u (K + 1) :=
  w_Pc_row hK h (fun k hk => w_u_ne hk) (fun j hj => by
    have : j = 0 := by omega
    subst this
    rw [w_u_eq, w_Pc_u hd h hK K hK])
theorem w_Pc_3 (hd : t + 20 ≤ u ∨ u + 20 ≤ t) (hK : K < 20) (hn : w_sz K = 3) (h : w_Pc μ0 μ t u K) : w_Pc μ0 (z_u (z_u (z_u μ (t + K) 0 (μ (u + K) 0)) (t + K) 1 ((z_u μ (t + K) 0 (μ (u + K) 0)) (u + K) 1)) (t + K) 2 ((z_u (z_u μ (t + K) 0 (μ (u + K) 0)) (t + K) 1 ((z_u μ (t + K) 0 (μ (u + K) 0)) (u + K) 1)) (u + K) 2)) t u (K + 1) := by
  have hne : u + K ≠ t + K := by omega
  have e := w_Pc_u hd h hK K hK
  refine w_Pc_row hK h (fun k hk => by rw [w_u_ne hk, w_u_ne hk, w_u_ne hk]) (fun j hj => ?_)
  have hj3 : j = 0 ∨ j = 1 ∨ j = 2 := by omega
  rcases hj3 with rfl | rfl | rfl
  · rw [w_u_at (by decide), w_u_at (by decide), w_u_eq, e]
  · rw [w_u_at (by decide), w_u_eq, w_u_ne hne, e]
  · rw [w_u_eq, w_u_ne hne, w_u_ne hne, e]
end
theorem w_copyA {μ : z_Mem} {t u : Nat} (hd : t + 20 ≤ u ∨ u + 20 ≤ t) : ∃ μ', pA_copyFrom t u μ = some μ' ∧ (∀ k, k < t ∨ t + 20 ≤ k → μ' k = μ k) ∧ w_same (w_st μ u) (w_st μ' t) := by
  have h0 : w_Pc μ μ t u 0 := ⟨fun _ _ => rfl, fun k j hk _ => by omega⟩
  have h1 : w_Pc μ μ t u 1 := ⟨h0.1, fun k j hk hj => by
    have : k = 0 := by omega
    subst this
    exact absurd hj (Nat.not_lt_zero _)⟩
  have h2 := w_Pc_3 hd (K := 1) (by decide) rfl h1
  have h3 := w_Pc_cp hd (K := 2) (by decide) rfl h2
  have h4 := w_Pc_cp hd (K := 3) (by decide) rfl h3
  have h5 := w_Pc_cp hd (K := 4) (by decide) rfl h4
  have h6 := w_Pc_cp hd (K := 5) (by decide) rfl h5
  have h7 := w_Pc_cp hd (K := 6) (by decide) rfl h6
  have h8 := w_Pc_cp hd (K := 7) (by decide) rfl h7
  have h9 := w_Pc_1 hd (K := 8) (by decide) rfl h8
  have h10 := w_Pc_cp hd (K := 9) (by decide) rfl h9
  have h11 := w_Pc_cp hd (K := 10) (by decide) rfl h10
  have h12 := w_Pc_3 hd (K := 11) (by decide) rfl h11
  have h13 := w_Pc_cp hd (K := 12) (by decide) rfl h12
  have h14 := w_Pc_cp hd (K := 13) (by decide) rfl h13
  have h15 := w_Pc_cp hd (K := 14) (by decide) rfl h14
  have h16 := w_Pc_1 hd (K := 15) (by decide) rfl h15
  have h17 := w_Pc_cp hd (K := 16) (by decide) rfl h16
  have h18 := w_Pc_cp hd (K := 17) (by decide) rfl h17
  have h19 := w_Pc_cp hd (K := 18) (by decide) rfl h18
  have h20 := w_Pc_cp hd (K := 19) (by decide) rfl h19
  refine ⟨_, rfl, h20.1, fun k j hj => ?_⟩
  by_cases hk : k < 20
  · exact (h20.2 k j hk hj).symm
  · exfalso
    have : w_sz k = 0 := by
      unfold w_sz
      split <;> first | rfl | omega
    omega
/-- the reference's copy -/
theorem w_cpS {μ : z_Mem} {b a x y q : Nat} (hab : b ≠ a) : z_u (z_cp μ b a x y q) a (y + q) (μ b (x + q)) = z_cp μ b a x y (q + 1) := by
  funext k i
  by_cases hk : k = a
  · subst hk
    by_cases hi : i = y + q
    · subst hi
      rw [w_u_eq, w_cp_in (by omega)]
      congr 1; omega
    · rw [w_u_at hi]
      by_cases h2 : y ≤ i ∧ i < y + q
      · rw [w_cp_in h2, w_cp_in (by omega)]
      · rw [w_cp_out h2, w_cp_out (by omega)]
  · rw [w_u_ne hk, w_cp_ne hk, w_cp_ne hk]
theorem w_cpZ {μ : z_Mem} {b a x y : Nat} : z_cp μ b a x y 0 = μ := by
  funext k i
  by_cases hk : k = a
  · subst hk; rw [w_cp_out (by omega)]
  · rw [w_cp_ne hk]
theorem w_copyL {b nb a na x y : Nat} {μ : z_Mem} {K : z_Mem → Int32 → Option z_Mem} (hab : b ≠ a) (hx : x + 331 ≤ nb) (hy : y + 331 ≤ na) (hb : nb < 100000) (ha : na < 100000) : ∀ (f q : Nat), q ≤ 331 → 331 - q < f → pm_copy_L3 f b nb a na (Int32.ofNat x) (Int32.ofNat y) K (z_cp μ b a x y q) (Int32.ofNat q) = K (z_cp μ b a x y 331) (Int32.ofNat 331) := by
  intro f
  induction f with
  | zero => intro q _ h; omega
  | succ f ih =>
    intro q hq hf
    show pm_copy_L3_B (pm_copy_L3 f b nb a na (Int32.ofNat x) (Int32.ofNat y) K) b nb a na (Int32.ofNat x) (Int32.ofNat y) K (z_cp μ b a x y q) (Int32.ofNat q) = _
    unfold pm_copy_L3_B
    by_cases h : q = 331
    · subst h
      rw [if_pos ((w_lel (by omega) (by omega)).mpr (Nat.le_refl _))]
    · rw [if_neg (fun hc => h (by have := (w_lel (by omega) (by omega)).mp hc; omega)), w_aa, w_rdn (by omega) (by omega), w_aa]
      dsimp only [Option.bind_some]
      rw [if_pos ((w_inn (by omega)).mpr (by omega)), w_tn (by omega), w_cp_ne hab, w_cpS hab, w_ar2]
      exact ih (q + 1) (by omega) (by omega)
theorem w_copyM {b nb a na x y : Nat} {μ : z_Mem} (hab : b ≠ a) (hx : x + 331 ≤ nb) (hy : y + 331 ≤ na) (hb : nb < 100000) (ha : na < 100000) : pm_copy b nb a na μ (Int32.ofNat x) (Int32.ofNat y) = some (z_cp μ b a x y 331) := by
  have h := w_copyL (K := fun M6 _ => some M6) (μ := μ) hab hx hy hb ha z_fu 0 (by omega) (by decide)
  rw [w_cpZ] at h
  exact h
/-- the reference forgets its eldest change -/
def w_sh (μ : z_Mem) (q : Nat) : z_Mem := fun k j => if k = 244 ∧ j < q then μ 244 (j + 331) else μ k j
theorem w_shS {μ : z_Mem} {q : Nat} : z_u (w_sh μ q) 244 q (μ 244 (q + 331)) = w_sh μ (q + 1) := by
  funext k i
  by_cases hk : k = 244
  · subst hk
    by_cases hi : i = q
    · subst hi; rw [w_u_eq]; unfold w_sh; rw [if_pos ⟨rfl, by omega⟩]
    · rw [w_u_at hi]; unfold w_sh
      by_cases h2 : i < q
      · rw [if_pos ⟨rfl, h2⟩, if_pos ⟨rfl, by omega⟩]
      · rw [if_neg (fun h => h2 h.2), if_neg (fun h => h2 (by omega))]
  · rw [w_u_ne hk]; unfold w_sh; rw [if_neg (fun h => hk h.1), if_neg (fun h => hk h.1)]
theorem w_shZ {μ : z_Mem} : w_sh μ 0 = μ := by
  funext k i; unfold w_sh; rw [if_neg (fun h => by omega)]
theorem w_shL {μ : z_Mem} {f1 : Int32} {K : z_Mem → Int32 → Option (Int32 × z_Mem)} : ∀ (f q : Nat), q ≤ 2317 → 2317 - q < f → pm_kept_L33 f f1 K (w_sh μ q) (Int32.ofNat q) = K (w_sh μ 2317) (Int32.ofNat 2317) := by
  intro f
  induction f with
  | zero => intro q _ h; omega
  | succ f ih =>
    intro q hq hf
    show pm_kept_L33_B (pm_kept_L33 f f1 K) f1 K (w_sh μ q) (Int32.ofNat q) = _
    unfold pm_kept_L33_B
    by_cases h : q = 2317
    · subst h
      rw [if_pos ((w_lel (by omega) (by omega)).mpr (Nat.le_refl _))]
    · rw [if_neg (fun hc => h (by have := (w_lel (by omega) (by omega)).mp hc; omega)), w_ar2, w_rdn (by omega) (by omega)]
      dsimp only [Option.bind_some]
      rw [if_pos ((w_inn (by omega)).mpr (by omega)), w_tn (by omega), show w_sh μ q 244 (q + 331) = μ 244 (q + 331) by (unfold w_sh; rw [if_neg (fun h => by omega)]), w_shS, w_ar2]
      exact ih (q + 1) (by omega) (by omega)
end ZCOPY
