/-! Meshes parted, in both. -/
section ZPRT
theorem w_sepL {M e : Nat} {f1 f2 : Int32} {μ0 : z_Mem} (hM : M ≤ 9) {K : z_Mem → Int32 → Option (Int32 × z_Mem)} : ∀ (f q : Nat) (μ : z_Mem), e ≤ q → q + 1 ≤ M → M - q < f → μ 2 1 = Int32.ofNat (M - 1) → (∀ k, k ≠ 5 → k ≠ 6 → k ≠ 7 → k ≠ 8 → μ k = μ0 k) → (∀ k, 5 ≤ k → k ≤ 8 → ∀ i, μ k i = if e ≤ i ∧ i < q then μ0 k (i + 1) else μ0 k i) →
    ∃ μ', pT_separate_L19 f f1 f2 K μ (Int32.ofNat q) = K μ' (Int32.ofNat (M - 1)) ∧ (∀ k, k ≠ 5 → k ≠ 6 → k ≠ 7 → k ≠ 8 → μ' k = μ0 k) ∧ ∀ k, 5 ≤ k → k ≤ 8 → ∀ i, μ' k i = if e ≤ i ∧ i < M - 1 then μ0 k (i + 1) else μ0 k i := by
  intro f
  induction f with
  | zero => intro q μ _ _ h; omega
  | succ f ih =>
    intro q μ hq hqM hf h1 h2 h3
    show ∃ μ', pT_separate_L19_B (pT_separate_L19 f f1 f2 K) f1 f2 K μ (Int32.ofNat q) = _ ∧ _
    unfold pT_separate_L19_B
    rw [h1]
    by_cases h : M - 1 ≤ q
    · rw [if_pos ((w_le (by omega) (by omega)).mpr h)]
      have : q = M - 1 := by omega
      subst this
      exact ⟨μ, rfl, h2, h3⟩
    · rw [if_neg (fun hc => h ((w_le (by omega) (by omega)).mp hc)), show Int32.ofNat q + 1 = Int32.ofNat (q + 1) from w_ar2]
      have hr9 : ∀ (μ : z_Mem) a, z_rd μ a 9 (Int32.ofNat (q + 1)) = some (μ a (q + 1)) := fun μ a => w_rdn (by omega) (by omega)
      have hin : z_inb (Int32.ofNat q) 9 = true := (w_inn (by omega)).mpr (by omega)
      simp (disch := omega) only [hr9, Option.bind_some, if_pos hin, w_tn, w_u_ne]
      refine ih (q + 1) _ (by omega) (by omega) (by omega) (by simp (disch := omega) only [w_u_ne]; exact h1) (fun k k5 k6 k7 k8 => by simp (disch := omega) only [w_u_ne]; exact h2 k k5 k6 k7 k8) (fun k k1 k2 i => ?_)
      have hread : ∀ k, 5 ≤ k → k ≤ 8 → μ k (q + 1) = μ0 k (q + 1) := fun k k1 k2 => by rw [h3 k k1 k2, if_neg (by omega)]
      have fin : ∀ (k : Nat), 5 ≤ k → k ≤ 8 → ∀ (X : z_Mem), (∀ j, j ≠ q → X k j = μ k j) → X k q = μ k (q + 1) → X k i = if e ≤ i ∧ i < q + 1 then μ0 k (i + 1) else μ0 k i := by
        intro k k1 k2 X x1 x2
        by_cases hi : i = q
        · subst hi
          rw [x2, hread k k1 k2, if_pos (by omega)]
        · rw [x1 i hi, h3 k k1 k2]
          by_cases hc : e ≤ i ∧ i < q
          · rw [if_pos hc, if_pos (by omega)]
          · rw [if_neg hc, if_neg (by omega)]
      rcases (show k = 5 ∨ k = 6 ∨ k = 7 ∨ k = 8 by omega) with rfl | rfl | rfl | rfl
      · exact fin 5 (by decide) (by decide) _ (fun j hj => by simp (disch := omega) only [w_u_ne, w_u_at]) (by simp (disch := omega) only [w_u_ne, w_u_eq])
      · exact fin 6 (by decide) (by decide) _ (fun j hj => by simp (disch := omega) only [w_u_ne, w_u_at]) (by simp (disch := omega) only [w_u_ne, w_u_eq])
      · exact fin 7 (by decide) (by decide) _ (fun j hj => by simp (disch := omega) only [w_u_ne, w_u_at]) (by simp (disch := omega) only [w_u_ne, w_u_eq])
      · exact fin 8 (by decide) (by decide) _ (fun j hj => by simp (disch := omega) only [w_u_ne, w_u_at]) (by simp (disch := omega) only [w_u_ne, w_u_eq])
theorem w_cPart {n m : Nat} (hnm : n ≤ m) (i1 i2 : Int32) (μ ν : z_Mem) (HH : w_Rel n (w_st μ 1) (ν 242)) : ∃ a μ' b ν', pG_tryPart μ i1 i2 = some (a, μ') ∧ pm_parts ν i1 i2 = some (b, ν') ∧ w_Core m [0, 3] a μ μ' b ν ν' := by
  obtain ⟨G, M, W, S, E, h1, h2, h3, h4, h5, h6, h7⟩ := HH
  have H := w_CT_of h1 h2 h3
  have hR := w_Rf_of h1 h2
  have hG := H.2.2.1
  have hM := H.2.2.2.1
  have no1 : ∃ a μ' b ν', (some (-1, μ) : Option (Int32 × z_Mem)) = some (a, μ') ∧ (pm_fails ν 1).bind (fun q24 => some (q24.1, q24.2)) = some (b, ν') ∧ w_Core m [0, 3] a μ μ' b ν ν' :=
    ⟨_, _, _, _, rfl, rfl, w_Core_no (j := 0) (E := 0) rfl (by decide) (by decide) w_frC_rfl w_same_rfl⟩
  unfold pG_tryPart pm_parts pm_areGears
  rcases w_gear (μ := μ) (ν := ν) h1.1 h1.2.1 h1.2.2.1 i1 with ⟨e1, e2, u, hu, rfl⟩ | ⟨e1, e2⟩
  · rw [e1, e2]
    dsimp only [Option.bind_some]
    rw [if_neg w_10, if_neg w_10]
    rcases w_gear (μ := μ) (ν := ν) h1.1 h1.2.1 h1.2.2.1 i2 with ⟨e3, e4, v, hv, rfl⟩ | ⟨e3, e4⟩
    · rw [e3, e4]
      dsimp only [Option.bind_some]
      rw [if_neg w_10, if_neg w_10]
      dsimp only [Option.bind_some]
      rw [if_neg w_10]
      by_cases hE : w_EK (w_st μ 1) M u v
      · obtain ⟨k, hk, hK⟩ := id hE
        rw [w_meshY H w_Str_st hK, w_isMeshY H hR hE]
        dsimp only [Option.bind_some]
        rw [if_neg (w_nneg (k := 1) (by omega) (by decide) (by decide)), if_neg w_10, w_pairm (by omega) (by omega)]
        dsimp only [Option.bind_some]
        have hpr := w_pr_lt (a := u) (b := v) (by omega) (by omega)
        have hprk := w_K_pr hK
        obtain ⟨-, -, -, -, -, s, p, b6, b7, b8, b9, b10, b11⟩ := h2.2.2.1 k hk
        rw [w_al, if_pos ((w_inn (by omega)).mpr (by omega)), w_tn (by omega), w_gapm (by omega) (by omega), w_u_at (by omega)]
        unfold pT_separate
        rw [w_rdn (by omega) (by omega)]
        dsimp only [Option.bind_some]
        have e21 : μ 2 1 = Int32.ofNat M := H.2.1
        rw [e21, w_sr (k := 1) (show 1 ≤ M by omega)]
        obtain ⟨μ', f1, f2, f3⟩ := w_sepL (μ0 := z_u μ 2 1 (Int32.ofNat (M - 1))) (M := M) (e := k) (f1 := Int32.ofNat k) (f2 := μ 8 k) (K := fun M17 k16 => some (μ 8 k, M17)) hM z_fu k (z_u μ 2 1 (Int32.ofNat (M - 1))) (Nat.le_refl _) (by omega) (by show M - k < 3000; omega) w_u_eq (fun _ _ _ _ _ => rfl) (fun q _ _ i => by rw [if_neg (by omega)])
        rw [show (OfNat.ofNat 1 : Nat) = 1 from rfl, f1]
        unfold pm_done
        dsimp only [Option.bind_some]
        have e8 : μ 8 k = Int32.ofNat p := b9
        have hgv : ν 242 (127 + w_pr u v) = Int32.ofNat p := by rw [← hprk]; exact b11
        have lo : ∀ q, q ≠ 1 → q ≠ 4 → q ≠ 5 → q ≠ 6 → q ≠ 7 → w_st μ' 1 q = w_st μ 1 q := fun q a1 a2 a3 a4 a5 => by
          unfold w_st
          rw [f2 _ (by omega) (by omega) (by omega) (by omega), w_u_ne (by omega)]
        have hi : ∀ j, j ≠ 27 + w_pr u v → z_u (z_u ν 242 (27 + w_pr u v) 0) 241 12 0 242 j = ν 242 j := fun j j1 => by
          rw [w_u_ne (by decide), w_u_at j1]
        have x2 : ∀ j, j ≠ 1 → w_st μ' 1 1 j = w_st μ 1 1 j := fun j hj => by
          unfold w_st
          rw [f2 _ (by decide) (by decide) (by decide) (by decide), w_u_at hj]
        obtain ⟨hRM, hRF⟩ := w_RM_del (c' := w_st μ' 1) (g' := z_u (z_u ν 242 (27 + w_pr u v) 0) 241 12 0 242) (k := k) h2 h3 hG hk (by unfold w_st; rw [f2 _ (by decide) (by decide) (by decide) (by decide), w_u_eq]) (fun q q1 q2 i hi => by
          unfold w_st
          rw [f3 _ (by omega) (by omega), w_u_ne (by omega)]
          by_cases hik : i < k
          · rw [if_neg (by omega), if_pos hik]
          · rw [if_pos (by omega), if_neg hik]) (by rw [hprk, w_u_ne (by decide), w_u_eq]) (fun j _ _ j1 => hi j (by rw [← hprk]; exact j1))
        refine ⟨_, _, _, _, rfl, rfl, fun q hq => ?_, w_frM_trans w_frM_242 w_frM_12, Or.inl ⟨by rw [e8]; exact (w_le (a := 0) (by omega) (by omega)).mpr (Nat.zero_le _), by rw [e8, hgv], w_u_eq, G, M - 1, W, S, E, ⟨?_, hRM, hRF, ?_, ?_, ?_, ?_⟩, w_gl h1 (by omega) (by omega)⟩⟩
        · rw [f2 q (by omega) (by omega) (by omega) (by omega), w_u_ne (by omega)]
        · obtain ⟨g1, g2, g3, g4, g5, g6, g7, g8⟩ := h1
          refine ⟨by rw [x2 0 (by decide)]; exact g1, by rw [hi 0 (by omega)]; exact g2, g3, fun i hi2 => ?_, fun i hi2 => ?_, fun i hi2 => ?_, fun i hi1 hi2 => ?_, ?_⟩
          · rw [lo 2 (by decide) (by decide) (by decide) (by decide) (by decide), hi _ (by omega)]; exact g4 i hi2
          · rw [lo 3 (by decide) (by decide) (by decide) (by decide) (by decide), hi _ (by omega)]; exact g5 i hi2
          · rw [hi _ (by omega)]; exact g6 i hi2
          · rw [hi _ (by omega)]; exact g7 i hi1 hi2
          · rw [x2 2 (by decide), hi 6 (by omega)]; exact g8
        · exact w_RW_tr (lo 8 (by decide) (by decide) (by decide) (by decide) (by decide)) (lo 9 (by decide) (by decide) (by decide) (by decide) (by decide)) (lo 10 (by decide) (by decide) (by decide) (by decide) (by decide)) (hi 1 (by omega)) (fun j j1 j2 => hi j (by omega)) (Nat.le_refl _) h4
        · exact w_RY_tr (lo 11 (by decide) (by decide) (by decide) (by decide) (by decide)) (lo 12 (by decide) (by decide) (by decide) (by decide) (by decide)) (lo 13 (by decide) (by decide) (by decide) (by decide) (by decide)) (lo 14 (by decide) (by decide) (by decide) (by decide) (by decide)) (hi 2 (by omega)) (hi 3 (by omega)) (hi 5 (by omega)) (fun j j1 j2 => hi j (by omega)) h5
        · exact w_RE_tr (lo 15 (by decide) (by decide) (by decide) (by decide) (by decide)) (lo 16 (by decide) (by decide) (by decide) (by decide) (by decide)) (lo 17 (by decide) (by decide) (by decide) (by decide) (by decide)) (lo 18 (by decide) (by decide) (by decide) (by decide) (by decide)) (lo 19 (by decide) (by decide) (by decide) (by decide) (by decide)) (hi 4 (by omega)) (fun j j1 j2 => hi j (by omega)) h6
        · exact w_PB_tr hnm (hi 3 (by omega)) (hi 5 (by omega)) (fun j j1 j2 => hi j (by omega)) h7
      · rw [w_meshN H w_Str_st hu hv hE, w_isMeshN H hR hu hv hE]
        exact ⟨_, _, _, _, rfl, rfl, w_Core_no (j := 1) (E := 3) rfl (by decide) (by decide) w_frC_rfl w_same_rfl⟩
    · rw [e3, e4]
      dsimp only [Option.bind_some]
      rw [if_pos rfl, if_pos rfl]
      dsimp only [Option.bind_some]
      rw [if_pos rfl]
      exact no1
  · rw [e1, e2]
    dsimp only [Option.bind_some]
    rw [if_pos rfl, if_pos rfl]
    dsimp only [Option.bind_some]
    rw [if_pos rfl]
    exact no1
end ZPRT
