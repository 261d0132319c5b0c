/-! Trains counted by uniting sets. -/
section ZUNI
section
variable {c : w_Cl} {G M : Nat}
theorem w_u0L {K : z_Mem → Int32 → Option (Int32 × z_Mem)} {μ0 : z_Mem} : ∀ (f i : Nat) (μ : z_Mem), i ≤ 10 → 10 - i < f → (∀ q, q ≠ 32 → μ q = μ0 q) → (∀ v, v < i → μ 32 v = Int32.ofNat v) → ∃ μ', pW_countByUniting_L2 f K μ (Int32.ofNat i) = K μ' (Int32.ofNat 10) ∧ (∀ q, q ≠ 32 → μ' q = μ0 q) ∧ ∀ v, v < 10 → μ' 32 v = Int32.ofNat v := by
  intro f
  induction f with
  | zero => intro i μ _ h; omega
  | succ f ih =>
    intro i μ hi hf h1 h2
    show ∃ μ', pW_countByUniting_L2_B (pW_countByUniting_L2 f K) K μ (Int32.ofNat i) = _ ∧ _
    unfold pW_countByUniting_L2_B
    by_cases h : i = 10
    · subst h
      rw [if_pos (show (10 : Int32) ≤ Int32.ofNat 10 by decide)]
      exact ⟨μ, rfl, h1, h2⟩
    · rw [if_neg (fun q => h (by have : 10 ≤ i := (w_lel (k := 10) (by decide) (by omega)).mp q; omega)), if_pos ((w_inn (by omega)).mpr (by omega)), w_tn (by omega), w_ar2]
      refine ih (i + 1) _ (by omega) (by omega) (fun q hq => (w_u_ne hq).trans (h1 q hq)) (fun v hv => ?_)
      by_cases hvi : v = i
      · subst hvi; rw [w_u_eq]
      · rw [w_u_at hvi]; exact h2 v (by omega)
theorem w_rnL {x y : Int32} {K : z_Mem → Int32 → Option z_Mem} {μ0 : z_Mem} : ∀ (f i : Nat) (μ : z_Mem), i ≤ 10 → 10 - i < f → (∀ q, q ≠ 32 → μ q = μ0 q) → (∀ v, v < 10 → μ 32 v = if v < i ∧ μ0 32 v = x then y else μ0 32 v) → ∃ μ', pW_renameSet_L2 f x y K μ (Int32.ofNat i) = K μ' (Int32.ofNat 10) ∧ (∀ q, q ≠ 32 → μ' q = μ0 q) ∧ ∀ v, v < 10 → μ' 32 v = if μ0 32 v = x then y else μ0 32 v := by
  intro f
  induction f with
  | zero => intro i μ _ h; omega
  | succ f ih =>
    intro i μ hi hf h1 h2
    show ∃ μ', pW_renameSet_L2_B (pW_renameSet_L2 f x y K) x y K μ (Int32.ofNat i) = _ ∧ _
    unfold pW_renameSet_L2_B
    by_cases h : i = 10
    · subst h
      rw [if_pos (show (10 : Int32) ≤ Int32.ofNat 10 by decide)]
      refine ⟨μ, rfl, h1, fun v hv => ?_⟩
      rw [h2 v hv]
      by_cases hx : μ0 32 v = x
      · rw [if_pos ⟨hv, hx⟩, if_pos hx]
      · rw [if_neg (fun q => hx q.2), if_neg hx]
    · rw [if_neg (fun q => h (by have : 10 ≤ i := (w_lel (k := 10) (by decide) (by omega)).mp q; omega)), w_rdn (by omega) (by omega)]
      dsimp only [Option.bind_some]
      have hi0 : μ 32 i = μ0 32 i := by rw [h2 i (by omega), if_neg (fun q => absurd q.1 (Nat.lt_irrefl _))]
      rw [hi0, w_ar2]
      by_cases hx : μ0 32 i = x
      · rw [if_pos hx, if_pos ((w_inn (by omega)).mpr (by omega)), w_tn (by omega)]
        refine ih (i + 1) _ (by omega) (by omega) (fun q hq => (w_u_ne hq).trans (h1 q hq)) (fun v hv => ?_)
        by_cases hvi : v = i
        · subst hvi; rw [w_u_eq, if_pos ⟨by omega, hx⟩]
        · rw [w_u_at hvi, h2 v hv]
          by_cases hc : v < i ∧ μ0 32 v = x
          · rw [if_pos hc, if_pos ⟨by omega, hc.2⟩]
          · rw [if_neg hc, if_neg (fun q => hc ⟨by omega, q.2⟩)]
      · rw [if_neg hx]
        refine ih (i + 1) _ (by omega) (by omega) h1 (fun v hv => ?_)
        rw [h2 v hv]
        by_cases hc : v < i ∧ μ0 32 v = x
        · rw [if_pos hc, if_pos ⟨by omega, hc.2⟩]
        · rw [if_neg hc, if_neg (fun q => hc ⟨by
            by_cases hvi : v = i
            · subst hvi; exact absurd q.2 hx
            · omega, q.2⟩)]
theorem w_uniL (H : w_CT c G M) {K : z_Mem → Int32 → Int32 → Option (Int32 × z_Mem)} {μ0 : z_Mem} : ∀ (f m : Nat) (μ : z_Mem), m ≤ M → M - m < f → w_Str c μ 1 → (∀ q, q ≠ 32 → μ q = μ0 q) → m ≤ G → (∀ u v, u < 10 → v < 10 → (μ 32 u = μ 32 v ↔ w_cn c M m u v)) → ∃ μ', pW_countByUniting_L31 f K μ (Int32.ofNat (G - m)) (Int32.ofNat m) = K μ' (Int32.ofNat (G - M)) (Int32.ofNat M) ∧ ∀ q, q ≠ 32 → μ' q = μ0 q := by
  have hG := H.2.2.1
  have hM := H.2.2.2.1
  have hcM := w_comps H M (Nat.le_refl _)
  intro f
  induction f with
  | zero => intro i μ _ h; omega
  | succ f ih =>
    intro m μ hm hf hs h1 hmG h2
    show ∃ μ', pW_countByUniting_L31_B (pW_countByUniting_L31 f K) K μ _ (Int32.ofNat m) = _ ∧ _
    unfold pW_countByUniting_L31_B
    rw [show μ 2 1 = Int32.ofNat M from hs.2.1.trans H.2.1]
    by_cases h : M ≤ m
    · rw [if_pos ((w_le (by omega) (by omega)).mpr h)]
      have : m = M := by omega
      rw [this]
      exact ⟨μ, rfl, h1⟩
    · obtain ⟨a1, a2, a3, a4, a5, -⟩ := H.2.2.2.2.1 m (by omega)
      have e5 : μ 5 m = Int32.ofNat (w_A c m) := by rw [show μ 5 = c 4 from hs.2.2.1]; exact a4
      have e6 : μ 6 m = Int32.ofNat (w_B c m) := by rw [show μ 6 = c 5 from hs.2.2.2.1]; exact a5
      rw [if_neg (fun q => h ((w_le (by omega) (by omega)).mp q)), w_rdn (by omega) (by omega), e5]
      dsimp only [Option.bind_some]
      rw [w_rdn (by omega) (by omega)]
      dsimp only [Option.bind_some]
      rw [w_rdn (by omega) (by omega), e6]
      dsimp only [Option.bind_some]
      rw [w_rdn (by omega) (by omega)]
      dsimp only [Option.bind_some]
      have hno := w_cn_no H (m := m) (by omega)
      rw [if_neg (fun q => hno ((h2 _ _ (by omega) (by omega)).mp q))]
      obtain ⟨μ1, f1, f2, f3⟩ := w_rnL (x := μ 32 (w_B c m)) (y := μ 32 (w_A c m)) (μ0 := μ) (K := fun M7 k6 => some M7) z_fu 0 μ (by omega) (by decide) (fun _ _ => rfl) (fun v _ => by rw [if_neg (fun q => absurd q.1 (Nat.not_lt_zero _))])
      unfold pW_renameSet
      rw [show pW_renameSet_L2 z_fu (μ 32 (w_B c m)) (μ 32 (w_A c m)) (fun M7 k6 => some M7) μ 0 = _ from f1]
      dsimp only [Option.bind_some]
      rw [Int32.add_neg_eq_sub, show Int32.ofNat (G - m) - 1 = Int32.ofNat (G - (m + 1)) by rw [w_sr (k := 1) (show 1 ≤ G - m by omega)]; congr 1, w_ar2]
      refine ih (m + 1) μ1 (by omega) (by omega) (w_Str_of hs (fun q _ _ => f2 q (by omega))) (fun q hq => (f2 q hq).trans (h1 q hq)) (by omega) (fun u v hu hv => ?_)
      have hK : w_K c M m (w_A c m) (w_B c m) := ⟨by omega, Or.inl ⟨rfl, rfl⟩⟩
      have hAB : w_cn c M (m + 1) (w_A c m) (w_B c m) := w_conn_one (show m < m + 1 by omega) hK
      rw [f3 u hu, f3 v hv]
      by_cases hub : μ 32 u = μ 32 (w_B c m)
      · have cu := (h2 u _ hu (by omega)).mp hub
        rw [if_pos hub]
        by_cases hvb : μ 32 v = μ 32 (w_B c m)
        · have cv := (h2 v _ hv (by omega)).mp hvb
          rw [if_pos hvb]
          exact ⟨fun _ => w_cn_up (w_conn_trans cu (w_cn_sym H cv)), fun _ => rfl⟩
        · rw [if_neg hvb]
          constructor
          · intro q
            have cv := (h2 _ v (by omega) hv).mp q
            exact w_conn_trans (w_cn_up cu) (w_conn_trans (w_cn_sym H hAB) (w_cn_up cv))
          · intro q
            rcases w_cn_add H (by omega) q with g | ⟨g, g'⟩ | ⟨g, g'⟩
            · exact absurd ((h2 v _ hv (by omega)).mpr (w_conn_trans (w_cn_sym H g) cu)) hvb
            · exact absurd (w_conn_trans (w_cn_sym H g) cu) hno
            · exact (h2 _ v (by omega) hv).mpr g'
      · rw [if_neg hub]
        by_cases hvb : μ 32 v = μ 32 (w_B c m)
        · have cv := (h2 v _ hv (by omega)).mp hvb
          rw [if_pos hvb]
          constructor
          · intro q
            have cu := (h2 u _ hu (by omega)).mp q
            exact w_conn_trans (w_cn_up cu) (w_conn_trans hAB (w_cn_up (w_cn_sym H cv)))
          · intro q
            rcases w_cn_add H (by omega) q with g | ⟨g, g'⟩ | ⟨g, g'⟩
            · exact absurd ((h2 u _ hu (by omega)).mpr (w_conn_trans g cv)) hub
            · exact (h2 u _ hu (by omega)).mpr g
            · exact absurd ((h2 u _ hu (by omega)).mpr g) hub
        · rw [if_neg hvb]
          refine ⟨fun q => w_cn_up ((h2 u v hu hv).mp q), fun q => ?_⟩
          rcases w_cn_add H (by omega) q with g | ⟨g, g'⟩ | ⟨g, g'⟩
          · exact (h2 u v hu hv).mpr g
          · exact absurd ((h2 v _ hv (by omega)).mpr (w_cn_sym H g')) hvb
          · exact absurd ((h2 u _ hu (by omega)).mpr g) hub
theorem w_uniC (H : w_CT c G M) {μ : z_Mem} (hs : w_Str c μ 1) : ∃ μ', pW_countByUniting μ = some (Int32.ofNat (G - M), μ') ∧ ∀ q, q ≠ 32 → μ' q = μ q := by
  have hG := H.2.2.1
  have hM := H.2.2.2.1
  obtain ⟨μ1, e1, e2, e3⟩ := w_u0L (K := fun M4 k3 => pW_countByUniting_L31 z_fu (fun M19 k17 k18 => some (k17, M19)) M4 (M4 2 0) 0) (μ0 := μ) z_fu 0 μ (by omega) (by decide) (fun _ _ => rfl) (fun v hv => absurd hv (Nat.not_lt_zero _))
  have hs1 : w_Str c μ1 1 := w_Str_of hs (fun q _ _ => e2 q (by omega))
  obtain ⟨μ2, f1, f2⟩ := w_uniL H (K := fun M19 k17 k18 => some (k17, M19)) (μ0 := μ) z_fu 0 μ1 (Nat.zero_le _) (by show M - 0 < 3000; omega) hs1 e2 (Nat.zero_le _) (fun u v hu hv => by
    rw [e3 u hu, e3 v hv, w_eq (by omega) (by omega)]
    constructor
    · rintro rfl; exact w_conn_rfl
    · rintro ⟨n, h⟩
      cases n with
      | zero => exact h
      | succ n =>
        obtain ⟨e, _, he, _⟩ := h
        exact absurd he (Nat.not_lt_zero _))
  refine ⟨μ2, ?_, f2⟩
  unfold pW_countByUniting
  refine Eq.trans e1 ?_
  rw [show μ1 2 0 = Int32.ofNat G from hs1.1.trans H.1]
  exact f1
end
theorem w_S14 : z_S14 w_Inv := fun n μ I hn => by
  obtain ⟨G, M, W, S, E, HN⟩ := w_get I
  have H := w_CT_of HN.1 HN.2.1 HN.2.2.1
  have hR := w_Rf_of HN.1 HN.2.1
  obtain ⟨μ1, f1, f2⟩ := w_uniC H w_Str_st
  obtain ⟨ν1, k1, k2⟩ := w_countM H (μ := μ1) (by rw [f2 242 (by decide)]; exact hR)
  unfold pG_trainCountByUnions pm_trainCountByUnions
  rw [f1]
  refine ⟨_, μ1, z_u ν1 241 12 0, rfl, ?_, w_quiet (fun q q1 q2 q3 => by rw [w_u_ne q3, k2 q q2, f2 q (by omega)]) (fun j hj => by rw [w_u_at hj, k2 241 (by decide), f2 241 (by decide)]) I⟩
  rw [k1]
  rfl
end ZUNI
