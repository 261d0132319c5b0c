/-! Questions: gears, meshes, wheels. -/
section ZASK
/-- what no question touches -/
theorem w_quiet {n : Nat} {μ μ' : z_Mem} (h : ∀ k, ¬ (24 ≤ k ∧ k < 34) → k ≠ 249 → k ≠ 241 → μ' k = μ k) (h2 : ∀ j, j ≠ 12 → μ' 241 j = μ 241 j) (I : w_Inv n μ) : w_Inv (n + 1) μ' := by
  obtain ⟨I1, hS, ⟨k, o, hU⟩, hI, hE, hO⟩ := w_Inv_up I
  obtain ⟨r1, r2, r3, r4⟩ := w_kp_rest (μ' := μ') ⟨fun q hq => h q (by omega) (by omega) (by omega), fun j _ j12 => h2 j j12⟩ hS hI hE hO
  obtain ⟨u1, u2, u3, u4, u5, u6⟩ := hU
  refine ⟨w_Rel_same (fun q j hj => ?_) (fun j _ => by rw [h 242 (by omega) (by decide) (by decide)]) I1, r1, ⟨k, o, by rw [h 57 (by omega) (by decide) (by decide)]; exact u1, by rw [h2 3 (by decide)]; exact u2, u3, by rw [h 57 (by omega) (by decide) (by decide)]; exact u4, u5, fun i hi => ?_⟩, r2, r3, r4⟩
  · have := w_sz_lt hj
    unfold w_st
    rw [h _ (by omega) (by omega) (by omega)]
  · refine w_Rel_same (fun q j hj => ?_) (fun j _ => ?_) (u6 i hi)
    · have := w_sz_lt hj
      unfold w_st
      rw [h _ (by omega) (by omega) (by omega)]
    · rw [h 244 (by omega) (by decide) (by decide)]
theorem w_Q12 {n : Nat} {μ : z_Mem} {v : Int32} (I : w_Inv n μ) : w_Inv (n + 1) (z_u μ 241 12 v) := w_quiet (fun k _ _ h => w_u_ne h) (fun j hj => w_u_at hj) I
theorem w_ag0 {es : List Nat} {v t : Int32} (h : t = 0) : z_agI es (.inl v) v t := ⟨h, rfl⟩
theorem w_agE {es : List Nat} {E j : Nat} {b t : Int32} (h : es[j]? = some E) (h2 : t = Int32.ofNat (j + 1)) : z_agI es (.inr E) b t := ⟨j, h, h2⟩
theorem w_fok {n : Nat} {μ : z_Mem} {es : List Nat} {cm : Option (Int32 ⊕ Nat)} {rm : Option (Int32 × z_Mem)} {v : Int32} (I : w_Inv n μ) (h1 : cm = some (.inl v)) (h2 : rm = some (v, z_u μ 241 12 0)) : ∃ (r : Int32 ⊕ Nat) (b : Int32) (μ2 : z_Mem), cm = some r ∧ rm = some (b, μ2) ∧ z_agI es r b (μ2 241 12) ∧ w_Inv (n + 1) μ2 :=
  ⟨_, _, _, h1, h2, w_ag0 w_u_eq, w_Q12 I⟩
theorem w_fno {n : Nat} {μ : z_Mem} {es : List Nat} {cm : Option (Int32 ⊕ Nat)} {rm : Option (Int32 × z_Mem)} {b : Int32} (I : w_Inv n μ) {E j : Nat} (he : es[j]? = some E) (h1 : cm = some (.inr E)) (h2 : rm = some (b, z_u μ 241 12 (Int32.ofNat (j + 1)))) : ∃ (r : Int32 ⊕ Nat) (b : Int32) (μ2 : z_Mem), cm = some r ∧ rm = some (b, μ2) ∧ z_agI es r b (μ2 241 12) ∧ w_Inv (n + 1) μ2 :=
  ⟨_, _, _, h1, h2, w_agE he w_u_eq, w_Q12 I⟩
/-- the relation out of the invariant -/
theorem w_get {n : Nat} {μ : z_Mem} (I : w_Inv n μ) : ∃ G M W S E, w_RelN (1000 * n) (w_st μ 1) (μ 242) G M W S E := I.1
/-- two gears, in both -/
theorem w_gears2 {μ ν : z_Mem} {G : Nat} (hc : μ 2 0 = Int32.ofNat G) (hg : ν 242 0 = Int32.ofNat G) (hG : G ≤ 10) (i1 i2 : Int32) : (pT_hasGear 2 μ i1 = some 1 ∧ pT_hasGear 2 μ i2 = some 1 ∧ pm_areGears ν i1 i2 = some 1 ∧ ∃ u v, u < G ∧ v < G ∧ i1 = Int32.ofNat u ∧ i2 = Int32.ofNat v) ∨ (pm_areGears ν i1 i2 = some 0 ∧ (pT_hasGear 2 μ i1 = some 0 ∨ (pT_hasGear 2 μ i1 = some 1 ∧ pT_hasGear 2 μ i2 = some 0))) := by
  unfold pm_areGears
  rcases w_gear (μ := μ) (ν := ν) hc hg hG i1 with ⟨e1, e2, u, hu, rfl⟩ | ⟨e1, e2⟩
  · rw [e1, e2]
    dsimp only [Option.bind_some]
    rw [if_neg w_10]
    rcases w_gear (μ := μ) (ν := ν) hc hg hG i2 with ⟨e3, e4, v, hv, rfl⟩ | ⟨e3, e4⟩
    · rw [e3, e4]
      dsimp only [Option.bind_some]
      rw [if_neg w_10]
      exact Or.inl ⟨rfl, rfl, rfl, u, v, hu, hv, rfl, rfl⟩
    · rw [e3, e4]
      exact Or.inr ⟨rfl, Or.inr ⟨rfl, rfl⟩⟩
  · rw [e1, e2]
    exact Or.inr ⟨rfl, Or.inl rfl⟩
theorem w_00 : ∀ {μ : z_Mem} {v : Int32}, z_u μ 241 12 v 241 12 = v := w_u_eq
/-- the mesh that is wanted, in both -/
theorem w_need {n G M W S E : Nat} {μ : z_Mem} (HN : w_RelN n (w_st μ 1) (μ 242) G M W S E) (c1 c2 : Int32) : (∃ u v k, u < G ∧ v < G ∧ k < M ∧ w_K (w_st μ 1) M k u v ∧ c1 = Int32.ofNat u ∧ c2 = Int32.ofNat v ∧ pG_neededMesh μ c1 c2 = some (.inl (Int32.ofNat k)) ∧ pm_whyNoMesh μ c1 c2 = some 0) ∨ (∃ E j, [0, 3][j]? = some E ∧ pG_neededMesh μ c1 c2 = some (.inr E) ∧ pm_whyNoMesh μ c1 c2 = some (Int32.ofNat (j + 1)) ∧ j < 2) := by
  have H := w_CT_of HN.1 HN.2.1 HN.2.2.1
  have hR := w_Rf_of HN.1 HN.2.1
  obtain ⟨g1, g2, g3, -⟩ := HN.1
  unfold pG_neededMesh pG_needGear pm_whyNoMesh
  rcases w_gears2 (μ := μ) (ν := μ) g1 g2 g3 c1 c2 with ⟨e1, e2, e3, u, v, hu, hv, rfl, rfl⟩ | ⟨e3, e1⟩
  · rw [e1, e2, e3]
    dsimp only [Option.bind_some]
    rw [if_neg w_10, if_neg w_10]
    dsimp only [Option.bind_some]
    by_cases hE : w_EK (w_st μ 1) M u v
    · obtain ⟨k, hk, hK⟩ := id hE
      have := H.2.2.2.1
      rw [w_meshY H w_Str_st hK, w_isMeshY H hR hE]
      dsimp only [Option.bind_some]
      rw [if_neg (w_nneg (k := 1) (by omega) (by decide) (by decide)), if_neg w_10]
      exact Or.inl ⟨u, v, k, hu, hv, hk, hK, rfl, rfl, rfl, rfl⟩
    · rw [w_meshN H w_Str_st hu hv hE, w_isMeshN H hR hu hv hE]
      exact Or.inr ⟨3, 1, rfl, rfl, rfl, by decide⟩
  · rw [e3]
    refine Or.inr ⟨0, 0, rfl, ?_, rfl, by decide⟩
    rcases e1 with e1 | ⟨e1, e2⟩
    · rw [e1]; rfl
    · rw [e1, e2]; rfl
theorem w_idxS {ν : z_Mem} {s : Nat} (hs : s ≤ 100) (i : Int32) : (pm_in ν i 0 (Int32.ofNat s - 1) = some 1 ∧ ∃ a, a < s ∧ i = Int32.ofNat a) ∨ (pm_in ν i 0 (Int32.ofNat s - 1) = some 0 ∧ (i < 0 ∨ ¬ i < Int32.ofNat s)) := by
  rcases w_within (μ := ν) (ν := ν) i 0 (Int32.ofNat s - 1) with ⟨-, h, h1, h2⟩ | ⟨-, h, h1⟩
  · refine Or.inl ⟨h, ?_⟩
    cases s with
    | zero => exact absurd (Int32.le_trans h1 h2) (by decide)
    | succ s =>
      rw [w_sr (k := 1) (show 1 ≤ s + 1 by omega)] at h2
      obtain ⟨a, -, h3, rfl⟩ := w_nat_in (lo := 0) (hi := s) (by omega) (by omega) h1 h2
      exact ⟨a, by omega, rfl⟩
  · refine Or.inr ⟨h, ?_⟩
    by_cases h0 : i < 0
    · exact Or.inl h0
    · refine Or.inr (fun hc => h1 ⟨Int32.not_lt.mp h0, ?_⟩)
      obtain ⟨a, ha, rfl⟩ := w_nat (Int32.not_lt.mp h0)
      have h3 := (w_lt ha (by omega)).mp hc
      cases s with
      | zero => omega
      | succ s =>
        rw [w_sr (k := 1) (show 1 ≤ s + 1 by omega)]
        show Int32.ofNat a ≤ Int32.ofNat s
        exact (w_le (by omega) (by omega)).mpr (by omega)
/-- a wheel and a star, in both -/
theorem w_ws {n G M W S E : Nat} {μ : z_Mem} (HN : w_RelN n (w_st μ 1) (μ 242) G M W S E) (c1 c2 : Int32) : (∃ w p d, w < W ∧ p < S ∧ d < 3600 ∧ c1 = Int32.ofNat w ∧ pQ_hasWheel μ c1 = some 1 ∧ pY_placeOf μ c2 = some (Int32.ofNat p) ∧ pm_placeOf μ c2 = some (Int32.ofNat p) ∧ μ 14 p = Int32.ofNat d ∧ μ 242 (243 + p) = Int32.ofNat d ∧ pm_whyNoStar μ c1 c2 = some 0) ∨ (pQ_hasWheel μ c1 = some 0 ∧ pm_whyNoStar μ c1 c2 = some 1) ∨ (pQ_hasWheel μ c1 = some 1 ∧ pY_placeOf μ c2 = some (-1) ∧ pm_whyNoStar μ c1 c2 = some 2) := by
  obtain ⟨w1, w2, w3, w4⟩ := HN.2.2.2.1
  have hS := HN.2.2.2.2.1.2.2.1
  unfold pm_whyNoStar
  rcases w_wheel (μ := μ) (ν := μ) w1 w2 w3 c1 with ⟨e1, e2, w, hw, rfl⟩ | ⟨e1, e2⟩
  · rw [e2]
    dsimp only [Option.bind_some]
    rw [if_neg w_10]
    rcases w_place HN.2.2.2.2.1 c2 with ⟨e3, e4⟩ | ⟨p, hp, e3, e4⟩
    · rw [e4]
      exact Or.inr (Or.inr ⟨e1, e3, rfl⟩)
    · obtain ⟨d, hd, d1, d2⟩ := w_dir HN hp
      refine Or.inl ⟨w, p, d, hw, hp, hd, rfl, e1, e3, e4, d1, d2, ?_⟩
      rw [e4]
      dsimp only [Option.bind_some]
      rw [if_neg (w_nneg (k := 1) (by omega) (by decide) (by decide))]
  · rw [e2]
    exact Or.inr (Or.inl ⟨e1, rfl⟩)
end ZASK
