/-! Questions: gears, meshes, wheels. -/
section ZASK
/-- what no question touches -/
theorem w_quiet {n : Nat} {μ μ' : z_Mem} (h : ∀ k, ¬ (24 ≤ k ∧ k < 34) → k ≠ 249 → k ≠ 241 → μ' k = μ k) (h2 : ∀ j, j ≠ 12 → μ' 241 j = μ 241 j) (I : w_Inv n μ) : w_Inv (n + 1) μ' := by
  obtain ⟨I1, hS, ⟨k, o, hU⟩, hI, hE, hO⟩ := w_Inv_up I
  obtain ⟨r1, r2, r3, r4⟩ := w_kp_rest (μ' := μ') ⟨fun q hq => h q (by omega) (by omega) (by omega), fun j _ j12 => h2 j j12⟩ hS hI hE hO
  obtain ⟨u1, u2, u3, u4, u5, u6⟩ := hU
  refine ⟨w_Rel_same (fun q j hj => ?_) (fun j _ => by rw [h 242 (by omega) (by decide) (by decide)]) I1, r1, ⟨k, o, by rw [h 57 (by omega) (by decide) (by decide)]; exact u1, by rw [h2 3 (by decide)]; exact u2, u3, by rw [h 57 (by omega) (by decide) (by decide)]; exact u4, u5, fun i hi => ?_⟩, r2, r3, r4⟩
  · have := w_sz_lt hj
    unfold w_st
    rw [h _ (by omega) (by omega) (by omega)]
  · refine w_Rel_same (fun q j hj => ?_) (fun j _ => ?_) (u6 i hi)
    · have := w_sz_lt hj
      unfold w_st
      rw [h _ (by omega) (by omega) (by omega)]
    · rw [h 244 (by omega) (by decide) (by decide)]
theorem w_Q12 {n : Nat} {μ : z_Mem} {v : Int32} (I : w_Inv n μ) : w_Inv (n + 1) (z_u μ 241 12 v) := w_quiet (fun k _ _ h => w_u_ne h) (fun j hj => w_u_at hj) I
theorem w_ag0 {es : List Nat} {v t : Int32} (h : t = 0) : z_agI es (.inl v) v t := ⟨h, rfl⟩
theorem w_agE {es : List Nat} {E j : Nat} {b t : Int32} (h : es[j]? = some E) (h2 : t = Int32.ofNat (j + 1)) : z_agI es (.inr E) b t := ⟨j, h, h2⟩
theorem w_fok {n : Nat} {μ : z_Mem} {es : List Nat} {cm : Option (Int32 ⊕ Nat)} {rm : Option (Int32 × z_Mem)} {v : Int32} (I : w_Inv n μ) (h1 : cm = some (.inl v)) (h2 : rm = some (v, z_u μ 241 12 0)) : ∃ (r : Int32 ⊕ Nat) (b : Int32) (μ2 : z_Mem), cm = some r ∧ rm = some (b, μ2) ∧ z_agI es r b (μ2 241 12) ∧ w_Inv (n + 1) μ2 :=
  ⟨_, _, _, h1, h2, w_ag0 w_u_eq, w_Q12 I⟩
theorem w_fno {n : Nat} {μ : z_Mem} {es : List Nat} {cm : Option (Int32 ⊕ Nat)} {rm : Option (Int32 × z_Mem)} {b : Int32} (I : w_Inv n μ) {E j : Nat} (he : es[j]? = some E) (h1 : cm = some (.inr E)) (h2 : rm = some (b, z_u μ 241 12 (Int32.ofNat (j + 1)))) : ∃ (r : Int32 ⊕ Nat) (b : Int32) (μ2 : z_Mem), cm = some r ∧ rm = some (b, μ2) ∧ z_agI es r b (μ2 241 12) ∧ w_Inv (n + 1) μ2 :=
  ⟨_, _, _, h1, h2, w_agE he w_u_eq, w_Q12 I⟩
/-- the relation out of the invariant -/
theorem w_get {n : Nat} {μ : z_Mem} (I : w_Inv n μ) : ∃ G M W S E, w_RelN (1000 * n) (w_st μ 1) (μ 242) G M W S E := I.1
theorem w_S4 : z_S4 w_Inv := fun n μ I hn => by
  obtain ⟨G, M, W, S, E, HN⟩ := w_get I
  refine ⟨μ 2 0, _, rfl, ?_, w_Q12 (v := 0) I⟩
  unfold pm_gearCount pm_done
  rw [show μ 2 0 = μ 242 0 from HN.1.1.trans HN.1.2.1.symm]
  rfl
theorem w_S5 : z_S5 w_Inv := fun n μ c1 I hn => by
  obtain ⟨G, M, W, S, E, HN⟩ := w_get I
  obtain ⟨g1, g2, g3, g4, g5, g6, g7, g8⟩ := HN.1
  unfold pG_teeth pG_needGear pm_teeth pm_gearNumber
  rcases w_gear (μ := μ) (ν := μ) g1 g2 g3 c1 with ⟨e1, e2, u, hu, rfl⟩ | ⟨e1, e2⟩
  · rw [e1, e2]
    dsimp only [Option.bind_some]
    rw [if_neg w_10, if_neg w_10]
    dsimp only [Option.bind_some]
    rw [w_rdn (by omega) (by omega), show (7 : Int32) + Int32.ofNat u = Int32.ofNat (7 + u) from w_al, w_rdn (by omega) (by omega)]
    exact w_fok I (congrArg (fun z => some (Sum.inl z)) (g4 u (by omega))) rfl
  · rw [e1, e2]
    exact w_fno I (j := 0) rfl rfl rfl
theorem w_S6 : z_S6 w_Inv := fun n μ c1 I hn => by
  obtain ⟨G, M, W, S, E, HN⟩ := w_get I
  obtain ⟨g1, g2, g3, g4, g5, g6, g7, g8⟩ := HN.1
  unfold pG_position pG_needGear pm_position pm_gearNumber
  rcases w_gear (μ := μ) (ν := μ) g1 g2 g3 c1 with ⟨e1, e2, u, hu, rfl⟩ | ⟨e1, e2⟩
  · rw [e1, e2]
    dsimp only [Option.bind_some]
    rw [if_neg w_10, if_neg w_10]
    dsimp only [Option.bind_some]
    rw [w_rdn (by omega) (by omega), show (17 : Int32) + Int32.ofNat u = Int32.ofNat (17 + u) from w_al, w_rdn (by omega) (by omega)]
    exact w_fok I (congrArg (fun z => some (Sum.inl z)) (g5 u (by omega))) rfl
  · rw [e1, e2]
    exact w_fno I (j := 0) rfl rfl rfl
theorem w_S7 : z_S7 w_Inv := fun n μ I hn => by
  obtain ⟨G, M, W, S, E, HN⟩ := w_get I
  refine ⟨Int32.ofNat M, _, congrArg some HN.2.1.1, ?_, w_Q12 (v := 0) I⟩
  unfold pm_meshCount pm_done
  rw [w_meshes (w_CT_of HN.1 HN.2.1 HN.2.2.1) (w_Rf_of HN.1 HN.2.1)]
  rfl
/-- two gears, in both -/
theorem w_gears2 {μ ν : z_Mem} {G : Nat} (hc : μ 2 0 = Int32.ofNat G) (hg : ν 242 0 = Int32.ofNat G) (hG : G ≤ 10) (i1 i2 : Int32) : (pT_hasGear 2 μ i1 = some 1 ∧ pT_hasGear 2 μ i2 = some 1 ∧ pm_areGears ν i1 i2 = some 1 ∧ ∃ u v, u < G ∧ v < G ∧ i1 = Int32.ofNat u ∧ i2 = Int32.ofNat v) ∨ (pm_areGears ν i1 i2 = some 0 ∧ (pT_hasGear 2 μ i1 = some 0 ∨ (pT_hasGear 2 μ i1 = some 1 ∧ pT_hasGear 2 μ i2 = some 0))) := by
  unfold pm_areGears
  rcases w_gear (μ := μ) (ν := ν) hc hg hG i1 with ⟨e1, e2, u, hu, rfl⟩ | ⟨e1, e2⟩
  · rw [e1, e2]
    dsimp only [Option.bind_some]
    rw [if_neg w_10]
    rcases w_gear (μ := μ) (ν := ν) hc hg hG i2 with ⟨e3, e4, v, hv, rfl⟩ | ⟨e3, e4⟩
    · rw [e3, e4]
      dsimp only [Option.bind_some]
      rw [if_neg w_10]
      exact Or.inl ⟨rfl, rfl, rfl, u, v, hu, hv, rfl, rfl⟩
    · rw [e3, e4]
      exact Or.inr ⟨rfl, Or.inr ⟨rfl, rfl⟩⟩
  · rw [e1, e2]
    exact Or.inr ⟨rfl, Or.inl rfl⟩
theorem w_00 : ∀ {μ : z_Mem} {v : Int32}, z_u μ 241 12 v 241 12 = v := w_u_eq
theorem w_S8 : z_S8 w_Inv := fun n μ c1 c2 I hn => by
  obtain ⟨G, M, W, S, E, HN⟩ := w_get I
  have H := w_CT_of HN.1 HN.2.1 HN.2.2.1
  have hR := w_Rf_of HN.1 HN.2.1
  obtain ⟨g1, g2, g3, -⟩ := HN.1
  unfold pG_doMesh pG_needGear pm_doMesh
  rcases w_gears2 (μ := μ) (ν := μ) g1 g2 g3 c1 c2 with ⟨e1, e2, e3, u, v, hu, hv, rfl, rfl⟩ | ⟨e3, e1⟩
  · rw [e1, e2, e3]
    dsimp only [Option.bind_some]
    rw [if_neg w_10, if_neg w_10, w_00, if_pos rfl]
    dsimp only [Option.bind_some]
    have hR' : w_Rf (w_st μ 1) G M (z_u μ 241 12 0 242) := by rw [w_u_ne (by decide)]; exact hR
    by_cases hE : w_EK (w_st μ 1) M u v
    · obtain ⟨k, hk, hK⟩ := id hE
      have := H.2.2.2.1
      rw [w_meshY H w_Str_st hK, w_isMeshY H hR' hE]
      dsimp only [Option.bind_some]
      rw [if_neg (w_nneg (k := 1) (by omega) (by decide) (by decide)), if_neg w_10]
      exact w_fok I rfl rfl
    · rw [w_meshN H w_Str_st hu hv hE, w_isMeshN H hR' hu hv hE]
      exact w_fok I rfl rfl
  · rw [e3]
    dsimp only [Option.bind_some]
    rw [if_pos rfl, w_00, if_neg w_10]
    rcases e1 with e1 | ⟨e1, e2⟩
    · rw [e1]
      exact w_fno I (j := 0) rfl rfl rfl
    · rw [e1, e2]
      exact w_fno I (j := 0) rfl rfl rfl
/-- the mesh that is wanted, in both -/
theorem w_need {n G M W S E : Nat} {μ : z_Mem} (HN : w_RelN n (w_st μ 1) (μ 242) G M W S E) (c1 c2 : Int32) : (∃ u v k, u < G ∧ v < G ∧ k < M ∧ w_K (w_st μ 1) M k u v ∧ c1 = Int32.ofNat u ∧ c2 = Int32.ofNat v ∧ pG_neededMesh μ c1 c2 = some (.inl (Int32.ofNat k)) ∧ pm_whyNoMesh μ c1 c2 = some 0) ∨ (∃ E j, [0, 3][j]? = some E ∧ pG_neededMesh μ c1 c2 = some (.inr E) ∧ pm_whyNoMesh μ c1 c2 = some (Int32.ofNat (j + 1)) ∧ j < 2) := by
  have H := w_CT_of HN.1 HN.2.1 HN.2.2.1
  have hR := w_Rf_of HN.1 HN.2.1
  obtain ⟨g1, g2, g3, -⟩ := HN.1
  unfold pG_neededMesh pG_needGear pm_whyNoMesh
  rcases w_gears2 (μ := μ) (ν := μ) g1 g2 g3 c1 c2 with ⟨e1, e2, e3, u, v, hu, hv, rfl, rfl⟩ | ⟨e3, e1⟩
  · rw [e1, e2, e3]
    dsimp only [Option.bind_some]
    rw [if_neg w_10, if_neg w_10]
    dsimp only [Option.bind_some]
    by_cases hE : w_EK (w_st μ 1) M u v
    · obtain ⟨k, hk, hK⟩ := id hE
      have := H.2.2.2.1
      rw [w_meshY H w_Str_st hK, w_isMeshY H hR hE]
      dsimp only [Option.bind_some]
      rw [if_neg (w_nneg (k := 1) (by omega) (by decide) (by decide)), if_neg w_10]
      exact Or.inl ⟨u, v, k, hu, hv, hk, hK, rfl, rfl, rfl, rfl⟩
    · rw [w_meshN H w_Str_st hu hv hE, w_isMeshN H hR hu hv hE]
      exact Or.inr ⟨3, 1, rfl, rfl, rfl, by decide⟩
  · rw [e3]
    refine Or.inr ⟨0, 0, rfl, ?_, rfl, by decide⟩
    rcases e1 with e1 | ⟨e1, e2⟩
    · rw [e1]; rfl
    · rw [e1, e2]; rfl
theorem w_S9 : z_S9 w_Inv := fun n μ c1 c2 I hn => by
  obtain ⟨G, M, W, S, E, HN⟩ := w_get I
  have hG := HN.1.2.2.1
  have hM := HN.2.1.2.1
  unfold pG_slack pm_slack
  rcases w_need HN c1 c2 with ⟨u, v, k, hu, hv, hk, hK, rfl, rfl, e1, e2⟩ | ⟨E, j, hj, e1, e2, hj2⟩
  · rw [e1, e2]
    dsimp only [Option.bind_some]
    rw [if_pos (Int32.le_refl 0), w_rdn (by omega) (by omega), w_slackm (by omega) (by omega)]
    obtain ⟨-, -, -, -, -, s, p, -, -, a8, -, a10, -⟩ := HN.2.1.2.2.1 k hk
    refine w_fok I (congrArg (fun z => some (Sum.inl z)) ?_) rfl
    show μ 7 k = μ 242 (27 + w_pr u v) - 1
    rw [← w_K_pr hK, a10, w_sr (k := 1) (show 1 ≤ s + 1 by omega)]
    exact a8
  · rw [e1, e2]
    dsimp only [Option.bind_some]
    rw [if_neg (fun q => by have : j + 1 ≤ 0 := (w_ler (k := 0) (by decide) (by omega)).mp q; omega)]
    exact w_fno I hj rfl rfl
theorem w_S10 : z_S10 w_Inv := fun n μ c1 c2 I hn => by
  obtain ⟨G, M, W, S, E, HN⟩ := w_get I
  have hG := HN.1.2.2.1
  have hM := HN.2.1.2.1
  unfold pG_gap pm_gap
  rcases w_need HN c1 c2 with ⟨u, v, k, hu, hv, hk, hK, rfl, rfl, e1, e2⟩ | ⟨E, j, hj, e1, e2, hj2⟩
  · rw [e1, e2]
    dsimp only [Option.bind_some]
    rw [if_pos (Int32.le_refl 0), w_rdn (by omega) (by omega), w_gapm (by omega) (by omega)]
    obtain ⟨-, -, -, -, -, s, p, -, -, -, a9, -, a11⟩ := HN.2.1.2.2.1 k hk
    refine w_fok I (congrArg (fun z => some (Sum.inl z)) ?_) rfl
    show μ 8 k = μ 242 (127 + w_pr u v)
    rw [← w_K_pr hK, a11]
    exact a9
  · rw [e1, e2]
    dsimp only [Option.bind_some]
    rw [if_neg (fun q => by have : j + 1 ≤ 0 := (w_ler (k := 0) (by decide) (by omega)).mp q; omega)]
    exact w_fno I hj rfl rfl
theorem w_S11 : z_S11 w_Inv := fun n μ c1 c2 I hn => by
  obtain ⟨G, M, W, S, E, HN⟩ := w_get I
  have H := w_CT_of HN.1 HN.2.1 HN.2.2.1
  have hR := w_Rf_of HN.1 HN.2.1
  obtain ⟨g1, g2, g3, -⟩ := HN.1
  unfold pG_areConnected pG_needGear pm_areConnected
  rcases w_has (tb := 2) g1 g3 c1 with ⟨e1, -⟩ | ⟨e1, u, hu, rfl⟩
  · rcases w_gears2 (μ := μ) (ν := μ) g1 g2 g3 c1 c2 with ⟨e1', -⟩ | ⟨e3, -⟩
    · rw [e1] at e1'; cases e1'
    · rw [e1]
      dsimp only [Option.bind_some]
      rw [if_pos rfl]
      dsimp only [Option.bind_some]
      refine ⟨.inr 0, μ, 0, _, rfl, ?_, w_agE (j := 0) rfl w_u_eq, w_Q12 (v := 1) I⟩
      rw [e3]
      dsimp only [Option.bind_some]
      rw [if_pos rfl, w_00, if_neg w_10]
      rfl
  · rcases w_has (tb := 2) g1 g3 c2 with ⟨e2, -⟩ | ⟨e2, v, hv, rfl⟩
    · rcases w_gears2 (μ := μ) (ν := μ) g1 g2 g3 (Int32.ofNat u) c2 with ⟨-, e2', -⟩ | ⟨e3, -⟩
      · rw [e2] at e2'; cases e2'
      · rw [e1, e2]
        dsimp only [Option.bind_some]
        rw [if_neg w_10, if_pos rfl]
        dsimp only [Option.bind_some]
        refine ⟨.inr 0, μ, 0, _, rfl, ?_, w_agE (j := 0) rfl w_u_eq, w_Q12 (v := 1) I⟩
        rw [e3]
        dsimp only [Option.bind_some]
        rw [if_pos rfl, w_00, if_neg w_10]
        rfl
    · rw [e1, e2]
      dsimp only [Option.bind_some]
      rw [if_neg w_10]
      dsimp only [Option.bind_some]
      obtain ⟨k, μ1, f1, f2, f3⟩ := w_chain H hu hv w_Str_st
      have h242 : z_u μ1 241 12 0 242 = μ 242 := by rw [w_u_ne (by decide), f2 242 (by decide)]
      obtain ⟨k2, ν1, f4, f5, f6⟩ := w_isConn (μ := z_u μ1 241 12 0) H hu (by rw [h242]; exact hR) hv
      rw [f1]
      dsimp only [Option.bind_some]
      have hag : pm_areGears μ1 (Int32.ofNat u) (Int32.ofNat v) = some 1 := by
        rcases w_gears2 (μ := μ) (ν := μ1) g1 (by rw [f2 242 (by decide)]; exact g2) g3 (Int32.ofNat u) (Int32.ofNat v) with ⟨-, -, h, -⟩ | ⟨-, h | ⟨-, h⟩⟩
        · exact h
        · rw [e1] at h; cases h
        · rw [e2] at h; cases h
      have hfin : ∀ (r : Int32 ⊕ Nat) (b : Int32), z_agI [0] r b 0 → (r = .inl 1 ∧ b = 1 ∨ r = .inl 0 ∧ b = 0) → (if k = -1 then some (Sum.inl (0 : Int32), μ1) else some (Sum.inl (1 : Int32), μ1)) = some (r, μ1) → (if k2 = 0 then some ((0 : Int32), ν1) else some (1, ν1)) = some (b, ν1) → ∃ (r : Int32 ⊕ Nat) (μ1_1 : z_Mem) (b : Int32) (μ2 : z_Mem), (if k = -1 then some (Sum.inl (0 : Int32), μ1) else some (Sum.inl (1 : Int32), μ1)) = some (r, μ1_1) ∧ ((pm_areGears μ1_1 (Int32.ofNat u) (Int32.ofNat v)).bind fun q1 => if q1 = 0 then if ((z_u μ1_1 241 12 1) 241 12) = 0 then (pm_isConnected (z_u μ1_1 241 12 1) (Int32.ofNat u) (Int32.ofNat v)).bind fun q5 => if q5.1 = 0 then some (0, q5.2) else some (1, q5.2) else some (0, (z_u μ1_1 241 12 1)) else if ((z_u μ1_1 241 12 0) 241 12) = 0 then (pm_isConnected (z_u μ1_1 241 12 0) (Int32.ofNat u) (Int32.ofNat v)).bind fun q9 => if q9.1 = 0 then some (0, q9.2) else some (1, q9.2) else some (0, (z_u μ1_1 241 12 0))) = some (b, μ2) ∧ z_agI [0] r b (μ2 241 12) ∧ w_Inv (n + 1) μ2 := by
        intro r b h1 _ h2 h3
        have t12 : ν1 241 12 = 0 := by rw [f5 241 (by decide), w_u_eq]
        refine ⟨r, μ1, b, ν1, h2, ?_, by rw [t12]; exact h1, w_quiet (fun q q1 q2 q3 => by rw [f5 q q2, w_u_ne q3, f2 q (by omega)]) (fun j hj => by rw [f5 241 (by decide), w_u_at hj, f2 241 (by decide)]) I⟩
        rw [hag]
        dsimp only [Option.bind_some]
        rw [if_neg w_10, w_00, if_pos rfl, f4]
        exact h3
      rcases f3 with ⟨rfl, f3⟩ | ⟨p, rfl, f3⟩
      · rcases f6 with ⟨rfl, -⟩ | ⟨-, p, f6, -⟩
        · exact hfin (.inl 0) 0 (w_ag0 rfl) (Or.inr ⟨rfl, rfl⟩) (if_pos rfl) (if_pos rfl)
        · exact absurd ⟨p, f6⟩ f3
      · rcases f6 with ⟨-, f6⟩ | ⟨rfl, -⟩
        · exact absurd ⟨p, f3.1⟩ f6
        · have hpl := w_pt_Kl H hu f3.1
          rw [List.length_cons] at hpl
          exact hfin (.inl 1) 1 (w_ag0 rfl) (Or.inl ⟨rfl, rfl⟩) (if_neg (w_nneg (k := 1) (by omega) (by decide) (by decide))) (if_neg w_10)
theorem w_S15 : z_S15 w_Inv := fun n μ I hn => by
  obtain ⟨G, M, W, S, E, HN⟩ := w_get I
  refine ⟨μ 2 2, _, rfl, ?_, w_Q12 (v := 0) I⟩
  unfold pm_turnedTeeth pm_done
  rw [show μ 2 2 = μ 242 6 from HN.1.2.2.2.2.2.2.2]
  rfl
theorem w_S22 : z_S22 w_Inv := fun n μ I hn => by
  obtain ⟨G, M, W, S, E, HN⟩ := w_get I
  refine ⟨μ 9 0, _, rfl, ?_, w_Q12 (v := 0) I⟩
  unfold pm_wheelCount pm_done
  rw [show μ 9 0 = μ 242 1 from HN.2.2.2.1.1.trans HN.2.2.2.1.2.1.symm]
  rfl
theorem w_S23 : z_S23 w_Inv := fun n μ c1 I hn => by
  obtain ⟨G, M, W, S, E, HN⟩ := w_get I
  obtain ⟨w1, w2, w3, w4⟩ := HN.2.2.2.1
  unfold pG_gearOf pG_needWheel pm_gearOf
  rcases w_wheel (μ := μ) (ν := μ) w1 w2 w3 c1 with ⟨e1, e2, w, hw, rfl⟩ | ⟨e1, e2⟩
  · rw [e1, e2]
    dsimp only [Option.bind_some]
    rw [if_neg w_10, if_neg w_10]
    dsimp only [Option.bind_some]
    rw [w_rdn (by omega) (by omega), show (227 : Int32) + Int32.ofNat w = Int32.ofNat (227 + w) from w_al, w_rdn (by omega) (by omega)]
    exact w_fok I (congrArg (fun z => some (Sum.inl z)) ((w4 w hw).1)) rfl
  · rw [e1, e2]
    exact w_fno I (j := 0) rfl rfl rfl
theorem w_idxS {ν : z_Mem} {s : Nat} (hs : s ≤ 100) (i : Int32) : (pm_in ν i 0 (Int32.ofNat s - 1) = some 1 ∧ ∃ a, a < s ∧ i = Int32.ofNat a) ∨ (pm_in ν i 0 (Int32.ofNat s - 1) = some 0 ∧ (i < 0 ∨ ¬ i < Int32.ofNat s)) := by
  rcases w_within (μ := ν) (ν := ν) i 0 (Int32.ofNat s - 1) with ⟨-, h, h1, h2⟩ | ⟨-, h, h1⟩
  · refine Or.inl ⟨h, ?_⟩
    cases s with
    | zero => exact absurd (Int32.le_trans h1 h2) (by decide)
    | succ s =>
      rw [w_sr (k := 1) (show 1 ≤ s + 1 by omega)] at h2
      obtain ⟨a, -, h3, rfl⟩ := w_nat_in (lo := 0) (hi := s) (by omega) (by omega) h1 h2
      exact ⟨a, by omega, rfl⟩
  · refine Or.inr ⟨h, ?_⟩
    by_cases h0 : i < 0
    · exact Or.inl h0
    · refine Or.inr (fun hc => h1 ⟨Int32.not_lt.mp h0, ?_⟩)
      obtain ⟨a, ha, rfl⟩ := w_nat (Int32.not_lt.mp h0)
      have h3 := (w_lt ha (by omega)).mp hc
      cases s with
      | zero => omega
      | succ s =>
        rw [w_sr (k := 1) (show 1 ≤ s + 1 by omega)]
        show Int32.ofNat a ≤ Int32.ofNat s
        exact (w_le (by omega) (by omega)).mpr (by omega)
theorem w_S24 : z_S24 w_Inv := fun n μ c1 c2 I hn => by
  obtain ⟨G, M, W, S, E, HN⟩ := w_get I
  obtain ⟨w1, w2, w3, w4⟩ := HN.2.2.2.1
  unfold pG_spokeDirection pG_needWheel pm_spokeDirection
  rcases w_wheel (μ := μ) (ν := μ) w1 w2 w3 c1 with ⟨e1, e2, w, hw, rfl⟩ | ⟨e1, e2⟩
  · obtain ⟨s1, s2, s3, s4, -, -⟩ := w_spv HN hw
    rw [e1, e2]
    dsimp only [Option.bind_some]
    rw [if_neg w_10, if_neg w_10]
    dsimp only [Option.bind_some]
    rw [w_rdn (by omega) (by omega), show (231 : Int32) + Int32.ofNat w = Int32.ofNat (231 + w) from w_al, w_rdn (by omega) (by omega), s3, s4]
    dsimp only [Option.bind_some]
    rcases w_idxS (ν := μ) (s := w_sp (μ 242) w) (by omega) c2 with ⟨e3, k, hk, rfl⟩ | ⟨e3, h3⟩
    · rw [e3]
      dsimp only [Option.bind_some]
      rw [if_neg (w_n0 (by omega)), if_pos ((w_lt (by omega) (by omega)).mpr hk), if_neg w_10, show pA_directionOfSpoke μ (Int32.ofNat w) (Int32.ofNat k) 0 = _ from (w_points HN hw (mt := 0) (k := k) (by omega)).1, show pm_pointsTo μ (Int32.ofNat w) (Int32.ofNat k) 0 = _ from (w_points HN hw (mt := 0) (k := k) (by omega)).2]
      exact w_fok I rfl rfl
    · rw [e3]
      by_cases h0 : c2 < 0
      · rw [if_pos h0]
        exact w_fno I (j := 1) rfl rfl rfl
      · rw [if_neg h0, if_neg (h3.resolve_left h0)]
        exact w_fno I (j := 1) rfl rfl rfl
  · rw [e1, e2]
    exact w_fno I (j := 0) rfl rfl rfl
/-- a wheel and a star, in both -/
theorem w_ws {n G M W S E : Nat} {μ : z_Mem} (HN : w_RelN n (w_st μ 1) (μ 242) G M W S E) (c1 c2 : Int32) : (∃ w p d, w < W ∧ p < S ∧ d < 3600 ∧ c1 = Int32.ofNat w ∧ pQ_hasWheel μ c1 = some 1 ∧ pY_placeOf μ c2 = some (Int32.ofNat p) ∧ pm_placeOf μ c2 = some (Int32.ofNat p) ∧ μ 14 p = Int32.ofNat d ∧ μ 242 (243 + p) = Int32.ofNat d ∧ pm_whyNoStar μ c1 c2 = some 0) ∨ (pQ_hasWheel μ c1 = some 0 ∧ pm_whyNoStar μ c1 c2 = some 1) ∨ (pQ_hasWheel μ c1 = some 1 ∧ pY_placeOf μ c2 = some (-1) ∧ pm_whyNoStar μ c1 c2 = some 2) := by
  obtain ⟨w1, w2, w3, w4⟩ := HN.2.2.2.1
  have hS := HN.2.2.2.2.1.2.2.1
  unfold pm_whyNoStar
  rcases w_wheel (μ := μ) (ν := μ) w1 w2 w3 c1 with ⟨e1, e2, w, hw, rfl⟩ | ⟨e1, e2⟩
  · rw [e2]
    dsimp only [Option.bind_some]
    rw [if_neg w_10]
    rcases w_place HN.2.2.2.2.1 c2 with ⟨e3, e4⟩ | ⟨p, hp, e3, e4⟩
    · rw [e4]
      exact Or.inr (Or.inr ⟨e1, e3, rfl⟩)
    · obtain ⟨d, hd, d1, d2⟩ := w_dir HN hp
      refine Or.inl ⟨w, p, d, hw, hp, hd, rfl, e1, e3, e4, d1, d2, ?_⟩
      rw [e4]
      dsimp only [Option.bind_some]
      rw [if_neg (w_nneg (k := 1) (by omega) (by decide) (by decide))]
  · rw [e2]
    exact Or.inr (Or.inl ⟨e1, rfl⟩)
theorem w_S25 : z_S25 w_Inv := fun n μ c1 c2 I hn => by
  obtain ⟨G, M, W, S, E, HN⟩ := w_get I
  have hS := HN.2.2.2.2.1.2.2.1
  unfold pG_nearestSpoke pG_needWheel pG_neededStar pm_nearestSpoke
  rcases w_ws HN c1 c2 with ⟨w, p, d, hw, hp, hd, rfl, e1, e2, e3, d1, d2, e4⟩ | ⟨e1, e4⟩ | ⟨e1, e2, e4⟩
  · rw [e1, e2, e4]
    dsimp only [Option.bind_some]
    rw [if_neg w_10, if_pos (Int32.le_refl 0)]
    dsimp only [Option.bind_some]
    rw [if_neg (w_nneg (k := 1) (by omega) (by decide) (by decide)), e3]
    dsimp only [Option.bind_some]
    rw [w_rdn (by omega) (by omega), d1, show (243 : Int32) + Int32.ofNat p = Int32.ofNat (243 + p) from w_al, w_rdn (by omega) (by omega), d2]
    dsimp only [Option.bind_some]
    rw [w_closestC HN hw hd, show pm_nearest μ (Int32.ofNat w) (Int32.ofNat d) 0 = _ from w_nearM HN hw (mt := 0) hd]
    exact w_fok I rfl rfl
  · rw [e1, e4]
    exact w_fno I (j := 0) rfl rfl rfl
  · rw [e1, e2, e4]
    exact w_fno I (j := 1) rfl rfl rfl
theorem w_S26 : z_S26 w_Inv := fun n μ c1 c2 I hn => by
  obtain ⟨G, M, W, S, E, HN⟩ := w_get I
  have hS := HN.2.2.2.2.1.2.2.1
  unfold pG_distanceToStar pG_needWheel pG_neededStar pm_distanceToStar
  rcases w_ws HN c1 c2 with ⟨w, p, d, hw, hp, hd, rfl, e1, e2, e3, d1, d2, e4⟩ | ⟨e1, e4⟩ | ⟨e1, e2, e4⟩
  · rw [e1, e2, e4]
    dsimp only [Option.bind_some]
    rw [if_neg w_10, if_pos (Int32.le_refl 0)]
    dsimp only [Option.bind_some]
    rw [if_neg (w_nneg (k := 1) (by omega) (by decide) (by decide)), e3]
    dsimp only [Option.bind_some]
    rw [w_rdn (by omega) (by omega), d1, show (243 : Int32) + Int32.ofNat p = Int32.ofNat (243 + p) from w_al, w_rdn (by omega) (by omega), d2]
    dsimp only [Option.bind_some]
    rw [show pA_leastDistance μ (Int32.ofNat w) (Int32.ofNat d) 0 = _ from w_leastC HN hw (mt := 0) hd, show pm_distance μ (Int32.ofNat w) (Int32.ofNat d) 0 = _ from w_leastM HN hw (mt := 0) hd]
    exact w_fok I rfl rfl
  · rw [e1, e4]
    exact w_fno I (j := 0) rfl rfl rfl
  · rw [e1, e2, e4]
    exact w_fno I (j := 1) rfl rfl rfl
theorem w_S27 : z_S27 w_Inv := fun n μ c1 c2 I hn => by
  obtain ⟨G, M, W, S, E, HN⟩ := w_get I
  have hS := HN.2.2.2.2.1.2.2.1
  unfold pG_teethToFollow pG_needWheel pG_neededStar pm_teethToFollow
  rcases w_ws HN c1 c2 with ⟨w, p, d, hw, hp, hd, rfl, e1, e2, e3, d1, d2, e4⟩ | ⟨e1, e4⟩ | ⟨e1, e2, e4⟩
  · rw [e1, e2, e4]
    dsimp only [Option.bind_some]
    rw [if_neg w_10, if_pos (Int32.le_refl 0)]
    dsimp only [Option.bind_some]
    rw [if_neg (w_nneg (k := 1) (by omega) (by decide) (by decide))]
    dsimp only [Option.bind_some]
    rw [w_rdn (by omega) (by omega), d1]
    dsimp only [Option.bind_some]
    rw [w_bestC HN hw hd, w_bestM HN hw hp e3 hd d2]
    exact w_fok I rfl rfl
  · rw [e1, e4]
    exact w_fno I (j := 0) rfl rfl rfl
  · rw [e1, e2, e4]
    exact w_fno I (j := 1) rfl rfl rfl
end ZASK
