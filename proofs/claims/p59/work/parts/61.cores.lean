/-! Changes, one by one: gears and wheels. -/
section ZCOR
section
variable {n : Nat} {c c' : w_Cl} {g g' : Nat → Int32} {G G' M W S E : Nat}
theorem w_A_tr (h4 : c' 4 = c 4) : w_A c' = w_A c := by funext e; unfold w_A; rw [h4]
theorem w_B_tr (h5 : c' 5 = c 5) : w_B c' = w_B c := by funext e; unfold w_B; rw [h5]
theorem w_J_tr (h4 : c' 4 = c 4) (h5 : c' 5 = c 5) : w_J c' = w_J c := by funext e u v; unfold w_J; rw [w_A_tr h4, w_B_tr h5]
theorem w_RM_tr (h1 : c' 1 1 = c 1 1) (h4 : c' 4 = c 4) (h5 : c' 5 = c 5) (h6 : c' 6 = c 6) (h7 : c' 7 = c 7) (hg : ∀ j, 27 ≤ j → j < 227 → g' j = g j) (hGG : G ≤ G') (hG : G ≤ 10) (H : w_RM c g G M) : w_RM c' g' G' M := by
  obtain ⟨a1, a2, a3, a4, a5⟩ := H
  unfold w_RM w_Rm
  rw [w_A_tr h4, w_B_tr h5, h1, h4, h5, h6, h7]
  refine ⟨a1, a2, fun e he => ?_, a4, fun a b hab hb => ?_⟩
  · obtain ⟨b1, b2, b3, b4, b5, s, p, b6, b7, b8, b9, b10, b11⟩ := a3 e he
    have := w_pr_lt (a := w_A c e) (b := w_B c e) (by omega) (by omega)
    exact ⟨by omega, by omega, b3, b4, b5, s, p, b6, b7, b8, b9, by rw [hg _ (by omega) (by omega)]; exact b10, by rw [hg _ (by omega) (by omega)]; exact b11⟩
  · have := w_pr_lt (a := a) (b := b) (by omega) hb
    rw [hg _ (by omega) (by omega)]
    exact a5 a b hab hb
theorem w_RF_tr (h4 : c' 4 = c 4) (h5 : c' 5 = c 5) (H : w_RF c M) : w_RF c' M := by
  unfold w_RF
  rw [w_A_tr h4, w_B_tr h5, w_J_tr h4 h5]
  exact H
theorem w_RW_tr (h8 : c' 8 = c 8) (h9 : c' 9 = c 9) (h10 : c' 10 = c 10) (hg1 : g' 1 = g 1) (hg : ∀ j, 227 ≤ j → j < 235 → g' j = g j) (hGG : G ≤ G') (H : w_RW c g G W) : w_RW c' g' G' W := by
  obtain ⟨a1, a2, a3, a4⟩ := H
  unfold w_RW
  rw [h8, h9, h10, hg1]
  refine ⟨a1, a2, a3, fun w hw => ?_⟩
  rw [hg _ (by omega) (by omega), hg _ (by omega) (by omega)]
  obtain ⟨b1, b2, ⟨u, b3, b4⟩, b5⟩ := a4 w hw
  exact ⟨b1, b2, ⟨u, by omega, b4⟩, b5⟩
theorem w_RY_tr (h11 : c' 11 = c 11) (h12 : c' 12 = c 12) (h13 : c' 13 = c 13) (h14 : c' 14 = c 14) (hg2 : g' 2 = g 2) (hg3 : g' 3 = g 3) (hg5 : g' 5 = g 5) (hg : ∀ j, 235 ≤ j → j < 259 → g' j = g j) (H : w_RY c g S) : w_RY c' g' S := by
  obtain ⟨a1, a2, a3, a4, a5, a6⟩ := H
  unfold w_RY
  rw [h11, h12, h13, h14, hg2, hg3, hg5]
  refine ⟨a1, a2, a3, a4, a5, fun p hp => ?_⟩
  rw [hg _ (by omega) (by omega), hg _ (by omega) (by omega), hg _ (by omega) (by omega)]
  exact a6 p hp
theorem w_RE_tr (h15 : c' 15 = c 15) (h16 : c' 16 = c 16) (h17 : c' 17 = c 17) (h18 : c' 18 = c 18) (h19 : c' 19 = c 19) (hg4 : g' 4 = g 4) (hg : ∀ j, 259 ≤ j → j < 331 → g' j = g j) (H : w_RE c g E) : w_RE c' g' E := by
  obtain ⟨a1, a2, a3, a4, a5, a6, a7, a8⟩ := H
  have hRe : ∀ p q, q < 6 → w_Re c g p q → w_Re c' g' p q := by
    intro p q hq h
    unfold w_Re
    rw [h16, h17, h18, h19, hg _ (by omega) (by omega), hg _ (by omega) (by omega)]
    exact ⟨h.1, h.2.1, fun i hi => by rw [hg _ (by omega) (by omega)]; exact h.2.2 i hi⟩
  unfold w_RE
  rw [h15, h16, h17, h18, hg4]
  refine ⟨a1, a2, a3, a4, fun p hp => ?_, fun q hq => ?_, a7, fun p q hp hq h => ?_⟩
  · obtain ⟨q, hq, h⟩ := a5 p hp
    exact ⟨q, hq, hRe p q (by omega) h⟩
  · obtain ⟨p, hp, h⟩ := a6 q hq
    exact ⟨p, hp, hRe p q (by omega) h⟩
  · rw [hg _ (by omega) (by omega), hg _ (by omega) (by omega)] at h
    exact a8 p q hp hq h
theorem w_PB_tr {m : Nat} (hnm : n ≤ m) (hg3 : g' 3 = g 3) (hg5 : g' 5 = g 5) (hg : ∀ j, 17 ≤ j → j < 27 → g' j = g j) (H : w_PB n g) : w_PB m g' := by
  refine ⟨fun i hi => ?_, ?_, ?_⟩
  · rw [hg _ (by omega) (by omega)]
    have := H.1 i hi
    omega
  · rw [hg3]
    have := H.2.1
    omega
  · rw [hg5]
    have := H.2.2
    omega
end
theorem w_10 : ¬ (1 : Int32) = 0 := by decide
theorem w_within {μ ν : z_Mem} (i a b : Int32) : (pG_isWithin μ i a b = some 1 ∧ pm_in ν i a b = some 1 ∧ a ≤ i ∧ i ≤ b) ∨ (pG_isWithin μ i a b = some 0 ∧ pm_in ν i a b = some 0 ∧ ¬ (a ≤ i ∧ i ≤ b)) := by
  unfold pG_isWithin pm_in
  by_cases h1 : i < a
  · rw [if_pos h1]
    exact Or.inr ⟨rfl, rfl, fun h => absurd h1 (Int32.not_lt.mpr h.1)⟩
  · rw [if_neg h1]
    by_cases h2 : b < i
    · rw [if_pos h2]
      exact Or.inr ⟨rfl, rfl, fun h => absurd h2 (Int32.not_lt.mpr h.2)⟩
    · rw [if_neg h2]
      exact Or.inl ⟨rfl, rfl, Int32.not_lt.mp h1, Int32.not_lt.mp h2⟩
theorem w_nat_in {i : Int32} {lo hi : Nat} (hlo : lo < 2147483648) (hhi : hi < 2147483648) (h1 : Int32.ofNat lo ≤ i) (h2 : i ≤ Int32.ofNat hi) : ∃ a, lo ≤ a ∧ a ≤ hi ∧ i = Int32.ofNat a := by
  have h0 : 0 ≤ i := Int32.le_trans (show (0 : Int32) ≤ Int32.ofNat lo from (w_le (a := 0) (by omega) hlo).mpr (Nat.zero_le _)) h1
  obtain ⟨a, ha, rfl⟩ := w_nat h0
  exact ⟨a, (w_le hlo ha).mp h1, (w_le ha hhi).mp h2, rfl⟩
/-- the reference's look at an index -/
theorem w_idx {ν : z_Mem} {k G : Nat} (hg : ν 242 k = Int32.ofNat G) (hG : G ≤ 10) (i : Int32) : (pm_in ν i 0 (ν 242 k - 1) = some 1 ∧ ∃ a, a < G ∧ i = Int32.ofNat a) ∨ (pm_in ν i 0 (ν 242 k - 1) = some 0 ∧ ∀ a, a < G → i ≠ Int32.ofNat a) := by
  rw [hg]
  rcases w_within (μ := ν) (ν := ν) i 0 (Int32.ofNat G - 1) with ⟨-, h, h1, h2⟩ | ⟨-, h, h1⟩
  · refine Or.inl ⟨h, ?_⟩
    cases G with
    | zero => exact absurd (Int32.le_trans h1 h2) (by decide)
    | succ G =>
      rw [w_sr (k := 1) (show 1 ≤ G + 1 by omega)] at h2
      obtain ⟨a, -, h3, rfl⟩ := w_nat_in (lo := 0) (hi := G) (by omega) (by omega) h1 h2
      exact ⟨a, by omega, rfl⟩
  · refine Or.inr ⟨h, fun a ha hc => h1 ?_⟩
    subst hc
    cases G with
    | zero => omega
    | succ G =>
      rw [w_sr (k := 1) (show 1 ≤ G + 1 by omega)]
      exact ⟨(w_le (a := 0) (by omega) (by omega)).mpr (Nat.zero_le _), show Int32.ofNat a ≤ Int32.ofNat G from (w_le (by omega) (by omega)).mpr (by omega)⟩
theorem w_gear {μ ν : z_Mem} {G : Nat} (hc : μ 2 0 = Int32.ofNat G) (hg : ν 242 0 = Int32.ofNat G) (hG : G ≤ 10) (i : Int32) : (pT_hasGear 2 μ i = some 1 ∧ pm_isGear ν i = some 1 ∧ ∃ a, a < G ∧ i = Int32.ofNat a) ∨ (pT_hasGear 2 μ i = some 0 ∧ pm_isGear ν i = some 0) := by
  unfold pm_isGear
  rcases w_has (tb := 2) hc hG i with ⟨h1, h2⟩ | ⟨h1, h2⟩
  · rcases w_idx hg hG i with ⟨-, a, ha, h3⟩ | ⟨h3, -⟩
    · exact absurd h3 (h2 a ha)
    · rw [h3]
      exact Or.inr ⟨h1, rfl⟩
  · rcases w_idx hg hG i with ⟨h3, -⟩ | ⟨-, h3⟩
    · rw [h3]
      exact Or.inl ⟨h1, rfl, h2⟩
    · obtain ⟨a, ha, hi⟩ := h2
      exact absurd hi (h3 a ha)
theorem w_wheel {μ ν : z_Mem} {W : Nat} (hc : μ 9 0 = Int32.ofNat W) (hg : ν 242 1 = Int32.ofNat W) (hW : W ≤ 4) (i : Int32) : (pQ_hasWheel μ i = some 1 ∧ pm_isWheel ν i = some 1 ∧ ∃ a, a < W ∧ i = Int32.ofNat a) ∨ (pQ_hasWheel μ i = some 0 ∧ pm_isWheel ν i = some 0) := by
  unfold pm_isWheel
  have h0 := w_has (μ := μ) (tb := 9) hc (show W ≤ 10 by omega) i
  rcases h0 with ⟨h1, h2⟩ | ⟨h1, h2⟩
  · rcases w_idx hg (show W ≤ 10 by omega) i with ⟨-, a, ha, h3⟩ | ⟨h3, -⟩
    · exact absurd h3 (h2 a ha)
    · rw [h3]
      exact Or.inr ⟨h1, rfl⟩
  · rcases w_idx hg (show W ≤ 10 by omega) i with ⟨h3, -⟩ | ⟨-, h3⟩
    · rw [h3]
      exact Or.inl ⟨h1, rfl, h2⟩
    · obtain ⟨a, ha, hi⟩ := h2
      exact absurd hi (h3 a ha)
theorem w_same_rfl {c : w_Cl} : w_same c c := fun _ _ _ => rfl
theorem w_frM_12 {ν : z_Mem} {v : Int32} : w_frM ν (z_u ν 241 12 v) := ⟨fun k _ _ _ h => w_u_ne h, fun j hj => w_u_at hj⟩
/-- a refusal: nothing changes in either -/
theorem w_Core_no {m j E : Nat} {es : List Nat} {μ μ' ν : z_Mem} (he : es[j]? = some E) (hE : E ≤ 3) (hj : j < 10) (h : w_frC μ μ') (hs : w_same (w_st μ 1) (w_st μ' 1)) : w_Core m es (-(Int32.ofNat (E + 1))) μ μ' 0 ν (z_u ν 241 12 (Int32.ofNat (j + 1))) :=
  ⟨h, w_frM_12, Or.inr ⟨j, E, he, hE, rfl, hj, w_u_eq, hs, w_u_ne (by decide)⟩⟩
theorem w_Core_no2 {m j E : Nat} {es : List Nat} {μ μ' ν ν' : z_Mem} (he : es[j]? = some E) (hE : E ≤ 3) (hj : j < 10) (h : w_frC μ μ') (hs : w_same (w_st μ 1) (w_st μ' 1)) (hν : w_frM ν ν') (hg : ν' 242 = ν 242) : w_Core m es (-(Int32.ofNat (E + 1))) μ μ' 0 ν (z_u ν' 241 12 (Int32.ofNat (j + 1))) :=
  ⟨h, w_frM_trans hν w_frM_12, Or.inr ⟨j, E, he, hE, rfl, hj, w_u_eq, hs, (w_u_ne (by decide)).trans hg⟩⟩
theorem w_frM_242 {ν : z_Mem} {j : Nat} {v : Int32} : w_frM ν (z_u ν 242 j v) := ⟨fun k h _ _ _ => w_u_ne h, fun j _ => by rw [w_u_ne (by decide)]⟩
theorem w_frC_u {μ : z_Mem} {k j : Nat} {v : Int32} (hk : ¬ (k = 0 ∨ (20 < k ∧ k < 24) ∨ 33 < k)) : w_frC μ (z_u μ k j v) := fun q hq => w_u_ne (by omega)
/-- a gear more -/
theorem w_cGear {n m : Nat} (hnm : n ≤ m) (i1 : Int32) (μ ν : z_Mem) (H : w_Rel n (w_st μ 1) (ν 242)) : ∃ a μ' b ν', pG_tryGear μ i1 = some (a, μ') ∧ pm_addsGear ν i1 = some (b, ν') ∧ w_Core m [1, 2] a μ μ' b ν ν' := by
  obtain ⟨G, M, W, S, E, h1, h2, h3, h4, h5, h6, h7⟩ := H
  obtain ⟨g1, g2, g3, g4, g5, g6, g7, g8⟩ := id h1
  have e20 : μ 2 0 = Int32.ofNat G := g1
  unfold pG_tryGear pm_addsGear
  rcases w_within (μ := μ) (ν := ν) i1 8 60 with ⟨e1, e2, b1, b2⟩ | ⟨e1, e2, -⟩
  · rw [e1, e2]
    dsimp only [Option.bind_some]
    rw [if_neg w_10, if_neg w_10, e20, g2]
    obtain ⟨t, t1, t2, rfl⟩ := w_nat_in (lo := 8) (hi := 60) (by omega) (by omega) b1 b2
    by_cases hG : G = 10
    · subst hG
      rw [if_neg (show ¬ Int32.ofNat 10 < 10 by decide), if_pos (show Int32.ofNat 10 = 10 from rfl)]
      exact ⟨_, _, _, _, rfl, rfl, w_Core_no (j := 1) (E := 2) rfl (by decide) (by decide) w_frC_rfl w_same_rfl⟩
    · rw [if_pos ((w_ltr (k := 10) (by decide) (by omega)).mpr (show G < 10 by omega)), if_neg (fun q => hG ((w_eqr (k := 10) (by decide) (by omega)).mp q)), w_al, if_pos ((w_inn (by omega)).mpr (by omega)), w_tn (by omega)]
      unfold pT_addGearOf
      rw [e20, if_neg (fun q => by have : 10 ≤ G := (w_lel (k := 10) (by decide) (by omega)).mp q; omega), if_pos ((w_inn (by omega)).mpr (by omega)), if_pos ((w_inn (by omega)).mpr (by omega)), w_tn (by omega)]
      have x1 : z_u (z_u μ 3 G (Int32.ofNat t)) 4 G 0 2 0 = Int32.ofNat G := by rw [w_u_ne (by decide), w_u_ne (by decide)]; exact e20
      have x2 : z_u ν 242 (7 + G) (Int32.ofNat t) 242 0 = Int32.ofNat G := by rw [w_u_at (by omega)]; exact g2
      rw [x1, x2, w_ar2]
      unfold pm_done
      dsimp only [Option.bind_some]
      have lo : ∀ k, 4 ≤ k → w_st (z_u (z_u (z_u μ 3 G (Int32.ofNat t)) 4 G 0) 2 0 (Int32.ofNat (G + 1))) 1 k = w_st μ 1 k := fun k hk => by unfold w_st; rw [w_u_ne (by omega), w_u_ne (by omega), w_u_ne (by omega)]
      have hi : ∀ j, j ≠ 0 → j ≠ 7 + G → z_u (z_u (z_u ν 242 (7 + G) (Int32.ofNat t)) 242 0 (Int32.ofNat (G + 1))) 241 12 0 242 j = ν 242 j := fun j j1 j2 => by rw [w_u_ne (by decide), w_u_at j1, w_u_at j2]
      refine ⟨_, _, _, _, rfl, rfl, fun q hq => ?_, ?_, Or.inl ⟨(w_le (a := 0) (by omega) (by omega)).mpr (Nat.zero_le _), rfl, w_u_eq, G + 1, M, W, S, E, ⟨?_, ?_, ?_, ?_, ?_, ?_, ?_⟩, w_gl h1 (by omega) (by omega)⟩⟩
      · rw [w_u_ne (by omega), w_u_ne (by omega), w_u_ne (by omega)]
      · exact w_frM_trans (w_frM_trans w_frM_242 w_frM_242) w_frM_12
      · refine ⟨?_, ?_, by omega, fun i hi => ?_, fun i hi => ?_, fun i hi => ?_, fun i hi1 hi => ?_, ?_⟩
        · simp (disch := omega) only [w_st, Nat.reduceAdd, w_u_ne, w_u_at, w_u_eq]
        · simp (disch := omega) only [w_st, Nat.reduceAdd, w_u_ne, w_u_at, w_u_eq]
        · by_cases hiG : i = G
          · subst hiG; simp (disch := omega) only [w_st, Nat.reduceAdd, w_u_ne, w_u_at, w_u_eq]
          · simp (disch := omega) only [w_st, Nat.reduceAdd, w_u_ne, w_u_at, w_u_eq]
            exact g4 i hi
        · by_cases hiG : i = G
          · subst hiG; simp (disch := omega) only [w_st, Nat.reduceAdd, w_u_ne, w_u_at, w_u_eq]
            exact (g7 i (Nat.le_refl _) (by omega)).symm
          · simp (disch := omega) only [w_st, Nat.reduceAdd, w_u_ne, w_u_at, w_u_eq]
            exact g5 i hi
        · by_cases hiG : i = G
          · subst hiG; simp (disch := omega) only [w_st, Nat.reduceAdd, w_u_ne, w_u_at, w_u_eq]
            exact ⟨t, t1, t2, rfl⟩
          · simp (disch := omega) only [w_st, Nat.reduceAdd, w_u_ne, w_u_at, w_u_eq]
            exact g6 i (by omega)
        · simp (disch := omega) only [w_st, Nat.reduceAdd, w_u_ne, w_u_at, w_u_eq]
          exact g7 i (by omega) hi
        · simp (disch := omega) only [w_st, Nat.reduceAdd, w_u_ne, w_u_at, w_u_eq]
          exact g8
      · exact w_RM_tr (c := w_st μ 1) (by simp (disch := omega) only [w_st, Nat.reduceAdd, w_u_ne, w_u_at, w_u_eq]) (lo 4 (by decide)) (lo 5 (by decide)) (lo 6 (by decide)) (lo 7 (by decide)) (fun j j1 j2 => hi j (by omega) (by omega)) (by omega) (by omega) h2
      · exact w_RF_tr (lo 4 (by decide)) (lo 5 (by decide)) h3
      · exact w_RW_tr (lo 8 (by decide)) (lo 9 (by decide)) (lo 10 (by decide)) (hi 1 (by decide) (by omega)) (fun j j1 j2 => hi j (by omega) (by omega)) (by omega) h4
      · exact w_RY_tr (lo 11 (by decide)) (lo 12 (by decide)) (lo 13 (by decide)) (lo 14 (by decide)) (hi 2 (by decide) (by omega)) (hi 3 (by decide) (by omega)) (hi 5 (by decide) (by omega)) (fun j j1 j2 => hi j (by omega) (by omega)) h5
      · exact w_RE_tr (lo 15 (by decide)) (lo 16 (by decide)) (lo 17 (by decide)) (lo 18 (by decide)) (lo 19 (by decide)) (hi 4 (by decide) (by omega)) (fun j j1 j2 => hi j (by omega) (by omega)) h6
      · exact w_PB_tr hnm (hi 3 (by decide) (by omega)) (hi 5 (by decide) (by omega)) (fun j j1 j2 => hi j (by omega) (by omega)) h7
  · rw [e1, e2]
    exact ⟨_, _, _, _, rfl, rfl, w_Core_no (j := 0) (E := 1) rfl (by decide) (by decide) w_frC_rfl w_same_rfl⟩
end ZCOR
