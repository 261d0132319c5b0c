/-! Stars that come, go and move, in both. -/
section ZSKY
section
variable {n m : Nat} {μ μ' ν ν' : z_Mem} {G M W S E : Nat}
/-- the relation of all but the stars, kept -/
theorem w_Rel_sky {S' : Nat} (hnm : n ≤ m) (HH : w_RelN n (w_st μ 1) (ν 242) G M W S E) (lo : ∀ q, q ≠ 11 → q ≠ 12 → q ≠ 13 → q ≠ 14 → w_st μ' 1 q = w_st μ 1 q) (hi : ∀ j, j ≠ 2 → j ≠ 3 → j ≠ 5 → ¬ (235 ≤ j ∧ j < 259) → ν' 242 j = ν 242 j) (hY : w_RY (w_st μ' 1) (ν' 242) S') (h3 : 0 ≤ (ν' 242 3).toInt ∧ (ν' 242 3).toInt ≤ (m : Int)) (h5 : 0 ≤ (ν' 242 5).toInt ∧ (ν' 242 5).toInt ≤ (m : Int)) : w_RelN m (w_st μ' 1) (ν' 242) G M W S' E := by
  obtain ⟨k1, k2, k3, k4, k5, k6, k7⟩ := HH
  obtain ⟨g1, g2, g3, g4, g5, g6, g7, g8⟩ := id k1
  have l1 := lo 1 (by decide) (by decide) (by decide) (by decide)
  refine ⟨⟨by rw [l1]; exact g1, by rw [hi 0 (by omega) (by omega) (by omega) (by omega)]; exact g2, g3, fun i hi2 => ?_, fun i hi2 => ?_, fun i hi2 => ?_, fun i hi1 hi2 => ?_, ?_⟩, ?_, ?_, ?_, hY, ?_, ?_⟩
  · rw [lo 2 (by decide) (by decide) (by decide) (by decide), hi _ (by omega) (by omega) (by omega) (by omega)]; exact g4 i hi2
  · rw [lo 3 (by decide) (by decide) (by decide) (by decide), hi _ (by omega) (by omega) (by omega) (by omega)]; exact g5 i hi2
  · rw [hi _ (by omega) (by omega) (by omega) (by omega)]; exact g6 i hi2
  · rw [hi _ (by omega) (by omega) (by omega) (by omega)]; exact g7 i hi1 hi2
  · rw [l1, hi 6 (by omega) (by omega) (by omega) (by omega)]; exact g8
  · exact w_RM_tr (by rw [l1]) (lo 4 (by decide) (by decide) (by decide) (by decide)) (lo 5 (by decide) (by decide) (by decide) (by decide)) (lo 6 (by decide) (by decide) (by decide) (by decide)) (lo 7 (by decide) (by decide) (by decide) (by decide)) (fun j j1 j2 => hi j (by omega) (by omega) (by omega) (by omega)) (Nat.le_refl _) g3 k2
  · exact w_RF_tr (lo 4 (by decide) (by decide) (by decide) (by decide)) (lo 5 (by decide) (by decide) (by decide) (by decide)) k3
  · exact w_RW_tr (lo 8 (by decide) (by decide) (by decide) (by decide)) (lo 9 (by decide) (by decide) (by decide) (by decide)) (lo 10 (by decide) (by decide) (by decide) (by decide)) (hi 1 (by omega) (by omega) (by omega) (by omega)) (fun j j1 j2 => hi j (by omega) (by omega) (by omega) (by omega)) (Nat.le_refl _) k4
  · exact w_RE_tr (lo 15 (by decide) (by decide) (by decide) (by decide)) (lo 16 (by decide) (by decide) (by decide) (by decide)) (lo 17 (by decide) (by decide) (by decide) (by decide)) (lo 18 (by decide) (by decide) (by decide) (by decide)) (lo 19 (by decide) (by decide) (by decide) (by decide)) (hi 4 (by omega) (by omega) (by omega) (by omega)) (fun j j1 j2 => hi j (by omega) (by omega) (by omega) (by omega)) k6
  · refine ⟨fun i hi2 => ?_, h3, h5⟩
    rw [hi _ (by omega) (by omega) (by omega) (by omega)]
    have := k7.1 i hi2
    omega
end
theorem w_cStar {n m : Nat} (hn : n ≤ 1000000) (hm : n + 99 ≤ m) (i1 i2 : Int32) (μ ν : z_Mem) (HH : w_Rel n (w_st μ 1) (ν 242)) : ∃ a μ' b ν', pG_tryStar μ i1 i2 = some (a, μ') ∧ pm_addsStar ν i1 i2 = some (b, ν') ∧ w_Core m [1, 2] a μ μ' b ν ν' := by
  obtain ⟨G, M, W, S, E, HN⟩ := HH
  obtain ⟨y1, y2, y3, y4, y5, y6⟩ := id HN.2.2.2.2.1
  have hPB := HN.2.2.2.2.2.2
  have e12 : μ 12 0 = Int32.ofNat S := y1
  have e121 : μ 12 1 = ν 242 3 := y4
  have no1 : ∃ a μ' b ν', (some (-2, μ) : Option (Int32 × z_Mem)) = some (a, μ') ∧ (pm_fails ν 1).bind (fun q24 => some (q24.1, q24.2)) = some (b, ν') ∧ w_Core m [1, 2] a μ μ' b ν ν' :=
    ⟨_, _, _, _, rfl, rfl, w_Core_no (j := 0) (E := 1) rfl (by decide) (by decide) w_frC_rfl w_same_rfl⟩
  unfold pG_tryStar pm_addsStar
  rcases w_within (μ := μ) (ν := ν) i1 0 3599 with ⟨e1, e2, b1, b2⟩ | ⟨e1, e2, -⟩
  · rw [e1, e2]
    dsimp only [Option.bind_some]
    rw [if_neg w_10, if_neg w_10]
    rcases w_within (μ := μ) (ν := ν) i2 (-50) 50 with ⟨e3, e4, b3, b4⟩ | ⟨e3, e4, -⟩
    · rw [e3, e4]
      dsimp only [Option.bind_some]
      rw [if_neg w_10, if_neg w_10, e12, y2]
      obtain ⟨d, -, d2, rfl⟩ := w_nat_in (lo := 0) (hi := 3599) (by omega) (by omega) b1 b2
      by_cases hS : S = 8
      · subst hS
        rw [if_neg (show ¬ Int32.ofNat 8 < 8 by decide), if_pos (show Int32.ofNat 8 = 8 from rfl)]
        exact ⟨_, _, _, _, rfl, rfl, w_Core_no (j := 1) (E := 2) rfl (by decide) (by decide) w_frC_rfl w_same_rfl⟩
      · rw [if_pos ((w_ltr (k := 8) (by decide) (by omega)).mpr (show S < 8 by omega)), if_neg (fun q => hS ((w_eqr (k := 8) (by decide) (by omega)).mp q)), w_al, w_al, w_al, if_pos ((w_inn (by omega)).mpr (by omega)), if_pos ((w_inn (by omega)).mpr (by omega)), if_pos ((w_inn (by omega)).mpr (by omega)), w_tn (by omega), w_tn (by omega), w_tn (by omega)]
        unfold pY_add pm_done
        have inb : z_inb (Int32.ofNat S) 8 = true := (w_inn (by omega)).mpr (by omega)
        have tS : (Int32.ofNat S).toNatClampNeg = S := w_tn (by omega)
        rw [w_rdn (by omega) (by omega)]
        simp (disch := omega) only [e12, e121, y2, tS, w_u_ne, w_u_eq, w_u_at, if_pos inb, Option.bind_some]
        rw [if_neg (fun q => by have : 8 ≤ S := (w_lel (k := 8) (by decide) (by omega)).mp q; omega), show Int32.ofNat S + 1 = Int32.ofNat (S + 1) from w_ar2]
        dsimp only [Option.bind_some]
        have ha : 0 ≤ ν 242 3 := by rw [Int32.le_iff_toInt_le, w_i0]; exact hPB.2.1.1
        have hnx : (ν 242 3 + 1).toInt = (ν 242 3).toInt + 1 := by
          have := hPB.2.1
          rw [w_iadd (by rw [Int32.toInt_one]; omega) (by rw [Int32.toInt_one]; omega), Int32.toInt_one]
        refine ⟨_, _, _, _, rfl, rfl, fun q hq => ?_, w_frM_trans (w_frM_trans (w_frM_trans (w_frM_trans (w_frM_trans w_frM_242 w_frM_242) w_frM_242) w_frM_242) w_frM_242) w_frM_12, Or.inl ⟨ha, rfl, w_u_eq, G, M, W, S + 1, E, ?_, w_gl HN.1 (by omega) (by omega)⟩⟩
        · simp (disch := omega) only [w_u_ne]
        · refine w_Rel_sky (by omega) HN (fun q a1 a2 a3 a4 => by unfold w_st; simp (disch := omega) only [w_u_ne]) (fun j j1 j2 j3 j4 => by simp (disch := omega) only [w_u_ne, w_u_at]) ?_ (by simp (disch := omega) only [w_u_ne, w_u_at, w_u_eq]; rw [hnx]; have := hPB.2.1; omega) (by simp (disch := omega) only [w_u_ne, w_u_at, w_u_eq]; have := hPB.2.2; omega)
          refine ⟨by simp (disch := omega) only [w_st, Nat.reduceAdd, w_u_ne, w_u_at, w_u_eq], by simp (disch := omega) only [w_u_ne, w_u_at, w_u_eq], by omega, by simp (disch := omega) only [w_st, Nat.reduceAdd, w_u_ne, w_u_at, w_u_eq], by simp (disch := omega) only [w_st, Nat.reduceAdd, w_u_ne, w_u_at, w_u_eq]; exact y5, fun p hp => ?_⟩
          by_cases hpS : p = S
          · subst hpS
            simp (disch := omega) only [w_st, Nat.reduceAdd, w_u_ne, w_u_at, w_u_eq]
            exact ⟨trivial, trivial, trivial, ⟨d, by omega, rfl⟩, b3, b4⟩
          · simp (disch := omega) only [w_st, Nat.reduceAdd, w_u_ne, w_u_at, w_u_eq]
            exact y6 p (by omega)
    · rw [e3, e4]
      dsimp only [Option.bind_some]
      rw [if_pos rfl, if_pos rfl]
      exact no1
  · rw [e1, e2]
    dsimp only [Option.bind_some]
    rw [if_pos rfl, if_pos rfl]
    exact no1
theorem w_rmC {S p : Nat} {f1 : Int32} {μ0 : z_Mem} (hS : S ≤ 8) {K : z_Mem → Int32 → Option (Int32 × z_Mem)} : ∀ (f q : Nat) (μ : z_Mem), p ≤ q → q + 1 ≤ S → S - q < f → μ 12 0 = Int32.ofNat (S - 1) → (∀ k, k ≠ 13 → k ≠ 14 → k ≠ 15 → μ k = μ0 k) → (∀ k, 13 ≤ k → k ≤ 15 → ∀ i, μ k i = if p ≤ i ∧ i < q then μ0 k (i + 1) else μ0 k i) →
    ∃ μ', pY_removeAt_L12 f f1 K μ (Int32.ofNat q) = K μ' (Int32.ofNat (S - 1)) ∧ (∀ k, k ≠ 13 → k ≠ 14 → k ≠ 15 → μ' k = μ0 k) ∧ ∀ k, 13 ≤ k → k ≤ 15 → ∀ i, μ' k i = if p ≤ i ∧ i < S - 1 then μ0 k (i + 1) else μ0 k i := by
  intro f
  induction f with
  | zero => intro q μ _ _ h; omega
  | succ f ih =>
    intro q μ hq hqM hf h1 h2 h3
    show ∃ μ', pY_removeAt_L12_B (pY_removeAt_L12 f f1 K) f1 K μ (Int32.ofNat q) = _ ∧ _
    unfold pY_removeAt_L12_B
    rw [h1]
    by_cases h : S - 1 ≤ q
    · rw [if_pos ((w_le (by omega) (by omega)).mpr h)]
      have : q = S - 1 := by omega
      subst this
      exact ⟨μ, rfl, h2, h3⟩
    · rw [if_neg (fun hc => h ((w_le (by omega) (by omega)).mp hc)), show Int32.ofNat q + 1 = Int32.ofNat (q + 1) from w_ar2]
      have hr8 : ∀ (μ : z_Mem) a, z_rd μ a 8 (Int32.ofNat (q + 1)) = some (μ a (q + 1)) := fun μ a => w_rdn (by omega) (by omega)
      have hin : z_inb (Int32.ofNat q) 8 = true := (w_inn (by omega)).mpr (by omega)
      simp (disch := omega) only [hr8, Option.bind_some, if_pos hin, w_tn, w_u_ne]
      refine ih (q + 1) _ (by omega) (by omega) (by omega) (by simp (disch := omega) only [w_u_ne]; exact h1) (fun k k5 k6 k7 => by simp (disch := omega) only [w_u_ne]; exact h2 k k5 k6 k7) (fun k k1 k2 i => ?_)
      have hread : ∀ k, 13 ≤ k → k ≤ 15 → μ k (q + 1) = μ0 k (q + 1) := fun k k1 k2 => by rw [h3 k k1 k2, if_neg (by omega)]
      have fin : ∀ (k : Nat), 13 ≤ k → k ≤ 15 → ∀ (X : z_Mem), (∀ j, j ≠ q → X k j = μ k j) → X k q = μ k (q + 1) → X k i = if p ≤ i ∧ i < q + 1 then μ0 k (i + 1) else μ0 k i := by
        intro k k1 k2 X x1 x2
        by_cases hi : i = q
        · subst hi
          rw [x2, hread k k1 k2, if_pos (by omega)]
        · rw [x1 i hi, h3 k k1 k2]
          by_cases hc : p ≤ i ∧ i < q
          · rw [if_pos hc, if_pos (by omega)]
          · rw [if_neg hc, if_neg (by omega)]
      rcases (show k = 13 ∨ k = 14 ∨ k = 15 by omega) with rfl | rfl | rfl
      · exact fin 13 (by decide) (by decide) _ (fun j hj => by simp (disch := omega) only [w_u_ne, w_u_at]) (by simp (disch := omega) only [w_u_ne, w_u_eq])
      · exact fin 14 (by decide) (by decide) _ (fun j hj => by simp (disch := omega) only [w_u_ne, w_u_at]) (by simp (disch := omega) only [w_u_ne, w_u_eq])
      · exact fin 15 (by decide) (by decide) _ (fun j hj => by simp (disch := omega) only [w_u_ne, w_u_at]) (by simp (disch := omega) only [w_u_ne, w_u_eq])
/-- the reference shifts a block -/
theorem w_rmI {p at0 : Nat} {f1 f2 : Int32} {ν0 : z_Mem} (hat : at0 + 8 ≤ 331) {K : z_Mem → Int32 → Option (Int32 × z_Mem)} : ∀ (f q : Nat) (ν : z_Mem), p ≤ q → q ≤ 7 → 7 - q < f → (∀ k, k ≠ 242 → ν k = ν0 k) → (∀ j, ν 242 j = if at0 + p ≤ j ∧ j < at0 + q then ν0 242 (j + 1) else ν0 242 j) →
    ∃ ν', pm_removes_L31 f f1 f2 (Int32.ofNat at0) K ν (Int32.ofNat q) = K ν' (Int32.ofNat 7) ∧ (∀ k, k ≠ 242 → ν' k = ν0 k) ∧ ∀ j, ν' 242 j = if at0 + p ≤ j ∧ j < at0 + 7 then ν0 242 (j + 1) else ν0 242 j := by
  intro f
  induction f with
  | zero => intro q ν _ _ h; omega
  | succ f ih =>
    intro q ν hq hq7 hf h2 h3
    show ∃ ν', pm_removes_L31_B (pm_removes_L31 f f1 f2 (Int32.ofNat at0) K) f1 f2 (Int32.ofNat at0) K ν (Int32.ofNat q) = _ ∧ _
    unfold pm_removes_L31_B
    by_cases h : q = 7
    · subst h
      rw [if_pos (show (7 : Int32) ≤ Int32.ofNat 7 by decide)]
      exact ⟨ν, rfl, h2, h3⟩
    · rw [if_neg (fun hc => h (by have : 7 ≤ q := (w_lel (k := 7) (by decide) (by omega)).mp hc; omega)), w_aa, show Int32.ofNat (at0 + q) + 1 = Int32.ofNat (at0 + q + 1) from w_ar2, w_rdn (by omega) (by omega)]
      dsimp only [Option.bind_some]
      rw [if_pos ((w_inn (by omega)).mpr (by omega)), w_tn (by omega), w_ar2]
      refine ih (q + 1) _ (by omega) (by omega) (by omega) (fun k hk => (w_u_ne hk).trans (h2 k hk)) (fun j => ?_)
      by_cases hj : j = at0 + q
      · subst hj
        rw [w_u_eq, h3, if_neg (by omega), if_pos (by omega)]
      · rw [w_u_at hj, h3]
        by_cases hc : at0 + p ≤ j ∧ j < at0 + q
        · rw [if_pos hc, if_pos (by omega)]
        · rw [if_neg hc, if_neg (by omega)]
theorem w_rmM {p : Nat} {f1 : Int32} {ν0 : z_Mem} (hp : p ≤ 7) {K : z_Mem → Int32 → Option (Int32 × z_Mem)} : ∃ ν', pm_removes_L21 z_fu f1 (Int32.ofNat p) K ν0 235 = K ν' 259 ∧ (∀ k, k ≠ 242 → ν' k = ν0 k) ∧ ∀ j, ν' 242 j = if (235 + p ≤ j ∧ j < 242) ∨ (243 + p ≤ j ∧ j < 250) ∨ (251 + p ≤ j ∧ j < 258) then ν0 242 (j + 1) else ν0 242 j := by
  have st : ∀ (f at0 : Nat) (ν : z_Mem), at0 + 8 ≤ 259 → ∃ ν', pm_removes_L21 (f + 1) f1 (Int32.ofNat p) K ν (Int32.ofNat at0) = pm_removes_L21 f f1 (Int32.ofNat p) K ν' (Int32.ofNat (at0 + 8)) ∧ (∀ k, k ≠ 242 → ν' k = ν k) ∧ ∀ j, ν' 242 j = if at0 + p ≤ j ∧ j < at0 + 7 then ν 242 (j + 1) else ν 242 j := by
    intro f at0 ν hat
    obtain ⟨ν', e1, e2, e3⟩ := w_rmI (p := p) (at0 := at0) (f1 := f1) (f2 := Int32.ofNat p) (ν0 := ν) (by omega) (K := fun M10 k9 => pm_removes_L21 f f1 (Int32.ofNat p) K M10 (Int32.ofNat at0 + 8)) z_fu p ν (Nat.le_refl _) hp (by show 7 - p < 3000; omega) (fun _ _ => rfl) (fun j => by rw [if_neg (by omega)])
    refine ⟨ν', ?_, e2, e3⟩
    show pm_removes_L21_B (pm_removes_L21 f f1 (Int32.ofNat p) K) f1 (Int32.ofNat p) K ν (Int32.ofNat at0) = _
    unfold pm_removes_L21_B
    rw [if_neg (fun hc => by have : 259 ≤ at0 := (w_lel (k := 259) (by decide) (by omega)).mp hc; omega), e1, w_ar2]
  obtain ⟨ν1, a1, a2, a3⟩ := st 2999 235 ν0 (by omega)
  obtain ⟨ν2, b1, b2, b3⟩ := st 2998 243 ν1 (by omega)
  obtain ⟨ν3, c1, c2, c3⟩ := st 2997 251 ν2 (by omega)
  refine ⟨ν3, ?_, fun k hk => by rw [c2 k hk, b2 k hk, a2 k hk], fun j => ?_⟩
  · refine Eq.trans a1 (Eq.trans b1 (Eq.trans c1 ?_))
    show pm_removes_L21_B (pm_removes_L21 2996 f1 (Int32.ofNat p) K) f1 (Int32.ofNat p) K ν3 (Int32.ofNat 259) = _
    unfold pm_removes_L21_B
    rw [if_pos (show (259 : Int32) ≤ Int32.ofNat 259 by decide)]
    rfl
  · rw [c3 j]
    by_cases hc3 : 251 + p ≤ j ∧ j < 251 + 7
    · rw [if_pos hc3, if_pos (by omega), b3, if_neg (by omega), a3, if_neg (by omega)]
    · rw [if_neg hc3, b3 j]
      by_cases hc2 : 243 + p ≤ j ∧ j < 243 + 7
      · rw [if_pos hc2, if_pos (by omega), a3, if_neg (by omega)]
      · rw [if_neg hc2, a3 j]
        by_cases hc1 : 235 + p ≤ j ∧ j < 235 + 7
        · rw [if_pos hc1, if_pos (by omega)]
        · rw [if_neg hc1, if_neg (by omega)]
theorem w_cRemoval {n m : Nat} (hnm : n ≤ m) (i1 : Int32) (μ ν : z_Mem) (HH : w_Rel n (w_st μ 1) (ν 242)) : ∃ a μ' b ν', pG_tryRemoval μ i1 = some (a, μ') ∧ pm_removes ν i1 = some (b, ν') ∧ w_Core m [3] a μ μ' b ν ν' := by
  obtain ⟨G, M, W, S, E, HN⟩ := HH
  obtain ⟨y1, y2, y3, y4, y5, y6⟩ := id HN.2.2.2.2.1
  have hPB := HN.2.2.2.2.2.2
  have e12 : μ 12 0 = Int32.ofNat S := y1
  unfold pG_tryRemoval pm_removes
  rcases w_place HN.2.2.2.2.1 i1 with ⟨e1, e2⟩ | ⟨p, hp, e1, e2⟩
  · rw [e1, e2]
    exact ⟨_, _, _, _, rfl, rfl, w_Core_no (j := 0) (E := 3) rfl (by decide) (by decide) w_frC_rfl w_same_rfl⟩
  · rw [e1, e2]
    dsimp only [Option.bind_some]
    rw [if_neg (w_nneg (k := 1) (by omega) (by decide) (by decide)), if_neg (w_nneg (k := 1) (by omega) (by decide) (by decide))]
    unfold pY_removeAt
    rw [e12, w_sr (k := 1) (show 1 ≤ S by omega)]
    obtain ⟨μ', f1, f2, f3⟩ := w_rmC (μ0 := z_u μ 12 0 (Int32.ofNat (S - 1))) (S := S) (p := p) (f1 := Int32.ofNat p) y3 (K := fun M12 k11 => some (M12 12 0, M12)) z_fu p (z_u μ 12 0 (Int32.ofNat (S - 1))) (Nat.le_refl _) (by omega) (by show S - p < 3000; omega) w_u_eq (fun _ _ _ _ => rfl) (fun q _ _ i => by rw [if_neg (by omega)])
    rw [show (OfNat.ofNat 1 : Nat) = 1 from rfl, f1]
    obtain ⟨ν', g1, g2, g3⟩ := w_rmM (p := p) (f1 := i1) (ν0 := ν) (by omega) (K := fun M12 k11 => (pm_done (z_u M12 242 2 (M12 242 2 - 1)) ((z_u M12 242 2 (M12 242 2 - 1)) 242 2)).bind fun q13 => some (q13.1, q13.2))
    rw [g1]
    have hn2 : ν' 242 2 = Int32.ofNat S := by rw [g3, if_neg (by omega)]; exact y2
    rw [hn2, w_sr (k := 1) (show 1 ≤ S by omega), w_u_eq]
    unfold pm_done
    dsimp only [Option.bind_some]
    have m12 : ∀ j, j ≠ 0 → μ' 12 j = μ 12 j := fun j hj => by rw [f2 12 (by decide) (by decide) (by decide), w_u_at hj]
    have m120 : μ' 12 0 = Int32.ofNat (S - 1) := by rw [f2 12 (by decide) (by decide) (by decide), w_u_eq]
    have hi : ∀ j, j ≠ 2 → z_u (z_u ν' 242 2 (Int32.ofNat (S - 1))) 241 12 0 242 j = ν' 242 j := fun j hj => by rw [w_u_ne (by decide), w_u_at hj]
    rw [m120]
    refine ⟨_, _, _, _, rfl, rfl, fun q hq => ?_, w_frM_trans (w_frM_trans ⟨fun k k1 _ _ _ => g2 k k1, fun j _ => by rw [g2 241 (by decide)]⟩ w_frM_242) w_frM_12, Or.inl ⟨(w_le (a := 0) (by omega) (by omega)).mpr (Nat.zero_le _), rfl, w_u_eq, G, M, W, S - 1, E, ?_, w_gl HN.1 (by omega) (by omega)⟩⟩
    · rw [f2 q (by omega) (by omega) (by omega), w_u_ne (by omega)]
    · refine w_Rel_sky hnm HN (fun q a1 a2 a3 a4 => by unfold w_st; rw [f2 _ (by omega) (by omega) (by omega), w_u_ne (by omega)]) (fun j j1 j2 j3 j4 => by rw [hi j j1, g3, if_neg (by omega)]) ?_ (by rw [hi 3 (by decide), g3, if_neg (by omega)]; have := hPB.2.1; omega) (by rw [hi 5 (by decide), g3, if_neg (by omega)]; have := hPB.2.2; omega)
      refine ⟨m120, by rw [w_u_ne (by decide), w_u_eq], by omega, ?_, ?_, fun q hq => ?_⟩
      · rw [hi 3 (by decide), g3, if_neg (by omega)]
        exact (m12 1 (by decide)).trans y4
      · rw [hi 5 (by decide), g3, if_neg (by omega)]
        exact (m12 2 (by decide)).trans y5
      · rw [hi _ (by omega), hi _ (by omega), hi _ (by omega)]
        have x : ∀ k, 12 ≤ k → k ≤ 14 → w_st μ' 1 k q = w_st μ 1 k (if p ≤ q then q + 1 else q) := fun k k1 k2 => by
          unfold w_st
          rw [f3 _ (by omega) (by omega), w_u_ne (by omega)]
          by_cases hpq : p ≤ q
          · rw [if_pos hpq, if_pos ⟨hpq, hq⟩]
          · rw [if_neg hpq, if_neg (by omega)]
        have y : ∀ b, (b = 235 ∨ b = 243 ∨ b = 251) → ν' 242 (b + q) = ν 242 (b + (if p ≤ q then q + 1 else q)) := fun b hb => by
          rw [g3]
          by_cases hpq : p ≤ q
          · rw [if_pos hpq, if_pos (by omega), Nat.add_assoc]
          · rw [if_neg hpq, if_neg (by omega)]
        rw [x 12 (by decide) (by decide), x 13 (by decide) (by decide), x 14 (by decide) (by decide), y 235 (by omega), y 243 (by omega), y 251 (by omega)]
        exact y6 _ (by split <;> omega)
/-- hours pass -/
theorem w_hrC {S h : Nat} {μ0 : z_Mem} (hS : S ≤ 8) (h0 : μ0 12 0 = Int32.ofNat S) {K : z_Mem → Int32 → Option (Int32 × z_Mem)} : ∀ (f q : Nat) (μ : z_Mem), q ≤ S → S - q < f → (∀ k, k ≠ 14 → μ k = μ0 k) → (∀ i, μ 14 i = if i < q then Int32.ofNat (w_emod (μ0 14 i + μ0 15 i * Int32.ofNat h) 3600) else μ0 14 i) →
    ∃ μ', pY_letPass_L2 f (Int32.ofNat h) K μ (Int32.ofNat q) = K μ' (Int32.ofNat S) ∧ (∀ k, k ≠ 14 → μ' k = μ0 k) ∧ ∀ i, μ' 14 i = if i < S then Int32.ofNat (w_emod (μ0 14 i + μ0 15 i * Int32.ofNat h) 3600) else μ0 14 i := by
  intro f
  induction f with
  | zero => intro q μ _ h; omega
  | succ f ih =>
    intro q μ hq hf h2 h3
    show ∃ μ', pY_letPass_L2_B (pY_letPass_L2 f (Int32.ofNat h) K) (Int32.ofNat h) K μ (Int32.ofNat q) = _ ∧ _
    unfold pY_letPass_L2_B
    rw [h2 12 (by decide), h0]
    by_cases hc : S ≤ q
    · rw [if_pos ((w_le (by omega) (by omega)).mpr hc)]
      have : q = S := by omega
      subst this
      exact ⟨μ, rfl, h2, h3⟩
    · rw [if_neg (fun hh => hc ((w_le (by omega) (by omega)).mp hh))]
      unfold pY_directionLater
      rw [w_rdn (by omega) (by omega), w_rdn (by omega) (by omega)]
      dsimp only [Option.bind_some]
      rw [w_fm3600]
      dsimp only [Option.bind_some]
      rw [if_pos ((w_inn (by omega)).mpr (by omega)), w_tn (by omega), w_ar2]
      refine ih (q + 1) _ (by omega) (by omega) (fun k hk => (w_u_ne hk).trans (h2 k hk)) (fun i => ?_)
      by_cases hi : i = q
      · subst hi
        rw [w_u_eq, h3, if_neg (by omega), if_pos (by omega), h2 15 (by decide)]
      · rw [w_u_at hi, h3]
        by_cases hiq : i < q
        · rw [if_pos hiq, if_pos (by omega)]
        · rw [if_neg hiq, if_neg (by omega)]
theorem w_hrM {S h : Nat} {ν0 : z_Mem} (hS : S ≤ 8) (h0 : ν0 242 2 = Int32.ofNat S) {K : z_Mem → Int32 → Option (Int32 × z_Mem)} : ∀ (f q : Nat) (ν : z_Mem), q ≤ S → S - q < f → (∀ k, k ≠ 242 → ν k = ν0 k) → (∀ j, ν 242 j = if 243 ≤ j ∧ j < 243 + q then Int32.ofNat (w_emod (ν0 242 j + ν0 242 (j + 8) * Int32.ofNat h) 3600) else ν0 242 j) →
    ∃ ν', pm_passes_L18 f (Int32.ofNat h) K ν (Int32.ofNat q) = K ν' (Int32.ofNat S) ∧ (∀ k, k ≠ 242 → ν' k = ν0 k) ∧ ∀ j, ν' 242 j = if 243 ≤ j ∧ j < 243 + S then Int32.ofNat (w_emod (ν0 242 j + ν0 242 (j + 8) * Int32.ofNat h) 3600) else ν0 242 j := by
  intro f
  induction f with
  | zero => intro q ν _ h; omega
  | succ f ih =>
    intro q ν hq hf h2 h3
    show ∃ ν', pm_passes_L18_B (pm_passes_L18 f (Int32.ofNat h) K) (Int32.ofNat h) K ν (Int32.ofNat q) = _ ∧ _
    unfold pm_passes_L18_B
    rw [show ν 242 2 = Int32.ofNat S by rw [h3, if_neg (by omega)]; exact h0]
    by_cases hc : S ≤ q
    · rw [if_pos ((w_le (by omega) (by omega)).mpr hc)]
      have : q = S := by omega
      subst this
      exact ⟨ν, rfl, h2, h3⟩
    · rw [if_neg (fun hh => hc ((w_le (by omega) (by omega)).mp hh)), w_al, w_al, w_rdn (by omega) (by omega), w_rdn (by omega) (by omega)]
      dsimp only [Option.bind_some]
      rw [w_rs3600]
      dsimp only [Option.bind_some]
      rw [if_pos ((w_inn (by omega)).mpr (by omega)), w_tn (by omega), w_ar2]
      refine ih (q + 1) _ (by omega) (by omega) (fun k hk => (w_u_ne hk).trans (h2 k hk)) (fun j => ?_)
      by_cases hj : j = 243 + q
      · subst hj
        rw [show z_u ν 242 ((OfNat.ofNat 243 : Nat) + q) (Int32.ofNat (w_emod (ν 242 ((OfNat.ofNat 243 : Nat) + q) + Int32.ofNat h * ν 242 ((OfNat.ofNat 251 : Nat) + q)) 3600)) 242 (243 + q) = Int32.ofNat (w_emod (ν 242 (243 + q) + Int32.ofNat h * ν 242 (251 + q)) 3600) from w_u_eq, h3 (243 + q), if_neg (by omega), h3 (251 + q), if_neg (by omega), if_pos (by omega), Int32.mul_comm, show 251 + q = 243 + q + 8 by omega]
      · rw [w_u_at hj, h3]
        by_cases hjq : 243 ≤ j ∧ j < 243 + q
        · rw [if_pos hjq, if_pos (by omega)]
        · rw [if_neg hjq, if_neg (by omega)]
theorem w_cHours {n m : Nat} (hn : n ≤ 1000000) (hm : n + 99 ≤ m) (i1 : Int32) (μ ν : z_Mem) (HH : w_Rel n (w_st μ 1) (ν 242)) : ∃ a μ' b ν', pG_tryHours μ i1 = some (a, μ') ∧ pm_passes ν i1 = some (b, ν') ∧ w_Core m [1] a μ μ' b ν ν' := by
  obtain ⟨G, M, W, S, E, HN⟩ := HH
  obtain ⟨y1, y2, y3, y4, y5, y6⟩ := id HN.2.2.2.2.1
  have hPB := HN.2.2.2.2.2.2
  unfold pG_tryHours pm_passes
  rcases w_within (μ := μ) (ν := ν) i1 1 99 with ⟨e1, e2, b1, b2⟩ | ⟨e1, e2, -⟩
  · rw [e1, e2]
    dsimp only [Option.bind_some]
    rw [if_neg w_10, if_neg w_10]
    obtain ⟨h, k1, k2, rfl⟩ := w_nat_in (lo := 1) (hi := 99) (by omega) (by omega) b1 b2
    unfold pY_letPass
    obtain ⟨μ', f1, f2, f3⟩ := w_hrC (h := h) y3 y1 (K := fun M6 k5 => some ((z_u M6 12 2 (M6 12 2 + Int32.ofNat h)) 12 2, z_u M6 12 2 (M6 12 2 + Int32.ofNat h))) z_fu 0 μ (Nat.zero_le _) (by show S - 0 < 3000; omega) (fun _ _ => rfl) (fun i => by rw [if_neg (by omega)])
    obtain ⟨ν', g1, g2, g3⟩ := w_hrM (h := h) y3 y2 (K := fun M13 k12 => (pm_done (z_u M13 242 5 (M13 242 5 + Int32.ofNat h)) ((z_u M13 242 5 (M13 242 5 + Int32.ofNat h)) 242 5)).bind fun q14 => some (q14.1, q14.2)) z_fu 0 ν (Nat.zero_le _) (by show S - 0 < 3000; omega) (fun _ _ => rfl) (fun i => by rw [if_neg (by omega)])
    rw [show (0 : Int32) = Int32.ofNat 0 from rfl, f1, g1]
    unfold pm_done
    dsimp only [Option.bind_some]
    have hv : ν' 242 5 = ν 242 5 := by rw [g3, if_neg (by omega)]
    have hc : μ' 12 2 = ν 242 5 := by rw [f2 12 (by decide)]; exact y5
    rw [hv, hc, w_u_eq, w_u_eq]
    have hb5 := hPB.2.2
    have hs : (ν 242 5 + Int32.ofNat h).toInt = (ν 242 5).toInt + h := by rw [w_iadd (by rw [w_ti (by omega)]; omega) (by rw [w_ti (by omega)]; omega), w_ti (by omega)]
    have hi : ∀ j, j ≠ 5 → z_u (z_u ν' 242 5 (ν 242 5 + Int32.ofNat h)) 241 12 0 242 j = ν' 242 j := fun j hj => by rw [w_u_ne (by decide), w_u_at hj]
    refine ⟨_, _, _, _, rfl, rfl, fun q hq => ?_, w_frM_trans (w_frM_trans ⟨fun k k1 _ _ _ => g2 k k1, fun j _ => by rw [g2 241 (by decide)]⟩ w_frM_242) w_frM_12, Or.inl ⟨by rw [Int32.le_iff_toInt_le, hs]; show 0 ≤ _; omega, rfl, w_u_eq, G, M, W, S, E, ?_, w_gl HN.1 (by omega) (by omega)⟩⟩
    · rw [w_u_ne (by omega), f2 q (by omega)]
    · refine w_Rel_sky (by omega) HN (fun q a1 a2 a3 a4 => by unfold w_st; rw [w_u_ne (by omega), f2 _ (by omega)]) (fun j j1 j2 j3 j4 => by rw [hi j j3, g3, if_neg (by omega)]) ?_ (by rw [hi 3 (by decide), g3, if_neg (by omega)]; have := hPB.2.1; omega) (by rw [w_u_ne (by decide), w_u_eq, hs]; omega)
      refine ⟨?_, ?_, y3, ?_, ?_, fun p hp => ?_⟩
      · show z_u μ' 12 2 _ 12 0 = _
        rw [w_u_at (by decide), f2 12 (by decide)]; exact y1
      · rw [hi 2 (by decide), g3, if_neg (by omega)]; exact y2
      · show z_u μ' 12 2 _ 12 1 = _
        rw [w_u_at (by decide), f2 12 (by decide), hi 3 (by decide), g3, if_neg (by omega)]; exact y4
      · show z_u μ' 12 2 _ 12 2 = _
        rw [w_u_eq, w_u_ne (by decide), w_u_eq]
      · rw [hi _ (by omega), hi _ (by omega), hi _ (by omega), g3 (235 + p), if_neg (by omega), g3 (243 + p), if_pos (by omega), g3 (251 + p), if_neg (by omega)]
        obtain ⟨z1, z2, z3, z4, z5, z6⟩ := y6 p hp
        have z2' : μ 14 p = ν 242 (243 + p) := z2
        have z3' : μ 15 p = ν 242 (251 + p) := z3
        refine ⟨?_, ?_, ?_, ⟨_, w_emod_lt (by omega), rfl⟩, z5, z6⟩
        · show z_u μ' 12 2 _ 13 p = _
          rw [w_u_ne (by decide), f2 13 (by decide)]; exact z1
        · show z_u μ' 12 2 _ 14 p = _
          rw [w_u_ne (by decide), f3, if_pos hp, z2', z3', show 243 + p + 8 = 251 + p by omega]
        · show z_u μ' 12 2 _ 15 p = _
          rw [w_u_ne (by decide), f2 15 (by decide)]; exact z3
  · rw [e1, e2]
    exact ⟨_, _, _, _, rfl, rfl, w_Core_no (j := 0) (E := 1) rfl (by decide) (by decide) w_frC_rfl w_same_rfl⟩
end ZSKY
