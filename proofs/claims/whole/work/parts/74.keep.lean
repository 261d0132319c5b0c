/-! Feeding, undoing, saving, restoring. -/
section ZKEE
theorem w_core3 {n : Nat} {μ μ' : z_Mem} (h : ∀ k, (1 ≤ k ∧ k ≤ 20) ∨ (37 ≤ k ∧ k < 239) ∨ k = 242 ∨ k = 244 ∨ k = 245 → μ' k = μ k) (h3 : μ' 241 3 = μ 241 3) (h5 : μ' 241 5 = μ 241 5) (h07 : μ' 0 7 = μ 0 7) (I1 : w_Rel n (w_st μ 1) (μ 242)) (hS : w_Sv n μ) (hU : ∃ k o, w_Un n μ k o) : w_Rel n (w_st μ' 1) (μ' 242) ∧ w_Sv n μ' ∧ ∃ k o, w_Un n μ' k o := by
  obtain ⟨k, o, u1, u2, u3, u4, u5, u6⟩ := hU
  refine ⟨w_Rel_same (fun q j hj => ?_) (fun j _ => by rw [h 242 (by omega)]) I1, ⟨by rw [h07, h5]; exact hS.1, ?_⟩, k, o, by rw [h 57 (by omega)]; exact u1, by rw [h3]; exact u2, u3, by rw [h 57 (by omega)]; exact u4, u5, fun i hi => ?_⟩
  · have := w_sz_lt hj
    unfold w_st
    rw [h _ (by omega)]
  · rw [h07]
    refine hS.2.imp_right (fun q => ⟨q.1, w_Rel_same (fun k j hj => ?_) (fun j _ => by rw [h 245 (by omega)]) q.2⟩)
    have := w_sz_lt hj
    unfold w_st
    rw [h _ (by omega)]
  · refine w_Rel_same (fun q j hj => ?_) (fun j _ => ?_) (u6 i hi)
    · have := w_sz_lt hj
      unfold w_st
      rw [h _ (by omega)]
    · rw [h 244 (by omega)]
theorem w_S48 : z_S48 w_Inv := fun n μ c1 I hn => by
  obtain ⟨I1, hS, hU, ⟨t, t1, t2, t3, t4⟩, hE, hO⟩ := w_Inv_up I
  obtain ⟨ch, hch, hc⟩ := w_toC c1
  have hnar := w_nc hch
  rw [hc]
  unfold pG_feed pS_put pm_feed
  rw [t1]
  by_cases h60 : t = 60
  · subst h60
    rw [if_neg (show ¬ Int32.ofNat 60 < Int32.ofNat 60 by decide)]
    dsimp only [Option.bind_some]
    refine ⟨.inr 2, μ, 0, z_u μ 241 12 1, rfl, ?_, w_agE (j := 0) rfl w_u_eq, w_Q12 I⟩
    rw [t2, if_pos (show Int32.ofNat 60 = 60 from rfl)]
    rfl
  · rw [if_pos ((w_lt (by omega) (by omega)).mpr (by omega)), if_pos ((w_inn (by omega)).mpr (by omega)), w_tn (by omega), hnar, w_u_ne (by decide), t1, show Int32.ofNat t + 1 = Int32.ofNat (t + 1) from w_ar2]
    dsimp only [Option.bind_some]
    rw [if_neg w_10, w_u_eq]
    have e1 : z_u (z_u μ 22 t (Int32.ofNat ch)) 21 0 (Int32.ofNat (t + 1)) 241 7 = Int32.ofNat t := by rw [w_u_ne (by decide), w_u_ne (by decide)]; exact t2
    refine ⟨.inl (Int32.ofNat (t + 1)), z_u (z_u μ 22 t (Int32.ofNat ch)) 21 0 (Int32.ofNat (t + 1)), Int32.ofNat (t + 1), z_u (z_u (z_u (z_u (z_u μ 22 t (Int32.ofNat ch)) 21 0 (Int32.ofNat (t + 1))) 246 t (Int32.ofNat ch)) 241 7 (Int32.ofNat (t + 1))) 241 12 0, rfl, ?_, w_ag0 w_u_eq, ?_⟩
    · rw [e1, if_neg (fun q => h60 ((w_eqr (k := 60) (by decide) (by omega)).mp q)), if_pos ((w_inn (by omega)).mpr (by omega)), w_tn (by omega), w_u_ne (by decide : (241 : Nat) ≠ 246), e1, show Int32.ofNat t + 1 = Int32.ofNat (t + 1) from w_ar2, w_u_eq]
      rfl
    · obtain ⟨r1, r2, r3⟩ := w_core3 (μ' := z_u (z_u (z_u (z_u (z_u μ 22 t (Int32.ofNat ch)) 21 0 (Int32.ofNat (t + 1))) 246 t (Int32.ofNat ch)) 241 7 (Int32.ofNat (t + 1))) 241 12 0) (fun k hk => by simp (disch := omega) only [w_u_ne]) (by simp (disch := omega) only [w_u_ne, w_u_at]) (by simp (disch := omega) only [w_u_ne, w_u_at]) (by simp (disch := omega) only [w_u_ne]) I1 hS hU
      refine ⟨r1, r2, r3, ⟨t + 1, ?_, ?_, by omega, fun i hi => ?_⟩, ⟨?_, ?_⟩, ?_⟩
      · simp (disch := omega) only [w_u_ne, w_u_at, w_u_eq]
      · simp (disch := omega) only [w_u_ne, w_u_at, w_u_eq]
      · by_cases hit : i = t
        · subst hit
          simp (disch := omega) only [w_u_ne, w_u_at, w_u_eq]
          exact ⟨trivial, ch, hch, rfl⟩
        · simp (disch := omega) only [w_u_ne, w_u_at, w_u_eq]
          exact t4 i (by omega)
      · simp (disch := omega) only [w_u_ne, w_u_at]; exact hE.1
      · simp (disch := omega) only [w_u_ne, w_u_at]; exact hE.2
      · obtain ⟨s, s1, s2, s3, s4⟩ := hO
        refine ⟨s, ?_, ?_, s3, fun i hi => ?_⟩
        · simp (disch := omega) only [w_u_ne]; exact s1
        · simp (disch := omega) only [w_u_ne, w_u_at]; exact s2
        · simp (disch := omega) only [w_u_ne]; exact s4 i hi
theorem w_S52 : z_S52 w_Inv := fun n μ I hn => by
  obtain ⟨I1, hS, ⟨k, o, u1, u2, u3, u4, u5, u6⟩, hI, hE, hO⟩ := w_Inv_up I
  unfold pG_undo pm_undo
  rw [u1]
  by_cases hk : k = 0
  · subst hk
    rw [if_pos (show Int32.ofNat 0 = 0 from rfl)]
    refine ⟨.inr 2, μ, 0, z_u μ 241 12 1, rfl, ?_, w_agE (j := 0) rfl w_u_eq, w_Q12 I⟩
    rw [u2, if_pos (show Int32.ofNat 0 = 0 from rfl)]
    rfl
  · have hne : ¬ Int32.ofNat k = 0 := fun q => hk ((w_eqr (k := 0) (by decide) (by omega)).mp q)
    rw [if_neg hne]
    unfold pH_undoLatest pH_takeBack
    have eo : Int32.ofNat o + 9 - 1 - (Int32.ofNat o + 9 - 1) / 9 * 9 = Int32.ofNat ((o + 8) % 9) := by
      rw [show Int32.ofNat o + 9 = Int32.ofNat (o + 9) from w_ar2, show Int32.ofNat (o + 9) - 1 = Int32.ofNat (o + 8) from w_sr (k := 1) (show 1 ≤ o + 9 by omega)]
      exact w_mdl (k := 9) (by omega) (by decide)
    have x1 : ∀ X, z_u μ 57 1 X 57 0 = Int32.ofNat k := fun X => (w_u_at (by decide)).trans u1
    have x2 : ∀ X Y, z_u (z_u μ 57 1 X) 57 0 Y 57 1 = X := fun X Y => by rw [w_u_at (by decide), w_u_eq]
    rw [u4, eo, x1, show Int32.ofNat k - 1 = Int32.ofNat (k - 1) from w_sr (k := 1) (show 1 ≤ k by omega), x2]
    rw [if_pos ((w_inn (by omega)).mpr (by omega))]
    dsimp only [Option.bind_some]
    unfold z_rg
    rw [w_tn (by omega)]
    obtain ⟨μa, e1, e2, e3⟩ := w_copyA (μ := z_u (z_u μ 57 1 (Int32.ofNat ((o + 8) % 9))) 57 0 (Int32.ofNat (k - 1))) (t := 1) (u := 59 + 20 * ((o + 8) % 9)) (by omega)
    rw [e1]
    dsimp only [Option.bind_some]
    have a57 : μa 57 = z_u (z_u μ 57 1 (Int32.ofNat ((o + 8) % 9))) 57 0 (Int32.ofNat (k - 1)) 57 := e2 57 (by omega)
    have aq : ∀ q, q ≠ 57 → ¬ (1 ≤ q ∧ q < 21) → μa q = μ q := fun q q1 q2 => by rw [e2 q (by omega), w_u_ne q1, w_u_ne q1]
    have a1 : μa 57 0 = Int32.ofNat (k - 1) := by rw [a57, w_u_eq]
    have a2 : μa 57 1 = Int32.ofNat ((o + 8) % 9) := by rw [a57, w_u_at (by decide), w_u_eq]
    rw [a1]
    have b241 : μa 241 3 = Int32.ofNat k := by rw [aq 241 (by decide) (by omega)]; exact u2
    have hcp := w_copyM (μ := z_u μa 241 3 (Int32.ofNat (k - 1))) (b := 244) (nb := 2648) (a := 242) (na := 331) (x := (k - 1) * 331) (y := 0) (by decide) (by omega) (by decide) (by decide) (by decide)
    refine ⟨.inl (Int32.ofNat (k - 1)), μa, Int32.ofNat (k - 1), z_u (z_cp (z_u μa 241 3 (Int32.ofNat (k - 1))) 244 242 ((k - 1) * 331) 0 331) 241 12 0, rfl, ?_, w_ag0 w_u_eq, ?_⟩
    · rw [b241, if_neg hne, show Int32.ofNat k - 1 = Int32.ofNat (k - 1) from w_sr (k := 1) (show 1 ≤ k by omega), w_u_eq, show Int32.ofNat (k - 1) * 331 = Int32.ofNat ((k - 1) * 331) from w_mr, show (0 : Int32) = Int32.ofNat 0 from rfl, hcp]
      dsimp only [Option.bind_some]
      rw [w_cp_ne (by decide), w_u_eq]
      rfl
    · have gq : ∀ q, q ≠ 57 → q ≠ 241 → q ≠ 242 → ¬ (1 ≤ q ∧ q < 21) → z_u (z_cp (z_u μa 241 3 (Int32.ofNat (k - 1))) 244 242 ((k - 1) * 331) 0 331) 241 12 0 q = μ q := fun q q1 q2 q3 q4 => by rw [w_u_ne q2, w_cp_ne q3, w_u_ne q2, aq q q1 q4]
      have g57 : ∀ q, q < 241 → z_u (z_cp (z_u μa 241 3 (Int32.ofNat (k - 1))) 244 242 ((k - 1) * 331) 0 331) 241 12 0 q = μa q := fun q h1 => by rw [w_u_ne (by omega), w_cp_ne (by omega), w_u_ne (by omega)]
      have g241 : ∀ j, j ≠ 3 → j ≠ 12 → z_u (z_cp (z_u μa 241 3 (Int32.ofNat (k - 1))) 244 242 ((k - 1) * 331) 0 331) 241 12 0 241 j = μ 241 j := fun j j3 j12 => by rw [w_u_at j12, w_cp_ne (by decide), w_u_at j3, aq 241 (by decide) (by omega)]
      obtain ⟨r1, r2, r3, r4⟩ := w_kp_rest (μ := μ) (μ' := z_u (z_cp (z_u μa 241 3 (Int32.ofNat (k - 1))) 244 242 ((k - 1) * 331) 0 331) 241 12 0) ⟨fun q hq => gq q (by omega) (by omega) (by omega) (by omega), g241⟩ hS hI hE hO
      refine ⟨?_, r1, ⟨k - 1, (o + 8) % 9, ?_, ?_, by omega, ?_, by omega, fun i hi => ?_⟩, r2, r3, r4⟩
      · have hr := u6 (k - 1) (by omega)
        rw [show (o + 9 - k + (k - 1)) % 9 = (o + 8) % 9 by omega] at hr
        refine w_Rel_same (fun q j hj => ?_) (fun j hj => ?_) hr
        · have := w_sz_lt hj
          have h1 := e3 q j hj
          unfold w_st at h1 ⊢
          rw [g57 _ (by omega), ← h1, w_u_ne (by omega), w_u_ne (by omega)]
        · rw [w_u_ne (by decide), w_cp_in (by omega), w_u_ne (by decide), aq 244 (by decide) (by omega)]
          exact congrArg (μ 244) (by omega)
      · rw [g57 57 (by decide)]; exact a1
      · rw [w_u_at (by decide), w_cp_ne (by decide), w_u_eq]
      · rw [g57 57 (by decide)]; exact a2
      · refine w_Rel_same (fun q j hj => ?_) (fun j hj => ?_) (u6 i (by omega))
        · have := w_sz_lt hj
          unfold w_st
          rw [gq _ (by omega) (by omega) (by omega) (by omega), show ((o + 8) % 9 + 9 - (k - 1) + i) % 9 = (o + 9 - k + i) % 9 by omega]
        · rw [gq 244 (by decide) (by decide) (by decide) (by omega)]
theorem w_S54 : z_S54 w_Inv := fun n μ I hn => by
  obtain ⟨I1, hS, ⟨k, o, u1, u2, u3, u4, u5, u6⟩, hI, hE, hO⟩ := w_Inv_up I
  obtain ⟨G, M, W, S, E, HN⟩ := id I1
  unfold pG_save pm_save
  obtain ⟨μa, e1, e2, e3⟩ := w_copyA (μ := μ) (t := 37) (u := 1) (by omega)
  rw [e1]
  dsimp only [Option.bind_some]
  have aq : ∀ q, ¬ (37 ≤ q ∧ q < 57) → μa q = μ q := fun q h => e2 q (by omega)
  have hcp := w_copyM (μ := z_u μa 0 7 1) (b := 242) (nb := 331) (a := 245) (na := 331) (x := 0) (y := 0) (by decide) (by decide) (by decide) (by decide) (by decide)
  have v1 : z_u μa 0 7 1 2 0 = Int32.ofNat G := by rw [w_u_ne (by decide), aq 2 (by omega)]; exact HN.1.1
  refine ⟨Int32.ofNat G, z_u μa 0 7 1, z_u (z_u (z_cp (z_u μa 0 7 1) 242 245 0 0 331) 241 5 1) 241 12 0, by rw [v1], ?_, ?_⟩
  · rw [show (0 : Int32) = Int32.ofNat 0 from rfl, hcp]
    dsimp only [Option.bind_some]
    rw [w_u_ne (by decide : (242 : Nat) ≠ 241), w_cp_ne (by decide), w_u_ne (by decide), aq 242 (by omega), HN.1.2.1]
    rfl
  · have gq : ∀ q, ¬ (37 ≤ q ∧ q < 57) → q ≠ 0 → q ≠ 241 → q ≠ 245 → z_u (z_u (z_cp (z_u μa 0 7 1) 242 245 0 0 331) 241 5 1) 241 12 0 q = μ q := fun q q0 q1 q2 q3 => by rw [w_u_ne q2, w_u_ne q2, w_cp_ne q3, w_u_ne q1, aq q q0]
    have g241 : ∀ j, j ≠ 5 → j ≠ 12 → z_u (z_u (z_cp (z_u μa 0 7 1) 242 245 0 0 331) 241 5 1) 241 12 0 241 j = μ 241 j := fun j j3 j12 => by rw [w_u_at j12, w_u_at j3, w_cp_ne (by decide), w_u_ne (by decide), aq 241 (by omega)]
    have g0 : ∀ j, j ≠ 7 → z_u (z_u (z_cp (z_u μa 0 7 1) 242 245 0 0 331) 241 5 1) 241 12 0 0 j = μ 0 j := fun j j7 => by rw [w_u_ne (by decide), w_u_ne (by decide), w_cp_ne (by decide), w_u_at j7, aq 0 (by omega)]
    have g07 : z_u (z_u (z_cp (z_u μa 0 7 1) 242 245 0 0 331) 241 5 1) 241 12 0 0 7 = 1 := by rw [w_u_ne (by decide), w_u_ne (by decide), w_cp_ne (by decide), w_u_eq]
    have g5 : z_u (z_u (z_cp (z_u μa 0 7 1) 242 245 0 0 331) 241 5 1) 241 12 0 241 5 = 1 := by rw [w_u_at (by decide), w_u_eq]
    have gR : w_Rel (1000 * (n + 1)) (w_st (z_u (z_u (z_cp (z_u μa 0 7 1) 242 245 0 0 331) 241 5 1) 241 12 0) 1) (z_u (z_u (z_cp (z_u μa 0 7 1) 242 245 0 0 331) 241 5 1) 241 12 0 242) := w_Rel_same (fun q j hj => by have := w_sz_lt hj; unfold w_st; rw [gq _ (by omega) (by omega) (by omega) (by omega)]) (fun j _ => by rw [gq 242 (by omega) (by decide) (by decide) (by decide)]) I1
    refine ⟨gR, ⟨g07.trans g5.symm, Or.inr ⟨g07, ?_⟩⟩, ⟨k, o, by rw [gq 57 (by omega) (by decide) (by decide) (by decide)]; exact u1, by rw [g241 3 (by decide) (by decide)]; exact u2, u3, by rw [gq 57 (by omega) (by decide) (by decide) (by decide)]; exact u4, u5, fun i hi => ?_⟩, ?_, ?_, ?_⟩
    · refine w_Rel_same (fun q j hj => ?_) (fun j hj => ?_) I1
      · have := w_sz_lt hj
        rw [e3 q j hj]
        unfold w_st
        rw [w_u_ne (by omega), w_u_ne (by omega), w_cp_ne (by omega), w_u_ne (by omega)]
      · rw [w_u_ne (by decide), w_u_ne (by decide), w_cp0 hj, w_u_ne (by decide), aq 242 (by omega)]
    · refine w_Rel_same (fun q j hj => ?_) (fun j hj => ?_) (u6 i hi)
      · have := w_sz_lt hj
        unfold w_st
        rw [gq _ (by omega) (by omega) (by omega) (by omega)]
      · rw [gq 244 (by omega) (by decide) (by decide) (by decide)]
    · obtain ⟨t, t1, t2, t3, t4⟩ := hI
      refine ⟨t, by rw [gq 21 (by omega) (by decide) (by decide) (by decide)]; exact t1, by rw [g241 7 (by decide) (by decide)]; exact t2, t3, fun i hi => ?_⟩
      rw [gq 22 (by omega) (by decide) (by decide) (by decide), gq 246 (by omega) (by decide) (by decide) (by decide)]
      exact t4 i hi
    · exact ⟨by rw [g0 8 (by decide), g241 8 (by decide) (by decide)]; exact hE.1, by rw [g0 9 (by decide), g241 9 (by decide) (by decide)]; exact hE.2⟩
    · obtain ⟨t, t1, t2, t3, t4⟩ := hO
      refine ⟨t, by rw [gq 239 (by omega) (by decide) (by decide) (by decide)]; exact t1, by rw [g241 11 (by decide) (by decide)]; exact t2, t3, fun i hi => ?_⟩
      rw [gq 240 (by omega) (by decide) (by decide) (by decide), gq 247 (by omega) (by decide) (by decide) (by decide)]
      exact t4 i hi
theorem w_S55 : z_S55 w_Inv := fun n μ I hn => by
  obtain ⟨I1, hS, ⟨k, o, u1, u2, u3, u4, u5, u6⟩, hI, hE, hO⟩ := w_Inv_up I
  unfold pG_restore pm_restore
  rcases hS.2 with h0 | ⟨h0, hR⟩
  · rw [if_pos h0]
    refine ⟨.inr 2, μ, 0, z_u μ 241 12 1, rfl, ?_, w_agE (j := 0) rfl w_u_eq, w_Q12 I⟩
    rw [← hS.1, if_pos h0]
    rfl
  · obtain ⟨G, M, W, S, E, HN⟩ := id hR
    rw [if_neg (by rw [h0]; exact w_10)]
    obtain ⟨μa, e1, e2, e3⟩ := w_copyA (μ := μ) (t := 1) (u := 37) (by omega)
    rw [e1]
    dsimp only [Option.bind_some]
    have aq : ∀ q, ¬ (1 ≤ q ∧ q < 21) → μa q = μ q := fun q h => e2 q (by omega)
    have hcp := w_copyM (μ := z_u μa 57 0 0) (b := 245) (nb := 331) (a := 242) (na := 331) (x := 0) (y := 0) (by decide) (by decide) (by decide) (by decide) (by decide)
    have v1 : z_u μa 57 0 0 2 0 = Int32.ofNat G := by
      rw [w_u_ne (by decide)]
      have := e3 1 0 (by decide)
      unfold w_st at this
      rw [← this]
      exact HN.1.1
    refine ⟨.inl (Int32.ofNat G), z_u μa 57 0 0, Int32.ofNat G, z_u (z_u (z_cp (z_u μa 57 0 0) 245 242 0 0 331) 241 3 0) 241 12 0, by rw [v1], ?_, w_ag0 w_u_eq, ?_⟩
    · rw [w_u_ne (by decide : (241 : Nat) ≠ 57), aq 241 (by omega), ← hS.1, if_neg (by rw [h0]; exact w_10)]
      rw [show pm_copy 245 331 242 331 (z_u μa 57 0 0) 0 0 = _ from hcp]
      dsimp only [Option.bind_some]
      rw [w_u_ne (by decide : (242 : Nat) ≠ 241), w_cp0 (by decide), w_u_ne (by decide), aq 245 (by omega), HN.1.2.1]
      rfl
    · have gq : ∀ q, ¬ (1 ≤ q ∧ q < 21) → q ≠ 57 → q ≠ 241 → q ≠ 242 → z_u (z_u (z_cp (z_u μa 57 0 0) 245 242 0 0 331) 241 3 0) 241 12 0 q = μ q := fun q q0 q1 q2 q3 => by rw [w_u_ne q2, w_u_ne q2, w_cp_ne q3, w_u_ne q1, aq q q0]
      have g241 : ∀ j, j ≠ 3 → j ≠ 12 → z_u (z_u (z_cp (z_u μa 57 0 0) 245 242 0 0 331) 241 3 0) 241 12 0 241 j = μ 241 j := fun j j3 j12 => by rw [w_u_at j12, w_u_at j3, w_cp_ne (by decide), w_u_ne (by decide), aq 241 (by omega)]
      obtain ⟨r1, r2, r3, r4⟩ := w_kp_rest (μ := μ) (μ' := z_u (z_u (z_cp (z_u μa 57 0 0) 245 242 0 0 331) 241 3 0) 241 12 0) ⟨fun q hq => gq q (by omega) (by omega) (by omega) (by omega), g241⟩ hS hI hE hO
      refine ⟨?_, r1, ⟨0, o, ?_, ?_, by omega, ?_, u5, fun i hi => absurd hi (Nat.not_lt_zero _)⟩, r2, r3, r4⟩
      · refine w_Rel_same (fun q j hj => ?_) (fun j hj => ?_) hR
        · have := w_sz_lt hj
          rw [e3 q j hj]
          unfold w_st
          rw [w_u_ne (by omega), w_u_ne (by omega), w_cp_ne (by omega), w_u_ne (by omega)]
        · rw [w_u_ne (by decide), w_u_ne (by decide), w_cp0 hj, w_u_ne (by decide), aq 245 (by omega)]
      · rw [w_u_ne (by decide), w_u_ne (by decide), w_cp_ne (by decide), w_u_eq]; rfl
      · rw [w_u_at (by decide), w_u_eq]; rfl
      · rw [w_u_ne (by decide), w_u_ne (by decide), w_cp_ne (by decide), w_u_at (by decide), aq 57 (by omega)]; exact u4
end ZKEE
