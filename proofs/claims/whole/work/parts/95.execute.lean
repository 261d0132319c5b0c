/-! Executing the text, in both. -/
section ZEXE
theorem w_pfD {μ : z_Mem} : pG_performUpToFailure μ = pG_performUpToFailure_L2 z_fu (fun M6 k5 => some ((M6 34 1), M6)) μ (Int32.ofNat 0) := rfl
theorem w_tkB {μ : z_Mem} {o : Nat} (h : μ 57 1 = Int32.ofNat o) (ho : o < 9) : ∃ μ', pH_takeBack μ = some μ' ∧ (∀ q, ¬ (1 ≤ q ∧ q < 21) → μ' q = μ q) ∧ w_same (w_st μ (59 + 20 * o)) (w_st μ' 1) := by
  obtain ⟨μ', e1, e2, e3⟩ := w_copyA (μ := μ) (t := 1) (u := 59 + 20 * o) (by omega)
  refine ⟨μ', ?_, fun q hq => e2 q (by omega), e3⟩
  unfold pH_takeBack
  rw [h, if_pos ((w_inn (by omega)).mpr (by omega))]
  dsimp only [Option.bind_some]
  unfold z_rg
  rw [w_tn (by omega), e1]
  rfl
theorem w_S49 : z_S49 w_Inv := fun n μ I hn => by
  obtain ⟨I1, hS, ⟨k, o, hU⟩, ⟨t, t1, t2, t3, t4⟩, hE, hO⟩ := id I
  have hT : w_Tx (μ 22) t := ⟨t3, fun i hi => (t4 i hi).2⟩
  have hTM : ∀ ν0 : z_Mem, ν0 241 7 = μ 241 7 → ν0 246 = μ 246 → w_TM ν0 (μ 22) t := fun ν0 a b => ⟨by rw [a]; exact t2, fun i hi => by rw [b]; exact (t4 i hi).1.symm⟩
  obtain ⟨ok, S, N, μA, s1, s2, s3, s4, s5, sY, sN⟩ := w_rdBoth t1 hT (hTM μ rfl rfl)
  have u1 := hU.1
  have u2 := hU.2.1
  have u3 := hU.2.2.1
  have u4 := hU.2.2.2.1
  have u5 := hU.2.2.2.2.1
  cases ok with
  | false =>
    have r := sN rfl
    have eC : pG_execute μ = some (.inr 1, z_u (z_u μA 21 0 0) 0 8 (Int32.ofNat S)) := by
      unfold pG_execute
      rw [s3]
      dsimp only [Option.bind_some]
      unfold pS_clear
      dsimp only [Option.bind_some]
      rw [if_pos (show w_bi false = 0 from rfl), w_u_ne (by decide), s4]
    have q1 : ∀ q, q ≠ 0 → q ≠ 21 → q ≠ 34 → q ≠ 35 → q ≠ 36 → z_u (z_u μA 21 0 0) 0 8 (Int32.ofNat S) q = μ q := fun q a b c d e => by rw [w_u_ne a, w_u_ne b, s5 q c d e]
    obtain ⟨ν', N', w, g1, g2, g3⟩ := r _ w_KX (hTM (z_u (z_u μA 21 0 0) 0 8 (Int32.ofNat S)) (by rw [q1 241 (by decide) (by decide) (by decide) (by decide) (by decide)]) (q1 246 (by decide) (by decide) (by decide) (by decide) (by decide)))
    have hK : ν' 241 16 = 1 ∨ (ν' 241 16 = 0 ∧ ¬ ν' 241 7 ≤ ν' 241 15) := by
      rcases g3 with rfl | ⟨rfl, h⟩
      · exact Or.inl g2.2.1
      · refine Or.inr ⟨g2.2.1, ?_⟩
        rw [g2.2.2.2 7 (by decide) (by decide), q1 241 (by decide) (by decide) (by decide) (by decide) (by decide), t2, g2.1]
        exact fun q => by have := (w_le (by omega) (by omega)).mp q; omega
    have eR := w_exD.trans (g1.trans (w_KXe (a := Int32.ofNat N') (b := 0) hK))
    refine ⟨_, _, _, _, eC, eR, w_agE (j := 0) rfl w_u_eq, ?_⟩
    have p1 : ∀ q, q ≠ 0 → q ≠ 21 → q ≠ 34 → q ≠ 35 → q ≠ 36 → q ≠ 241 → q ≠ 250 → z_u (z_u (z_u (z_u ν' 241 16 1) 241 7 0) 241 8 (ν' 241 15)) 241 12 1 q = μ q := fun q a b c d e f g => by rw [w_u_ne f, w_u_ne f, w_u_ne f, w_u_ne f, g2.2.2.1 q f g, q1 q a b c d e]
    have p2 : ∀ j, j ≠ 7 → j ≠ 8 → j ≠ 12 → j ≠ 15 → j ≠ 16 → z_u (z_u (z_u (z_u ν' 241 16 1) 241 7 0) 241 8 (ν' 241 15)) 241 12 1 241 j = μ 241 j := fun j a b c d e => by rw [w_u_at c, w_u_at b, w_u_at a, w_u_at e, g2.2.2.2 j d e, q1 241 (by decide) (by decide) (by decide) (by decide) (by decide)]
    have p0 : ∀ q, q ≠ 241 → q ≠ 250 → z_u (z_u (z_u (z_u ν' 241 16 1) 241 7 0) 241 8 (ν' 241 15)) 241 12 1 q = z_u (z_u μA 21 0 0) 0 8 (Int32.ofNat S) q := fun q f g => by rw [w_u_ne f, w_u_ne f, w_u_ne f, w_u_ne f, g2.2.2.1 q f g]
    refine w_exeR (k := k) (o := o) (μ := μ) (w_Rel_up (n := 1000 * n) (by omega) (w_Rel_same (fun q j hj => ?_) (fun j _ => ?_) I1)) (w_IB_up (n := 1000 * n) (by omega) I).2.1 ?_ hO ⟨?_, ?_⟩ (fun q hq => p1 q (by omega) (by omega) (by omega) (by omega) (by omega) (by omega) (by omega)) (fun q a b _ => p1 q (by omega) (by omega) (by omega) (by omega) (by omega) (by omega) (by omega)) (p2 3 (by decide) (by decide) (by decide) (by decide) (by decide)) (p2 5 (by decide) (by decide) (by decide) (by decide) (by decide)) (p2 11 (by decide) (by decide) (by decide) (by decide) (by decide)) ?_ ?_ ?_
    · have := w_sz_lt hj
      unfold w_st
      rw [p1 _ (by omega) (by omega) (by omega) (by omega) (by omega) (by omega) (by omega)]
    · rw [p1 242 (by decide) (by decide) (by decide) (by decide) (by decide) (by decide) (by decide)]
    · exact ⟨u1, u2, u3, u4, u5, fun i hi => w_Rel_up (by omega) (hU.2.2.2.2.2 i hi)⟩
    · rw [p0 0 (by decide) (by decide), w_u_eq, w_u_at (by decide), w_u_eq, g2.1]
    · rw [p0 0 (by decide) (by decide), p2 9 (by decide) (by decide) (by decide) (by decide) (by decide), w_u_at (by decide), w_u_ne (by decide), s5 0 (by decide) (by decide) (by decide)]
      exact hE.2
    · rw [p0 0 (by decide) (by decide), w_u_at (by decide), w_u_ne (by decide), s5 0 (by decide) (by decide) (by decide)]
    · rw [p0 21 (by decide) (by decide), w_u_ne (by decide), w_u_eq]
    · rw [w_u_at (by decide), w_u_at (by decide), w_u_eq]
  | true =>
    obtain ⟨rfl, r⟩ := sY rfl
    have b0 : ∀ q, q ≠ 21 → q ≠ 34 → q ≠ 35 → q ≠ 36 → z_u μA 21 0 0 q = μ q := fun q b c d e => by rw [w_u_ne b, s5 q c d e]
    have hU0 : w_Un (1000 * n) (z_u μA 21 0 0) k o := w_Un_e (fun q hq => b0 q (by omega) (by omega) (by omega) (by omega)) (by rw [b0 241 (by decide) (by decide) (by decide) (by decide)]) hU
    obtain ⟨μB, eB, rB, sB⟩ := w_begin hU0
    have bB : ∀ q, q ≠ 21 → q ≠ 34 → q ≠ 35 → q ≠ 36 → (q < 59 + 20 * o ∨ 59 + 20 * o + 20 ≤ q) → μB q = μ q := fun q b c d e f => by rw [rB q f, b0 q b c d e]
    have RB : ∀ ν : z_Mem, (∀ j, j < 331 → ν 242 j = μ 242 j) → w_Rel (1000 * n) (w_st μB 1) (ν 242) := fun ν hν => w_Rel_same (fun q j hj => by have := w_sz_lt hj; unfold w_st; rw [bB _ (by omega) (by omega) (by omega) (by omega) (by omega)]) (fun j hj => (hν j hj).symm) I1
    have DB : ∀ {kd : Nat → Int32} {a : Nat → Nat} {v : Nat → Nat → Int32} {ν ν1 : z_Mem}, w_dat N kd a v μA ν → ν1 250 = ν 250 → w_dat N kd a v μB ν1 := fun h h2 => w_dat_e h (by rw [rB 34 (by omega), w_u_ne (by decide)]) (by rw [rB 35 (by omega), w_u_ne (by decide)]) (by rw [rB 36 (by omega), w_u_ne (by decide)]) h2
    -- the reference's run up to its begin, out of any memory
    have hgo : ∀ ν0 : z_Mem, ν0 241 7 = μ 241 7 → ν0 246 = μ 246 → ν0 242 = μ 242 → ∃ ν1 kd a v, pm_execute ν0 = pm_execute_L130 z_fu (Int32.ofNat N) 0 (w_KD (Int32.ofNat N)) ν1 (Int32.ofNat 0) ∧ w_dat N kd a v μB ν1 ∧ w_Rel (1000 * n) (w_st μB 1) (ν1 242) ∧ (∀ q, q ≠ 241 → q ≠ 243 → q ≠ 250 → ν1 q = ν0 q) ∧ (∀ j, j < 331 → ν1 243 j = μ 242 j) ∧ ν1 241 7 = 0 ∧ ν1 241 15 = Int32.ofNat S ∧ ν1 241 16 = 0 ∧ ∀ j, j ≠ 7 → j ≠ 15 → j ≠ 16 → ν1 241 j = ν0 241 j := fun ν0 h1 h2 h3 => by
      obtain ⟨ν', kd, a, v, g1, g2, g3⟩ := r ν0 w_KX (hTM ν0 h1 h2)
      have hle : ν' 241 7 ≤ ν' 241 15 := by
        rw [g2.2.2.2 7 (by decide) (by decide), h1, t2, g2.1]
        exact (w_le (by omega) (by omega)).mpr (Nat.le_refl _)
      refine ⟨_, kd, a, v, w_exD.trans (g1.trans (w_KXo (a := Int32.ofNat N) (b := 0) g2.2.1 hle)), DB g3 ?_, RB _ (fun j _ => ?_), fun q a b c => ?_, fun j hj => ?_, ?_, ?_, ?_, fun j a b c => ?_⟩
      · rw [w_cp_ne (by decide), w_u_ne (by decide), w_u_ne (by decide)]
      · rw [w_cp_ne (by decide), w_u_ne (by decide), w_u_ne (by decide), g2.2.2.1 242 (by decide) (by decide), h3]
      · rw [w_cp_ne b, w_u_ne a, w_u_ne a, g2.2.2.1 q a c]
      · rw [w_cp0 hj, w_u_ne (by decide), w_u_ne (by decide), g2.2.2.1 242 (by decide) (by decide), h3]
      · rw [w_cp_ne (by decide), w_u_eq]
      · rw [w_cp_ne (by decide), w_u_at (by decide), w_u_at (by decide), g2.1]
      · rw [w_cp_ne (by decide), w_u_at (by decide), w_u_eq]
      · rw [w_cp_ne (by decide), w_u_at a, w_u_at c, g2.2.2.2 j b c]
    obtain ⟨νx, kd, a, v, -, x2, x3, -⟩ := hgo μ rfl rfl rfl
    obtain ⟨μP, νy, y1, -, y2⟩ := w_acts (K := fun _ _ => none) (f2 := 0) N 0 z_fu z_fu (1000 * n) μB νx (Nat.zero_add _) (show N < 3000 by omega) (show N < 3000 by omega) (by omega) x3 x2
    have cN : μB 34 1 = Int32.ofNat N := x2.2.1
    have e0 : ∀ (c : Int32), pG_performUpToFailure_L2 z_fu (fun M6 k5 => some ((M6 34 1), M6)) μB (Int32.ofNat 0) = some (c, μP) → pG_execute μ = if Int32.ofNat N ≤ c then (pH_keep μP).bind fun q11 => some ((.inl c), q11) else (pH_takeBack μP).bind fun q13 => some ((.inr 5), (z_u q13 0 9 c)) := fun c h => by
      unfold pG_execute
      rw [s3]
      dsimp only [Option.bind_some]
      unfold pS_clear
      dsimp only [Option.bind_some]
      rw [if_neg (show ¬ w_bi true = 0 from w_10), eB]
      dsimp only [Option.bind_some]
      rw [w_pfD, h]
      dsimp only [Option.bind_some]
      have hN1 : μP 34 1 = Int32.ofNat N := by rw [y1 34 (by omega), cN]
      simp only [hN1]
    have qP : ∀ q, (q = 0 ∨ (20 < q ∧ q < 24) ∨ 33 < q) → q ≠ 21 → q ≠ 34 → q ≠ 35 → q ≠ 36 → (q < 59 + 20 * o ∨ 59 + 20 * o + 20 ≤ q) → μP q = μ q := fun q x b c d e f => by rw [y1 q x, bB q b c d e f]
    rcases y2 with ⟨z1, -⟩ | ⟨j, b, z0, z1, -⟩
    · -- all commands are carried out
      obtain ⟨μC, ec, rc, c0, c1⟩ := w_keep (n := 0) (μ := μP) (k := k) (o := o) (by rw [qP 57 (by omega) (by omega) (by omega) (by omega) (by omega) (by omega)]; exact u1) u3 (by rw [qP 57 (by omega) (by omega) (by omega) (by omega) (by omega) (by omega)]; exact u4) u5
      have eC := e0 _ z1
      rw [if_pos ((w_le (by omega) (by omega)).mpr (Nat.le_refl _)), ec] at eC
      have eC : pG_execute μ = some (.inl (Int32.ofNat N), μC) := eC
      have qC : ∀ q, (q = 0 ∨ (20 < q ∧ q < 24) ∨ 33 < q) → q ≠ 21 → q ≠ 34 → q ≠ 35 → q ≠ 36 → q ≠ 57 → (q < 59 + 20 * o ∨ 59 + 20 * o + 20 ≤ q) → μC q = μ q := fun q x b c d e f g => by rw [rc q f, qP q x b c d e g]
      have c241 : μC 241 = μ 241 := qC 241 (by omega) (by omega) (by omega) (by omega) (by omega) (by omega) (by omega)
      obtain ⟨ν1, kd', a', v', f1, f2, f3, f4, f5, f6, f7, f8, f9⟩ := hgo μC (by rw [c241]) (qC 246 (by omega) (by omega) (by omega) (by omega) (by omega) (by omega) (by omega)) (qC 242 (by omega) (by omega) (by omega) (by omega) (by omega) (by omega) (by omega))
      obtain ⟨μP2, ν2, h1, h2, h3⟩ := w_acts (K := w_KD (Int32.ofNat N)) (f2 := 0) N 0 z_fu z_fu (1000 * n) μB ν1 (Nat.zero_add _) (show N < 3000 by omega) (show N < 3000 by omega) (by omega) f3 f2
      rcases h3 with ⟨i1, i2, i3⟩ | ⟨j, b, i0, i1, -⟩
      · obtain rfl : μP = μP2 := congrArg Prod.snd (Option.some.inj (z1.symm.trans i1))
        have g241 : ∀ j, j ≠ 12 → z_u ν2 241 12 0 241 j = ν1 241 j := fun j hj => by rw [w_u_at hj, h2.2 j hj]
        obtain ⟨μf, ef, rf1, rf2, rf3, rf4, rf5⟩ := w_keptO (μ := z_u ν2 241 12 0) (v := Int32.ofNat N) w_u_eq (k := k) (by rw [g241 3 (by decide), f9 3 (by decide) (by decide) (by decide), c241]; exact u2) u3
        have eR : pm_execute μC = some (Int32.ofNat N, μf) := by
          rw [f1, i2]
          unfold w_KD pm_done
          dsimp only [Option.bind_some]
          rw [ef]
          rfl
        refine ⟨_, _, _, _, eC, eR, w_ag0 (by rw [rf2 12 (by decide), w_u_eq]), ?_⟩
        have low : ∀ q, q ≠ 241 → q ≠ 242 → q ≠ 243 → q ≠ 244 → q ≠ 248 → q ≠ 249 → q ≠ 250 → μf q = μC q := fun q a1 a2 a3 a4 a5 a6 a7 => by
          rw [rf1 q a4 a1, w_u_ne a1, h2.1 q a2 a5 a6 a1, f4 q a1 a3 a7]
        have hi244 : ∀ j, z_u ν2 241 12 0 244 j = μ 244 j := fun j => by rw [w_u_ne (by decide), h2.1 244 (by decide) (by decide) (by decide) (by decide), f4 244 (by decide) (by decide) (by decide), qC 244 (by omega) (by omega) (by omega) (by omega) (by omega) (by omega) (by omega)]
        have hi243 : ∀ j, j < 331 → z_u ν2 241 12 0 243 j = μ 242 j := fun j hj => by rw [w_u_ne (by decide), h2.1 243 (by decide) (by decide) (by decide) (by decide), f5 j hj]
        have m0 : ∀ q, q ≠ 21 → q ≠ 241 → z_u (z_u (z_u (z_u μ 21 0 0) 241 7 0) 241 15 (Int32.ofNat S)) 241 16 0 q = μ q := fun q a b => by rw [w_u_ne b, w_u_ne b, w_u_ne b, w_u_ne a]
        have m241 : ∀ j, j ≠ 7 → j ≠ 15 → j ≠ 16 → z_u (z_u (z_u (z_u μ 21 0 0) 241 7 0) 241 15 (Int32.ofNat S)) 241 16 0 241 j = μ 241 j := fun j a b c => by rw [w_u_at c, w_u_at b, w_u_at a, w_u_ne (by decide)]
        obtain ⟨v1, v2, -⟩ := w_core3 (μ := μ) (μ' := z_u (z_u (z_u (z_u μ 21 0 0) 241 7 0) 241 15 (Int32.ofNat S)) 241 16 0) (fun q hq => m0 q (by omega) (by omega)) (m241 3 (by decide) (by decide) (by decide)) (m241 5 (by decide) (by decide) (by decide)) (by rw [m0 0 (by decide) (by decide)]) I1 hS ⟨k, o, hU⟩
        refine w_kept_IB (μ := z_u (z_u (z_u (z_u μ 21 0 0) 241 7 0) 241 15 (Int32.ofNat S)) 241 16 0) (μa := μB) (μb := μP) (n := 1000 * n) (m := 1000 * (n + 1)) (k := k) (o := o) (by omega) v1 v2 (w_Un_e (fun q hq => m0 q (by omega) (by omega)) (m241 3 (by decide) (by decide) (by decide)) hU) ⟨0, ?_, ?_, by decide, fun i hi => absurd hi (Nat.not_lt_zero _)⟩ ⟨?_, ?_⟩ ?_ ⟨fun q hq => ?_, fun j j3 j12 => ?_⟩ ?_ (fun q j hj => ?_) (fun q q1 q2 q3 => ?_) ?_ ?_ rf3 (fun i j hi hj => ?_) (fun j hj => ?_)
        · rw [w_u_ne (by decide), w_u_ne (by decide), w_u_ne (by decide), w_u_eq]; rfl
        · rw [w_u_at (by decide), w_u_at (by decide), w_u_eq]; rfl
        · rw [m0 0 (by decide) (by decide), m241 8 (by decide) (by decide) (by decide)]; exact hE.1
        · rw [m0 0 (by decide) (by decide), m241 9 (by decide) (by decide) (by decide)]; exact hE.2
        · unfold w_Ou
          rw [m0 239 (by decide) (by decide), m0 240 (by decide) (by decide), m0 247 (by decide) (by decide), m241 11 (by decide) (by decide) (by decide)]
          exact hO
        · by_cases h21 : q = 21
          · subst h21
            rw [low 21 (by decide) (by decide) (by decide) (by decide) (by decide) (by decide) (by decide), rc 21 (by decide), y1 21 (by omega), rB 21 (by omega), w_u_row, s5 21 (by decide) (by decide) (by decide), w_u_ne (by decide : (21 : Nat) ≠ 241), w_u_ne (by decide : (21 : Nat) ≠ 241), w_u_ne (by decide : (21 : Nat) ≠ 241), w_u_row]
          · rw [low q (by omega) (by omega) (by omega) (by omega) (by omega) (by omega) (by omega), m0 q h21 (by omega), qC q (by omega) h21 (by omega) (by omega) (by omega) (by omega) (by omega)]
        · rw [rf2 j j3, g241 j j12]
          by_cases h7 : j = 7
          · subst h7; rw [f6, w_u_at (by decide), w_u_at (by decide), w_u_eq]
          by_cases h15 : j = 15
          · subst h15; rw [f7, w_u_at (by decide), w_u_eq]
          by_cases h16 : j = 16
          · subst h16; rw [f8, w_u_eq]
          rw [f9 j h7 h15 h16, c241, m241 j h7 h15 h16]
        · refine w_Rel_up (n := 1000 * n + 99 * N) (by omega) (w_Rel_same (fun q j hj => ?_) (fun j hj => ?_) i3)
          · have := w_sz_lt hj
            unfold w_st
            rw [low _ (by omega) (by omega) (by omega) (by omega) (by omega) (by omega) (by omega), rc _ (by omega)]
          · rw [rf1 242 (by decide) (by decide), w_u_ne (by decide)]
        · have := w_sz_lt hj
          have h4 := sB q j hj
          unfold w_st at h4 ⊢
          rw [m0 _ (by omega) (by omega), low _ (by omega) (by omega) (by omega) (by omega) (by omega) (by omega) (by omega), rc _ (by omega), y1 _ (by omega), ← h4, b0 _ (by omega) (by omega) (by omega) (by omega)]
        · rw [m0 q (by omega) (by omega), low q (by omega) (by omega) (by omega) (by omega) (by omega) (by omega) (by omega), qC q (by omega) (by omega) (by omega) (by omega) (by omega) (by omega) q3]
        · rw [low 57 (by decide) (by decide) (by decide) (by decide) (by decide) (by decide) (by decide)]; exact c0
        · rw [low 57 (by decide) (by decide) (by decide) (by decide) (by decide) (by decide) (by decide)]; exact c1
        · rw [rf4 i j hi hj, hi244, m0 244 (by decide) (by decide)]
        · rw [rf5 j hj, hi243 j hj, m0 242 (by decide) (by decide)]
      · exfalso
        have := congrArg Prod.fst (Option.some.inj (z1.symm.trans i1))
        have := (w_eq (a := N) (b := j) (by omega) (by omega)).mp this
        omega
    · -- one fails
      have hC1 : μP 57 1 = Int32.ofNat o := by rw [qP 57 (by omega) (by omega) (by omega) (by omega) (by omega) (by omega)]; exact u4
      obtain ⟨μT, eT, rT, sT⟩ := w_tkB hC1 u5
      have eC := e0 _ z1
      rw [if_neg (fun q => by have := (w_le (by omega) (by omega)).mp q; omega), eT] at eC
      have qT : ∀ q, (20 < q ∧ q < 24) ∨ 33 < q → q ≠ 21 → q ≠ 34 → q ≠ 35 → q ≠ 36 → (q < 59 + 20 * o ∨ 59 + 20 * o + 20 ≤ q) → z_u μT 0 9 (Int32.ofNat j) q = μ q := fun q x b c d e f => by rw [w_u_ne (by omega), rT q (by omega), qP q (by omega) b c d e f]
      have c241 : z_u μT 0 9 (Int32.ofNat j) 241 = μ 241 := qT 241 (by omega) (by omega) (by omega) (by omega) (by omega) (by omega)
      obtain ⟨ν1, kd', a', v', f1, f2, f3, f4, f5, f6, f7, f8, f9⟩ := hgo (z_u μT 0 9 (Int32.ofNat j)) (by rw [c241]) (qT 246 (by omega) (by omega) (by omega) (by omega) (by omega) (by omega)) (qT 242 (by omega) (by omega) (by omega) (by omega) (by omega) (by omega))
      obtain ⟨μP2, ν2, h1, h2, h3⟩ := w_acts (K := w_KD (Int32.ofNat N)) (f2 := 0) N 0 z_fu z_fu (1000 * n) μB ν1 (Nat.zero_add _) (show N < 3000 by omega) (show N < 3000 by omega) (by omega) f3 f2
      rcases h3 with ⟨i1, -⟩ | ⟨j2, b2, i0, i1, i2⟩
      · exfalso
        have := congrArg Prod.fst (Option.some.inj (z1.symm.trans i1))
        have := (w_eq (a := j) (b := N) (by omega) (by omega)).mp this
        omega
      · obtain rfl : j = j2 := (w_eq (by omega) (by omega)).mp (congrArg Prod.fst (Option.some.inj (z1.symm.trans i1)))
        have eR := f1.trans i2
        rw [w_keptX (show ¬ z_u (z_u ν2 241 9 (Int32.ofNat j)) 241 12 2 241 12 = 0 by rw [w_u_eq]; decide)] at eR
        have eR : pm_execute (z_u μT 0 9 (Int32.ofNat j)) = some (0, z_cp (z_u (z_u ν2 241 9 (Int32.ofNat j)) 241 12 2) 243 242 0 0 331) := eR
        have eC : pG_execute μ = some (.inr 5, z_u μT 0 9 (Int32.ofNat j)) := eC
        have low : ∀ q, q ≠ 241 → q ≠ 242 → q ≠ 243 → q ≠ 248 → q ≠ 249 → q ≠ 250 → z_cp (z_u (z_u ν2 241 9 (Int32.ofNat j)) 241 12 2) 243 242 0 0 331 q = z_u μT 0 9 (Int32.ofNat j) q := fun q a1 a2 a3 a5 a6 a7 => by
          rw [w_cp_ne a2, w_u_ne a1, w_u_ne a1, h2.1 q a2 a5 a6 a1, f4 q a1 a3 a7]
        have l241 : ∀ i, i ≠ 9 → i ≠ 12 → z_cp (z_u (z_u ν2 241 9 (Int32.ofNat j)) 241 12 2) 243 242 0 0 331 241 i = ν1 241 i := fun i i9 i12 => by rw [w_cp_ne (by decide), w_u_at i12, w_u_at i9, h2.2 i i12]
        have m241 : ∀ i, i ≠ 9 → i ≠ 12 → i ≠ 7 → i ≠ 15 → i ≠ 16 → z_cp (z_u (z_u ν2 241 9 (Int32.ofNat j)) 241 12 2) 243 242 0 0 331 241 i = μ 241 i := fun i i9 i12 i7 i15 i16 => by rw [l241 i i9 i12, f9 i i7 i15 i16, c241]
        have z0 : ∀ i, i ≠ 9 → z_cp (z_u (z_u ν2 241 9 (Int32.ofNat j)) 241 12 2) 243 242 0 0 331 0 i = μ 0 i := fun i i9 => by rw [low 0 (by decide) (by decide) (by decide) (by decide) (by decide) (by decide), w_u_at i9, rT 0 (by omega), qP 0 (by omega) (by omega) (by omega) (by omega) (by omega) (by omega)]
        refine ⟨_, _, _, _, eC, eR, w_agE (j := 1) rfl (by rw [w_cp_ne (by decide), w_u_eq]; rfl), ?_⟩
        refine w_exeR (k := k) (o := o) (μ := μ) (w_Rel_up (n := 1000 * n) (by omega) (w_Rel_same (fun q i hi => ?_) (fun i hi => ?_) I1)) (w_IB_up (n := 1000 * n) (by omega) I).2.1 ⟨u1, u2, u3, u4, u5, fun i hi => w_Rel_up (by omega) (hU.2.2.2.2.2 i hi)⟩ hO ⟨?_, ?_⟩ (fun q hq => ?_) (fun q a b c => ?_) (m241 3 (by decide) (by decide) (by decide) (by decide) (by decide)) (m241 5 (by decide) (by decide) (by decide) (by decide) (by decide)) (m241 11 (by decide) (by decide) (by decide) (by decide) (by decide)) (z0 7 (by decide)) ?_ ?_
        · have := w_sz_lt hi
          have h4 := sB q i hi
          have h5 := sT q i hi
          unfold w_st at h4 h5 ⊢
          rw [low _ (by omega) (by omega) (by omega) (by omega) (by omega) (by omega), w_u_ne (by omega), ← h5, y1 _ (by omega), ← h4, b0 _ (by omega) (by omega) (by omega) (by omega)]
        · rw [w_cp0 hi, w_u_ne (by decide), w_u_ne (by decide), h2.1 243 (by decide) (by decide) (by decide) (by decide), f5 i hi]
        · rw [z0 8 (by decide), m241 8 (by decide) (by decide) (by decide) (by decide) (by decide)]; exact hE.1
        · rw [low 0 (by decide) (by decide) (by decide) (by decide) (by decide) (by decide), w_u_eq, w_cp_ne (by decide), w_u_at (by decide), w_u_eq]
        · rw [low q (by omega) (by omega) (by omega) (by omega) (by omega) (by omega), qT q (by omega) (by omega) (by omega) (by omega) (by omega) (by omega)]
        · rw [low q (by omega) (by omega) (by omega) (by omega) (by omega) (by omega), qT q (by omega) (by omega) (by omega) (by omega) (by omega) c]
        · rw [low 21 (by decide) (by decide) (by decide) (by decide) (by decide) (by decide), w_u_ne (by decide), rT 21 (by omega), y1 21 (by omega), rB 21 (by omega), w_u_eq]
        · rw [l241 7 (by decide) (by decide), f6]
end ZEXE
