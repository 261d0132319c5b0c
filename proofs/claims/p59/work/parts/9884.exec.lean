/-! Executing texts: well-formed ones command by command, malformed ones. -/
section ZXEC
theorem p_eta {o : Option (Int32 × z_Mem)} : (o.bind fun q => some (q.1, q.2)) = o := by cases o <;> rfl
section
variable {N i : Nat} {kd : Nat → Int32} {a : Nat → Nat} {v : Nat → Nat → Int32} {μ ν' : z_Mem} {x y : Int32}
theorem p_perf {K x0 x1 x2 : Int32} (hN : N ≤ 9) (hc : μ 34 1 = Int32.ofNat N) (hi : i < N) (h35 : μ 35 i = K) (h0 : μ 36 (3 * i + 0) = x0) (h1 : μ 36 (3 * i + 1) = x1) (h2 : μ 36 (3 * i + 2) = x2) : pG_perform μ (Int32.ofNat i) = (if K = 103 then (pG_tryGear μ x0).bind fun q10 => some (q10.1, q10.2) else if K = 104 then (pG_tryHours μ x0).bind fun q13 => some (q13.1, q13.2) else if K = 109 then (pG_tryMesh μ x0 x1 x2).bind fun q16 => some (q16.1, q16.2) else if K = 110 then (pG_tryEntry μ (((x0 : Int32).toUInt32 % 65536).toInt32) x1).bind fun q19 => some (q19.1, q19.2) else if K = 116 then (pG_tryTurn μ x0 x1).bind fun q22 => some (q22.1, q22.2) else if K = 119 then (pG_tryWheel μ x0 x1).bind fun q25 => some (q25.1, q25.2) else some ((-3), μ)) := by
  unfold pG_perform
  rw [show pR_valueOf μ (Int32.ofNat i) 0 = _ from w_vOf hN hc hi (j := 0) (by omega), show pR_valueOf μ (Int32.ofNat i) 1 = _ from w_vOf hN hc hi (j := 1) (by omega), show pR_valueOf μ (Int32.ofNat i) 2 = _ from w_vOf hN hc hi (j := 2) (by omega), w_kOf hN hc hi, h35, h0, h1, h2]
  rfl
theorem p_turn (D : w_dat N kd a v μ ν') (hi : i < N) (h0 : ν' 250 (4 * i) = 116) (h1 : ν' 250 (4 * i + 1) = x) (h2 : ν' 250 (4 * i + 2) = y) : pG_perform μ (Int32.ofNat i) = pG_tryTurn μ x y := by
  obtain ⟨d1, d2, d3⟩ := D
  obtain ⟨e1, e2, e3, e4, e5⟩ := d3 i hi
  have hk : kd i = 116 := e4.symm.trans h0
  have ha : a i = 2 := by
    rcases e1 with ⟨e, _⟩ | ⟨e, _⟩ | ⟨e, _⟩ | ⟨e, _⟩ | ⟨e, q⟩ | ⟨e, _⟩
    · rw [hk] at e; exact absurd e (by decide)
    · rw [hk] at e; exact absurd e (by decide)
    · rw [hk] at e; exact absurd e (by decide)
    · rw [hk] at e; exact absurd e (by decide)
    · exact q
    · rw [hk] at e; exact absurd e (by decide)
  have f0 : μ 36 (3 * i + 0) = x := (e3 0 (by omega)).trans ((e5 0 (by omega)).symm.trans h1)
  have f1 : μ 36 (3 * i + 1) = y := (e3 1 (by omega)).trans ((e5 1 (by omega)).symm.trans h2)
  rw [p_perf d1 d2 hi (e2.trans hk) f0 f1 rfl, if_neg (by decide), if_neg (by decide), if_neg (by decide), if_neg (by decide), if_pos rfl, p_eta]
theorem p_hour (D : w_dat N kd a v μ ν') (hi : i < N) (h0 : ν' 250 (4 * i) = 104) (h1 : ν' 250 (4 * i + 1) = x) : pG_perform μ (Int32.ofNat i) = pG_tryHours μ x := by
  obtain ⟨d1, d2, d3⟩ := D
  obtain ⟨e1, e2, e3, e4, e5⟩ := d3 i hi
  have hk : kd i = 104 := e4.symm.trans h0
  have ha : a i = 1 := by
    rcases e1 with ⟨e, _⟩ | ⟨e, q⟩ | ⟨e, _⟩ | ⟨e, _⟩ | ⟨e, _⟩ | ⟨e, _⟩
    · rw [hk] at e; exact absurd e (by decide)
    · exact q
    · rw [hk] at e; exact absurd e (by decide)
    · rw [hk] at e; exact absurd e (by decide)
    · rw [hk] at e; exact absurd e (by decide)
    · rw [hk] at e; exact absurd e (by decide)
  have f0 : μ 36 (3 * i + 0) = x := (e3 0 (by omega)).trans ((e5 0 (by omega)).symm.trans h1)
  rw [p_perf d1 d2 hi (e2.trans hk) f0 rfl rfl, if_neg (by decide), if_pos rfl, p_eta]
theorem p_gear (D : w_dat N kd a v μ ν') (hi : i < N) (h0 : ν' 250 (4 * i) = 103) (h1 : ν' 250 (4 * i + 1) = x) : pG_perform μ (Int32.ofNat i) = pG_tryGear μ x := by
  obtain ⟨d1, d2, d3⟩ := D
  obtain ⟨e1, e2, e3, e4, e5⟩ := d3 i hi
  have hk : kd i = 103 := e4.symm.trans h0
  have ha : a i = 1 := by
    rcases e1 with ⟨e, q⟩ | ⟨e, _⟩ | ⟨e, _⟩ | ⟨e, _⟩ | ⟨e, _⟩ | ⟨e, _⟩
    · exact q
    · rw [hk] at e; exact absurd e (by decide)
    · rw [hk] at e; exact absurd e (by decide)
    · rw [hk] at e; exact absurd e (by decide)
    · rw [hk] at e; exact absurd e (by decide)
    · rw [hk] at e; exact absurd e (by decide)
  have f0 : μ 36 (3 * i + 0) = x := (e3 0 (by omega)).trans ((e5 0 (by omega)).symm.trans h1)
  rw [p_perf d1 d2 hi (e2.trans hk) f0 rfl rfl, if_pos rfl, p_eta]
end
section
variable {f N i : Nat} {μ μ2 : z_Mem} {b : Int32} {K : z_Mem → Int32 → Option (Int32 × z_Mem)}
theorem u_step (hN : N ≤ 9) (hc : μ 34 1 = Int32.ofNat N) (hi : i < N) (hp : pG_perform μ (Int32.ofNat i) = some (b, μ2)) (hb : 0 ≤ b) : pG_performUpToFailure_L2 (f + 1) K μ (Int32.ofNat i) = pG_performUpToFailure_L2 f K μ2 (Int32.ofNat (i + 1)) := by
  show pG_performUpToFailure_L2_B (pG_performUpToFailure_L2 f K) K μ (Int32.ofNat i) = _
  unfold pG_performUpToFailure_L2_B
  rw [hc, if_neg (fun q => by have := (w_le (by omega) (by omega)).mp q; omega), hp]
  dsimp only [Option.bind_some]
  rw [if_pos hb, w_ar2]
theorem u_stop (hN : N ≤ 9) (hc : μ 34 1 = Int32.ofNat N) (hi : i < N) (hp : pG_perform μ (Int32.ofNat i) = some (b, μ2)) (hb : ¬ 0 ≤ b) : pG_performUpToFailure_L2 (f + 1) K μ (Int32.ofNat i) = some (Int32.ofNat i, μ2) := by
  show pG_performUpToFailure_L2_B (pG_performUpToFailure_L2 f K) K μ (Int32.ofNat i) = _
  unfold pG_performUpToFailure_L2_B
  rw [hc, if_neg (fun q => by have := (w_le (by omega) (by omega)).mp q; omega), hp]
  dsimp only [Option.bind_some]
  rw [if_neg hb]
theorem u_end (hc : μ 34 1 = Int32.ofNat N) : pG_performUpToFailure_L2 (f + 1) K μ (Int32.ofNat N) = K μ (Int32.ofNat N) := by
  show pG_performUpToFailure_L2_B (pG_performUpToFailure_L2 f K) K μ (Int32.ofNat N) = _
  unfold pG_performUpToFailure_L2_B
  rw [hc, if_pos (Int32.le_refl _)]
end
/-- the object before and after a step that keeps its saved state -/
def Kp (μ μ' : z_Mem) : Prop := μ' 21 0 = 0 ∧ (∀ q, 37 ≤ q → q < 57 → μ' q = μ q) ∧ μ' 0 7 = μ 0 7
theorem x_good {sj N : Nat} {l : List (Nat × Int32)} (hj : sj < 21) (hN : N ≤ 9) (hc : rt_g sj N l = true) {n k o : Nat} {g : Nat → Int32} {μ : z_Mem} (H : w_Rel n (w_st μ 1) g) (hH : Hk μ k o) (h21 : μ 21 0 = 0) :
    ∃ μp μ1 ν' kd a v, pL_put sj μ = some μp ∧ pG_execute μp = ((pG_performUpToFailure μ1).bind fun q8 => if (q8.2 34 1) ≤ q8.1 then (pH_keep q8.2).bind fun q11 => some ((.inl q8.1), q11) else (pH_takeBack q8.2).bind fun q13 => some ((.inr 5), (z_u q13 0 9 q8.1))) ∧
      w_Rel n (w_st μ1 1) g ∧ Hk μ1 k o ∧ Kp μ μ1 ∧ μ1 2 0 = μ 2 0 ∧ w_same (w_st μ 1) (w_st μ1 (59 + 20 * o)) ∧ (∀ q, 59 ≤ q → q < 59 + 20 * o ∨ 59 + 20 * o + 20 ≤ q → μ1 q = μ q) ∧ w_dat N kd a v μ1 ν' ∧ ∀ q ∈ l, ν' 250 q.1 = q.2 := by
  obtain ⟨s1, s2⟩ := r_str hj
  obtain ⟨μp, a1, a2, a3, -, a5⟩ := r_feed (z_str sj) 0 μ h21 (by omega) s2
  have a2' : μp 21 0 = Int32.ofNat (z_str sj).length := by rw [a2]; congr 1; omega
  obtain ⟨μA, ν', kd, a, v, b1, b2, b3, b4⟩ := r_good (l := l) hj hN hc a2' (fun j hj => by rw [← a3 j hj]; congr 1; omega)
  have row : ∀ q, q ≠ 21 → q ≠ 22 → q ≠ 34 → q ≠ 35 → q ≠ 36 → z_u μA 21 0 0 q = μ q := fun q c1 c2 c3 c4 c5 => by rw [w_u_ne c1, b2 q c3 c4 c5, a5 q c1 c2]
  have hHC : Hk (z_u μA 21 0 0) k o := by
    unfold Hk
    rw [row 57 (by decide) (by decide) (by decide) (by decide) (by decide)]
    exact hH
  have ho := hH.2.2.2
  obtain ⟨μ1, d1, d2, d3⟩ := c_begin hHC
  refine ⟨μp, μ1, ν', kd, a, v, a1, ?_, ?_, ?_, ⟨?_, ?_, ?_⟩, ?_, ?_, ?_, ?_, b4⟩
  · unfold pG_execute
    rw [b1]
    dsimp only [Option.bind_some]
    unfold pS_clear
    dsimp only [Option.bind_some]
    rw [if_neg w_10, d1]
    rfl
  · exact c_rows (fun r r1 r2 => by rw [d2 r (by omega), row r (by omega) (by omega) (by omega) (by omega) (by omega)]) H
  · unfold Hk
    rw [d2 57 (by omega)]
    exact hHC
  · rw [d2 21 (by omega)]; exact w_u_eq
  · intro q q1 q2
    rw [d2 q (by omega), row q (by omega) (by omega) (by omega) (by omega) (by omega)]
  · rw [d2 0 (by omega), row 0 (by omega) (by omega) (by omega) (by omega) (by omega)]
  · rw [d2 2 (by omega), row 2 (by omega) (by omega) (by omega) (by omega) (by omega)]
  · intro r j hr
    rw [← d3 r j hr]
    have := w_sz_lt hr
    unfold w_st
    rw [row _ (by omega) (by omega) (by omega) (by omega) (by omega)]
  · intro q q1 q2
    rw [d2 q (by omega), row q (by omega) (by omega) (by omega) (by omega) (by omega)]
  · refine w_dat_e b3 ?_ ?_ ?_ rfl
    · rw [d2 34 (by omega), w_u_ne (by decide)]
    · rw [d2 35 (by omega), w_u_ne (by decide)]
    · rw [d2 36 (by omega), w_u_ne (by decide)]
theorem x_bad {sj S : Nat} (hj : sj < 21) (hc : rt_b sj S = true) (hS : S < 60) {n k o : Nat} {g : Nat → Int32} {μ : z_Mem} (H : w_Rel n (w_st μ 1) g) (hH : Hk μ k o) (h21 : μ 21 0 = 0) :
    ∃ μ', pL_fails sj μ (Int32.ofNat S) = some (1, μ') ∧ w_Rel n (w_st μ' 1) g ∧ Hk μ' k o ∧ Kp μ μ' ∧ μ' 0 9 = μ 0 9 := by
  obtain ⟨s1, s2⟩ := r_str hj
  obtain ⟨μp, a1, a2, a3, -, a5⟩ := r_feed (z_str sj) 0 μ h21 (by omega) s2
  have a2' : μp 21 0 = Int32.ofNat (z_str sj).length := by rw [a2]; congr 1; omega
  obtain ⟨μA, b1, b2, b3⟩ := r_bad hj hc a2' (fun j hj => by rw [← a3 j hj]; congr 1; omega)
  have row : ∀ q, q ≠ 0 → q ≠ 21 → q ≠ 22 → q ≠ 34 → q ≠ 35 → q ≠ 36 → z_u (z_u μA 21 0 0) 0 8 (z_u μA 21 0 0 34 0) q = μ q := fun q c0 c1 c2 c3 c4 c5 => by rw [w_u_ne c0, w_u_ne c1, b3 q c3 c4 c5, a5 q c1 c2]
  have r0 : ∀ j, j ≠ 8 → z_u (z_u μA 21 0 0) 0 8 (z_u μA 21 0 0 34 0) 0 j = μ 0 j := fun j hj => by rw [w_u_at hj, w_u_ne (by decide), b3 0 (by decide) (by decide) (by decide), a5 0 (by decide) (by decide)]
  have e08 : z_u (z_u μA 21 0 0) 0 8 (z_u μA 21 0 0 34 0) 0 8 = Int32.ofNat S := by rw [w_u_eq, w_u_ne (by decide)]; exact b2
  refine ⟨z_u (z_u μA 21 0 0) 0 8 (z_u μA 21 0 0 34 0), ?_, ?_, ?_, ⟨?_, ?_, r0 7 (by decide)⟩, r0 9 (by decide)⟩
  · unfold pL_fails
    rw [show pL_put sj μ = some μp from a1]
    dsimp only [Option.bind_some]
    have ex : pG_execute μp = some (.inr 1, z_u (z_u μA 21 0 0) 0 8 (z_u μA 21 0 0 34 0)) := by
      unfold pG_execute
      rw [b1]
      rfl
    have er : pL_runs μp = some (-1, z_u (z_u μA 21 0 0) 0 8 (z_u μA 21 0 0 34 0)) := by
      unfold pL_runs
      rw [ex]
      rfl
    rw [er]
    dsimp only [Option.bind_some]
    rw [if_pos rfl]
    unfold pG_errorPosition
    rw [e08, if_neg (w_nneg (k := 1) (by omega) (by decide) (by decide))]
    dsimp only [z_iX, Option.bind_some]
    rw [if_pos rfl]
  · exact c_rows (fun r r1 r2 => by rw [row r (by omega) (by omega) (by omega) (by omega) (by omega) (by omega)]) H
  · unfold Hk
    rw [row 57 (by decide) (by decide) (by decide) (by decide) (by decide) (by decide)]
    exact hH
  · rw [w_u_ne (by decide)]; exact w_u_eq
  · intro q q1 q2
    rw [row q (by omega) (by omega) (by omega) (by omega) (by omega) (by omega)]
end ZXEC
