/-! The law's texts, and undoing. -/
section ZTXS
/-- what a command inside a text keeps -/
def In1 (μ μ2 : z_Mem) : Prop := ∀ q, q = 0 ∨ q = 21 ∨ q = 22 ∨ 33 < q → μ2 q = μ q
theorem In1_dat {N : Nat} {kd : Nat → Int32} {a : Nat → Nat} {v : Nat → Nat → Int32} {μ μ2 ν' : z_Mem} (h : In1 μ μ2) (D : w_dat N kd a v μ ν') : w_dat N kd a v μ2 ν' := w_dat_e D (h 34 (by omega)) (h 35 (by omega)) (h 36 (by omega)) rfl
theorem In1_t {μ μ2 μ3 : z_Mem} (h : In1 μ μ2) (h2 : In1 μ2 μ3) : In1 μ μ3 := fun q hq => (h2 q hq).trans (h q hq)
theorem x_six {n k o : Nat} {g : Nat → Int32} {μ ν1 ν2 ν3 : z_Mem} {b1 b2 b3 : Int32} (H : w_Rel n (w_st μ 1) g) (hH : Hk μ k o) (h21 : μ 21 0 = 0) (t1 : Tok (fun μ => pG_tryTurn μ (Int32.ofNat 0) 7) n g 1 b1 ν1) (t2 : Tok (fun μ => pG_tryTurn μ (Int32.ofNat 1) (-30)) (n + 99) (ν1 242) 1 b2 ν2) (t3 : Tok (fun μ => pG_tryHours μ (Int32.ofNat 5)) (n + 99 + 99) (ν2 242) 5 b3 ν3) :
    ∃ μp μ', pL_put 6 μ = some μp ∧ pG_execute μp = some (.inl 3, μ') ∧ w_Rel (n + 99 + 99 + 99) (w_st μ' 1) (ν3 242) ∧ Hk μ' (if k = 8 then 8 else k + 1) ((o + 1) % 9) ∧ Kp μ μ' ∧ w_same (w_st μ 1) (w_st μ' (59 + 20 * o)) := by
  obtain ⟨μp, μ1, ν', kd, a, v, e1, e2, H1, hH1, K1, -, S1, F1, D, hD⟩ := x_good (sj := 6) (N := 3) (by decide) (by decide) rt_6 H hH h21
  obtain ⟨μ2, p1, q1, f1, H2, -⟩ := c_okT t1 (by decide) H1
  obtain ⟨μ3, p2, q2, f2, H3, -⟩ := c_okT t2 (by decide) H2
  obtain ⟨μ4, p3, q3, f3, H4, -⟩ := c_okT t3 (by decide) H3
  have D2 := In1_dat f1 D
  have D3 := In1_dat f2 D2
  have D4 := In1_dat f3 D3
  have F : In1 μ1 μ4 := In1_t f1 (In1_t f2 f3)
  have w1 : pG_perform μ1 (Int32.ofNat 0) = some (b1, μ2) := (p_turn D (by decide) (hD (0, 116) (by decide)) (hD (1, 0) (by decide)) (hD (2, 7) (by decide))).trans p1
  have w2 : pG_perform μ2 (Int32.ofNat 1) = some (b2, μ3) := (p_turn D2 (by decide) (hD (4, 116) (by decide)) (hD (5, 1) (by decide)) (hD (6, -30) (by decide))).trans p2
  have w3 : pG_perform μ3 (Int32.ofNat 2) = some (b3, μ4) := (p_hour D3 (by decide) (hD (8, 104) (by decide)) (hD (9, 5) (by decide))).trans p3
  have wf : pG_performUpToFailure μ1 = some (Int32.ofNat 3, μ4) := by
    rw [w_pfD]
    show pG_performUpToFailure_L2 (2996 + 1 + 1 + 1 + 1) _ _ _ = _
    rw [u_step D.1 D.2.1 (by decide) w1 q1, u_step D2.1 D2.2.1 (by decide) w2 q2, u_step D3.1 D3.2.1 (by decide) w3 q3, u_end D4.2.1]
    rw [D4.2.1]
  obtain ⟨h1, h2, h3, h4⟩ := id hH1
  obtain ⟨μ5, k1, k2, k3, k4⟩ := w_keep (n := n) (μ := μ4) (k := k) (o := o) (by rw [F 57 (by omega)]; exact h1) h2 (by rw [F 57 (by omega)]; exact h3) h4
  refine ⟨μp, μ5, e1, ?_, c_rows (fun r _ _ => k2 r (by omega)) H4, ⟨k3, by split <;> omega, k4, by omega⟩, ⟨?_, fun q j1 j2 => ?_, ?_⟩, fun r j hj => ?_⟩
  · rw [e2, wf]
    dsimp only [Option.bind_some]
    rw [if_pos (show μ4 34 1 ≤ Int32.ofNat 3 by rw [D4.2.1]; exact Int32.le_refl _), k1]
    rfl
  · rw [k2 21 (by decide), F 21 (by omega)]; exact K1.1
  · rw [k2 q (by omega), F q (by omega)]; exact K1.2.1 q j1 j2
  · rw [k2 0 (by decide), F 0 (by omega)]; exact K1.2.2
  · rw [S1 r j hj]
    unfold w_st
    rw [k2 _ (by omega), F _ (by omega)]
/-- a text whose command fails: all is as it was -/
theorem x_fail {n k o i N : Nat} {g : Nat → Int32} {μ μp μ1 μ2 : z_Mem} (hN : N ≤ 9) (hi : i < N) (hH : Hk μ1 k o) (H : w_Rel n (w_st μ 1) g) (K1 : Kp μ μ1) (S1 : w_same (w_st μ 1) (w_st μ1 (59 + 20 * o))) (hc : μ1 34 1 = Int32.ofNat N) (F : In1 μ1 μ2) (wf : pG_performUpToFailure μ1 = some (Int32.ofNat i, μ2)) (e2 : pG_execute μp = ((pG_performUpToFailure μ1).bind fun q8 => if (q8.2 34 1) ≤ q8.1 then (pH_keep q8.2).bind fun q11 => some ((.inl q8.1), q11) else (pH_takeBack q8.2).bind fun q13 => some ((.inr 5), (z_u q13 0 9 q8.1)))) :
    ∃ μ', pL_runs μp = some (-2, μ') ∧ μ' 0 9 = Int32.ofNat i ∧ w_Rel n (w_st μ' 1) g ∧ Hk μ' k o ∧ Kp μ μ' := by
  obtain ⟨h1, h2, h3, h4⟩ := id hH
  obtain ⟨μ3, t1, t2, t3⟩ := w_tkB (μ := μ2) (o := o) (by rw [F 57 (by omega)]; exact h3) h4
  have e : pG_execute μp = some (.inr 5, z_u μ3 0 9 (Int32.ofNat i)) := by
    rw [e2, wf]
    dsimp only [Option.bind_some]
    rw [if_neg (show ¬ μ2 34 1 ≤ Int32.ofNat i by rw [F 34 (by omega), hc]; exact fun q => by have := (w_le (by omega) (by omega)).mp q; omega), t1]
    rfl
  have s1 : w_same (w_st μ 1) (w_st μ3 1) := fun r j hj => by
    rw [S1 r j hj, ← t3 r j hj]
    unfold w_st
    rw [F _ (by omega)]
  refine ⟨z_u μ3 0 9 (Int32.ofNat i), ?_, w_u_eq, ?_, ?_, ⟨?_, fun q j1 j2 => ?_, ?_⟩⟩
  · unfold pL_runs
    rw [e]
    rfl
  · exact c_rows (fun r _ _ => w_u_ne (by omega)) (c_same s1 H)
  · unfold Hk
    rw [w_u_ne (by decide), t2 57 (by omega), F 57 (by omega)]
    exact hH
  · rw [w_u_ne (by decide), t2 21 (by omega), F 21 (by omega)]; exact K1.1
  · rw [w_u_ne (by omega), t2 q (by omega), F q (by omega)]; exact K1.2.1 q j1 j2
  · rw [w_u_at (by decide), t2 0 (by omega), F 0 (by omega)]; exact K1.2.2
theorem x_seven {n k o : Nat} {g : Nat → Int32} {μ : z_Mem} (hn : n ≤ 800000) (H : w_Rel n (w_st μ 1) g) (hH : Hk μ k o) (h21 : μ 21 0 = 0) :
    ∃ μp μ', pL_put 7 μ = some μp ∧ pL_runs μp = some (-2, μ') ∧ μ' 0 9 = 1 ∧ w_Rel n (w_st μ' 1) g ∧ Hk μ' k o ∧ Kp μ μ' := by
  obtain ⟨μp, μ1, ν', kd, a, v, e1, e2, H1, hH1, K1, -, S1, F1, D, hD⟩ := x_good (sj := 7) (N := 2) (by decide) (by decide) rt_7 H hH h21
  obtain ⟨b1, ν1, t1⟩ := Tok_hours (h := 1) (by omega) H1 (by decide) (by decide)
  obtain ⟨μ2, p1, q1, f1, H2, -⟩ := c_okT t1 (by decide) H1
  have D2 := In1_dat f1 D
  have w1 : pG_perform μ1 (Int32.ofNat 0) = some (b1, μ2) := (p_hour D (by decide) (hD (0, 104) (by decide)) (hD (1, 1) (by decide))).trans p1
  have w2 : ∃ b, pG_perform μ2 (Int32.ofNat 1) = some (b, μ2) ∧ ¬ 0 ≤ b := by
    rw [p_turn D2 (by decide) (hD (4, 116) (by decide)) (hD (5, 0) (by decide)) (hD (6, 0) (by decide))]
    unfold pG_tryTurn pT_hasGear
    split
    · rename_i h; exact absurd h (by decide)
    · split
      · exact ⟨-1, rfl, by decide⟩
      · exact ⟨-2, rfl, by decide⟩
  obtain ⟨b2, w2, q2⟩ := w2
  have wf : pG_performUpToFailure μ1 = some (Int32.ofNat 1, μ2) := by
    rw [w_pfD]
    show pG_performUpToFailure_L2 (2998 + 1 + 1) _ _ _ = _
    rw [u_step D.1 D.2.1 (by decide) w1 q1, u_stop D2.1 D2.2.1 (by decide) w2 q2]
  obtain ⟨μ', r1, r2, r3, r4, r5⟩ := x_fail (by decide) (by decide) hH1 H K1 S1 D.2.1 f1 wf e2
  exact ⟨μp, μ', e1, r1, r2, r3, r4, r5⟩
theorem x_eight {n k o : Nat} {g : Nat → Int32} {μ : z_Mem} (H : w_Rel n (w_st μ 1) g) (hH : Hk μ k o) (h21 : μ 21 0 = 0) :
    ∃ μp μ', pL_put 8 μ = some μp ∧ pL_runs μp = some (-2, μ') ∧ μ' 0 9 = 0 ∧ w_Rel n (w_st μ' 1) g ∧ Hk μ' k o ∧ Kp μ μ' := by
  obtain ⟨μp, μ1, ν', kd, a, v, e1, e2, H1, hH1, K1, -, S1, F1, D, hD⟩ := x_good (sj := 8) (N := 1) (by decide) (by decide) rt_8 H hH h21
  have w1 : pG_perform μ1 (Int32.ofNat 0) = some (-2, μ1) := by
    rw [p_gear D (by decide) (hD (0, 103) (by decide)) (hD (1, 7) (by decide))]
    unfold pG_tryGear pG_isWithin
    rw [if_pos (show (7 : Int32) < 8 by decide)]
    rfl
  have wf : pG_performUpToFailure μ1 = some (Int32.ofNat 0, μ1) := by
    rw [w_pfD]
    show pG_performUpToFailure_L2 (2999 + 1) _ _ _ = _
    rw [u_stop D.1 D.2.1 (by decide) w1 (by decide)]
  obtain ⟨μ', r1, r2, r3, r4, r5⟩ := x_fail (by decide) (by decide) hH1 H K1 S1 D.2.1 (fun _ _ => rfl) wf e2
  exact ⟨μp, μ', e1, r1, r2, r3, r4, r5⟩
/-- undoing brings the latest slot back -/
theorem x_undo {n k o o1 : Nat} {g : Nat → Int32} {c : w_Cl} {μ : z_Mem} (hH : Hk μ k o1) (hk : 1 ≤ k) (ho : o < 9) (ho1 : o1 = (o + 1) % 9) (hs : w_same c (w_st μ (59 + 20 * o))) (H : w_Rel n c g) :
    ∃ b μ', z_iXM (pG_undo μ) = some (b, μ') ∧ ¬ b < 0 ∧ w_Rel n (w_st μ' 1) g ∧ Hk μ' (k - 1) o ∧ (∀ q, ¬ (1 ≤ q ∧ q < 21) → q ≠ 57 → μ' q = μ q) := by
  obtain ⟨h1, h2, h3, h4⟩ := id hH
  have e0 : μ 57 1 + 9 - 1 - (μ 57 1 + 9 - 1) / 9 * 9 = Int32.ofNat o := by
    rw [h3, w_ar2, w_sr (k := 1) (by show 1 ≤ o1 + 9; omega)]
    show Int32.ofNat (o1 + 9 - 1) - Int32.ofNat (o1 + 9 - 1) / (9 : Int32) * 9 = _
    rw [w_mdl (k := 9) (by omega) (by decide)]
    congr 1
    show (o1 + 9 - 1) % 9 = o
    omega
  have e1 : z_u μ 57 1 (Int32.ofNat o) 57 0 - 1 = Int32.ofNat (k - 1) := by
    rw [w_u_at (by decide), h1, w_sr (k := 1) (by show 1 ≤ k; omega)]
  obtain ⟨μ', t1, t2, t3⟩ := w_tkB (μ := z_u (z_u μ 57 1 (Int32.ofNat o)) 57 0 (Int32.ofNat (k - 1))) (o := o) (by rw [w_u_at (by decide)]; exact w_u_eq) ho
  have c1 : μ' 57 0 = Int32.ofNat (k - 1) := by rw [t2 57 (by omega)]; exact w_u_eq
  refine ⟨Int32.ofNat (k - 1), μ', ?_, w_n0 (by omega), ?_, ⟨c1, by omega, ?_, ho⟩, fun q q1 q2 => ?_⟩
  · unfold pG_undo pH_undoLatest
    rw [if_neg (show ¬ μ 57 0 = 0 by rw [h1]; exact fun q => by have := (w_eq (b := 0) (by omega) (by omega)).mp q; omega), e0, e1, t1]
    show some (μ' 57 0, μ') = _
    rw [c1]
  · refine c_same (fun r j hj => ?_) H
    rw [hs r j hj, ← t3 r j hj]
    unfold w_st
    rw [w_u_ne (by omega), w_u_ne (by omega)]
  · rw [t2 57 (by omega), w_u_at (by decide)]; exact w_u_eq
  · rw [t2 q q1, w_u_ne q2, w_u_ne q2]
end ZTXS
