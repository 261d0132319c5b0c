/-! A number at the end of a command, and mesh and wheel. -/
section ZNMB
section
variable {μ0 ν0 : z_Mem} {t s k : Nat}
/-- a sign and a number, the last of the command -/
theorem w_JN (ht : μ0 21 0 = Int32.ofNat t) (hT : w_Tx (μ0 22) t) (hM : w_TM ν0 (μ0 22) t) (hs : s ≤ t) (hk : k ≤ 8) {need i c : Nat} {kd : Int32} (hc : c < 2147483648) (hi : i ≤ 2) (hn : need ≤ s + 2) (ha : w_arK kd (i + 1)) {m : Int32} {U : Int32 × z_Mem → Int32 × z_Mem} (hU : ∀ x ν, U (Int32.ofNat x, ν) = (m * Int32.ofNat x, ν)) (hUs : ∀ q, (U q).2 = q.2) : w_JJ μ0 ν0 t k need kd s i (w_rC (Int32.ofNat c) (w_rN i m (fun M => some (1, M)))) (fun ν => (pm_digitsAfter ν (Int32.ofNat c) 2).bind (fun q => w_pd k i (fun ν => some ν) (U q))) := by
  have fin : ∀ (ν ν1 : z_Mem) (s1 w : Nat) (x : Int32), pm_digitsAfter ν (Int32.ofNat c) 2 = some (x, ν1) → w_PM ν0 s1 w ν1 → ν1 250 = ν 250 → ∃ ν', (pm_digitsAfter ν (Int32.ofNat c) 2).bind (fun q => w_pd k i (fun ν => some ν) (U q)) = some ν' ∧ w_PM ν0 s1 w ν' ∧ (∀ j, j < 4 * k + 1 + i → ν' 250 j = ν 250 j) ∧ ν' 250 (4 * k + 1 + i) = (U (x, ν1)).1 := fun ν ν1 s1 w x h1 h2 h3 => by
    refine ⟨z_u ν1 250 (4 * k + 1 + i) (U (x, ν1)).1, ?_, w_PM_v h2, fun j hj => by rw [w_u_at (by omega), h3], w_u_eq⟩
    rw [h1]
    show w_pd k i (fun ν => some ν) (U (x, ν1)) = _
    rw [w_pdE hk hi, hUs]
  by_cases hh : w_ah (μ0 22) t s = Int32.ofNat c
  · have hlt := w_ah_lt hc hh
    by_cases hd : w_isd (μ0 22) t (s + 1)
    · have hnl : 1 ≤ w_nl (μ0 22) t (s + 1) := Nat.le_add_right _ _
      have hle : s + 1 + w_nl (μ0 22) t (s + 1) ≤ t := by
        obtain ⟨q, -⟩ := w_isd_v hT hd
        unfold w_nl
        by_cases hd2 : w_isd (μ0 22) t (s + 1 + 1)
        · have := (w_isd_v hT hd2).1
          rw [w_b1 hd2]; omega
        · rw [w_b0 hd2]; omega
      refine ⟨true, s + 1 + w_nl (μ0 22) t (s + 1), i + 1, fun _ => m * Int32.ofNat (w_nv (μ0 22) t (s + 1)), hle, fun _ => ⟨by omega, ha⟩, fun M hp => ?_, fun ν hp => ?_⟩
      · obtain ⟨-, -, M1, b1, b2, b3⟩ := (w_rnC ht hT hlt (w_PC_sp hp (s' := s + 1)) hk hi m).resolve_right (fun q => q.1 hd)
        refine ⟨M1, ?_, b2, b3.1.trans (w_u_ne (by decide)), fun j hj => (b3.2.2 j (by omega)).trans (by rw [w_u_ne (by decide)]), fun _ x x1 x2 => ?_⟩
        · unfold w_rC w_rN
          rw [w_rdY ht hT hs hp hh]
          dsimp only [Option.bind_some]
          rw [if_neg w_10, b1]
          dsimp only [Option.bind_some]
          rw [if_neg w_10]
          rfl
        · rw [show x = i by omega]
          exact b3.2.1
      · rcases w_dA hM hT hs hp (c := c) hc with ⟨-, -, -, -, ν1, b1, b2, b3⟩ | ⟨-, -, x, -⟩ | ⟨x, -⟩
        · obtain ⟨ν2, d1, d2, d3, d4⟩ := fin ν ν1 _ _ _ b1 b2 b3
          refine ⟨ν2, d1, d2, d3, fun _ x x1 x2 => ?_⟩
          rw [show x = i by omega, d4, hU]
        · exact absurd hd x
        · exact absurd hh x
    · refine ⟨false, s + 1, 0, fun _ => 0, hlt, (fun h => by cases h), fun M hp => ?_, fun ν hp => ?_⟩
      · obtain ⟨-, b1⟩ := (w_rnC ht hT hlt (w_PC_sp hp (s' := s + 1)) hk hi m).resolve_left (fun q => hd q.1)
        refine ⟨_, ?_, w_PC_sp hp (s' := s + 1), w_u_ne (by decide), fun j hj => by rw [w_u_ne (by decide)], fun h => by cases h⟩
        unfold w_rC w_rN
        rw [w_rdY ht hT hs hp hh]
        dsimp only [Option.bind_some]
        rw [if_neg w_10, b1]
        rfl
      · rcases w_dA hM hT hs hp (c := c) hc with ⟨-, -, x, -⟩ | ⟨-, -, -, x⟩ | ⟨x, -⟩
        · exact absurd x hd
        · obtain ⟨ν1, b1, b2, b3⟩ := x 2
          obtain ⟨ν2, d1, d2, d3, d4⟩ := fin ν ν1 _ _ _ b1 b2 b3
          exact ⟨ν2, d1, d2, d3, fun h => by cases h⟩
        · exact absurd hh x
  · refine ⟨false, s, 0, fun _ => 0, hs, (fun h => by cases h), fun M hp => ?_, fun ν hp => ?_⟩
    · refine ⟨M, ?_, hp, rfl, fun _ _ => rfl, fun h => by cases h⟩
      unfold w_rC
      rw [w_rdN ht hT hs hp hh]
      rfl
    · rcases w_dA hM hT hs hp (c := c) hc with ⟨x, -⟩ | ⟨x, -⟩ | ⟨-, x⟩
      · exact absurd x hh
      · exact absurd x hh
      · obtain ⟨ν1, b1, b2, b3⟩ := x 2
        obtain ⟨ν2, d1, d2, d3, d4⟩ := fin ν ν1 _ _ _ b1 b2 b3
        exact ⟨ν2, d1, d2, d3, fun h => by cases h⟩
theorem w_WrN {i : Nat} {c n : Int32} {U : Int32 × z_Mem → Int32 × z_Mem} (hk : k ≤ 8) (hi : i ≤ 2) (hUs : ∀ q, (U q).2 = q.2) : w_Wr ν0 k i (fun ν => (pm_digitsAfter ν c n).bind (fun q => w_pd k i (fun ν => some ν) (U q))) := fun s ν h => by
  obtain ⟨ν1, a1, a2, a3⟩ := w_dAW h (c := c) (n := n)
  refine ⟨z_u ν1 250 (4 * k + 1 + i) (U (0, ν1)).1, ?_, w_PM_v a2, fun j hj => by rw [w_u_at (by omega), a3]⟩
  show (pm_digitsAfter ν c n).bind _ = _
  rw [a1]
  show w_pd k i (fun ν => some ν) (U (0, ν1)) = _
  rw [w_pdE hk hi, hUs]
end
end ZNMB
