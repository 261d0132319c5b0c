/-! Word, then a space and a digit, then the rest. -/
section ZTLS
section
variable {μ0 ν0 : z_Mem} {t s k : Nat}
theorem w_kd_of {kd : Int32} {a : Nat} {v : Nat → Int32} (h : w_arK kd a) (h2 : kd ≠ 110) : w_kd kd a v := by
  rcases h with h | h | h | h | h | h
  · exact Or.inl h
  · exact Or.inr (Or.inl h)
  · exact Or.inr (Or.inr (Or.inl h))
  · exact absurd h.1 h2
  · exact Or.inr (Or.inr (Or.inr (Or.inr (Or.inl h))))
  · exact Or.inr (Or.inr (Or.inr (Or.inr (Or.inr h))))
def w_PW (sj : Nat) (F : z_Mem → Option (Int32 × z_Mem)) (M : z_Mem) : Option (Int32 × z_Mem) := (pR_readWord sj M).bind fun q => if q.1 = 0 then some (0, q.2) else F q.2
theorem w_tW (ht : μ0 21 0 = Int32.ofNat t) (hT : w_Tx (μ0 22) t) (hM : w_TM ν0 (μ0 22) t) (hs : s ≤ t) (hk : k ≤ 8) {sj c0 : Nat} {l : List Nat} {kd : Int32} (hkd : kd ≠ 110) (hz : z_str sj = c0 :: (l ++ [32])) (hl : l.length < 90) (hl2 : ∀ c ∈ c0 :: (l ++ [32]), c < 2147483648) (h0 : w_ah (μ0 22) t s = Int32.ofNat c0) {F : z_Mem → Option (Int32 × z_Mem)} {G : z_Mem → Option z_Mem} (hG : w_Wr ν0 k 1 G) (hJ : s + 1 + l.length < t → w_isd (μ0 22) t (s + 1 + l.length + 1) → w_JJ μ0 ν0 t k (s + 6) kd (s + 1 + l.length + 1 + 1) 1 F G) : w_cmT μ0 ν0 t s k kd (w_PW sj (w_rD 0 F)) (fun ν => (w_nds l ν).bind fun ν => (pm_digitsAfter ν (Int32.ofNat 32) 1).bind (w_pd k 0 G)) := by
  rcases w_word (k := k) ht hT hM hs hz hl hl2 h0 with ⟨w1, w2, wC, wR⟩ | ⟨w1, w2, wC, wR⟩ | ⟨s', w2, wC, wR⟩
  · obtain ⟨o, s', a, v, j1, j2, j3, j4⟩ := w_JDs ht hT hM w2 hk (c := 32) (by decide) (i := 0) (by omega) w1 hG (hJ w2)
    refine ⟨o, s', a, v, j1, fun ho => ⟨(j2 ho).1, w_kd_of (j2 ho).2 hkd⟩, fun M hp => ?_, fun ν hp => ?_⟩
    · obtain ⟨M1, a1, a2, a3⟩ := wC M hp
      obtain ⟨M2, d1, d2, d3, d4, d5⟩ := j3 M1 a2
      refine ⟨M2, ?_, d2, d3.trans a3.1, fun j hj => (d4 j hj).trans (by rw [a3.2]), fun ho i hi => d5 ho i (Nat.zero_le _) hi⟩
      unfold w_PW
      rw [a1]
      dsimp only [Option.bind_some]
      rw [if_neg w_10]
      exact d1
    · obtain ⟨ν1, a1, a2, a3⟩ := wR ν hp
      obtain ⟨ν2, d1, d2, d3, d4⟩ := j4 ν1 a2
      refine ⟨ν2, ?_, d2, fun j hj => (d3 j (by omega)).trans (by rw [a3]), fun ho i hi => d4 ho i (Nat.zero_le _) hi⟩
      show (w_nds l ν).bind _ = _
      rw [a1]
      exact d1
  · refine ⟨false, s + 1 + l.length, 0, fun _ => 0, w2, (fun h => by cases h), fun M hp => ?_, fun ν hp => ?_⟩
    · obtain ⟨M1, a1, a2, a3⟩ := wC M hp
      refine ⟨M1, ?_, a2, a3.1, fun j hj => by rw [a3.2], (fun h => by cases h)⟩
      unfold w_PW
      rw [a1]
      rfl
    · obtain ⟨ν1, a1, a2, a3⟩ := wR ν hp
      rcases w_dA hM hT w2 a2 (c := 32) (by decide) with ⟨x, -⟩ | ⟨x, -⟩ | ⟨-, x⟩
      · exact absurd x w1
      · exact absurd x w1
      · obtain ⟨ν2, b1, b2, b3⟩ := x 1
        obtain ⟨ν3, d1, d2, d3⟩ := hG _ _ (w_PM_v b2 (j := 4 * k + 1 + 0) (v := 0))
        refine ⟨ν3, ?_, d2, fun j hj => (d3 j (by omega)).trans (by rw [w_u_at (by omega), b3, a3]), fun h => by cases h⟩
        show (w_nds l ν).bind _ = _
        rw [a1]
        dsimp only [Option.bind_some]
        rw [b1]
        exact (w_pdE hk (by omega)).trans d1
  · refine ⟨false, s', 0, fun _ => 0, w2, (fun h => by cases h), fun M hp => ?_, fun ν hp => ?_⟩
    · obtain ⟨M1, a1, a2, a3⟩ := wC M hp
      refine ⟨M1, ?_, a2, a3.1, fun j hj => by rw [a3.2], (fun h => by cases h)⟩
      unfold w_PW
      rw [a1]
      rfl
    · obtain ⟨ν1, a1, a2, a3⟩ := wR ν hp
      obtain ⟨ν2, b1, b2, b3⟩ := w_dAW a2 (c := Int32.ofNat 32) (n := 1)
      obtain ⟨ν3, d1, d2, d3⟩ := hG _ _ (w_PM_v b2 (j := 4 * k + 1 + 0) (v := 0))
      refine ⟨ν3, ?_, d2, fun j hj => (d3 j (by omega)).trans (by rw [w_u_at (by omega), b3, a3]), fun h => by cases h⟩
      show (w_nds l ν).bind _ = _
      rw [a1]
      dsimp only [Option.bind_some]
      rw [b1]
      exact (w_pdE hk (by omega)).trans d1
/-- mesh -/
theorem w_tM (ht : μ0 21 0 = Int32.ofNat t) (hT : w_Tx (μ0 22) t) (hM : w_TM ν0 (μ0 22) t) (hs : s ≤ t) (hk : k ≤ 8) (h0 : w_ah (μ0 22) t s = 109) : w_cmT μ0 ν0 t s k 109 (w_PW 1 (w_rD 0 (w_rC (Int32.ofNat 45) (w_rD 1 (w_rC (Int32.ofNat 47) (w_rD 2 (fun M => some (1, M)))))))) (fun ν => (w_nds [101, 115, 104] ν).bind fun ν => (pm_digitsAfter ν (Int32.ofNat 32) 1).bind (w_pd k 0 (fun ν => (pm_digitsAfter ν (Int32.ofNat 45) 1).bind (w_pd k 1 (fun ν => (pm_digitsAfter ν (Int32.ofNat 47) 1).bind (w_pd k 2 (fun ν => some ν))))))) := by
  have g2 : w_Wr ν0 k 2 (fun ν => (pm_digitsAfter ν (Int32.ofNat 47) 1).bind (w_pd k 2 (fun ν => some ν))) := w_WrD hk (by omega) w_WrE
  refine w_tW ht hT hM hs hk (c0 := 109) (by decide) rfl (by decide) (by decide) h0 (w_WrD hk (by omega) g2) (fun hl hd => ?_)
  have q1 := (w_isd_v hT hd).1
  refine w_JD ht hT hM q1 hk (by decide) (by omega) g2 (fun hd2 => ?_)
  have q2 := (w_isd_v hT hd2).1
  refine w_JD ht hT hM q2 hk (by decide) (by omega) w_WrE (fun hd3 => ?_)
  have q3 := (w_isd_v hT hd3).1
  exact w_Jend q3 (by show s + 6 ≤ s + 1 + 3 + 1 + 1 + 1 + 1 + 1 + 1; omega) (Or.inr (Or.inr (Or.inl ⟨rfl, rfl⟩)))
/-- wheel -/
theorem w_tH (ht : μ0 21 0 = Int32.ofNat t) (hT : w_Tx (μ0 22) t) (hM : w_TM ν0 (μ0 22) t) (hs : s ≤ t) (hk : k ≤ 8) (h0 : w_ah (μ0 22) t s = 119) : w_cmT μ0 ν0 t s k 119 (w_PW 3 (w_rD 0 (w_rC (Int32.ofNat 42) (w_rN 1 1 (fun M => some (1, M)))))) (fun ν => (w_nds [104, 101, 101, 108] ν).bind fun ν => (pm_digitsAfter ν (Int32.ofNat 32) 1).bind (w_pd k 0 (fun ν => (pm_digitsAfter ν (Int32.ofNat 42) 2).bind (fun q => w_pd k 1 (fun ν => some ν) q)))) := by
  refine w_tW ht hT hM hs hk (c0 := 119) (by decide) rfl (by decide) (by decide) h0 (w_WrN (U := fun q => q) hk (by omega) (fun _ => rfl)) (fun hl hd => ?_)
  have q1 := (w_isd_v hT hd).1
  exact w_JN ht hT hM q1 hk (U := fun q => q) (by decide) (by omega) (by show s + 6 ≤ s + 1 + 4 + 1 + 1 + 2; omega) (Or.inr (Or.inr (Or.inr (Or.inr (Or.inr ⟨rfl, rfl⟩))))) (fun x ν => by rw [Int32.one_mul]) (fun _ => rfl)
end
end ZTLS
