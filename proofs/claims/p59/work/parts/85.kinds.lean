/-! The kinds of commands read, in both. -/
section ZKND
section
variable {μ0 ν0 : z_Mem} {t s k : Nat}
def w_clT (μ0 : z_Mem) (k : Nat) (o : Bool) (s' a : Nat) (v : Nat → Int32) (M : z_Mem) (F : Option (Int32 × z_Mem)) : Prop := ∃ μ', F = some (w_bi o, μ') ∧ w_PC μ0 s' k μ' ∧ μ' 35 = M 35 ∧ (∀ j, j < 3 * k → μ' 36 j = M 36 j) ∧ (o = true → ∀ i, i < a → μ' 36 (3 * k + i) = v i)
def w_rfT (ν0 : z_Mem) (k : Nat) (o : Bool) (s' a : Nat) (v : Nat → Int32) (ν : z_Mem) (F : Option z_Mem) : Prop := ∃ ν', F = some ν' ∧ w_PM ν0 s' (1 - o.toNat) ν' ∧ (∀ j, j ≤ 4 * k → ν' 250 j = ν 250 j) ∧ (o = true → ∀ i, i < a → ν' 250 (4 * k + 1 + i) = v i)
def w_cmT (μ0 ν0 : z_Mem) (t s k : Nat) (kd : Int32) (P : z_Mem → Option (Int32 × z_Mem)) (Q : z_Mem → Option z_Mem) : Prop := ∃ (o : Bool) (s' a : Nat) (v : Nat → Int32), s' ≤ t ∧ (o = true → s + 6 ≤ s' ∧ w_kd kd a v) ∧ (∀ M, w_PC μ0 s k M → w_clT μ0 k o s' a v M (P M)) ∧ ∀ ν, w_PM ν0 (s + 1) 0 ν → w_rfT ν0 k o s' a v ν (Q ν)
theorem w_n3 {ν : z_Mem} {a b c : Nat} : pm_needsThree ν (Int32.ofNat a) (Int32.ofNat b) (Int32.ofNat c) = w_nds [a, b, c] ν := rfl
theorem w_stR {ν : z_Mem} {m j : Nat} (hm : m + (OfNat.ofNat j : Nat) < 240) {v : Int32} : (if z_inb (Int32.ofNat m + (OfNat.ofNat j : Int32)) 240 = true then some (z_u ν 250 (Int32.ofNat m + (OfNat.ofNat j : Int32)).toNatClampNeg v) else none) = some (z_u ν 250 (m + (OfNat.ofNat j : Nat)) v) := by
  rw [w_ar2, if_pos ((w_inn (by omega)).mpr hm), w_tn (by omega)]
def w_PG (sj : Nat) (M : z_Mem) : Option (Int32 × z_Mem) := (pR_readWord sj M).bind fun q7 => if q7.1 = 0 then some (0, q7.2) else (pR_readNumber q7.2 0 1).bind fun q10 => if q10.1 = 0 then some (0, q10.2) else some (1, q10.2)
def w_QG (k c1 c2 c3 : Nat) (ν : z_Mem) : Option z_Mem := (pm_needsThree ν (Int32.ofNat c1) (Int32.ofNat c2) (Int32.ofNat c3)).bind fun q5 => (pm_digitsAfter q5 32 2).bind fun q7 => if z_inb (Int32.ofNat (4 * k) + 1) 240 = true then some (z_u q7.2 250 (Int32.ofNat (4 * k) + 1).toNatClampNeg q7.1) else none
theorem w_tG (ht : μ0 21 0 = Int32.ofNat t) (hT : w_Tx (μ0 22) t) (hM : w_TM ν0 (μ0 22) t) (hs : s ≤ t) (hk : k ≤ 8) {sj c0 c1 c2 c3 : Nat} {kd : Int32} (hkd : kd = 103 ∨ kd = 104) (hz : z_str sj = c0 :: ([c1, c2, c3] ++ [32])) (hl2 : ∀ c ∈ c0 :: ([c1, c2, c3] ++ [32]), c < 2147483648) (h0 : w_ah (μ0 22) t s = Int32.ofNat c0) : w_cmT μ0 ν0 t s k kd (w_PG sj) (w_QG k c1 c2 c3) := by
  have W := w_word (k := k) ht hT hM hs hz (by show 3 < 90; decide) hl2 h0
  rw [show [c1, c2, c3].length = 3 from rfl] at W
  have hRef : ∀ (s1 w : Nat) (x : Int32) (ν1 ν2 : z_Mem), w_PM ν0 s1 w ν1 → (pm_digitsAfter ν1 32 2 = some (x, ν2)) → ((pm_digitsAfter ν1 32 2).bind fun q7 => if z_inb (Int32.ofNat (4 * k) + 1) 240 = true then some (z_u q7.2 250 (Int32.ofNat (4 * k) + 1).toNatClampNeg q7.1) else none) = some (z_u ν2 250 (4 * k + 1) x) := fun s1 w x ν1 ν2 _ h2 => by
    rw [h2]
    exact w_stR (j := 1) (by show 4 * k + 1 < 240; omega)
  rcases W with ⟨w1, w2, wC, wR⟩ | ⟨w1, w2, wC, wR⟩ | ⟨s', w2, wC, wR⟩
  · by_cases hd : w_isd (μ0 22) t (s + 1 + 3 + 1)
    · have hnl : 1 ≤ w_nl (μ0 22) t (s + 1 + 3 + 1) := Nat.le_add_right _ _
      have hle : s + 1 + 3 + 1 + w_nl (μ0 22) t (s + 1 + 3 + 1) ≤ t := by
        obtain ⟨q, -⟩ := w_isd_v hT hd
        unfold w_nl
        by_cases hd2 : w_isd (μ0 22) t (s + 1 + 3 + 1 + 1)
        · have := (w_isd_v hT hd2).1
          rw [w_b1 hd2]; omega
        · rw [w_b0 hd2]; omega
      refine ⟨true, s + 1 + 3 + 1 + w_nl (μ0 22) t (s + 1 + 3 + 1), 1, fun _ => Int32.ofNat (w_nv (μ0 22) t (s + 1 + 3 + 1)), hle, fun _ => ⟨by omega, ?_⟩, fun M hp => ?_, fun ν hp => ?_⟩
      · rcases hkd with h | h
        · exact Or.inl ⟨h, rfl⟩
        · exact Or.inr (Or.inl ⟨h, rfl⟩)
      · obtain ⟨M1, a1, a2, a3⟩ := wC M hp
        obtain ⟨-, -, M2, b1, b2, b3⟩ := (w_rnC ht hT w2 a2 hk (j := 0) (by omega) 1).resolve_right (fun q => q.1 hd)
        refine ⟨M2, ?_, b2, b3.1.trans a3.1, fun j hj => (b3.2.2 j (by omega)).trans (by rw [a3.2]), fun _ i hi => ?_⟩
        · unfold w_PG
          rw [a1]
          dsimp only [Option.bind_some]
          rw [if_neg w_10, show (0 : Int32) = Int32.ofNat 0 from rfl, b1]
          dsimp only [Option.bind_some]
          rw [if_neg (show ¬ (1 : Int32) = Int32.ofNat 0 from w_10)]
          rfl
        · rw [show i = 0 by omega, b3.2.1, Int32.one_mul]
      · obtain ⟨ν1, a1, a2, a3⟩ := wR ν hp
        rcases w_dA hM hT (by omega) a2 (c := 32) (by decide) with ⟨-, -, -, -, ν2, b1, b2, b3⟩ | ⟨-, -, x, -⟩ | ⟨x, -⟩
        · refine ⟨z_u ν2 250 (4 * k + 1) (Int32.ofNat (w_nv (μ0 22) t (s + 1 + 3 + 1))), ?_, w_PM_v b2, fun j hj => ?_, fun _ i hi => ?_⟩
          · unfold w_QG
            rw [w_n3, a1]
            exact hRef _ _ _ _ _ a2 b1
          · rw [w_u_at (by omega), b3, a3]
          · rw [show i = 0 by omega]
            exact w_u_eq
        · exact absurd hd x
        · exact absurd w1 x
    · refine ⟨false, s + 1 + 3 + 1, 1, fun _ => 0, w2, (fun h => by cases h), fun M hp => ?_, fun ν hp => ?_⟩
      · obtain ⟨M1, a1, a2, a3⟩ := wC M hp
        obtain ⟨-, b1⟩ := (w_rnC ht hT w2 a2 hk (j := 0) (by omega) 1).resolve_left (fun q => hd q.1)
        refine ⟨M1, ?_, a2, a3.1, fun j hj => by rw [a3.2], (fun h => by cases h)⟩
        unfold w_PG
        rw [a1]
        dsimp only [Option.bind_some]
        rw [if_neg w_10, show pR_readNumber M1 0 1 = _ from b1]
        rfl
      · obtain ⟨ν1, a1, a2, a3⟩ := wR ν hp
        rcases w_dA hM hT (by omega) a2 (c := 32) (by decide) with ⟨-, -, x, -⟩ | ⟨-, -, -, x⟩ | ⟨x, -⟩
        · exact absurd x hd
        · obtain ⟨ν2, b1, b2, b3⟩ := x 2
          refine ⟨z_u ν2 250 (4 * k + 1) 0, ?_, w_PM_v b2, fun j hj => ?_, fun h => by cases h⟩
          · unfold w_QG
            rw [w_n3, a1]
            exact hRef _ _ _ _ _ a2 b1
          · rw [w_u_at (by omega), b3, a3]
        · exact absurd w1 x
  · refine ⟨false, s + 1 + 3, 1, fun _ => 0, w2, (fun h => by cases h), fun M hp => ?_, fun ν hp => ?_⟩
    · obtain ⟨M1, a1, a2, a3⟩ := wC M hp
      refine ⟨M1, ?_, a2, a3.1, fun j hj => by rw [a3.2], (fun h => by cases h)⟩
      unfold w_PG
      rw [a1]
      rfl
    · obtain ⟨ν1, a1, a2, a3⟩ := wR ν hp
      rcases w_dA hM hT (by omega) a2 (c := 32) (by decide) with ⟨x, -⟩ | ⟨x, -⟩ | ⟨-, x⟩
      · exact absurd x w1
      · exact absurd x w1
      · obtain ⟨ν2, b1, b2, b3⟩ := x 2
        refine ⟨z_u ν2 250 (4 * k + 1) 0, ?_, w_PM_v b2, fun j hj => ?_, fun h => by cases h⟩
        · unfold w_QG
          rw [w_n3, a1]
          exact hRef _ _ _ _ _ a2 b1
        · rw [w_u_at (by omega), b3, a3]
  · refine ⟨false, s', 1, fun _ => 0, w2, (fun h => by cases h), fun M hp => ?_, fun ν hp => ?_⟩
    · obtain ⟨M1, a1, a2, a3⟩ := wC M hp
      refine ⟨M1, ?_, a2, a3.1, fun j hj => by rw [a3.2], (fun h => by cases h)⟩
      unfold w_PG
      rw [a1]
      rfl
    · obtain ⟨ν1, a1, a2, a3⟩ := wR ν hp
      obtain ⟨ν2, b1, b2, b3⟩ := w_dAW a2 (c := 32) (n := 2)
      refine ⟨z_u ν2 250 (4 * k + 1) 0, ?_, w_PM_v b2, fun j hj => ?_, fun h => by cases h⟩
      · unfold w_QG
        rw [w_n3, a1]
        exact hRef _ _ _ _ _ a2 b1
      · rw [w_u_at (by omega), b3, a3]
end
end ZKND
