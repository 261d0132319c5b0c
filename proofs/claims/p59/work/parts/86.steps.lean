/-! Steps that read the rest of a command, in both. -/
section ZSTP
section
variable {μ0 ν0 : z_Mem} {t s k : Nat}
def w_arK (kd : Int32) (a : Nat) : Prop := (kd = 103 ∧ a = 1) ∨ (kd = 104 ∧ a = 1) ∨ (kd = 109 ∧ a = 3) ∨ (kd = 110 ∧ a = 2) ∨ (kd = 116 ∧ a = 2) ∨ (kd = 119 ∧ a = 2)
/-- the rest of a command from spot s, its values from i on being to read -/
def w_JJ (μ0 ν0 : z_Mem) (t k need : Nat) (kd : Int32) (s i : Nat) (P : z_Mem → Option (Int32 × z_Mem)) (Q : z_Mem → Option z_Mem) : Prop := ∃ (o : Bool) (s' a : Nat) (v : Nat → Int32), s' ≤ t ∧ (o = true → need ≤ s' ∧ w_arK kd a) ∧
  (∀ M, w_PC μ0 s k M → ∃ μ', P M = some (w_bi o, μ') ∧ w_PC μ0 s' k μ' ∧ μ' 35 = M 35 ∧ (∀ j, j < 3 * k + i → μ' 36 j = M 36 j) ∧ (o = true → ∀ x, i ≤ x → x < a → μ' 36 (3 * k + x) = v x)) ∧
  ∀ ν, w_PM ν0 s 0 ν → ∃ ν', Q ν = some ν' ∧ w_PM ν0 s' (1 - o.toNat) ν' ∧ (∀ j, j < 4 * k + 1 + i → ν' 250 j = ν 250 j) ∧ (o = true → ∀ x, i ≤ x → x < a → ν' 250 (4 * k + 1 + x) = v x)
/-- once wrong, nothing but values to come is changed -/
def w_Wr (ν0 : z_Mem) (k i : Nat) (G : z_Mem → Option z_Mem) : Prop := ∀ s ν, w_PM ν0 s 1 ν → ∃ ν', G ν = some ν' ∧ w_PM ν0 s 1 ν' ∧ ∀ j, j < 4 * k + 1 + i → ν' 250 j = ν 250 j
theorem w_WrE {i : Nat} : w_Wr ν0 k i (fun ν => some ν) := fun s ν h => ⟨ν, rfl, h, fun _ _ => rfl⟩
theorem w_Jend {need i : Nat} {kd : Int32} (hs : s ≤ t) (hn : need ≤ s) (ha : w_arK kd i) : w_JJ μ0 ν0 t k need kd s i (fun M => some (1, M)) (fun ν => some ν) :=
  ⟨true, s, i, fun _ => 0, hs, fun _ => ⟨hn, ha⟩, fun M h => ⟨M, rfl, h, rfl, fun _ _ => rfl, fun _ x a b => by omega⟩, fun ν h => ⟨ν, rfl, h, fun _ _ => rfl, fun _ x a b => by omega⟩⟩
/-- a value is put down in the reference -/
def w_pd (k i : Nat) (G : z_Mem → Option z_Mem) (q : Int32 × z_Mem) : Option z_Mem := if z_inb (Int32.ofNat (4 * k) + Int32.ofNat (i + 1)) 240 = true then G (z_u q.2 250 (Int32.ofNat (4 * k) + Int32.ofNat (i + 1)).toNatClampNeg q.1) else none
theorem w_pdE {i : Nat} {G : z_Mem → Option z_Mem} {q : Int32 × z_Mem} (hk : k ≤ 8) (hi : i ≤ 2) : w_pd k i G q = G (z_u q.2 250 (4 * k + 1 + i) q.1) := by
  unfold w_pd
  rw [w_aa, if_pos ((w_inn (by omega)).mpr (by omega)), w_tn (by omega), show 4 * k + (i + 1) = 4 * k + 1 + i by omega]
theorem w_WrD {i : Nat} {c n : Int32} {G : z_Mem → Option z_Mem} (hk : k ≤ 8) (hi : i ≤ 2) (hG : w_Wr ν0 k (i + 1) G) : w_Wr ν0 k i (fun ν => (pm_digitsAfter ν c n).bind (w_pd k i G)) := fun s ν h => by
  obtain ⟨ν1, a1, a2, a3⟩ := w_dAW h (c := c) (n := n)
  obtain ⟨ν2, b1, b2, b3⟩ := hG s _ (w_PM_v a2 (j := 4 * k + 1 + i) (v := 0))
  refine ⟨ν2, ?_, b2, fun j hj => (b3 j (by omega)).trans (by rw [w_u_at (by omega), a3])⟩
  show (pm_digitsAfter ν c n).bind (w_pd k i G) = _
  rw [a1]
  exact (w_pdE hk hi).trans b1
/-- a digit: the class's part after its sign, the reference's with the sign -/
def w_rD (i : Nat) (F : z_Mem → Option (Int32 × z_Mem)) (M : z_Mem) : Option (Int32 × z_Mem) := (pR_readDigit M (Int32.ofNat i)).bind fun q => if q.1 = 0 then some (0, q.2) else F q.2
def w_rN (i : Nat) (m : Int32) (F : z_Mem → Option (Int32 × z_Mem)) (M : z_Mem) : Option (Int32 × z_Mem) := (pR_readNumber M (Int32.ofNat i) m).bind fun q => if q.1 = 0 then some (0, q.2) else F q.2
def w_rC (c : Int32) (F : z_Mem → Option (Int32 × z_Mem)) (M : z_Mem) : Option (Int32 × z_Mem) := (pR_read M c).bind fun q => if q.1 = 0 then some (0, q.2) else F q.2
/-- the sign is there -/
theorem w_JDs (ht : μ0 21 0 = Int32.ofNat t) (hT : w_Tx (μ0 22) t) (hM : w_TM ν0 (μ0 22) t) (hs : s < t) (hk : k ≤ 8) {need i c : Nat} {kd : Int32} (hc : c < 2147483648) (hi : i ≤ 2) {F : z_Mem → Option (Int32 × z_Mem)} {G : z_Mem → Option z_Mem} (hh : w_ah (μ0 22) t s = Int32.ofNat c) (hG : w_Wr ν0 k (i + 1) G) (hJ : w_isd (μ0 22) t (s + 1) → w_JJ μ0 ν0 t k need kd (s + 1 + 1) (i + 1) F G) :
    ∃ (o : Bool) (s' a : Nat) (v : Nat → Int32), s' ≤ t ∧ (o = true → need ≤ s' ∧ w_arK kd a) ∧
  (∀ M, w_PC μ0 (s + 1) k M → ∃ μ', w_rD i F M = some (w_bi o, μ') ∧ w_PC μ0 s' k μ' ∧ μ' 35 = M 35 ∧ (∀ j, j < 3 * k + i → μ' 36 j = M 36 j) ∧ (o = true → ∀ x, i ≤ x → x < a → μ' 36 (3 * k + x) = v x)) ∧
  ∀ ν, w_PM ν0 s 0 ν → ∃ ν', (pm_digitsAfter ν (Int32.ofNat c) 1).bind (w_pd k i G) = some ν' ∧ w_PM ν0 s' (1 - o.toNat) ν' ∧ (∀ j, j < 4 * k + 1 + i → ν' 250 j = ν 250 j) ∧ (o = true → ∀ x, i ≤ x → x < a → ν' 250 (4 * k + 1 + x) = v x) := by
  by_cases hd : w_isd (μ0 22) t (s + 1)
  · obtain ⟨o, s', a, v, j1, j2, j3, j4⟩ := hJ hd
    refine ⟨o, s', a, fun x => if x = i then Int32.ofNat (w_dv (μ0 22) t (s + 1)) else v x, j1, j2, fun M hp => ?_, fun ν hp => ?_⟩
    · obtain ⟨-, -, M1, b1, b2, b3⟩ := (w_rdg ht hT hs hp hk hi).resolve_right (fun q => q.1 hd)
      obtain ⟨M2, d1, d2, d3, d4, d5⟩ := j3 M1 b2
      refine ⟨M2, ?_, d2, d3.trans b3.1, fun j hj => (d4 j (by omega)).trans (b3.2.2 j (by omega)), fun ho x x1 x2 => ?_⟩
      · unfold w_rD
        rw [b1]
        dsimp only [Option.bind_some]
        rw [if_neg w_10]
        exact d1
      · dsimp only
        by_cases hx : x = i
        · rw [if_pos hx, hx, d4 _ (by omega)]
          exact b3.2.1
        · rw [if_neg hx]
          exact d5 ho x (by omega) x2
    · rcases w_dA hM hT (Nat.le_of_lt hs) hp (c := c) hc with ⟨-, -, -, ⟨ν1, b1, b2, b3⟩, -⟩ | ⟨-, -, x, -⟩ | ⟨x, -⟩
      · obtain ⟨ν2, d1, d2, d3, d4⟩ := j4 _ (w_PM_v b2 (j := 4 * k + 1 + i) (v := Int32.ofNat (w_dv (μ0 22) t (s + 1))))
        refine ⟨ν2, ?_, d2, fun j hj => (d3 j (by omega)).trans (by rw [w_u_at (by omega), b3]), fun ho x x1 x2 => ?_⟩
        · rw [b1]
          exact (w_pdE hk hi).trans d1
        · dsimp only
          by_cases hx : x = i
          · rw [if_pos hx, hx, d3 _ (by omega)]
            exact w_u_eq
          · rw [if_neg hx]
            exact d4 ho x (by omega) x2
      · exact absurd hd x
      · exact absurd hh x
  · refine ⟨false, s + 1, 0, fun _ => 0, hs, (fun h => by cases h), fun M hp => ?_, fun ν hp => ?_⟩
    · obtain ⟨-, b1⟩ := (w_rdg ht hT hs hp hk hi).resolve_left (fun q => hd q.1)
      refine ⟨M, ?_, hp, rfl, fun _ _ => rfl, fun h => by cases h⟩
      unfold w_rD
      rw [b1]
      rfl
    · rcases w_dA hM hT (Nat.le_of_lt hs) hp (c := c) hc with ⟨-, -, x, -⟩ | ⟨-, -, -, x⟩ | ⟨x, -⟩
      · exact absurd x hd
      · obtain ⟨ν1, b1, b2, b3⟩ := x 1
        obtain ⟨ν2, d1, d2, d3⟩ := hG _ _ (w_PM_v b2 (j := 4 * k + 1 + i) (v := 0))
        refine ⟨ν2, ?_, d2, fun j hj => (d3 j (by omega)).trans (by rw [w_u_at (by omega), b3]), fun h => by cases h⟩
        rw [b1]
        exact (w_pdE hk hi).trans d1
      · exact absurd hh x
/-- a sign and a digit -/
theorem w_JD (ht : μ0 21 0 = Int32.ofNat t) (hT : w_Tx (μ0 22) t) (hM : w_TM ν0 (μ0 22) t) (hs : s ≤ t) (hk : k ≤ 8) {need i c : Nat} {kd : Int32} (hc : c < 2147483648) (hi : i ≤ 2) {F : z_Mem → Option (Int32 × z_Mem)} {G : z_Mem → Option z_Mem} (hG : w_Wr ν0 k (i + 1) G) (hJ : w_isd (μ0 22) t (s + 1) → w_JJ μ0 ν0 t k need kd (s + 1 + 1) (i + 1) F G) : w_JJ μ0 ν0 t k need kd s i (w_rC (Int32.ofNat c) (w_rD i F)) (fun ν => (pm_digitsAfter ν (Int32.ofNat c) 1).bind (w_pd k i G)) := by
  by_cases hh : w_ah (μ0 22) t s = Int32.ofNat c
  · have hlt := w_ah_lt hc hh
    obtain ⟨o, s', a, v, j1, j2, j3, j4⟩ := w_JDs ht hT hM hlt hk hc hi hh hG hJ
    refine ⟨o, s', a, v, j1, j2, fun M hp => ?_, j4⟩
    obtain ⟨M2, d1, d2, d3, d4, d5⟩ := j3 _ (w_PC_sp hp (s' := s + 1))
    refine ⟨M2, ?_, d2, d3.trans (w_u_ne (by decide)), fun j hj => (d4 j hj).trans (by rw [w_u_ne (by decide)]), d5⟩
    unfold w_rC
    rw [w_rdY ht hT hs hp hh]
    dsimp only [Option.bind_some]
    rw [if_neg w_10]
    exact d1
  · refine ⟨false, s, 0, fun _ => 0, hs, (fun h => by cases h), fun M hp => ?_, fun ν hp => ?_⟩
    · refine ⟨M, ?_, hp, rfl, fun _ _ => rfl, fun h => by cases h⟩
      unfold w_rC
      rw [w_rdN ht hT hs hp hh]
      rfl
    · rcases w_dA hM hT hs hp (c := c) hc with ⟨x, -⟩ | ⟨x, -⟩ | ⟨-, x⟩
      · exact absurd x hh
      · exact absurd x hh
      · obtain ⟨ν1, b1, b2, b3⟩ := x 1
        obtain ⟨ν2, d1, d2, d3⟩ := hG _ _ (w_PM_v b2 (j := 4 * k + 1 + i) (v := 0))
        refine ⟨ν2, ?_, d2, fun j hj => (d3 j (by omega)).trans (by rw [w_u_at (by omega), b3]), fun h => by cases h⟩
        show (pm_digitsAfter ν (Int32.ofNat c) 1).bind (w_pd k i G) = _
        rw [b1]
        exact (w_pdE hk hi).trans d1
end
end ZSTP
