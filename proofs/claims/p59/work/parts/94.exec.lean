/-! Executing the text: reading and both ends, in both. -/
section ZEXC
section
variable {μ : z_Mem} {t : Nat}
theorem w_bi_inj {o o2 : Bool} (h : w_bi o = w_bi o2) : o = o2 := by
  cases o <;> cases o2 <;> first | rfl | exact absurd h (by decide)
theorem w_rdBoth (ht : μ 21 0 = Int32.ofNat t) (hT : w_Tx (μ 22) t) (hM : w_TM μ (μ 22) t) : ∃ (o : Bool) (S N : Nat) (μA : z_Mem), S ≤ t ∧ N ≤ 9 ∧ pR_readText μ = some (w_bi o, μA) ∧ μA 34 0 = Int32.ofNat S ∧ (∀ q, q ≠ 34 → q ≠ 35 → q ≠ 36 → μA q = μ q) ∧
    (o = true → S = t ∧ ∀ (ν0 : z_Mem) (K : z_Mem → Int32 → Int32 → Option (Int32 × z_Mem)), w_TM ν0 (μ 22) t → ∃ ν' kd a v, pm_execute_L14 z_fu K (z_u (z_u ν0 241 15 0) 241 16 0) 0 1 = K ν' (Int32.ofNat N) 0 ∧ w_PM ν0 S 0 ν' ∧ w_dat N kd a v μA ν') ∧
    (o = false → ∀ (ν0 : z_Mem) (K : z_Mem → Int32 → Int32 → Option (Int32 × z_Mem)), w_TM ν0 (μ 22) t → ∃ ν' N' w, pm_execute_L14 z_fu K (z_u (z_u ν0 241 15 0) 241 16 0) 0 1 = K ν' (Int32.ofNat N') 0 ∧ w_PM ν0 S w ν' ∧ (w = 1 ∨ (w = 0 ∧ S < t))) := by
  have h60 := hT.1
  have hp : w_PC μ 0 0 (z_u (z_u μ 34 0 0) 34 1 0) := ⟨by rw [w_u_at (by decide), w_u_eq]; rfl, by rw [w_u_eq]; rfl, fun q a b c => by rw [w_u_ne a, w_u_ne a]⟩
  have hq : ∀ ν0 : z_Mem, w_PM ν0 0 0 (z_u (z_u ν0 241 15 0) 241 16 0) := fun ν0 => ⟨by rw [w_u_at (by decide), w_u_eq]; rfl, by rw [w_u_eq]; rfl, fun q a b => by rw [w_u_ne a, w_u_ne a], fun j a b => by rw [w_u_at b, w_u_at a]⟩
  obtain ⟨o, S, N, kd, a, v, c1, c2, c3, c4⟩ := w_txtL ht hT hM 9 0 0 rfl (Nat.zero_le _) (Nat.zero_le _)
  obtain ⟨μA, k', d1, d2, d3, d4, d5, d6⟩ := c3 z_fu _ (by decide) hp
  have d1' : pR_readText μ = some (w_bi o, μA) := d1
  -- at any reference the same class run
  have key : ∀ (ν0 : z_Mem) (K : z_Mem → Int32 → Int32 → Option (Int32 × z_Mem)), w_TM ν0 (μ 22) t → ∃ ν' N' w kd a v, pm_execute_L14 z_fu K (z_u (z_u ν0 241 15 0) 241 16 0) 0 1 = K ν' (Int32.ofNat N') 0 ∧ w_PM ν0 S w ν' ∧ (o = true → w = 0 ∧ S = t ∧ N' = N ∧ w_dat N kd a v μA ν') ∧ (o = false → w = 1 ∨ (w = 0 ∧ S < t)) := fun ν0 K hM0 => by
    obtain ⟨o2, S2, N2, kd2, a2, v2, e1, e2, e3, e4⟩ := w_txtL (ν0 := ν0) ht hT hM0 9 0 0 rfl (Nat.zero_le _) (Nat.zero_le _)
    obtain ⟨μA2, k2, f1, f2, f3, f4, f5, f6⟩ := e3 z_fu _ (by decide) hp
    have hh := d1.symm.trans f1
    have h1 : w_bi o = w_bi o2 ∧ μA = μA2 := by
      have := Option.some.inj hh
      exact ⟨congrArg Prod.fst this, congrArg Prod.snd this⟩
    obtain ⟨h1, rfl⟩ := h1
    obtain rfl := w_bi_inj h1
    have hS : S = S2 := by
      have := d2.1.symm.trans f2.1
      exact (w_eq (by omega) (by omega)).mp this
    subst hS
    obtain ⟨ν', N', w, g1, g2, g3, g4, g5, g6⟩ := e4 z_fu K _ (by decide) (hq ν0)
    refine ⟨ν', N', w, kd2, a2, v2, g1, g2, fun ho => ?_, g4⟩
    obtain ⟨i1, i2, i3⟩ := g3 ho
    obtain ⟨j1, j2, j3⟩ := c2 ho
    obtain ⟨l1, l2, l3⟩ := e2 ho
    have hN : N = N2 := by
      have h2 := d2.2.1.symm.trans f2.2.1
      rw [d3 ho, f3 ho] at h2
      exact (w_eq (by omega) (by omega)).mp h2
    subst hN
    refine ⟨i1, i2, i3, l2, by rw [← f3 ho]; exact f2.2.1, fun i hi => ?_⟩
    obtain ⟨m1, m2⟩ := f6 ho i (Nat.zero_le _) hi
    obtain ⟨n1, n2⟩ := g6 ho i (Nat.zero_le _) hi
    exact ⟨l3 i (Nat.zero_le _) hi, m1, m2, n1, n2⟩
  cases o with
  | true =>
    obtain ⟨j1, j2, j3⟩ := c2 rfl
    refine ⟨true, S, N, μA, c1, j2, d1', d2.1, d2.2.2, fun _ => ?_, fun h => by cases h⟩
    refine ⟨?_, fun ν0 K hM0 => ?_⟩
    · obtain ⟨ν', N', w, kd, a, v, g1, g2, g3, g4⟩ := key μ (fun _ _ _ => none) hM
      exact (g3 rfl).2.1
    · obtain ⟨ν', N', w, kd, a, v, g1, g2, g3, g4⟩ := key ν0 K hM0
      obtain ⟨rfl, x1, rfl, x2⟩ := g3 rfl
      exact ⟨ν', kd, a, v, g1, g2, x2⟩
  | false =>
    refine ⟨false, S, 0, μA, c1, Nat.zero_le _, d1', d2.1, d2.2.2, (fun h => by cases h), fun _ ν0 K hM0 => ?_⟩
    obtain ⟨ν', N', w, kd, a, v, g1, g2, g3, g4⟩ := key ν0 K hM0
    exact ⟨ν', N', w, g1, g2, g4 rfl⟩
end
def w_KD (k11 : Int32) : z_Mem → Int32 → Option (Int32 × z_Mem) := fun M37 k36 => (pm_done M37 k11).bind fun q38 => (pm_kept q38.2 q38.1).bind fun q40 => some (q40.1, q40.2)
def w_KX : z_Mem → Int32 → Int32 → Option (Int32 × z_Mem) := fun M13 k11 k12 => if (M13 241 16) = 0 then if (M13 241 7) ≤ (M13 241 15) then if ((z_u (z_u M13 241 16 0) 241 7 0) 241 16) = 0 then (pm_begin (z_u (z_u M13 241 16 0) 241 7 0)).bind fun q34 => pm_execute_L130 z_fu k11 k12 (w_KD k11) q34 0 else (pm_fails (z_u (z_u (z_u M13 241 16 0) 241 7 0) 241 8 ((z_u (z_u M13 241 16 0) 241 7 0) 241 15)) 1).bind fun q42 => some (q42.1, q42.2) else if ((z_u (z_u M13 241 16 1) 241 7 0) 241 16) = 0 then (pm_begin (z_u (z_u M13 241 16 1) 241 7 0)).bind fun q45 => pm_execute_L130 z_fu k11 k12 (w_KD k11) q45 0 else (pm_fails (z_u (z_u (z_u M13 241 16 1) 241 7 0) 241 8 ((z_u (z_u M13 241 16 1) 241 7 0) 241 15)) 1).bind fun q53 => some (q53.1, q53.2) else if ((z_u (z_u M13 241 16 1) 241 7 0) 241 16) = 0 then (pm_begin (z_u (z_u M13 241 16 1) 241 7 0)).bind fun q16 => pm_execute_L130 z_fu k11 k12 (w_KD k11) q16 0 else (pm_fails (z_u (z_u (z_u M13 241 16 1) 241 7 0) 241 8 ((z_u (z_u M13 241 16 1) 241 7 0) 241 15)) 1).bind fun q30 => some (q30.1, q30.2)
theorem w_exD {ν : z_Mem} : pm_execute ν = pm_execute_L14 z_fu w_KX (z_u (z_u ν 241 15 0) 241 16 0) 0 1 := rfl
theorem w_KXe {ν : z_Mem} {a b : Int32} (h : ν 241 16 = 1 ∨ (ν 241 16 = 0 ∧ ¬ ν 241 7 ≤ ν 241 15)) : w_KX ν a b = some (0, z_u (z_u (z_u (z_u ν 241 16 1) 241 7 0) 241 8 (ν 241 15)) 241 12 1) := by
  unfold w_KX
  have e1 : z_u (z_u ν 241 16 1) 241 7 0 241 16 = 1 := by rw [w_u_at (by decide), w_u_eq]
  have e2 : z_u (z_u ν 241 16 1) 241 7 0 241 15 = ν 241 15 := by rw [w_u_at (by decide), w_u_at (by decide)]
  rcases h with h | ⟨h, h2⟩
  · rw [if_neg (show ¬ ν 241 16 = 0 by rw [h]; exact w_10), e1, if_neg w_10, e2]
    rfl
  · rw [if_pos h, if_neg h2, e1, if_neg w_10, e2]
    rfl
theorem w_KXo {ν : z_Mem} {a b : Int32} (h : ν 241 16 = 0) (h2 : ν 241 7 ≤ ν 241 15) : w_KX ν a b = pm_execute_L130 z_fu a b (w_KD a) (z_cp (z_u (z_u ν 241 16 0) 241 7 0) 242 243 0 0 331) (Int32.ofNat 0) := by
  unfold w_KX
  have e1 : z_u (z_u ν 241 16 0) 241 7 0 241 16 = 0 := by rw [w_u_at (by decide), w_u_eq]
  rw [if_pos h, if_pos h2, if_pos e1, w_mbegin]
  rfl
theorem w_dat_e {N : Nat} {kd : Nat → Int32} {a : Nat → Nat} {v : Nat → Nat → Int32} {μ μ' ν ν' : z_Mem} (h : w_dat N kd a v μ ν) (h1 : μ' 34 = μ 34) (h2 : μ' 35 = μ 35) (h3 : μ' 36 = μ 36) (h4 : ν' 250 = ν 250) : w_dat N kd a v μ' ν' := by
  unfold w_dat
  rw [h1, h2, h3, h4]
  exact h
theorem w_Un_e {n k o : Nat} {μ μ' : z_Mem} (h : ∀ q, ((57 ≤ q ∧ q < 239) ∨ q = 244) → μ' q = μ q) (h3 : μ' 241 3 = μ 241 3) (H : w_Un n μ k o) : w_Un n μ' k o := by
  obtain ⟨u1, u2, u3, u4, u5, u6⟩ := H
  refine ⟨by rw [h 57 (by omega)]; exact u1, by rw [h3]; exact u2, u3, by rw [h 57 (by omega)]; exact u4, u5, fun i hi => ?_⟩
  refine w_Rel_same (fun q j hj => ?_) (fun j _ => ?_) (u6 i hi)
  · have := w_sz_lt hj
    unfold w_st
    rw [h _ (by omega)]
  · rw [h 244 (by omega)]
/-- the invariant after a text refused, or taken back -/
theorem w_exeR {n k o : Nat} {μ μ' : z_Mem} (hR : w_Rel n (w_st μ' 1) (μ' 242)) (hS : w_Sv n μ) (hU : w_Un n μ k o) (hO : w_Ou μ) (hE : w_Er μ') (h1 : ∀ q, ((37 ≤ q ∧ q < 59) ∨ q = 239 ∨ q = 240 ∨ q = 244 ∨ q = 245 ∨ q = 247) → μ' q = μ q) (h2 : ∀ q, 59 ≤ q → q < 239 → (q < 59 + 20 * o ∨ 59 + 20 * o + 20 ≤ q) → μ' q = μ q) (h3 : μ' 241 3 = μ 241 3) (h5 : μ' 241 5 = μ 241 5) (h11 : μ' 241 11 = μ 241 11) (h07 : μ' 0 7 = μ 0 7) (h21 : μ' 21 0 = 0) (h7 : μ' 241 7 = 0) : w_IB n μ' := by
  obtain ⟨u1, u2, u3, u4, u5, u6⟩ := hU
  refine ⟨hR, ⟨by rw [h07, h5]; exact hS.1, ?_⟩, ⟨k, o, by rw [h1 57 (by omega)]; exact u1, by rw [h3]; exact u2, u3, by rw [h1 57 (by omega)]; exact u4, u5, fun i hi => ?_⟩, ⟨0, h21, h7, by decide, fun i hi => absurd hi (Nat.not_lt_zero _)⟩, hE, ?_⟩
  · rw [h07]
    refine hS.2.imp_right (fun q => ⟨q.1, w_Rel_same (fun k j hj => ?_) (fun j _ => by rw [h1 245 (by omega)]) q.2⟩)
    have := w_sz_lt hj
    unfold w_st
    rw [h1 _ (by omega)]
  · refine w_Rel_same (fun q j hj => ?_) (fun j _ => ?_) (u6 i hi)
    · have := w_sz_lt hj
      unfold w_st
      rw [h2 _ (by omega) (by omega) (by omega)]
    · rw [h1 244 (by omega)]
  · unfold w_Ou
    rw [h1 239 (by omega), h1 240 (by omega), h1 247 (by omega), h11]
    exact hO
end ZEXC
