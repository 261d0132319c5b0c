/-! The law's third and fourth object at any script. -/
section ZFZW
theorem z_zall : ∀ t : Nat, t < 32 → (pW_z (Int32.ofNat (6 + t)) z_mu0).isSome = true
  | 0, _ => z_z0
  | 1, _ => z_z1
  | 2, _ => z_z2
  | 3, _ => z_z3
  | 4, _ => z_z4
  | 5, _ => z_z5
  | 6, _ => z_z6
  | 7, _ => z_z7
  | 8, _ => z_z8
  | 9, _ => z_z9
  | 10, _ => z_z10
  | 11, _ => z_z11
  | 12, _ => z_z12
  | 13, _ => z_z13
  | 14, _ => z_z14
  | 15, _ => z_z15
  | 16, _ => z_z16
  | 17, _ => z_z17
  | 18, _ => z_z18
  | 19, _ => z_z19
  | 20, _ => z_z20
  | 21, _ => z_z21
  | 22, _ => z_z22
  | 23, _ => z_z23
  | 24, _ => z_z24
  | 25, _ => z_z25
  | 26, _ => z_z26
  | 27, _ => z_z27
  | 28, _ => z_z28
  | 29, _ => z_z29
  | 30, _ => z_z30
  | 31, _ => z_z31
  | t + 32, h => absurd h (by omega)
theorem z_wall : ∀ t : Nat, t < 16 → (pW_w (Int32.ofNat t * 100) z_mu0).isSome = true
  | 0, _ => z_w0
  | 1, _ => z_w1
  | 2, _ => z_w2
  | 3, _ => z_w3
  | 4, _ => z_w4
  | 5, _ => z_w5
  | 6, _ => z_w6
  | 7, _ => z_w7
  | 8, _ => z_w8
  | 9, _ => z_w9
  | 10, _ => z_w10
  | 11, _ => z_w11
  | 12, _ => z_w12
  | 13, _ => z_w13
  | 14, _ => z_w14
  | 15, _ => z_w15
  | t + 16, h => absurd h (by omega)
theorem z_some {α : Type} {o : Option α} (h : o.isSome = true) : ∃ m, o = some m := by
  cases o with
  | none => cases h
  | some m => exact ⟨m, rfl⟩
theorem b_and15 (x : Int32) : ∃ t, t < 16 ∧ x &&& 15 = Int32.ofNat t := by
  refine ⟨x.toBitVec.toNat % 16, Nat.mod_lt _ (by omega), ?_⟩
  apply Int32.toBitVec_inj.mp
  apply BitVec.eq_of_toNat_eq
  rw [Int32.toBitVec_and, BitVec.toNat_and, show (15 : Int32).toBitVec.toNat = 2 ^ 4 - 1 from rfl, Nat.and_two_pow_sub_one_eq_mod]
  show _ = (x.toBitVec.toNat % 16) % 4294967296
  have := Nat.mod_lt x.toBitVec.toNat (show 16 > 0 by omega)
  omega
theorem f_z (c : Int32) : ∃ m, pW_z (pW_n c) z_mu0 = some m := by
  obtain ⟨t, ht, e⟩ := b_and31 c
  have e2 : pW_n c = Int32.ofNat (6 + t) := by
    unfold pW_n
    rw [e]
    exact w_al
  rw [e2]
  exact z_some (z_zall t ht)
theorem f_w (c : Int32) : ∃ m, pW_w (pW_d c) z_mu0 = some m := by
  obtain ⟨t, ht, e⟩ := b_and15 (c >>> ((5 : Int32) &&& 31))
  have e2 : pW_d c = Int32.ofNat t * 100 := by
    unfold pW_d
    rw [e]
  rw [e2]
  exact z_some (z_wall t ht)
end ZFZW
