/-! The invariant, and the changes' frame: begin, keep, kept. -/
section ZINV
theorem w_dd {a b : Nat} (ha : a < 2147483648) (hb : b < 2147483648) : Int32.ofNat a / Int32.ofNat b = Int32.ofNat (a / b) := by
  have h1 : a / b ≤ a := Nat.div_le_self a b
  have h2 : (a : Int).tdiv (b : Int) = ((a / b : Nat) : Int) := by
    rw [Int.tdiv_eq_ediv_of_nonneg (by omega)]; rfl
  rw [← Int32.toInt_inj, Int32.toInt_div, w_ti ha, w_ti hb, h2]
  generalize a / b = m at h1
  rw [w_ti (by omega)]
  exact Int.bmod_eq_of_le (by omega) (by omega)
theorem w_md {a b : Nat} (ha : a < 2147483648) (hb : b < 2147483648) : Int32.ofNat a - Int32.ofNat a / Int32.ofNat b * Int32.ofNat b = Int32.ofNat (a % b) := by
  rw [w_dd ha hb, w_mm, w_ss (Nat.div_mul_le_self a b)]
  congr 1
  have := Nat.div_add_mod a b
  rw [Nat.mul_comm] at this
  omega
theorem w_mdl {a k : Nat} (ha : a < 2147483648) (hb : (OfNat.ofNat k : Nat) < 2147483648) : Int32.ofNat a - Int32.ofNat a / (OfNat.ofNat k : Int32) * (OfNat.ofNat k : Int32) = Int32.ofNat (a % (OfNat.ofNat k : Nat)) := w_md ha hb
/-- the saved state -/
def w_Sv (n : Nat) (μ : z_Mem) : Prop := μ 0 7 = μ 241 5 ∧ (μ 0 7 = 0 ∨ (μ 0 7 = 1 ∧ w_Rel n (w_st μ 37) (μ 245)))
/-- what undo gives back -/
def w_Un (n : Nat) (μ : z_Mem) (k o : Nat) : Prop := μ 57 0 = Int32.ofNat k ∧ μ 241 3 = Int32.ofNat k ∧ k ≤ 8 ∧ μ 57 1 = Int32.ofNat o ∧ o < 9 ∧ ∀ i, i < k → w_Rel n (w_st μ (59 + 20 * ((o + 9 - k + i) % 9))) (fun j => μ 244 (331 * i + j))
/-- the text fed -/
def w_In (μ : z_Mem) : Prop := ∃ t, μ 21 0 = Int32.ofNat t ∧ μ 241 7 = Int32.ofNat t ∧ t ≤ 60 ∧ ∀ i, i < t → μ 22 i = μ 246 i ∧ ∃ ch, ch < 65536 ∧ μ 22 i = Int32.ofNat ch
def w_Er (μ : z_Mem) : Prop := μ 0 8 = μ 241 8 ∧ μ 0 9 = μ 241 9
def w_Ou (μ : z_Mem) : Prop := ∃ t, μ 239 0 = Int32.ofNat t ∧ μ 241 11 = Int32.ofNat t ∧ t ≤ 50 ∧ ∀ i, i < t → μ 240 i = μ 247 i ∧ ∃ ch, ch < 65536 ∧ μ 240 i = Int32.ofNat ch
def w_IB (n : Nat) (μ : z_Mem) : Prop := w_Rel n (w_st μ 1) (μ 242) ∧ w_Sv n μ ∧ (∃ k o, w_Un n μ k o) ∧ w_In μ ∧ w_Er μ ∧ w_Ou μ
theorem w_IB_up {n m : Nat} {μ : z_Mem} (h : n ≤ m) (H : w_IB n μ) : w_IB m μ := by
  obtain ⟨h1, ⟨h2, h3⟩, ⟨k, o, h4, h5, h6, h7, h8, h9⟩, h10, h11, h12⟩ := H
  refine ⟨w_Rel_up h h1, ⟨h2, ?_⟩, ⟨k, o, h4, h5, h6, h7, h8, fun i hi => w_Rel_up h (h9 i hi)⟩, h10, h11, h12⟩
  rcases h3 with h3 | ⟨h3, h3'⟩
  · exact Or.inl h3
  · exact Or.inr ⟨h3, w_Rel_up h h3'⟩
/-- positions are bounded by 1000 for each call so far -/
def w_Inv (n : Nat) (μ : z_Mem) : Prop := w_IB (1000 * n) μ
theorem w_Inv_up {n : Nat} {μ : z_Mem} (H : w_Inv n μ) : w_Inv (n + 1) μ := w_IB_up (by omega) H
/-- rows that no change of the state touches, but what the change's own frame does -/
def w_out (k : Nat) : Prop := k = 0 ∨ (20 < k ∧ k < 23) ∨ (36 < k ∧ k ≠ 242 ∧ k ≠ 248 ∧ k ≠ 249 ∧ k ≠ 241)
/-- a change of the state: other rows stay, and of the reference's own the number of the exception alone changes -/
def w_fr (μ μ' : z_Mem) : Prop := (∀ k, w_out k → μ' k = μ k) ∧ ∀ j, j ≠ 12 → μ' 241 j = μ 241 j
theorem w_fr_rfl {μ : z_Mem} : w_fr μ μ := ⟨fun _ _ => rfl, fun _ _ => rfl⟩
theorem w_fr_trans {μ μ1 μ2 : z_Mem} (h : w_fr μ μ1) (h2 : w_fr μ1 μ2) : w_fr μ μ2 := ⟨fun k hk => (h2.1 k hk).trans (h.1 k hk), fun j hj => (h2.2 j hj).trans (h.2 j hj)⟩
/-- rows 1..20 only, and the walks' own rows (the class's part of a change) -/
def w_frC (μ μ' : z_Mem) : Prop := ∀ k, (k = 0 ∨ (20 < k ∧ k < 24) ∨ 33 < k) → μ' k = μ k
/-- the reference's part of a change -/
def w_frM (μ μ' : z_Mem) : Prop := (∀ k, k ≠ 242 → k ≠ 248 → k ≠ 249 → k ≠ 241 → μ' k = μ k) ∧ ∀ j, j ≠ 12 → μ' 241 j = μ 241 j
theorem w_frC_rfl {μ : z_Mem} : w_frC μ μ := fun _ _ => rfl
theorem w_frC_trans {μ μ1 μ2 : z_Mem} (h : w_frC μ μ1) (h2 : w_frC μ1 μ2) : w_frC μ μ2 := fun k hk => (h2 k hk).trans (h k hk)
theorem w_frM_rfl {μ : z_Mem} : w_frM μ μ := ⟨fun _ _ _ _ _ => rfl, fun _ _ => rfl⟩
theorem w_frM_trans {μ μ1 μ2 : z_Mem} (h : w_frM μ μ1) (h2 : w_frM μ1 μ2) : w_frM μ μ2 := ⟨fun k a b c d => (h2.1 k a b c d).trans (h.1 k a b c d), fun j hj => (h2.2 j hj).trans (h.2 j hj)⟩
theorem w_frM_st {μ μ' : z_Mem} (h : w_frM μ μ') : w_same (w_st μ 1) (w_st μ' 1) := by
  intro k j hj
  unfold w_st
  by_cases hk : k < 20
  · rw [h.1 (1 + k) (by omega) (by omega) (by omega) (by omega)]
  · exfalso
    have : w_sz k = 0 := by unfold w_sz; split <;> first | rfl | omega
    omega
theorem w_sz_lt {k j : Nat} (h : j < w_sz k) : k < 20 := by
  by_cases hk : k < 20
  · exact hk
  · exfalso
    have : w_sz k = 0 := by unfold w_sz; split <;> first | rfl | omega
    omega
theorem w_begin {n k o : Nat} {μ : z_Mem} (H : w_Un n μ k o) : ∃ μ1, pH_begin μ = some μ1 ∧ (∀ r, r < 59 + 20 * o ∨ 59 + 20 * o + 20 ≤ r → μ1 r = μ r) ∧ w_same (w_st μ 1) (w_st μ1 (59 + 20 * o)) := by
  obtain ⟨h1, h2, h3, h4, h5, h6⟩ := H
  obtain ⟨μ1, e1, e2, e3⟩ := w_copyA (μ := μ) (t := 59 + 20 * o) (u := 1) (by omega)
  refine ⟨μ1, ?_, e2, e3⟩
  unfold pH_begin
  rw [h4, if_pos ((w_inn (by omega)).mpr h5)]
  dsimp only [Option.bind_some]
  unfold z_rg
  rw [w_tn (by omega), e1]
  rfl
theorem w_keep {n k o : Nat} {μ : z_Mem} (h1 : μ 57 0 = Int32.ofNat k) (h2 : k ≤ 8) (h3 : μ 57 1 = Int32.ofNat o) (h4 : o < 9) : ∃ μ1, pH_keep μ = some μ1 ∧ (∀ r, r ≠ 57 → μ1 r = μ r) ∧ μ1 57 0 = Int32.ofNat (if k = 8 then 8 else k + 1) ∧ μ1 57 1 = Int32.ofNat ((o + 1) % 9) := by
  unfold pH_keep
  rw [h3, w_ar2, w_mdl (by omega) (by omega), w_u_at (by decide), h1, w_ar2]
  unfold pJ_min
  by_cases hk : k = 8
  · subst hk
    rw [if_pos ((w_ltl (by decide) (by omega)).mpr (by omega))]
    refine ⟨_, rfl, fun r hr => by rw [w_u_ne hr, w_u_ne hr], ?_, ?_⟩
    · rw [w_u_eq, if_pos rfl]; rfl
    · rw [w_u_at (by decide), w_u_eq]
  · rw [if_neg (fun h => by have := (w_ltl (by decide) (by omega)).mp h; omega)]
    refine ⟨_, rfl, fun r hr => by rw [w_u_ne hr, w_u_ne hr], ?_, ?_⟩
    · rw [w_u_eq, if_neg hk]
    · rw [w_u_at (by decide), w_u_eq]
theorem w_mbegin {μ : z_Mem} : pm_begin μ = some (z_cp μ 242 243 0 0 331) := by
  unfold pm_begin
  rw [show (pm_copy 242 331 243 331 μ 0 0) = _ from w_copyM (b := 242) (nb := 331) (a := 243) (na := 331) (x := 0) (y := 0) (by decide) (by decide) (by decide) (by decide) (by decide)]
  rfl
/-- the reference takes a change back -/
theorem w_keptX {μ : z_Mem} {v : Int32} (h : ¬ μ 241 12 = 0) : pm_kept μ v = some (0, z_cp μ 243 242 0 0 331) := by
  unfold pm_kept
  rw [if_neg h, show (pm_copy 243 331 242 331 μ 0 0) = _ from w_copyM (b := 243) (nb := 331) (a := 242) (na := 331) (x := 0) (y := 0) (by decide) (by decide) (by decide) (by decide) (by decide)]
  rfl
/-- .. or keeps it -/
theorem w_keptO {μ : z_Mem} {v : Int32} {k : Nat} (h : μ 241 12 = 0) (hk : μ 241 3 = Int32.ofNat k) (hk8 : k ≤ 8) : ∃ μ1, pm_kept μ v = some (v, μ1) ∧ (∀ r, r ≠ 244 → r ≠ 241 → μ1 r = μ r) ∧ (∀ j, j ≠ 3 → μ1 241 j = μ 241 j) ∧ μ1 241 3 = Int32.ofNat (if k = 8 then 8 else k + 1) ∧
    (∀ i j, i < (if k = 8 then 7 else k) → j < 331 → μ1 244 (331 * i + j) = μ 244 (331 * (if k = 8 then i + 1 else i) + j)) ∧ ∀ j, j < 331 → μ1 244 (331 * (if k = 8 then 7 else k) + j) = μ 243 j := by
  unfold pm_kept
  rw [if_pos h, hk]
  by_cases h8 : k = 8
  · subst h8
    rw [if_pos (show (Int32.ofNat 8) = 8 from rfl)]
    have e := w_shL (μ := μ) (f1 := v) (K := fun M10 k9 => (pm_copy 243 331 244 2648 (z_u M10 241 3 ((M10 241 3) - 1)) 0 (((z_u M10 241 3 ((M10 241 3) - 1)) 241 3) * 331)).bind fun q11 => some (v, (z_u q11 241 3 ((q11 241 3) + 1)))) z_fu 0 (by decide) (by decide)
    rw [w_shZ] at e
    refine (show ∃ μ1, pm_kept_L33 z_fu v (fun M10 k9 => (pm_copy 243 331 244 2648 (z_u M10 241 3 ((M10 241 3) - 1)) 0 (((z_u M10 241 3 ((M10 241 3) - 1)) 241 3) * 331)).bind fun q11 => some (v, (z_u q11 241 3 ((q11 241 3) + 1)))) μ (Int32.ofNat 0) = some (v, μ1) ∧ _ from ?_)
    rw [e]
    have e1 : w_sh μ 2317 241 3 = Int32.ofNat 8 := by unfold w_sh; rw [if_neg (fun h => by omega), hk]
    rw [e1, w_sr (by decide), w_u_eq, w_mr]
    rw [show (0 : Int32) = Int32.ofNat 0 from rfl, w_copyM (b := 243) (nb := 331) (a := 244) (na := 2648) (x := 0) (y := (8 - 1) * 331) (by decide) (by decide) (by decide) (by decide) (by decide)]
    dsimp only [Option.bind_some]
    refine ⟨_, rfl, fun r h1 h2 => ?_, fun j hj => ?_, ?_, fun i j hi hj => ?_, fun j hj => ?_⟩
    · rw [w_u_ne h2, w_cp_ne h1, w_u_ne h2]; unfold w_sh; funext i; rw [if_neg (fun h => h1 h.1)]
    · rw [w_u_at hj, w_cp_ne (by decide), w_u_at hj]; unfold w_sh; rw [if_neg (fun h => by omega)]
    · rw [w_u_eq, w_cp_ne (by decide), w_u_eq, if_pos rfl]; rfl
    · rw [if_pos rfl] at hi
      rw [if_pos rfl, w_u_ne (by decide), w_cp_out (by omega), w_u_ne (by decide)]
      unfold w_sh
      rw [if_pos ⟨rfl, by omega⟩]
      exact congrArg (μ 244) (by omega)
    · rw [if_pos rfl, w_u_ne (by decide), w_cp_in (by omega), w_u_ne (by decide)]
      unfold w_sh
      rw [if_neg (fun h => by omega)]
      exact congrArg (μ 243) (by omega)
  · rw [if_neg (fun h => h8 ((w_eqr (by decide) (by omega)).mp h))]
    rw [w_mr, show (0 : Int32) = Int32.ofNat 0 from rfl, w_copyM (b := 243) (nb := 331) (a := 244) (na := 2648) (x := 0) (y := k * 331) (by decide) (by decide) (by omega) (by decide) (by decide)]
    dsimp only [Option.bind_some]
    refine ⟨_, rfl, fun r h1 h2 => ?_, fun j hj => ?_, ?_, fun i j hi hj => ?_, fun j hj => ?_⟩
    · rw [w_u_ne h2, w_cp_ne h1]
    · rw [w_u_at hj, w_cp_ne (by decide)]
    · rw [w_u_eq, w_cp_ne (by decide), hk, w_ar2, if_neg h8]
    · rw [if_neg h8] at hi
      rw [if_neg h8, w_u_ne (by decide), w_cp_out (by omega)]
    · rw [if_neg h8, w_u_ne (by decide), w_cp_in (by omega)]
      exact congrArg (μ 243) (by omega)
end ZINV
