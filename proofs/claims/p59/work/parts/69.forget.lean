/-! Entries forgotten, in both. -/
section ZFGT
theorem w_rmE {μ : z_Mem} {E p : Nat} (hE : E ≤ 6) (h0 : μ 16 0 = Int32.ofNat E) (hp : p < E) : ∃ μ', pE_removeAt μ (Int32.ofNat p) = some (Int32.ofNat (E - 1), μ') ∧ (∀ k, k < 16 ∨ 20 < k → μ' k = μ k) ∧ μ' 16 0 = Int32.ofNat (E - 1) ∧ (∀ k, 17 ≤ k → k ≤ 19 → ∀ r, μ' k r = μ k (if r = p then E - 1 else r)) ∧ ∀ r i, i < 10 → μ' 20 (10 * r + i) = μ 20 (10 * (if r = p then E - 1 else r) + i) := by
  have tp : (Int32.ofNat p).toNatClampNeg = p := w_tn (by omega)
  have inb : z_inb (Int32.ofNat p) 6 = true := (w_inn (by omega)).mpr (by omega)
  have hs : Int32.ofNat E - 1 = Int32.ofNat (E - 1) := w_sr (k := 1) (show 1 ≤ E by omega)
  have c10 : (10 : Int32).toNatClampNeg = 10 := rfl
  have t1 : (Int32.ofNat p * 10).toNatClampNeg = p * 10 := by rw [w_mr]; exact w_tn (by show p * 10 < _; omega)
  have t2 : (Int32.ofNat (E - 1) * 10).toNatClampNeg = (E - 1) * 10 := by rw [w_mr]; exact w_tn (by show (E - 1) * 10 < _; omega)
  have n1 : ¬ Int32.ofNat p * 10 < 0 := by rw [w_mr]; exact w_n0 (by show p * 10 < _; omega)
  have n2 : ¬ Int32.ofNat (E - 1) * 10 < 0 := by rw [w_mr]; exact w_n0 (by show (E - 1) * 10 < _; omega)
  have hr6 : ∀ (μ : z_Mem) a, z_rd μ a 6 (Int32.ofNat (E - 1)) = some (μ a (E - 1)) := fun μ a => w_rdn (by omega) (by omega)
  unfold pE_removeAt
  simp (disch := omega) only [h0, hs, w_u_eq, hr6, Option.bind_some, if_pos inb, tp, w_u_ne, w_cp_ne, t1, t2, c10]
  rw [if_pos ⟨n2, n1, by decide, by omega, by omega⟩]
  have up : ∀ (f : Nat → Int32) (r : Nat), upd f p (f (E - 1)) r = f (if r = p then E - 1 else r) := by
    intro f r
    unfold upd
    split <;> rfl
  refine ⟨_, rfl, fun k hk => ?_, ?_, fun k k1 k2 r => ?_, fun r i hi => ?_⟩
  · simp (disch := omega) only [w_u_ne, w_cp_ne]
  · simp (disch := omega) only [w_u_ne, w_cp_ne, w_u_eq]
  · rcases (show k = 17 ∨ k = 18 ∨ k = 19 by omega) with rfl | rfl | rfl
    · simp (disch := omega) only [w_u_ne, w_cp_ne, w_u_row, up]
    · simp (disch := omega) only [w_u_ne, w_cp_ne, w_u_row, up]
    · simp (disch := omega) only [w_u_ne, w_cp_ne, w_u_row, up]
  · by_cases h : r = p
    · subst h
      rw [w_cp_in (by omega), if_pos rfl]
      simp (disch := omega) only [w_u_ne]
      exact congrArg (μ 20) (by omega)
    · rw [w_cp_out (by omega), if_neg h]
      simp (disch := omega) only [w_u_ne]
theorem w_fgA {q : Nat} {f1 f2 f3 : Int32} {ν0 : z_Mem} {K : z_Mem → Int32 → Option (Int32 × z_Mem)} : ∀ (f i : Nat) (ν : z_Mem), q ≤ i → i ≤ 5 → 5 - i < f → (∀ k, k ≠ 242 → ν k = ν0 k) → (∀ j, ν 242 j = if (259 + q ≤ j ∧ j < 259 + i) ∨ (265 + q ≤ j ∧ j < 265 + i) then ν0 242 (j + 1) else ν0 242 j) →
    ∃ ν', pm_forgets_L35 f f1 f2 f3 K ν (Int32.ofNat i) = K ν' (Int32.ofNat 5) ∧ (∀ k, k ≠ 242 → ν' k = ν0 k) ∧ ∀ j, ν' 242 j = if (259 + q ≤ j ∧ j < 259 + 5) ∨ (265 + q ≤ j ∧ j < 265 + 5) then ν0 242 (j + 1) else ν0 242 j := by
  intro f
  induction f with
  | zero => intro i ν _ _ h; omega
  | succ f ih =>
    intro i ν hqi hi hf h2 h3
    show ∃ ν', pm_forgets_L35_B (pm_forgets_L35 f f1 f2 f3 K) f1 f2 f3 K ν (Int32.ofNat i) = _ ∧ _
    unfold pm_forgets_L35_B
    by_cases h : i = 5
    · subst h
      rw [if_pos (show (5 : Int32) ≤ Int32.ofNat 5 by decide)]
      exact ⟨ν, rfl, h2, h3⟩
    · have ea : (259 : Int32) + Int32.ofNat i = Int32.ofNat (259 + i) := w_al
      have eb : (265 : Int32) + Int32.ofNat i = Int32.ofNat (265 + i) := w_al
      rw [if_neg (fun hc => h (by have : 5 ≤ i := (w_lel (k := 5) (by decide) (by omega)).mp hc; omega)), ea, eb, show Int32.ofNat (259 + i) + 1 = Int32.ofNat (259 + i + 1) from w_ar2, show Int32.ofNat (265 + i) + 1 = Int32.ofNat (265 + i + 1) from w_ar2, w_rdn (by omega) (by omega)]
      dsimp only [Option.bind_some]
      rw [if_pos ((w_inn (by omega)).mpr (by omega)), w_tn (by omega), w_rdn (by omega) (by omega)]
      dsimp only [Option.bind_some]
      rw [if_pos ((w_inn (by omega)).mpr (by omega)), w_tn (by omega), w_ar2, w_u_at (by omega)]
      refine ih (i + 1) _ (by omega) (by omega) (by omega) (fun k hk => by rw [w_u_ne hk, w_u_ne hk]; exact h2 k hk) (fun j => ?_)
      by_cases hj : j = 265 + i
      · subst hj
        rw [w_u_eq, h3, if_neg (by omega), if_pos (by omega)]
      · rw [w_u_at hj]
        by_cases hj2 : j = 259 + i
        · subst hj2
          rw [w_u_eq, h3, if_neg (by omega), if_pos (by omega)]
        · rw [w_u_at hj2, h3]
          by_cases hc : (259 + q ≤ j ∧ j < 259 + i) ∨ (265 + q ≤ j ∧ j < 265 + i)
          · rw [if_pos hc, if_pos (by omega)]
          · rw [if_neg hc, if_neg (by omega)]
theorem w_fgB {q : Nat} {f1 f2 f3 : Int32} {ν0 : z_Mem} {K : z_Mem → Int32 → Option (Int32 × z_Mem)} : ∀ (f i : Nat) (ν : z_Mem), 10 * q ≤ i → i ≤ 50 → 50 - i < f → (∀ k, k ≠ 242 → ν k = ν0 k) → (∀ j, ν 242 j = if 271 + 10 * q ≤ j ∧ j < 271 + i then ν0 242 (j + 10) else ν0 242 j) →
    ∃ ν', pm_forgets_L101 f f1 f2 f3 K ν (Int32.ofNat i) = K ν' (Int32.ofNat 50) ∧ (∀ k, k ≠ 242 → ν' k = ν0 k) ∧ ∀ j, ν' 242 j = if 271 + 10 * q ≤ j ∧ j < 271 + 50 then ν0 242 (j + 10) else ν0 242 j := by
  intro f
  induction f with
  | zero => intro i ν _ _ h; omega
  | succ f ih =>
    intro i ν hqi hi hf h2 h3
    show ∃ ν', pm_forgets_L101_B (pm_forgets_L101 f f1 f2 f3 K) f1 f2 f3 K ν (Int32.ofNat i) = _ ∧ _
    unfold pm_forgets_L101_B
    by_cases h : i = 50
    · subst h
      rw [if_pos (show (50 : Int32) ≤ Int32.ofNat 50 by decide)]
      exact ⟨ν, rfl, h2, h3⟩
    · have ea : (271 : Int32) + Int32.ofNat i = Int32.ofNat (271 + i) := w_al
      rw [if_neg (fun hc => h (by have : 50 ≤ i := (w_lel (k := 50) (by decide) (by omega)).mp hc; omega)), ea, show Int32.ofNat (271 + i) + 10 = Int32.ofNat (271 + i + 10) from w_ar2, w_rdn (by omega) (by omega)]
      dsimp only [Option.bind_some]
      rw [if_pos ((w_inn (by omega)).mpr (by omega)), w_tn (by omega), w_ar2]
      refine ih (i + 1) _ (by omega) (by omega) (by omega) (fun k hk => by rw [w_u_ne hk]; exact h2 k hk) (fun j => ?_)
      by_cases hj : j = 271 + i
      · subst hj
        rw [w_u_eq, h3, if_neg (by omega), if_pos (by omega)]
      · rw [w_u_at hj, h3]
        by_cases hc : 271 + 10 * q ≤ j ∧ j < 271 + i
        · rw [if_pos hc, if_pos (by omega)]
        · rw [if_neg hc, if_neg (by omega)]
theorem w_cForget {n m : Nat} (hnm : n ≤ m) (i1 i2 : Int32) (μ ν : z_Mem) (HH : w_Rel n (w_st μ 1) (ν 242)) : ∃ a μ' b ν', pG_tryForgetting μ i1 i2 = some (a, μ') ∧ pm_forgets ν i1 i2 = some (b, ν') ∧ w_Core m [1, 3] a μ μ' b ν ν' := by
  obtain ⟨G, M, W, S, E, HN⟩ := HH
  have hR := HN.2.2.2.2.2.1
  obtain ⟨r1, r2, r3, -⟩ := id hR
  have e16 : μ 16 0 = Int32.ofNat E := r1
  unfold pG_tryForgetting pm_forgets
  rcases w_isKey (μ := μ) (ν := ν) i1 i2 with ⟨e1, e2, l, d, l1, l2, d2, rfl, rfl⟩ | ⟨e1, e2⟩
  · rw [e1, e2]
    dsimp only [Option.bind_some]
    rw [if_neg w_10, if_neg w_10]
    rcases w_entry hR l2 d2 with ⟨a1, a2, a3, a4⟩ | ⟨p, q, hp, hq, a1, a2, a3, a4, a5, a6⟩
    · rw [a1, a2]
      exact ⟨_, _, _, _, rfl, rfl, w_Core_no (j := 1) (E := 3) rfl (by decide) (by decide) w_frC_rfl w_same_rfl⟩
    · rw [a1, a2]
      dsimp only [Option.bind_some]
      rw [if_neg (w_nneg (k := 1) (by omega) (by decide) (by decide)), if_neg (w_nneg (k := 1) (by omega) (by decide) (by decide))]
      obtain ⟨μ', x1, x2, x3, x4, x5⟩ := w_rmE r3 e16 hp
      rw [x1]
      dsimp only [Option.bind_some]
      obtain ⟨ν1, y1, y2, y3⟩ := w_fgA (q := q) (f1 := Int32.ofNat l) (f2 := Int32.ofNat d) (f3 := Int32.ofNat q) (ν0 := ν) (K := fun M15 k14 => pm_forgets_L101 z_fu (Int32.ofNat l) (Int32.ofNat d) (Int32.ofNat q) (fun M21 k20 => (pm_done (z_u M21 242 4 ((M21 242 4) - 1)) ((z_u M21 242 4 ((M21 242 4) - 1)) 242 4)).bind fun q22 => some (q22.1, q22.2)) M15 (10 * Int32.ofNat q)) z_fu q ν (Nat.le_refl _) (by omega) (by show 5 - q < 3000; omega) (fun _ _ => rfl) (fun j => by rw [if_neg (by omega)])
      obtain ⟨ν2, z1, z2, z3⟩ := w_fgB (q := q) (f1 := Int32.ofNat l) (f2 := Int32.ofNat d) (f3 := Int32.ofNat q) (ν0 := ν1) (K := fun M21 k20 => (pm_done (z_u M21 242 4 ((M21 242 4) - 1)) ((z_u M21 242 4 ((M21 242 4) - 1)) 242 4)).bind fun q22 => some (q22.1, q22.2)) z_fu (10 * q) ν1 (Nat.le_refl _) (by omega) (by show 50 - 10 * q < 3000; omega) (fun _ _ => rfl) (fun j => by rw [if_neg (by omega)])
      have z1' := z1
      rw [show Int32.ofNat (10 * q) = 10 * Int32.ofNat q from w_ml.symm] at z1'
      rw [y1, z1']
      have n4 : ν2 242 4 = Int32.ofNat E := by rw [z3, if_neg (by omega), y3, if_neg (by omega)]; exact r2
      rw [n4, w_sr (k := 1) (show 1 ≤ E by omega), w_u_eq]
      unfold pm_done
      dsimp only [Option.bind_some]
      have hi : ∀ j, j ≠ 4 → z_u (z_u ν2 242 4 (Int32.ofNat (E - 1))) 241 12 0 242 j = ν2 242 j := fun j hj => by rw [w_u_ne (by decide), w_u_at hj]
      refine ⟨_, _, _, _, rfl, rfl, fun k hk => x2 k (by omega), w_frM_trans (w_frM_trans ⟨fun k k1 k2 k3 k4 => by rw [z2 k k1, y2 k k1], fun j _ => by rw [z2 241 (by decide), y2 241 (by decide)]⟩ w_frM_242) w_frM_12, Or.inl ⟨(w_le (a := 0) (by omega) (by omega)).mpr (Nat.zero_le _), rfl, w_u_eq, G, M, W, S, E - 1, ?_, w_gl HN.1 (by omega) (by omega)⟩⟩
      refine w_Rel_ent hnm HN (fun k hk => x2 _ (by omega)) (fun j j1 j2 => by rw [hi j j1, z3, if_neg (by omega), y3, if_neg (by omega)]) ?_
      refine w_RE_drop (c := w_st μ 1) (g := ν 242) (p := p) (q := q) hR hp hq a3 x3 (by rw [w_u_ne (by decide), w_u_eq]) (fun r _ => x4 17 (by decide) (by decide) r) (fun r _ => x4 18 (by decide) (by decide) r) (fun r _ => x4 19 (by decide) (by decide) r) (fun r i _ hi2 => x5 r i hi2) (fun r hr => ?_) (fun r hr => ?_) (fun r i hr hi2 => ?_)
      · rw [hi _ (by omega), z3, if_neg (by omega), y3]
        by_cases hrq : r < q
        · rw [if_neg (by omega), if_pos hrq]
        · rw [if_pos (by omega), if_neg hrq, Nat.add_assoc]
      · rw [hi _ (by omega), z3, if_neg (by omega), y3]
        by_cases hrq : r < q
        · rw [if_neg (by omega), if_pos hrq]
        · rw [if_pos (by omega), if_neg hrq, Nat.add_assoc]
      · rw [hi _ (by omega), z3]
        by_cases hrq : r < q
        · rw [if_neg (by omega), y3, if_neg (by omega), if_pos hrq]
        · rw [if_pos (by omega), y3, if_neg (by omega), if_neg hrq]
          exact congrArg (ν 242) (by omega)
  · rw [e1, e2]
    exact ⟨_, _, _, _, rfl, rfl, w_Core_no (j := 0) (E := 1) rfl (by decide) (by decide) w_frC_rfl w_same_rfl⟩
end ZFGT
