/-! Wheels, stars and hours, in both. -/
section ZSTA
def w_emod (x : Int32) (m : Nat) : Nat := (x.toInt % (m : Int)).toNat
theorem w_tm {x : Int} {m : Nat} (hm : 0 < m) : (x.tmod m = x % m ∨ (x < 0 ∧ x % m ≠ 0 ∧ x.tmod m = x % m - m)) ∧ 0 ≤ x % (m : Int) ∧ x % (m : Int) < m ∧ (0 ≤ x → x.tmod m = x % m) ∧ (x < 0 → x % m ≠ 0 → x.tmod m = x % m - m) := by
  have h1 : 0 ≤ x % (m : Int) := Int.emod_nonneg _ (by omega)
  have h2 : x % (m : Int) < m := Int.emod_lt_of_pos _ (by omega)
  have h3 := Int.tmod_eq_emod (a := x) (b := (m : Int))
  have h4 : ((m : Int) ∣ x) ↔ x % m = 0 := Int.dvd_iff_emod_eq_zero
  by_cases hc : 0 ≤ x ∨ (m : Int) ∣ x
  · rw [if_pos hc] at h3
    refine ⟨Or.inl (by omega), h1, h2, fun _ => by omega, fun h5 h6 => ?_⟩
    rcases hc with hc | hc
    · omega
    · exact absurd (h4.mp hc) h6
  · rw [if_neg hc, Int.natAbs_natCast] at h3
    have h5 : x % (m : Int) ≠ 0 := fun q => hc (Or.inr (h4.mpr q))
    have h6 : ¬ 0 ≤ x := fun q => hc (Or.inl q)
    exact ⟨Or.inr ⟨by omega, h5, h3⟩, h1, h2, fun q => absurd q h6, fun _ _ => h3⟩
theorem w_trem {x : Int32} {m : Nat} (hm : 0 < m) (hm2 : m ≤ 100000) : (x - x / Int32.ofNat m * Int32.ofNat m).toInt = x.toInt.tmod m := by
  have em := w_ti (a := m) (by omega)
  have hne : Int32.ofNat m ≠ -1 := w_nneg (k := 1) (by omega) (by decide) (by decide)
  rw [Int32.toInt_sub, Int32.toInt_mul, Int32.toInt_div_of_ne_right _ _ hne, em, Int.sub_bmod_bmod, show x.toInt - x.toInt.tdiv m * m = x.toInt.tmod m by rw [Int.tmod_def, Int.mul_comm]]
  have := w_tm (x := x.toInt) hm
  exact Int.bmod_eq_of_le (by omega) (by omega)
theorem w_xor0 {x y : Int32} (hy : 0 ≤ y.toInt) : 0 ≤ x ^^^ y ↔ 0 ≤ x.toInt := by
  rw [Int32.le_iff_toInt_le, w_i0]
  have h1 : (x ^^^ y).toBitVec.msb = x.toBitVec.msb := by
    rw [Int32.toBitVec_xor, BitVec.msb_xor]
    have : y.toBitVec.msb = false := by
      rw [BitVec.msb_eq_toInt, decide_eq_false_iff_not]
      show ¬ y.toInt < 0
      omega
    rw [this, Bool.xor_false]
  rw [BitVec.msb_eq_toInt, BitVec.msb_eq_toInt] at h1
  have h2 : (x ^^^ y).toInt < 0 ↔ x.toInt < 0 := by
    have := decide_eq_decide.mp h1
    exact this
  omega
theorem w_fm {μ : z_Mem} {x : Int32} {m : Nat} (hm : 0 < m) (hm2 : m ≤ 100000) : pJ_floorMod μ x (Int32.ofNat m) = some (Int32.ofNat (w_emod x m)) := by
  have h0 : ¬ Int32.ofNat m = 0 := fun q => by have : m = 0 := (w_eq (b := 0) (by omega) (by omega)).mp q; omega
  have ht := w_tm (x := x.toInt) hm
  have hr := w_trem (x := x) hm hm2
  have he : ((w_emod x m : Nat) : Int) = x.toInt % m := by unfold w_emod; omega
  have hv := w_ti (a := w_emod x m) (by omega)
  unfold pJ_floorMod
  rw [if_neg h0]
  by_cases hx : 0 ≤ x.toInt
  · rw [if_pos ((w_xor0 (by rw [w_ti (by omega)]; omega)).mpr hx)]
    congr 1
    rw [← Int32.toInt_inj, hr, hv, he]
    exact ht.2.2.2.1 hx
  · rw [if_neg (fun q => hx ((w_xor0 (by rw [w_ti (by omega)]; omega)).mp q))]
    by_cases hz : x - x / Int32.ofNat m * Int32.ofNat m = 0
    · rw [if_pos hz]
      congr 1
      have := congrArg Int32.toInt hz
      rw [hr, w_i0] at this
      rw [← Int32.toInt_inj, hr, hv, he]
      omega
    · rw [if_neg hz]
      congr 1
      have hne : x.toInt.tmod m ≠ 0 := fun q => hz (by rw [← Int32.toInt_inj, hr, q]; rfl)
      rw [← Int32.toInt_inj, w_iadd (by rw [hr, w_ti (by omega)]; omega) (by rw [hr, w_ti (by omega)]; omega), hr, hv, he, w_ti (by omega)]
      omega
theorem w_rs {μ : z_Mem} {x : Int32} {m : Nat} (hm : 0 < m) (hm2 : m ≤ 100000) : pm_rest μ x (Int32.ofNat m) = some (Int32.ofNat (w_emod x m)) := by
  have h0 : ¬ Int32.ofNat m = 0 := fun q => by have : m = 0 := (w_eq (b := 0) (by omega) (by omega)).mp q; omega
  have ht := w_tm (x := x.toInt) hm
  have hr := w_trem (x := x) hm hm2
  have he : ((w_emod x m : Nat) : Int) = x.toInt % m := by unfold w_emod; omega
  have hv := w_ti (a := w_emod x m) (by omega)
  unfold pm_rest
  rw [if_neg h0, if_neg h0]
  congr 1
  have hs : (x - x / Int32.ofNat m * Int32.ofNat m + Int32.ofNat m).toInt = x.toInt.tmod m + m := by
    rw [w_iadd (by rw [hr, w_ti (by omega)]; omega) (by rw [hr, w_ti (by omega)]; omega), hr, w_ti (by omega)]
  rw [← Int32.toInt_inj, w_trem hm hm2, hs, hv, he, Int.tmod_eq_emod_of_nonneg (by omega)]
  rcases ht.1 with h1 | ⟨-, -, h1⟩
  · rw [h1, Int.add_emod_right]
    exact Int.emod_eq_of_lt ht.2.1 ht.2.2.1
  · rw [h1, show x.toInt % (m : Int) - m + m = x.toInt % m by omega]
    exact Int.emod_eq_of_lt ht.2.1 ht.2.2.1
theorem w_emod_lt {x : Int32} {m : Nat} (hm : 0 < m) : w_emod x m < m := by
  have := w_tm (x := x.toInt) hm
  unfold w_emod
  omega
theorem w_fm3600 {μ : z_Mem} {x : Int32} : pJ_floorMod μ x 3600 = some (Int32.ofNat (w_emod x 3600)) := w_fm (m := 3600) (by omega) (by omega)
theorem w_rs3600 {μ : z_Mem} {x : Int32} : pm_rest μ x 3600 = some (Int32.ofNat (w_emod x 3600)) := w_rs (m := 3600) (by omega) (by omega)
/-- a wheel more -/
theorem w_cWheel {n m : Nat} (hnm : n ≤ m) (i1 i2 : Int32) (μ ν : z_Mem) (HH : w_Rel n (w_st μ 1) (ν 242)) : ∃ a μ' b ν', pG_tryWheel μ i1 i2 = some (a, μ') ∧ pm_addsWheel ν i1 i2 = some (b, ν') ∧ w_Core m [0, 1, 2] a μ μ' b ν ν' := by
  obtain ⟨G, M, W, S, E, h1, h2, h3, h4, h5, h6, h7⟩ := HH
  obtain ⟨w1, w2, w3, w4⟩ := id h4
  have e9 : μ 9 0 = Int32.ofNat W := w1
  unfold pG_tryWheel pm_addsWheel
  rcases w_gear (μ := μ) (ν := ν) h1.1 h1.2.1 h1.2.2.1 i1 with ⟨e1, e2, u, hu, rfl⟩ | ⟨e1, e2⟩
  · rw [e1, e2]
    dsimp only [Option.bind_some]
    rw [if_neg w_10, if_neg w_10]
    rcases w_within (μ := μ) (ν := ν) i2 3 12 with ⟨e3, e4, b1, b2⟩ | ⟨e3, e4, -⟩
    · rw [e3, e4]
      dsimp only [Option.bind_some]
      rw [if_neg w_10, if_neg w_10, e9, w2]
      obtain ⟨k, k1, k2, rfl⟩ := w_nat_in (lo := 3) (hi := 12) (by omega) (by omega) b1 b2
      by_cases hW : W = 4
      · subst hW
        rw [if_neg (show ¬ Int32.ofNat 4 < 4 by decide), if_pos (show Int32.ofNat 4 = 4 from rfl)]
        exact ⟨_, _, _, _, rfl, rfl, w_Core_no (j := 2) (E := 2) rfl (by decide) (by decide) w_frC_rfl w_same_rfl⟩
      · rw [if_pos ((w_ltr (k := 4) (by decide) (by omega)).mpr (show W < 4 by omega)), if_neg (fun q => hW ((w_eqr (k := 4) (by decide) (by omega)).mp q)), w_al, w_al, if_pos ((w_inn (by omega)).mpr (by omega)), if_pos ((w_inn (by omega)).mpr (by omega)), w_tn (by omega), w_tn (by omega)]
        unfold pQ_add pm_done
        have inb : z_inb (Int32.ofNat W) 4 = true := (w_inn (by omega)).mpr (by omega)
        have tW : (Int32.ofNat W).toNatClampNeg = W := w_tn (by omega)
        simp (disch := omega) only [e9, w2, tW, w_u_ne, w_u_eq, w_u_at, if_pos inb, Option.bind_some]
        rw [if_neg (fun q => by have : 4 ≤ W := (w_lel (k := 4) (by decide) (by omega)).mp q; omega), show Int32.ofNat W + 1 = Int32.ofNat (W + 1) from w_ar2]
        dsimp only [Option.bind_some]
        have lo : ∀ q, q ≠ 8 → q ≠ 9 → q ≠ 10 → w_st (z_u (z_u (z_u μ 10 W (Int32.ofNat u)) 11 W (Int32.ofNat k)) 9 0 (Int32.ofNat (W + 1))) 1 q = w_st μ 1 q := fun q a1 a2 a3 => by
          unfold w_st
          rw [w_u_ne (by omega), w_u_ne (by omega), w_u_ne (by omega)]
        have hi : ∀ j, j ≠ 1 → j ≠ 227 + W → j ≠ 231 + W → z_u (z_u (z_u (z_u ν 242 (227 + W) (Int32.ofNat u)) 242 (231 + W) (Int32.ofNat k)) 242 1 (Int32.ofNat (W + 1))) 241 12 0 242 j = ν 242 j := fun j j1 j2 j3 => by
          rw [w_u_ne (by decide), w_u_at j1, w_u_at j3, w_u_at j2]
        have hG := h1.2.2.1
        refine ⟨_, _, _, _, rfl, rfl, fun q hq => ?_, w_frM_trans (w_frM_trans (w_frM_trans w_frM_242 w_frM_242) w_frM_242) w_frM_12, Or.inl ⟨(w_le (a := 0) (by omega) (by omega)).mpr (Nat.zero_le _), rfl, w_u_eq, G, M, W + 1, S, E, ⟨?_, ?_, ?_, ?_, ?_, ?_, ?_⟩, w_gl h1 (by omega) (by omega)⟩⟩
        · rw [w_u_ne (by omega), w_u_ne (by omega), w_u_ne (by omega)]
        · obtain ⟨g1, g2, g3, g4, g5, g6, g7, g8⟩ := h1
          refine ⟨by rw [lo 1 (by decide) (by decide) (by decide)]; exact g1, by rw [hi 0 (by omega) (by omega) (by omega)]; exact g2, g3, fun i hi2 => ?_, fun i hi2 => ?_, fun i hi2 => ?_, fun i hi1 hi2 => ?_, ?_⟩
          · rw [lo 2 (by decide) (by decide) (by decide), hi _ (by omega) (by omega) (by omega)]; exact g4 i hi2
          · rw [lo 3 (by decide) (by decide) (by decide), hi _ (by omega) (by omega) (by omega)]; exact g5 i hi2
          · rw [hi _ (by omega) (by omega) (by omega)]; exact g6 i hi2
          · rw [hi _ (by omega) (by omega) (by omega)]; exact g7 i hi1 hi2
          · rw [lo 1 (by decide) (by decide) (by decide), hi 6 (by omega) (by omega) (by omega)]; exact g8
        · exact w_RM_tr (by rw [lo 1 (by decide) (by decide) (by decide)]) (lo 4 (by decide) (by decide) (by decide)) (lo 5 (by decide) (by decide) (by decide)) (lo 6 (by decide) (by decide) (by decide)) (lo 7 (by decide) (by decide) (by decide)) (fun j j1 j2 => hi j (by omega) (by omega) (by omega)) (Nat.le_refl _) hG h2
        · exact w_RF_tr (lo 4 (by decide) (by decide) (by decide)) (lo 5 (by decide) (by decide) (by decide)) h3
        · refine ⟨?_, ?_, by omega, fun w hw => ?_⟩
          · simp (disch := omega) only [w_st, Nat.reduceAdd, w_u_ne, w_u_at, w_u_eq]
          · simp (disch := omega) only [w_u_ne, w_u_at, w_u_eq]
          · by_cases hwW : w = W
            · subst hwW
              simp (disch := omega) only [w_st, Nat.reduceAdd, w_u_ne, w_u_at, w_u_eq]
              exact ⟨trivial, trivial, ⟨u, hu, rfl⟩, k, k1, k2, rfl⟩
            · simp (disch := omega) only [w_st, Nat.reduceAdd, w_u_ne, w_u_at, w_u_eq]
              exact w4 w (by omega)
        · exact w_RY_tr (lo 11 (by decide) (by decide) (by decide)) (lo 12 (by decide) (by decide) (by decide)) (lo 13 (by decide) (by decide) (by decide)) (lo 14 (by decide) (by decide) (by decide)) (hi 2 (by omega) (by omega) (by omega)) (hi 3 (by omega) (by omega) (by omega)) (hi 5 (by omega) (by omega) (by omega)) (fun j j1 j2 => hi j (by omega) (by omega) (by omega)) h5
        · exact w_RE_tr (lo 15 (by decide) (by decide) (by decide)) (lo 16 (by decide) (by decide) (by decide)) (lo 17 (by decide) (by decide) (by decide)) (lo 18 (by decide) (by decide) (by decide)) (lo 19 (by decide) (by decide) (by decide)) (hi 4 (by omega) (by omega) (by omega)) (fun j j1 j2 => hi j (by omega) (by omega) (by omega)) h6
        · exact w_PB_tr hnm (hi 3 (by omega) (by omega) (by omega)) (hi 5 (by omega) (by omega) (by omega)) (fun j j1 j2 => hi j (by omega) (by omega) (by omega)) h7
    · rw [e3, e4]
      exact ⟨_, _, _, _, rfl, rfl, w_Core_no (j := 1) (E := 1) rfl (by decide) (by decide) w_frC_rfl w_same_rfl⟩
  · rw [e1, e2]
    exact ⟨_, _, _, _, rfl, rfl, w_Core_no (j := 0) (E := 0) rfl (by decide) (by decide) w_frC_rfl w_same_rfl⟩
/-- the place of a star -/
theorem w_plC {μ : z_Mem} {S : Nat} (hS : S ≤ 8) (h0 : μ 12 0 = Int32.ofNat S) {i : Int32} {K : Int32 → Option Int32} : ∀ (f q : Nat), q ≤ S → S - q < f → (∀ p, p < q → μ 13 p ≠ i) → (pY_placeOf_L2 f μ i K (Int32.ofNat q) = K (Int32.ofNat S) ∧ ∀ p, p < S → μ 13 p ≠ i) ∨ ∃ p, p < S ∧ pY_placeOf_L2 f μ i K (Int32.ofNat q) = some (Int32.ofNat p) ∧ μ 13 p = i ∧ ∀ p', p' < p → μ 13 p' ≠ i := by
  intro f
  induction f with
  | zero => intro q _ h; omega
  | succ f ih =>
    intro q hq hf hno
    show (pY_placeOf_L2_B (pY_placeOf_L2 f μ i K) μ i K (Int32.ofNat q) = _ ∧ _) ∨ ∃ p, p < S ∧ pY_placeOf_L2_B (pY_placeOf_L2 f μ i K) μ i K (Int32.ofNat q) = _ ∧ _
    unfold pY_placeOf_L2_B
    rw [h0]
    by_cases h : S ≤ q
    · rw [if_pos ((w_le (by omega) (by omega)).mpr h)]
      have : q = S := by omega
      subst this
      exact Or.inl ⟨rfl, hno⟩
    · rw [if_neg (fun hc => h ((w_le (by omega) (by omega)).mp hc)), w_rdn (by omega) (by omega)]
      dsimp only [Option.bind_some]
      by_cases hi : μ 13 q = i
      · rw [if_pos hi]
        exact Or.inr ⟨q, by omega, rfl, hi, hno⟩
      · rw [if_neg hi, w_ar2]
        exact ih (q + 1) (by omega) (by omega) (fun p hp => by
          by_cases hpq : p = q
          · subst hpq; exact hi
          · exact hno p (by omega))
theorem w_plM {ν : z_Mem} {S : Nat} (hS : S ≤ 8) (h0 : ν 242 2 = Int32.ofNat S) {i : Int32} {K : Int32 → Option Int32} : ∀ (f q : Nat), q ≤ S → S - q < f → (∀ p, p < q → ν 242 (235 + p) ≠ i) → (pm_placeOf_L2 f ν i K (Int32.ofNat q) = K (Int32.ofNat S) ∧ ∀ p, p < S → ν 242 (235 + p) ≠ i) ∨ ∃ p, p < S ∧ pm_placeOf_L2 f ν i K (Int32.ofNat q) = some (Int32.ofNat p) ∧ ν 242 (235 + p) = i ∧ ∀ p', p' < p → ν 242 (235 + p') ≠ i := by
  intro f
  induction f with
  | zero => intro q _ h; omega
  | succ f ih =>
    intro q hq hf hno
    show (pm_placeOf_L2_B (pm_placeOf_L2 f ν i K) ν i K (Int32.ofNat q) = _ ∧ _) ∨ ∃ p, p < S ∧ pm_placeOf_L2_B (pm_placeOf_L2 f ν i K) ν i K (Int32.ofNat q) = _ ∧ _
    unfold pm_placeOf_L2_B
    rw [h0]
    by_cases h : S ≤ q
    · rw [if_pos ((w_le (by omega) (by omega)).mpr h)]
      have : q = S := by omega
      subst this
      exact Or.inl ⟨rfl, hno⟩
    · rw [if_neg (fun hc => h ((w_le (by omega) (by omega)).mp hc)), w_al, w_rdn (by omega) (by omega)]
      dsimp only [Option.bind_some]
      by_cases hi : ν 242 (235 + q) = i
      · rw [show ν 242 ((OfNat.ofNat 235 : Nat) + q) = ν 242 (235 + q) from rfl, if_pos hi]
        exact Or.inr ⟨q, by omega, rfl, hi, hno⟩
      · rw [show ν 242 ((OfNat.ofNat 235 : Nat) + q) = ν 242 (235 + q) from rfl, if_neg hi, w_ar2]
        exact ih (q + 1) (by omega) (by omega) (fun p hp => by
          by_cases hpq : p = q
          · subst hpq; exact hi
          · exact hno p (by omega))
theorem w_place {μ ν : z_Mem} {S : Nat} (hY : w_RY (w_st μ 1) (ν 242) S) (i : Int32) : (pY_placeOf μ i = some (-1) ∧ pm_placeOf ν i = some (-1)) ∨ ∃ p, p < S ∧ pY_placeOf μ i = some (Int32.ofNat p) ∧ pm_placeOf ν i = some (Int32.ofNat p) := by
  obtain ⟨y1, y2, y3, y4, y5, y6⟩ := hY
  have e : ∀ p, p < S → μ 13 p = ν 242 (235 + p) := fun p hp => (y6 p hp).1
  unfold pY_placeOf pm_placeOf
  have hC := w_plC (μ := μ) y3 y1 (i := i) (K := fun k5 => some (-1)) z_fu 0 (Nat.zero_le _) (by show S - 0 < 3000; omega) (fun p hp => absurd hp (Nat.not_lt_zero _))
  have hM := w_plM (ν := ν) y3 y2 (i := i) (K := fun k5 => some (-1)) z_fu 0 (Nat.zero_le _) (by show S - 0 < 3000; omega) (fun p hp => absurd hp (Nat.not_lt_zero _))
  rcases hC with ⟨c1, c2⟩ | ⟨p, c1, c2, c3, c4⟩
  · rcases hM with ⟨m1, -⟩ | ⟨p, m1, m2, m3, m4⟩
    · exact Or.inl ⟨c1, m1⟩
    · exact absurd ((e p m1).trans m3) (c2 p m1)
  · rcases hM with ⟨-, m2⟩ | ⟨p', m1, m2, m3, m4⟩
    · exact absurd ((e p c1).symm.trans c3) (m2 p c1)
    · refine Or.inr ⟨p, c1, c2, ?_⟩
      have h1 : ¬ p < p' := fun h => m4 p h ((e p c1).symm.trans c3)
      have h2 : ¬ p' < p := fun h => c4 p' h ((e p' m1).trans m3)
      have : p = p' := by omega
      subst this
      exact m2
end ZSTA
