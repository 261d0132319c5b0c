/-! Questions: stars, entries, numbers. -/
section ZAS2
/-- a direction after some hours -/
def w_da (d : Nat) (s : Int32) (k : Nat) : Nat := w_emod (Int32.ofNat d + Int32.ofNat k * s) 3600
theorem w_ks {s : Int32} (h1 : -50 ≤ s.toInt) (h2 : s.toInt ≤ 50) : ∀ k : Nat, k ≤ 99 → (Int32.ofNat k * s).toInt = k * s.toInt ∧ -(50 * k : Int) ≤ k * s.toInt ∧ k * s.toInt ≤ (50 * k : Int) := by
  intro k
  induction k with
  | zero => intro _; exact ⟨by rw [show (Int32.ofNat 0) = 0 from rfl, Int32.mul_comm, Int32.mul_zero]; simp, by simp, by simp⟩
  | succ k ih =>
    intro hk
    obtain ⟨i1, i2, i3⟩ := ih (by omega)
    have e : ((k + 1 : Nat) : Int) * s.toInt = k * s.toInt + s.toInt := by rw [Int.natCast_add, Int.add_mul]; simp
    have e2 : Int32.ofNat (k + 1) * s = Int32.ofNat k * s + s := by rw [Int32.ofNat_add, Int32.add_mul, show Int32.ofNat 1 = 1 from rfl, Int32.mul_comm 1, Int32.mul_one]
    rw [e, e2, w_iadd (by omega) (by omega), i1]
    exact ⟨rfl, by omega, by omega⟩
theorem w_da_step {d k : Nat} {s : Int32} (hd : d < 3600) (h1 : -50 ≤ s.toInt) (h2 : s.toInt ≤ 50) (hk : k < 99) : w_emod (Int32.ofNat (w_da d s k) + s) 3600 = w_da d s (k + 1) := by
  obtain ⟨i1, i2, i3⟩ := w_ks h1 h2 k (by omega)
  obtain ⟨j1, j2, j3⟩ := w_ks h1 h2 (k + 1) (by omega)
  have e : ((k + 1 : Nat) : Int) * s.toInt = k * s.toInt + s.toInt := by rw [Int.natCast_add, Int.add_mul]; simp
  have hlt := w_emod_lt (x := Int32.ofNat d + Int32.ofNat k * s) (m := 3600) (by omega)
  have td := w_ti (a := d) (by omega)
  have hx : (Int32.ofNat d + Int32.ofNat k * s).toInt = d + k * s.toInt := by rw [w_iadd (by omega) (by omega), i1, td]
  have hy : (Int32.ofNat d + Int32.ofNat (k + 1) * s).toInt = d + k * s.toInt + s.toInt := by rw [w_iadd (by omega) (by omega), j1, td, e]; omega
  have hz : ((w_da d s k : Nat) : Int) = (d + k * s.toInt) % 3600 := by
    unfold w_da w_emod
    rw [hx]
    omega
  have hw : (w_da d s k) < 3600 := hlt
  unfold w_emod
  rw [w_iadd (by rw [w_ti (by omega)]; omega) (by rw [w_ti (by omega)]; omega), w_ti (by omega), hz, show w_da d s (k + 1) = ((Int32.ofNat d + Int32.ofNat (k + 1) * s).toInt % ((3600 : Nat) : Int)).toNat from rfl, hy]
  congr 1
  exact Int.emod_add_emod _ _ _
theorem w_da_0 {d : Nat} {s : Int32} (hd : d < 3600) : w_da d s 0 = d := by
  unfold w_da w_emod
  rw [show (Int32.ofNat 0) = 0 from rfl, Int32.mul_comm, Int32.mul_zero, Int32.add_zero, w_ti (by omega)]
  omega
theorem w_daL {μ : z_Mem} {d p h : Nat} {s f1 : Int32} (hd : d < 3600) (h1 : -50 ≤ s.toInt) (h2 : s.toInt ≤ 50) (hp : p < 8) (hs : μ 15 p = s) (hh : h ≤ 99) {K : Int32 → Int32 → Option (Int32 ⊕ Nat)} : ∀ (f k : Nat), k ≤ h → h - k < f → pG_directionAfter_L27 f μ f1 (Int32.ofNat h) (Int32.ofNat p) K (Int32.ofNat (w_da d s k)) (Int32.ofNat k) = K (Int32.ofNat (w_da d s h)) (Int32.ofNat h) := by
  intro f
  induction f with
  | zero => intro k _ h; omega
  | succ f ih =>
    intro k hk hf
    show pG_directionAfter_L27_B (pG_directionAfter_L27 f μ f1 (Int32.ofNat h) (Int32.ofNat p) K) μ f1 (Int32.ofNat h) (Int32.ofNat p) K _ (Int32.ofNat k) = _
    unfold pG_directionAfter_L27_B
    by_cases hc : h ≤ k
    · rw [if_pos ((w_le (by omega) (by omega)).mpr hc)]
      have : k = h := by omega
      rw [this]
    · rw [if_neg (fun q => hc ((w_le (by omega) (by omega)).mp q)), w_rdn (by omega) hp, hs]
      dsimp only [Option.bind_some]
      rw [w_fm3600]
      dsimp only [Option.bind_some]
      rw [w_da_step hd h1 h2 (by omega), w_ar2]
      exact ih (k + 1) (by omega) (by omega)
theorem w_hrs {n : Nat} {μ : z_Mem} {c1 c2 : Int32} (I : w_Inv n μ) : (∃ p d s h, p < 8 ∧ d < 3600 ∧ -50 ≤ s.toInt ∧ s.toInt ≤ 50 ∧ h ≤ 99 ∧ c2 = Int32.ofNat h ∧ pY_placeOf μ c1 = some (Int32.ofNat p) ∧ μ 14 p = Int32.ofNat d ∧ μ 15 p = s ∧ pG_needHoursAhead μ c2 = some none ∧ pm_directionAfter μ c1 c2 = some (Int32.ofNat (w_da d s h), z_u μ 241 12 0)) ∨ (pY_placeOf μ c1 = some (-1) ∧ pm_directionAfter μ c1 c2 = some (0, z_u μ 241 12 1)) ∨ (∃ p, p < 8 ∧ pY_placeOf μ c1 = some (Int32.ofNat p) ∧ pG_needHoursAhead μ c2 = some (some 1) ∧ pm_directionAfter μ c1 c2 = some (0, z_u μ 241 12 2)) := by
  obtain ⟨G, M, W, S, E, HN⟩ := w_get I
  have hS := HN.2.2.2.2.1.2.2.1
  unfold pG_needHoursAhead pm_directionAfter
  rcases w_place HN.2.2.2.2.1 c1 with ⟨e1, e2⟩ | ⟨p, hp, e1, e2⟩
  · rw [e2]
    exact Or.inr (Or.inl ⟨e1, rfl⟩)
  · obtain ⟨d, hd, d1, d2⟩ := w_dir HN hp
    obtain ⟨-, -, s1, -, s2, s3⟩ := HN.2.2.2.2.1.2.2.2.2.2 p hp
    rw [e2]
    dsimp only [Option.bind_some]
    rw [if_neg (w_nneg (k := 1) (by omega) (by decide) (by decide))]
    rcases w_within (μ := μ) (ν := μ) c2 0 99 with ⟨e3, e4, b1, b2⟩ | ⟨e3, e4, -⟩
    · obtain ⟨h, -, hh, rfl⟩ := w_nat_in (lo := 0) (hi := 99) (by omega) (by omega) b1 b2
      refine Or.inl ⟨p, d, μ 242 (251 + p), h, by omega, hd, Int32.le_iff_toInt_le.mp s2, Int32.le_iff_toInt_le.mp s3, hh, rfl, e1, d1, s1, ?_, ?_⟩
      · rw [e3]
        dsimp only [Option.bind_some]
        rw [if_neg w_10]
      · rw [e4]
        dsimp only [Option.bind_some]
        rw [if_neg w_10, show (243 : Int32) + Int32.ofNat p = Int32.ofNat (243 + p) from w_al, w_rdn (by omega) (by omega), d2, show (251 : Int32) + Int32.ofNat p = Int32.ofNat (251 + p) from w_al, w_rdn (by omega) (by omega)]
        dsimp only [Option.bind_some]
        rw [w_rs3600]
        rfl
    · rw [e3, e4]
      exact Or.inr (Or.inr ⟨p, by omega, e1, rfl, rfl⟩)
/-- how far the star at a place is -/
def w_Fs (g : Nat → Int32) (d p : Nat) : Nat := w_ds ((g (243 + p)).toNatClampNeg % 3600) d
section
variable {n G M W S E d : Nat} {μ : z_Mem}
theorem w_FsV (HN : w_RelN n (w_st μ 1) (μ 242) G M W S E) {p : Nat} (hp : p < S) : ∃ e, e < 3600 ∧ μ 14 p = Int32.ofNat e ∧ μ 242 (243 + p) = Int32.ofNat e ∧ w_Fs (μ 242) d p = w_ds e d := by
  obtain ⟨e, he, d1, d2⟩ := w_dir HN hp
  refine ⟨e, he, d1, d2, ?_⟩
  unfold w_Fs
  rw [d2, w_tn (by omega), Nat.mod_eq_of_lt he]
theorem w_Fs_le {g : Nat → Int32} {p : Nat} (hd : d < 3600) : w_Fs g d p ≤ 1800 := w_ds_le (Nat.mod_lt _ (by omega)) hd
theorem w_idL (HN : w_RelN n (w_st μ 1) (μ 242) G M W S E) (hd : d < 3600) {K : Int32 → Int32 → Int32 → Option Int32} : ∀ (f k : Nat), k ≤ S → S - k < f → pY_idNearest_L9 f μ (Int32.ofNat d) K (if k = 0 then -1 else μ 13 (w_am (w_Fs (μ 242) d) k)) (Int32.ofNat (w_ac (w_Fs (μ 242) d) k)) (Int32.ofNat k) = K (if S = 0 then -1 else μ 13 (w_am (w_Fs (μ 242) d) S)) (Int32.ofNat (w_ac (w_Fs (μ 242) d) S)) (Int32.ofNat S) := by
  obtain ⟨y1, y2, y3, y4, y5, y6⟩ := HN.2.2.2.2.1
  intro f
  induction f with
  | zero => intro k _ h; omega
  | succ f ih =>
    intro k hk hf
    show pY_idNearest_L9_B (pY_idNearest_L9 f μ (Int32.ofNat d) K) μ (Int32.ofNat d) K _ _ (Int32.ofNat k) = _
    unfold pY_idNearest_L9_B
    rw [show μ 12 0 = Int32.ofNat S from y1]
    by_cases h : S ≤ k
    · rw [if_pos ((w_le (by omega) (by omega)).mpr h)]
      have : k = S := by omega
      rw [this]
    · obtain ⟨e, he, d1, d2, hFe⟩ := w_FsV (d := d) HN (p := k) (by omega)
      rw [if_neg (fun q => h ((w_le (by omega) (by omega)).mp q)), w_rdn (by omega) (by omega), d1]
      dsimp only [Option.bind_some]
      rw [w_dist he hd, ← hFe]
      dsimp only [Option.bind_some]
      have hF : ∀ i, w_Fs (μ 242) d i ≤ 1800 := fun i => w_Fs_le hd
      have hac : w_ac (w_Fs (μ 242) d) k ≤ 3600 := by unfold w_ac; split; omega; have := hF (w_am (w_Fs (μ 242) d) k); omega
      have st := w_ac_step (k := k) hF
      have hFk := hF k
      have i2 := ih (k + 1) (by omega) (by omega)
      rw [if_neg (show ¬ k + 1 = 0 by omega)] at i2
      rw [w_ar2]
      by_cases hc : w_ac (w_Fs (μ 242) d) k ≤ w_Fs (μ 242) d k
      · have hk0 : k ≠ 0 := by
          rintro rfl
          unfold w_ac at hc
          rw [if_pos rfl] at hc
          omega
        rw [(st.1 hc).1, (st.1 hc).2] at i2
        rw [if_pos ((w_le (by omega) (by omega)).mpr hc), if_neg hk0]
        exact i2
      · rw [(st.2 hc).1, (st.2 hc).2] at i2
        rw [if_neg (fun q => hc ((w_le (by omega) (by omega)).mp q)), w_rdn (by omega) (by omega)]
        exact i2
theorem w_nsL (HN : w_RelN n (w_st μ 1) (μ 242) G M W S E) (hd : d < 3600) {K : Int32 → Int32 → Option (Int32 × z_Mem)} : ∀ (f k : Nat), 1 ≤ k → k ≤ S → S - k < f → pm_nearestStar_L36 f μ (Int32.ofNat d) K (Int32.ofNat (w_am (w_Fs (μ 242) d) k)) (Int32.ofNat k) = K (Int32.ofNat (w_am (w_Fs (μ 242) d) S)) (Int32.ofNat S) := by
  obtain ⟨y1, y2, y3, y4, y5, y6⟩ := HN.2.2.2.2.1
  intro f
  induction f with
  | zero => intro k _ _ h; omega
  | succ f ih =>
    intro k hk1 hk hf
    show pm_nearestStar_L36_B (pm_nearestStar_L36 f μ (Int32.ofNat d) K) μ (Int32.ofNat d) K _ (Int32.ofNat k) = _
    unfold pm_nearestStar_L36_B
    rw [y2]
    by_cases h : S ≤ k
    · rw [if_pos ((w_le (by omega) (by omega)).mpr h)]
      have : k = S := by omega
      rw [this]
    · have ham := w_am_lt (F := w_Fs (μ 242) d) (k := k) (by omega)
      obtain ⟨e, he, d1, d2, hFe⟩ := w_FsV (d := d) HN (p := k) (by omega)
      obtain ⟨e', he', d1', d2', hFe'⟩ := w_FsV (d := d) HN (p := w_am (w_Fs (μ 242) d) k) (by omega)
      rw [if_neg (fun q => h ((w_le (by omega) (by omega)).mp q)), show (243 : Int32) + Int32.ofNat k = Int32.ofNat (243 + k) from w_al, w_rdn (by omega) (by omega), d2]
      dsimp only [Option.bind_some]
      rw [w_apart he hd]
      dsimp only [Option.bind_some]
      rw [show (243 : Int32) + Int32.ofNat (w_am (w_Fs (μ 242) d) k) = Int32.ofNat (243 + w_am (w_Fs (μ 242) d) k) from w_al, w_rdn (by omega) (by omega), d2']
      dsimp only [Option.bind_some]
      rw [w_apart he' hd, ← hFe, ← hFe']
      dsimp only [Option.bind_some]
      have hF : ∀ i, w_Fs (μ 242) d i ≤ 1800 := fun i => w_Fs_le hd
      have h1 := hF k
      have h2 := hF (w_am (w_Fs (μ 242) d) k)
      rw [w_ar2]
      by_cases hc : w_Fs (μ 242) d (w_am (w_Fs (μ 242) d) k) ≤ w_Fs (μ 242) d k
      · rw [if_pos ((w_le (by omega) (by omega)).mpr hc)]
        have e : w_am (w_Fs (μ 242) d) (k + 1) = w_am (w_Fs (μ 242) d) k := if_neg (by omega)
        have i2 := ih (k + 1) (by omega) (by omega) (by omega)
        rw [e] at i2
        exact i2
      · rw [if_neg (fun q => hc ((w_le (by omega) (by omega)).mp q))]
        have e : w_am (w_Fs (μ 242) d) (k + 1) = k := if_pos (by omega)
        have i2 := ih (k + 1) (by omega) (by omega) (by omega)
        rw [e] at i2
        exact i2
end
theorem w_en12 {μ : z_Mem} {v x y : Int32} : pm_entryOf (z_u μ 241 12 v) x y = pm_entryOf μ x y := by
  have h : ∀ (K : Int32 → Option Int32) (f : Nat) (a : Int32), pm_entryOf_L2 f (z_u μ 241 12 v) x y K a = pm_entryOf_L2 f μ x y K a := by
    intro K f
    induction f with
    | zero => intro a; rfl
    | succ f ih =>
      intro a
      show pm_entryOf_L2_B (pm_entryOf_L2 f (z_u μ 241 12 v) x y K) (z_u μ 241 12 v) x y K a = pm_entryOf_L2_B (pm_entryOf_L2 f μ x y K) μ x y K a
      unfold pm_entryOf_L2_B z_rd
      rw [w_u_ne (by decide), funext ih]
  exact h _ _ _
theorem w_dfL {n G M W S E p q hh : Nat} {μ : z_Mem} (HN : w_RelN n (w_st μ 1) (μ 242) G M W S E) (hp : p < E) (hq : q < E) (hre : w_Re (w_st μ 1) (μ 242) p q) (hh2 : hh ≤ 10) (k18 : μ 19 p = Int32.ofNat hh) {f1 f2 : Int32} {K : Int32 → Int32 → Option Int32} {K' : Int32 → Int32 → Option (Int32 × z_Mem)} : ∀ (f k : Nat) (a : Int32), k ≤ hh → hh - k < f → ∃ v, pE_differencesTo_L5 f μ (Int32.ofNat p) K a (Int32.ofNat k) = K v (Int32.ofNat hh) ∧ pm_changedSince_L38 f μ f1 f2 (Int32.ofNat q) K' a (Int32.ofNat k) = K' v (Int32.ofNat hh) := by
  have hE := HN.2.2.2.2.2.1.2.2.1
  obtain ⟨g1, g2, g3, g4, g5, g6, g7, g8⟩ := HN.1
  have e265 : μ 242 (265 + q) = Int32.ofNat hh := hre.2.1.trans k18
  intro f
  induction f with
  | zero => intro k a _ h; omega
  | succ f ih =>
    intro k a hk hf
    show ∃ v, pE_differencesTo_L5_B (pE_differencesTo_L5 f μ (Int32.ofNat p) K) μ (Int32.ofNat p) K a (Int32.ofNat k) = _ ∧ pm_changedSince_L38_B (pm_changedSince_L38 f μ f1 f2 (Int32.ofNat q) K') μ f1 f2 (Int32.ofNat q) K' a (Int32.ofNat k) = _
    unfold pE_differencesTo_L5_B pm_changedSince_L38_B pE_positionIn
    rw [w_rdn (j := p) (by omega) (by omega), k18, show (265 : Int32) + Int32.ofNat q = Int32.ofNat (265 + q) from w_al, w_rdn (j := 265 + q) (by omega) (by omega), e265]
    dsimp only [Option.bind_some]
    by_cases h : hh ≤ k
    · rw [if_pos ((w_le (by omega) (by omega)).mpr h), if_pos ((w_le (by omega) (by omega)).mpr h)]
      have : k = hh := by omega
      rw [this]
      exact ⟨a, rfl, rfl⟩
    · have hc : ¬ Int32.ofNat hh ≤ Int32.ofNat k := fun q => h ((w_le (by omega) (by omega)).mp q)
      rw [if_neg hc, if_neg hc]
      rw [show Int32.ofNat p * 10 + Int32.ofNat k = Int32.ofNat (p * 10 + k) by rw [w_mr, w_aa], show (271 : Int32) + 10 * Int32.ofNat q + Int32.ofNat k = Int32.ofNat (271 + 10 * q + k) by rw [w_ml, w_al, w_aa], show (17 : Int32) + Int32.ofNat k = Int32.ofNat (17 + k) from w_al, w_rdn (by omega) (by omega), w_rdn (by omega) (by omega), w_rdn (by omega) (by omega), w_rdn (by omega) (by omega)]
      dsimp only [Option.bind_some]
      have e1 : μ 20 (p * 10 + k) = μ 242 (271 + 10 * q + k) := by rw [hre.2.2 k (by omega), Nat.mul_comm]; rfl
      have e2 : μ 4 k = μ 242 (17 + k) := g5 k (by omega)
      rw [e1, e2, w_ar2]
      by_cases hv : μ 242 (271 + 10 * q + k) = μ 242 (17 + k)
      · rw [if_pos hv, if_pos hv, Int32.add_zero]
        exact ih (k + 1) a (by omega) (by omega)
      · rw [if_neg hv, if_neg hv]
        exact ih (k + 1) (a + 1) (by omega) (by omega)
theorem w_bv (n : Nat) : (Int32.ofNat n).toBitVec.toNat = n % 4294967296 := by
  rfl
theorem w_nc {ch : Nat} (h : ch < 65536) : vp_nar .char (Int32.ofNat ch) = Int32.ofNat ch := by
  rw [vp_nar_char]
  apply Int32.toBitVec_inj.mp
  apply BitVec.eq_of_toNat_eq
  simp [w_bv]
  omega
theorem w_toC (x : Int32) : ∃ ch, ch < 65536 ∧ z_toC x = Int32.ofNat ch := by
  refine ⟨(x.toUInt32 % 65536).toNat, ?_, ?_⟩
  · rw [UInt32.toNat_mod]
    exact Nat.mod_lt _ (by decide)
  · unfold z_toC
    apply Int32.toBitVec_inj.mp
    apply BitVec.eq_of_toNat_eq
    rw [w_bv]
    have := x.toUInt32.toNat_lt
    have e : (x.toUInt32 % 65536).toInt32.toBitVec.toNat = (x.toUInt32 % 65536).toNat := rfl
    rw [e, UInt32.toNat_mod]
    show _ % 65536 = _ % 65536 % 4294967296
    omega
end ZAS2
