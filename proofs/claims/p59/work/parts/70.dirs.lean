/-! Directions, distances, the nearest: both programs take the same first least. -/
section ZDIR
/-- the way between two directions -/
def w_ds (a b : Nat) : Nat := let d := if a < b then b - a else a - b; if 3600 - d < d then 3600 - d else d
theorem w_ds_le {a b : Nat} (ha : a < 3600) (hb : b < 3600) : w_ds a b ≤ 1800 := by
  unfold w_ds
  dsimp only
  split <;> split <;> omega
theorem w_dist {μ : z_Mem} {a b : Nat} (ha : a < 3600) (hb : b < 3600) : pG_distanceBetween μ (Int32.ofNat a) (Int32.ofNat b) = some (Int32.ofNat (w_ds a b)) := by
  unfold pG_distanceBetween
  rw [w_fm3600]
  dsimp only [Option.bind_some]
  have he : (w_emod (Int32.ofNat a - Int32.ofNat b) 3600 : Int) = ((a : Int) - b) % 3600 := by
    unfold w_emod
    rw [w_isub (by rw [w_ti (by omega), w_ti (by omega)]; omega) (by rw [w_ti (by omega), w_ti (by omega)]; omega), w_ti (by omega), w_ti (by omega)]
    omega
  have hlt := w_emod_lt (x := Int32.ofNat a - Int32.ofNat b) (m := 3600) (by omega)
  generalize w_emod (Int32.ofNat a - Int32.ofNat b) 3600 = e at *
  have hs : (3600 : Int32) - Int32.ofNat e = Int32.ofNat (3600 - e) := w_ss (a := 3600) (by omega)
  rw [hs]
  unfold pJ_min
  have hv : (if 3600 - e < e then 3600 - e else e) = w_ds a b := by
    unfold w_ds
    dsimp only
    by_cases h : a < b
    · rw [if_pos h]; split <;> split <;> omega
    · rw [if_neg h]; split <;> split <;> omega
  by_cases h : 3600 - e < e
  · rw [if_pos h] at hv
    rw [if_pos ((w_lt (by omega) (by omega)).mpr h), hv]
    rfl
  · rw [if_neg h] at hv
    rw [if_neg (fun q => h ((w_lt (by omega) (by omega)).mp q)), hv]
    rfl
theorem w_apart {μ : z_Mem} {a b : Nat} (ha : a < 3600) (hb : b < 3600) : pm_apart μ (Int32.ofNat a) (Int32.ofNat b) = some (Int32.ofNat (w_ds a b)) := by
  unfold pm_apart
  rw [w_size]
  dsimp only [Option.bind_some]
  have hd : w_abs (Int32.ofNat a - Int32.ofNat b) = Int32.ofNat (if a < b then b - a else a - b) := by
    unfold w_abs
    have hs : (Int32.ofNat a - Int32.ofNat b).toInt = (a : Int) - b := by
      rw [w_isub (by rw [w_ti (by omega), w_ti (by omega)]; omega) (by rw [w_ti (by omega), w_ti (by omega)]; omega), w_ti (by omega), w_ti (by omega)]
    by_cases h : a < b
    · rw [if_neg (fun q => by have := Int32.le_iff_toInt_le.mp q; rw [w_i0, hs] at this; omega), if_pos h, Int32.neg_sub, w_ss (by omega)]
    · rw [if_pos (by rw [Int32.le_iff_toInt_le, w_i0, hs]; omega), if_neg h, w_ss (by omega)]
  rw [hd]
  have hb2 : (if a < b then b - a else a - b) < 3600 := by split <;> omega
  have hv : w_ds a b = if 3600 - (if a < b then b - a else a - b) < (if a < b then b - a else a - b) then 3600 - (if a < b then b - a else a - b) else (if a < b then b - a else a - b) := rfl
  rw [hv]
  generalize (if a < b then b - a else a - b) = e at *
  have hs : (3600 : Int32) - Int32.ofNat e = Int32.ofNat (3600 - e) := w_ss (a := 3600) (by omega)
  rw [hs, w_less]
  dsimp only [Option.bind_some]
  unfold w_min
  by_cases h : 3600 - e < e
  · rw [if_pos ((w_lt (by omega) (by omega)).mpr h), if_pos h]
  · rw [if_neg (fun q => h ((w_lt (by omega) (by omega)).mp q)), if_neg h]
/-- the first place of the least -/
def w_am (F : Nat → Nat) : Nat → Nat
  | 0 => 0
  | k + 1 => if F k < F (w_am F k) then k else w_am F k
theorem w_am_lt {F : Nat → Nat} : ∀ {k : Nat}, 0 < k → w_am F k < k := by
  intro k
  induction k with
  | zero => intro h; omega
  | succ k ih =>
    intro _
    show (if F k < F (w_am F k) then k else w_am F k) < k + 1
    split
    · omega
    · cases k with
      | zero => exact Nat.zero_lt_one
      | succ k => have := ih (by omega); omega
theorem w_am_1 {F : Nat → Nat} : w_am F 1 = 0 := by
  show (if F 0 < F 0 then 0 else 0) = 0
  split <;> rfl
theorem w_am_cong {F F' : Nat → Nat} : ∀ {k : Nat}, (∀ i, i < k → F i = F' i) → w_am F k = w_am F' k := by
  intro k
  induction k with
  | zero => intro _; rfl
  | succ k ih =>
    intro h
    have h1 := ih (fun i hi => h i (by omega))
    show (if F k < F (w_am F k) then k else w_am F k) = if F' k < F' (w_am F' k) then k else w_am F' k
    rw [h1, h k (by omega)]
    cases k with
    | zero => split <;> split <;> rfl
    | succ k => rw [h (w_am F' (k + 1)) (by have := w_am_lt (F := F') (k := k + 1) (by omega); omega)]
/-- the least so far, 3600 at first -/
def w_ac (F : Nat → Nat) (k : Nat) : Nat := if k = 0 then 3600 else F (w_am F k)
theorem w_ac_step {F : Nat → Nat} {k : Nat} (h : ∀ i, F i ≤ 1800) : (w_ac F k ≤ F k → w_ac F (k + 1) = w_ac F k ∧ w_am F (k + 1) = w_am F k) ∧ (¬ w_ac F k ≤ F k → w_ac F (k + 1) = F k ∧ w_am F (k + 1) = k) := by
  unfold w_ac
  rw [if_neg (show ¬ k + 1 = 0 by omega)]
  by_cases hk : k = 0
  · subst hk
    rw [if_pos rfl]
    have := h 0
    refine ⟨fun q => by omega, fun _ => ?_⟩
    rw [w_am_1]
    exact ⟨rfl, rfl⟩
  · rw [if_neg hk]
    refine ⟨fun q => ?_, fun q => ?_⟩
    · have e : w_am F (k + 1) = w_am F k := if_neg (by omega)
      rw [e]; exact ⟨rfl, rfl⟩
    · have e : w_am F (k + 1) = k := if_pos (by omega)
      rw [e]; exact ⟨rfl, rfl⟩
/-- where a spoke points -/
def w_Dn (g : Nat → Int32) (w mt k : Nat) : Nat := (3600 * w_emod (g (17 + (g (227 + w)).toNatClampNeg) + Int32.ofNat mt) (g (7 + (g (227 + w)).toNatClampNeg)).toNatClampNeg / (g (7 + (g (227 + w)).toNatClampNeg)).toNatClampNeg + 3600 * k / (g (231 + w)).toNatClampNeg) % 3600
section
variable {n G M W S E w : Nat} {μ ν : z_Mem}
theorem w_whl (HN : w_RelN n (w_st μ 1) (ν 242) G M W S E) (hw : w < W) : ∃ u t s, u < G ∧ 8 ≤ t ∧ t ≤ 60 ∧ 3 ≤ s ∧ s ≤ 12 ∧ μ 10 w = Int32.ofNat u ∧ ν 242 (227 + w) = Int32.ofNat u ∧ μ 3 u = Int32.ofNat t ∧ ν 242 (7 + u) = Int32.ofNat t ∧ μ 11 w = Int32.ofNat s ∧ ν 242 (231 + w) = Int32.ofNat s ∧ μ 4 u = ν 242 (17 + u) := by
  obtain ⟨g1, g2, g3, g4, g5, g6, g7, g8⟩ := HN.1
  obtain ⟨w1, w2, w3, w4⟩ := HN.2.2.2.1
  obtain ⟨a1, a2, ⟨u, hu, a3⟩, s, s1, s2, a4⟩ := w4 w hw
  obtain ⟨t, t1, t2, a5⟩ := g6 u hu
  exact ⟨u, t, s, hu, t1, t2, s1, s2, a1.trans a3, a3, (g4 u (by omega)).trans a5, a5, a2.trans a4, a4, g5 u (by omega)⟩
theorem w_points (HN : w_RelN n (w_st μ 1) (ν 242) G M W S E) (hw : w < W) {mt k : Nat} (hk : k ≤ 100) : pA_directionOfSpoke μ (Int32.ofNat w) (Int32.ofNat k) (Int32.ofNat mt) = some (Int32.ofNat (w_Dn (ν 242) w mt k)) ∧ pm_pointsTo ν (Int32.ofNat w) (Int32.ofNat k) (Int32.ofNat mt) = some (Int32.ofNat (w_Dn (ν 242) w mt k)) := by
  obtain ⟨u, t, s, hu, t1, t2, s1, s2, a1, a2, a3, a4, a5, a6, a7⟩ := w_whl HN hw
  have hG := HN.1.2.2.1
  have hW := HN.2.2.2.1.2.2.1
  have hD : w_Dn (ν 242) w mt k = (3600 * w_emod (ν 242 (17 + u) + Int32.ofNat mt) t / t + 3600 * k / s) % 3600 := by
    unfold w_Dn
    rw [a2, w_tn (by omega), a4, w_tn (by omega), a6, w_tn (by omega)]
  have hq := w_emod_lt (x := ν 242 (17 + u) + Int32.ofNat mt) (m := t) (by omega)
  rw [hD]
  have hx : ∀ q, q < t → 3600 * Int32.ofNat q / Int32.ofNat t + 3600 * Int32.ofNat k / Int32.ofNat s - (3600 * Int32.ofNat q / Int32.ofNat t + 3600 * Int32.ofNat k / Int32.ofNat s) / 3600 * 3600 = Int32.ofNat ((3600 * q / t + 3600 * k / s) % 3600) := by
    intro q hq
    have h1 : 3600 * q / t ≤ 3600 * q := Nat.div_le_self _ _
    have h2 : 3600 * k / s ≤ 3600 * k := Nat.div_le_self _ _
    rw [show (3600 : Int32) * Int32.ofNat q = Int32.ofNat (3600 * q) from w_ml, show (3600 : Int32) * Int32.ofNat k = Int32.ofNat (3600 * k) from w_ml, w_dd (by omega) (by omega), w_dd (by omega) (by omega), w_aa]
    exact w_mdl (k := 3600) (by omega) (by decide)
  constructor
  · unfold pA_directionOfSpoke
    rw [w_rdn (by omega) (by omega), a1]
    dsimp only [Option.bind_some]
    rw [w_rdn (by omega) (by omega), a3]
    dsimp only [Option.bind_some]
    rw [w_rdn (by omega) (by omega), a5]
    dsimp only [Option.bind_some]
    rw [if_neg (fun q => by have : t < 8 := (w_ltr (k := 8) (by decide) (by omega)).mp q; omega), if_pos ((w_lel (k := 3) (by decide) (by omega)).mpr (show 3 ≤ s from s1)), w_rdn (by omega) (by omega)]
    dsimp only [Option.bind_some]
    rw [a7, w_fm (by omega) (by omega)]
    dsimp only [Option.bind_some]
    rw [if_neg (fun q => by have : t = 0 := (w_eqr (k := 0) (by decide) (by omega)).mp q; omega), if_neg (fun q => by have : s = 0 := (w_eqr (k := 0) (by decide) (by omega)).mp q; omega), hx _ hq]
  · unfold pm_pointsTo
    rw [show (227 : Int32) + Int32.ofNat w = Int32.ofNat (227 + w) from w_al, show (231 : Int32) + Int32.ofNat w = Int32.ofNat (231 + w) from w_al, w_rdn (by omega) (by omega), a2]
    dsimp only [Option.bind_some]
    rw [show (7 : Int32) + Int32.ofNat u = Int32.ofNat (7 + u) from w_al, w_rdn (by omega) (by omega), a4]
    dsimp only [Option.bind_some]
    rw [show (17 : Int32) + Int32.ofNat u = Int32.ofNat (17 + u) from w_al, w_rdn (by omega) (by omega)]
    dsimp only [Option.bind_some]
    rw [w_rs (by omega) (by omega)]
    dsimp only [Option.bind_some]
    rw [if_neg (fun q => by have : t = 0 := (w_eqr (k := 0) (by decide) (by omega)).mp q; omega), w_rdn (by omega) (by omega), a6]
    dsimp only [Option.bind_some]
    rw [if_neg (fun q => by have : s = 0 := (w_eqr (k := 0) (by decide) (by omega)).mp q; omega), hx _ hq]
theorem w_Dn_lt {g : Nat → Int32} {w mt k : Nat} : w_Dn g w mt k < 3600 := Nat.mod_lt _ (by omega)
/-- the way from spoke k to a direction -/
def w_F (g : Nat → Int32) (w d mt k : Nat) : Nat := w_ds (w_Dn g w mt k) d
theorem w_F_le {g : Nat → Int32} {w d mt k : Nat} (hd : d < 3600) : w_F g w d mt k ≤ 1800 := w_ds_le w_Dn_lt hd
def w_sp (g : Nat → Int32) (w : Nat) : Nat := (g (231 + w)).toNatClampNeg
def w_te (g : Nat → Int32) (w : Nat) : Nat := (g (7 + (g (227 + w)).toNatClampNeg)).toNatClampNeg
theorem w_spv (HN : w_RelN n (w_st μ 1) (ν 242) G M W S E) (hw : w < W) : 3 ≤ w_sp (ν 242) w ∧ w_sp (ν 242) w ≤ 12 ∧ μ 11 w = Int32.ofNat (w_sp (ν 242) w) ∧ ν 242 (231 + w) = Int32.ofNat (w_sp (ν 242) w) ∧ 8 ≤ w_te (ν 242) w ∧ w_te (ν 242) w ≤ 60 := by
  obtain ⟨u, t, s, hu, t1, t2, s1, s2, a1, a2, a3, a4, a5, a6, a7⟩ := w_whl HN hw
  have e : w_sp (ν 242) w = s := by unfold w_sp; rw [a6, w_tn (by omega)]
  have e2 : w_te (ν 242) w = t := by unfold w_te; rw [a2, w_tn (by have := HN.1.2.2.1; omega), a4, w_tn (by omega)]
  rw [e, e2]
  exact ⟨s1, s2, a5, a6, t1, t2⟩
theorem w_ldL (HN : w_RelN n (w_st μ 1) (ν 242) G M W S E) (hw : w < W) {d mt : Nat} (hd : d < 3600) {K : Int32 → Int32 → Option Int32} : ∀ (f k : Nat), k ≤ w_sp (ν 242) w → w_sp (ν 242) w - k < f → pA_leastDistance_L8 f μ (Int32.ofNat w) (Int32.ofNat d) (Int32.ofNat mt) K (Int32.ofNat (w_ac (w_F (ν 242) w d mt) k)) (Int32.ofNat k) = K (Int32.ofNat (w_F (ν 242) w d mt (w_am (w_F (ν 242) w d mt) (w_sp (ν 242) w)))) (Int32.ofNat (w_sp (ν 242) w)) := by
  have hW := HN.2.2.2.1.2.2.1
  obtain ⟨s1, s2, s3, s4, -, -⟩ := w_spv HN hw
  intro f
  induction f with
  | zero => intro k _ h; omega
  | succ f ih =>
    intro k hk hf
    show pA_leastDistance_L8_B (pA_leastDistance_L8 f μ (Int32.ofNat w) (Int32.ofNat d) (Int32.ofNat mt) K) μ (Int32.ofNat w) (Int32.ofNat d) (Int32.ofNat mt) K _ (Int32.ofNat k) = _
    unfold pA_leastDistance_L8_B
    rw [w_rdn (by omega) (by omega), s3]
    dsimp only [Option.bind_some]
    by_cases h : w_sp (ν 242) w ≤ k
    · rw [if_pos ((w_le (by omega) (by omega)).mpr h)]
      have : k = w_sp (ν 242) w := by omega
      subst this
      rw [w_ac, if_neg (by omega)]
    · rw [if_neg (fun q => h ((w_le (by omega) (by omega)).mp q)), (w_points HN hw (by omega)).1]
      dsimp only [Option.bind_some]
      rw [w_dist w_Dn_lt hd]
      dsimp only [Option.bind_some]
      have hF : ∀ i, w_F (ν 242) w d mt i ≤ 1800 := fun i => w_F_le hd
      have hac : w_ac (w_F (ν 242) w d mt) k ≤ 3600 := by unfold w_ac; split; omega; have := hF (w_am (w_F (ν 242) w d mt) k); omega
      have st := w_ac_step (k := k) hF
      rw [show w_ds (w_Dn (ν 242) w mt k) d = w_F (ν 242) w d mt k from rfl]
      unfold pJ_min
      have hFk := hF k
      by_cases hc : w_ac (w_F (ν 242) w d mt) k ≤ w_F (ν 242) w d mt k
      · rw [if_neg (fun q => by have := (w_lt (by omega) (by omega)).mp q; omega)]
        dsimp only [Option.bind_some]
        rw [← (st.1 hc).1, w_ar2]
        exact ih (k + 1) (by omega) (by omega)
      · rw [if_pos ((w_lt (by omega) (by omega)).mpr (by omega))]
        dsimp only [Option.bind_some]
        rw [← (st.2 hc).1, w_ar2]
        exact ih (k + 1) (by omega) (by omega)
/-- the least way of a wheel to a direction, when its gear has turned by mt more -/
def w_L (g : Nat → Int32) (w d mt : Nat) : Nat := w_F g w d mt (w_am (w_F g w d mt) (w_sp g w))
theorem w_L_le {g : Nat → Int32} {w d mt : Nat} (hd : d < 3600) : w_L g w d mt ≤ 1800 := w_F_le hd
theorem w_leastC (HN : w_RelN n (w_st μ 1) (ν 242) G M W S E) (hw : w < W) {d mt : Nat} (hd : d < 3600) : pA_leastDistance μ (Int32.ofNat w) (Int32.ofNat d) (Int32.ofNat mt) = some (Int32.ofNat (w_L (ν 242) w d mt)) := by
  obtain ⟨s1, s2, -⟩ := w_spv HN hw
  exact w_ldL HN hw hd (K := fun k10 k11 => some k10) z_fu 0 (Nat.zero_le _) (by show _ - 0 < 3000; omega)
theorem w_nrL (HN : w_RelN n (w_st μ 1) (ν 242) G M W S E) (hw : w < W) {d mt : Nat} (hd : d < 3600) {K : Int32 → Int32 → Option Int32} : ∀ (f k : Nat), 1 ≤ k → k ≤ w_sp (ν 242) w → w_sp (ν 242) w - k < f → pm_nearest_L6 f ν (Int32.ofNat w) (Int32.ofNat d) (Int32.ofNat mt) K (Int32.ofNat (w_am (w_F (ν 242) w d mt) k)) (Int32.ofNat k) = K (Int32.ofNat (w_am (w_F (ν 242) w d mt) (w_sp (ν 242) w))) (Int32.ofNat (w_sp (ν 242) w)) := by
  have hW := HN.2.2.2.1.2.2.1
  obtain ⟨s1, s2, s3, s4, -, -⟩ := w_spv HN hw
  intro f
  induction f with
  | zero => intro k _ _ h; omega
  | succ f ih =>
    intro k hk1 hk hf
    show pm_nearest_L6_B (pm_nearest_L6 f ν (Int32.ofNat w) (Int32.ofNat d) (Int32.ofNat mt) K) ν (Int32.ofNat w) (Int32.ofNat d) (Int32.ofNat mt) K _ (Int32.ofNat k) = _
    unfold pm_nearest_L6_B
    rw [show (231 : Int32) + Int32.ofNat w = Int32.ofNat (231 + w) from w_al, w_rdn (by omega) (by omega), s4]
    dsimp only [Option.bind_some]
    by_cases h : w_sp (ν 242) w ≤ k
    · rw [if_pos ((w_le (by omega) (by omega)).mpr h)]
      have : k = w_sp (ν 242) w := by omega
      rw [this]
    · have ham := w_am_lt (F := w_F (ν 242) w d mt) (k := k) (by omega)
      rw [if_neg (fun q => h ((w_le (by omega) (by omega)).mp q)), (w_points HN hw (mt := mt) (k := k) (by omega)).2]
      dsimp only [Option.bind_some]
      rw [w_apart w_Dn_lt hd]
      dsimp only [Option.bind_some]
      rw [(w_points HN hw (mt := mt) (k := w_am (w_F (ν 242) w d mt) k) (by omega)).2]
      dsimp only [Option.bind_some]
      rw [w_apart w_Dn_lt hd]
      dsimp only [Option.bind_some]
      have hF : ∀ i, w_F (ν 242) w d mt i ≤ 1800 := fun i => w_F_le hd
      rw [show w_ds (w_Dn (ν 242) w mt k) d = w_F (ν 242) w d mt k from rfl, show w_ds (w_Dn (ν 242) w mt (w_am (w_F (ν 242) w d mt) k)) d = w_F (ν 242) w d mt (w_am (w_F (ν 242) w d mt) k) from rfl, w_ar2]
      have h1 := hF k
      have h2 := hF (w_am (w_F (ν 242) w d mt) k)
      by_cases hc : w_F (ν 242) w d mt (w_am (w_F (ν 242) w d mt) k) ≤ w_F (ν 242) w d mt k
      · rw [if_pos ((w_le (by omega) (by omega)).mpr hc)]
        have e : w_am (w_F (ν 242) w d mt) (k + 1) = w_am (w_F (ν 242) w d mt) k := if_neg (by omega)
        rw [← e]
        exact ih (k + 1) (by omega) (by omega) (by omega)
      · rw [if_neg (fun q => hc ((w_le (by omega) (by omega)).mp q))]
        have e : w_am (w_F (ν 242) w d mt) (k + 1) = k := if_pos (by omega)
        have i2 := ih (k + 1) (by omega) (by omega) (by omega)
        rw [e] at i2
        exact i2
theorem w_nearM (HN : w_RelN n (w_st μ 1) (ν 242) G M W S E) (hw : w < W) {d mt : Nat} (hd : d < 3600) : pm_nearest ν (Int32.ofNat w) (Int32.ofNat d) (Int32.ofNat mt) = some (Int32.ofNat (w_am (w_F (ν 242) w d mt) (w_sp (ν 242) w))) := by
  obtain ⟨s1, s2, -⟩ := w_spv HN hw
  have h := w_nrL HN hw (mt := mt) hd (K := fun k13 k14 => some k13) z_fu 1 (Nat.le_refl _) (by omega) (by show _ - 1 < 3000; omega)
  rw [w_am_1] at h
  exact h
theorem w_leastM (HN : w_RelN n (w_st μ 1) (ν 242) G M W S E) (hw : w < W) {d mt : Nat} (hd : d < 3600) : pm_distance ν (Int32.ofNat w) (Int32.ofNat d) (Int32.ofNat mt) = some (Int32.ofNat (w_L (ν 242) w d mt)) := by
  obtain ⟨s1, s2, -⟩ := w_spv HN hw
  have ham := w_am_lt (F := w_F (ν 242) w d mt) (k := w_sp (ν 242) w) (by omega)
  unfold pm_distance
  rw [w_nearM HN hw hd]
  dsimp only [Option.bind_some]
  rw [(w_points HN hw (mt := mt) (k := w_am (w_F (ν 242) w d mt) (w_sp (ν 242) w)) (by omega)).2]
  dsimp only [Option.bind_some]
  rw [w_apart w_Dn_lt hd]
  rfl
end
end ZDIR
