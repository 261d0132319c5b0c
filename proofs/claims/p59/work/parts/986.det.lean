/-! The state that the law reads is a function of the reference's row. -/
section ZDET
section
variable {n : Nat} {g : Nat → Int32} {G M W S E : Nat} {μ : z_Mem}
theorem d_hg (HN : w_RelN n (w_st μ 1) g G M W S E) {a : Nat} (ha : a < G) : pT_hasGear 2 μ (Int32.ofNat a) = some 1 := by
  have h : μ 2 0 = Int32.ofNat G := HN.1.1
  have hG := HN.1.2.2.1
  unfold pT_hasGear
  rw [h, if_neg (w_n0 (by omega)), if_neg (fun q => by have := (w_le (by omega) (by omega)).mp q; omega)]
theorem d_ng (HN : w_RelN n (w_st μ 1) g G M W S E) {a : Nat} (ha : a < G) : pG_needGear μ (Int32.ofNat a) = some none := by
  unfold pG_needGear
  rw [d_hg HN ha]
  dsimp only [Option.bind_some]
  rw [if_neg w_10]
theorem d_teeth (HN : w_RelN n (w_st μ 1) g G M W S E) {a : Nat} (ha : a < G) : z_iX (pG_teeth μ (Int32.ofNat a)) = some (g (7 + a)) := by
  have hG := HN.1.2.2.1
  have e : μ 3 a = g (7 + a) := HN.1.2.2.2.1 a (by omega)
  unfold pG_teeth
  rw [d_ng HN ha]
  dsimp only [Option.bind_some]
  rw [w_rdn (by omega) (by omega), e]
  rfl
theorem d_pos (HN : w_RelN n (w_st μ 1) g G M W S E) {a : Nat} (ha : a < G) : z_iX (pG_position μ (Int32.ofNat a)) = some (g (17 + a)) := by
  have hG := HN.1.2.2.1
  have e : μ 4 a = g (17 + a) := HN.1.2.2.2.2.1 a (by omega)
  unfold pG_position
  rw [d_ng HN ha]
  dsimp only [Option.bind_some]
  rw [w_rdn (by omega) (by omega), e]
  rfl
theorem d_btw (HN : w_RelN n (w_st μ 1) g G M W S E) {a b : Nat} (ha : a < G) (hb : b < G) (hab : a ≠ b) : (g (27 + w_pr a b) = 0 ∧ pT_meshBetween μ (Int32.ofNat a) (Int32.ofNat b) = some (-1)) ∨ ∃ e s, e < 9 ∧ s ≤ 5 ∧ g (27 + w_pr a b) = Int32.ofNat (s + 1) ∧ pT_meshBetween μ (Int32.ofNat a) (Int32.ofNat b) = some (Int32.ofNat e) ∧ μ 7 e = Int32.ofNat s ∧ μ 8 e = g (127 + w_pr a b) := by
  have H := w_CT_of HN.1 HN.2.1 HN.2.2.1
  have hR := w_Rf_of HN.1 HN.2.1
  have hG := HN.1.2.2.1
  have hM := HN.2.1.2.1
  by_cases hE : w_EK (w_st μ 1) M a b
  · obtain ⟨e, he, hK⟩ := hE
    obtain ⟨-, -, -, -, -, s, p, -, a7, a8, a9, a10, a11⟩ := HN.2.1.2.2.1 e he
    rw [w_K_pr (show w_K (w_st μ 1) M e a b from hK)] at a10 a11
    exact Or.inr ⟨e, s, by omega, a7, a10, w_meshY H w_Str_st hK, a8, a9.trans a11.symm⟩
  · exact Or.inl ⟨hR.2.2 a b (by omega) (by omega) hab hE, w_meshN H w_Str_st ha hb hE⟩
theorem d_s1 {s : Nat} (hs : s ≤ 5) : ¬ Int32.ofNat (s + 1) = 0 := fun q => by have := (w_eq (b := 0) (by omega) (by omega)).mp q; omega
theorem d_doMesh (HN : w_RelN n (w_st μ 1) g G M W S E) {a b : Nat} (ha : a < G) (hb : b < G) (hab : a ≠ b) : z_iX (pG_doMesh μ (Int32.ofNat a) (Int32.ofNat b)) = some (if g (27 + w_pr a b) = 0 then 0 else 1) := by
  unfold pG_doMesh
  rw [d_ng HN ha]
  dsimp only [Option.bind_some]
  rw [d_ng HN hb]
  dsimp only [Option.bind_some]
  rcases d_btw HN ha hb hab with ⟨h1, h2⟩ | ⟨e, s, h0, h1, h2, h3, -, -⟩
  · rw [h2, if_pos h1]; rfl
  · rw [h3, h2, if_neg (d_s1 h1)]
    dsimp only [Option.bind_some]
    rw [if_neg (w_nneg (k := 1) (by omega) (by decide) (by decide))]
    rfl
theorem d_nm (HN : w_RelN n (w_st μ 1) g G M W S E) {a b : Nat} (ha : a < G) (hb : b < G) (hab : a ≠ b) (h : ¬ g (27 + w_pr a b) = 0) : ∃ e, e < 9 ∧ pG_neededMesh μ (Int32.ofNat a) (Int32.ofNat b) = some (.inl (Int32.ofNat e)) ∧ μ 7 e = g (27 + w_pr a b) - 1 ∧ μ 8 e = g (127 + w_pr a b) := by
  unfold pG_neededMesh
  rw [d_ng HN ha]
  dsimp only [Option.bind_some]
  rw [d_ng HN hb]
  dsimp only [Option.bind_some]
  rcases d_btw HN ha hb hab with ⟨h1, h2⟩ | ⟨e, s, h0, h1, h2, h3, h4, h5⟩
  · exact absurd h1 h
  · rw [h3, h2]
    dsimp only [Option.bind_some]
    rw [if_neg (w_nneg (k := 1) (by omega) (by decide) (by decide))]
    refine ⟨e, h0, rfl, ?_, h5⟩
    rw [h4, w_sr (k := 1) (by show 1 ≤ s + 1; omega)]
    rfl
theorem d_gap (HN : w_RelN n (w_st μ 1) g G M W S E) {a b : Nat} (ha : a < G) (hb : b < G) (hab : a ≠ b) (h : ¬ g (27 + w_pr a b) = 0) : z_iX (pG_gap μ (Int32.ofNat a) (Int32.ofNat b)) = some (g (127 + w_pr a b)) := by
  obtain ⟨e, h1, h2, h3, h4⟩ := d_nm HN ha hb hab h
  unfold pG_gap
  rw [h2]
  dsimp only [Option.bind_some]
  rw [w_rdn (by omega) h1, h4]
  rfl
theorem d_slack (HN : w_RelN n (w_st μ 1) g G M W S E) {a b : Nat} (ha : a < G) (hb : b < G) (hab : a ≠ b) (h : ¬ g (27 + w_pr a b) = 0) : z_iX (pG_slack μ (Int32.ofNat a) (Int32.ofNat b)) = some (g (27 + w_pr a b) - 1) := by
  obtain ⟨e, h1, h2, h3, h4⟩ := d_nm HN ha hb hab h
  unfold pG_slack
  rw [h2]
  dsimp only [Option.bind_some]
  rw [w_rdn (by omega) h1, h3]
  rfl
theorem d_nw (HN : w_RelN n (w_st μ 1) g G M W S E) {w : Nat} (hw : w < W) : pG_needWheel μ (Int32.ofNat w) = some none := by
  have h : μ 9 0 = Int32.ofNat W := HN.2.2.2.1.1
  have hW := HN.2.2.2.1.2.2.1
  unfold pG_needWheel pQ_hasWheel
  rw [h, if_neg (w_n0 (by omega)), if_neg (fun q => by have := (w_le (by omega) (by omega)).mp q; omega)]
  dsimp only [Option.bind_some]
  rw [if_neg w_10]
theorem d_gearOf (HN : w_RelN n (w_st μ 1) g G M W S E) {w : Nat} (hw : w < W) : z_iX (pG_gearOf μ (Int32.ofNat w)) = some (g (227 + w)) := by
  have hW := HN.2.2.2.1.2.2.1
  have e : μ 10 w = g (227 + w) := (HN.2.2.2.1.2.2.2 w hw).1
  unfold pG_gearOf
  rw [d_nw HN hw]
  dsimp only [Option.bind_some]
  rw [w_rdn (by omega) (by omega), e]
  rfl
theorem d_spoke (HN : w_RelN n (w_st μ 1) g G M W S E) {w : Nat} (hw : w < W) : z_iX (pG_spokeDirection μ (Int32.ofNat w) 1) = some (Int32.ofNat (w_Dn g w 0 1)) := by
  have hW := HN.2.2.2.1.2.2.1
  obtain ⟨u, t, s, hu, ht1, ht2, hs1, hs2, e10, -, e3, -, e11, -, -⟩ := w_whl (ν := fun _ => g) HN hw
  have hp : pA_directionOfSpoke μ (Int32.ofNat w) 1 0 = _ := (w_points (ν := fun _ => g) HN hw (mt := 0) (k := 1) (by omega)).1
  unfold pG_spokeDirection
  rw [d_nw HN hw]
  dsimp only [Option.bind_some]
  rw [if_neg (show ¬ (1 : Int32) < 0 by decide), w_rdn (by omega) (by omega), e11]
  dsimp only [Option.bind_some]
  rw [if_pos ((w_ltl (k := 1) (by decide) (by omega)).mpr (by show 1 < s; omega)), hp]
  rfl
theorem d_star (HN : w_RelN n (w_st μ 1) g G M W S E) {k : Nat} (hk : k < S) : z_iX (pG_star μ (Int32.ofNat k)) = some (g (235 + k)) := by
  have h : μ 12 0 = Int32.ofNat S := HN.2.2.2.2.1.1
  have hS := HN.2.2.2.2.1.2.2.1
  have e : μ 13 k = g (235 + k) := (HN.2.2.2.2.1.2.2.2.2.2 k hk).1
  unfold pG_star
  rw [if_neg (w_n0 (by omega)), h, if_pos ((w_lt (by omega) (by omega)).mpr hk), w_rdn (by omega) (by omega), e]
  rfl
theorem d_place (HN : w_RelN n (w_st μ 1) g G M W S E) {k : Nat} (hk : k < S) : ∃ p, p < S ∧ pG_neededStar μ (g (235 + k)) = some (.inl (Int32.ofNat p)) ∧ pm_placeOf (fun _ => g) (g (235 + k)) = some (Int32.ofNat p) := by
  have hY := HN.2.2.2.2.1
  have hS := hY.2.2.1
  have e : μ 13 k = g (235 + k) := (hY.2.2.2.2.2 k hk).1
  unfold pG_neededStar
  rcases w_place (ν := fun _ => g) hY (g (235 + k)) with ⟨h1, -⟩ | ⟨p, h1, h2, h3⟩
  · exfalso
    unfold pY_placeOf at h1
    rcases w_plC (μ := μ) hS hY.1 (i := g (235 + k)) (K := fun k5 => some (-1)) z_fu 0 (Nat.zero_le _) (by show S - 0 < 3000; omega) (fun p hp => absurd hp (Nat.not_lt_zero _)) with ⟨-, c2⟩ | ⟨p, c1, c2, -⟩
    · exact c2 k hk e
    · have h4 := Option.some.inj (c2.symm.trans h1)
      exact w_nneg (k := 1) (by omega) (by decide) (by decide) h4
  · rw [h2]
    dsimp only [Option.bind_some]
    rw [if_neg (w_nneg (k := 1) (by omega) (by decide) (by decide))]
    exact ⟨p, h1, rfl, h3⟩
end
/-! a value that does not depend on the memory -/
def Dv (P : z_Mem → Prop) (f : z_Mem → Option Int32) : Prop := ∃ v, ∀ μ, P μ → f μ = some v
def Ds (P : z_Mem → Prop) (f : z_Mem → Option (Int32 × z_Mem)) : Prop := ∃ v, ∀ μ, P μ → f μ = some (v, μ)
section
variable {P : z_Mem → Prop}
theorem Ds_c {f : z_Mem → Option Int32} {v : Int32} {k : z_Mem → Int32 → Option (Int32 × z_Mem)} (h1 : ∀ μ, P μ → f μ = some v) (h2 : Ds P (fun μ => k μ v)) : Ds P (fun μ => (f μ).bind (k μ)) := by
  obtain ⟨w, h2⟩ := h2
  refine ⟨w, fun μ hμ => ?_⟩
  show (f μ).bind (k μ) = _
  rw [← h2 μ hμ, h1 μ hμ]
  rfl
theorem Ds_b {f : z_Mem → Option Int32} {k : z_Mem → Int32 → Option (Int32 × z_Mem)} (h1 : Dv P f) (h2 : ∀ v, Ds P (fun μ => k μ v)) : Ds P (fun μ => (f μ).bind (k μ)) := by
  obtain ⟨w, h1⟩ := h1
  exact Ds_c h1 (h2 w)
theorem Ds_s {f : z_Mem → Option (Int32 × z_Mem)} {k : z_Mem → Int32 × z_Mem → Option (Int32 × z_Mem)} (h1 : Ds P f) (h2 : ∀ v, Ds P (fun μ => k μ (v, μ))) : Ds P (fun μ => (f μ).bind (k μ)) := by
  obtain ⟨w, h1⟩ := h1
  obtain ⟨w2, h2⟩ := h2 w
  refine ⟨w2, fun μ hμ => ?_⟩
  show (f μ).bind (k μ) = _
  rw [← h2 μ hμ, h1 μ hμ]
  rfl
theorem Ds_if {c : Prop} [Decidable c] {a b : z_Mem → Option (Int32 × z_Mem)} (h1 : c → Ds P a) (h2 : ¬ c → Ds P b) : Ds P (fun μ => if c then a μ else b μ) := by
  by_cases h : c
  · simp only [if_pos h]; exact h1 h
  · simp only [if_neg h]; exact h2 h
end
section
variable {n : Nat} {g : Nat → Int32} {G M W S E : Nat}
/-- the memories that stand to the row g -/
def DP (n : Nat) (g : Nat → Int32) (G M W S E : Nat) (μ : z_Mem) : Prop := w_RelN n (w_st μ 1) g G M W S E
theorem d_dir {k : Nat} (hk : k < S) : Dv (DP n g G M W S E) (fun μ => z_iX (pG_direction μ (g (235 + k)))) := by
  by_cases hx : ∃ μ0, DP n g G M W S E μ0
  · obtain ⟨μ0, h0⟩ := hx
    obtain ⟨p0, hp0, -, e0⟩ := d_place h0 hk
    refine ⟨g (243 + p0), fun μ hμ => ?_⟩
    obtain ⟨p, hp, e1, e2⟩ := d_place hμ hk
    have hS := hμ.2.2.2.2.1.2.2.1
    have := (w_eq (by omega) (by omega)).mp (Option.some.inj (e2.symm.trans e0))
    subst this
    have e : μ 14 p = g (243 + p) := (hμ.2.2.2.2.1.2.2.2.2.2 p hp).2.1
    show z_iX (pG_direction μ (g (235 + k))) = _
    unfold pG_direction
    rw [e1]
    dsimp only [Option.bind_some]
    rw [w_rdn (by omega) (by omega), e]
    rfl
  · exact ⟨0, fun μ hμ => absurd ⟨μ, hμ⟩ hx⟩
theorem d_hrs7 {μ : z_Mem} : pG_needHoursAhead μ 7 = some none := by
  unfold pG_needHoursAhead pG_isWithin
  rw [if_neg (show ¬ (7 : Int32) < 0 by decide), if_neg (show ¬ (99 : Int32) < 7 by decide)]
  dsimp only [Option.bind_some]
  rw [if_neg w_10]
theorem d_dir7 {k : Nat} (hk : k < S) : Dv (DP n g G M W S E) (fun μ => z_iX (pG_directionAfter μ (g (235 + k)) 7)) := by
  by_cases hx : ∃ μ0, DP n g G M W S E μ0
  · obtain ⟨μ0, h0⟩ := hx
    obtain ⟨p0, hp0, -, e0⟩ := d_place h0 hk
    refine ⟨Int32.ofNat (w_da (g (243 + p0)).toNatClampNeg (g (251 + p0)) 7), fun μ hμ => ?_⟩
    obtain ⟨p, hp, e1, e2⟩ := d_place hμ hk
    have hS := hμ.2.2.2.2.1.2.2.1
    have := (w_eq (by omega) (by omega)).mp (Option.some.inj (e2.symm.trans e0))
    subst this
    obtain ⟨-, e14, e15, ⟨d, hd, hd2⟩, hs1, hs2⟩ := hμ.2.2.2.2.1.2.2.2.2.2 p hp
    have e : μ 14 p = Int32.ofNat d := e14.trans hd2
    have b1 := Int32.le_iff_toInt_le.mp hs1
    have b2 := Int32.le_iff_toInt_le.mp hs2
    rw [show (-50 : Int32).toInt = -50 by decide] at b1
    rw [show (50 : Int32).toInt = 50 by decide] at b2
    show z_iX (pG_directionAfter μ (g (235 + k)) 7) = _
    unfold pG_directionAfter
    rw [e1]
    dsimp only [Option.bind_some]
    rw [d_hrs7]
    dsimp only [Option.bind_some]
    rw [w_rdn (by omega) (by omega), e]
    dsimp only [Option.bind_some]
    have hL := w_daL (μ := μ) (f1 := g (235 + k)) (s := g (251 + p)) hd b1 b2 (show p < 8 by omega) e15 (h := 7) (by omega) (K := fun k16 k17 => some (.inl k16)) z_fu 0 (by omega) (by show 7 - 0 < 3000; omega)
    rw [w_da_0 hd] at hL
    rw [hd2, w_tn (by omega)]
    exact congrArg z_iX hL
  · exact ⟨0, fun μ hμ => absurd ⟨μ, hμ⟩ hx⟩
theorem d_diff {q hh : Nat} (hq : q < E) (hE : E ≤ 6) (hg : g (265 + q) = Int32.ofNat hh) (hh2 : hh ≤ 10) : ∀ (f k : Nat) (a : Int32), k ≤ hh → hh - k < f → ∃ v, ∀ (μ : z_Mem) (p : Nat), DP n g G M W S E μ → p < E → w_Re (w_st μ 1) g p q → pE_differencesTo_L5 f μ (Int32.ofNat p) (fun k9 k10 => some k9) a (Int32.ofNat k) = some v := by
  intro f
  induction f with
  | zero => intro k a _ h; omega
  | succ f ih =>
    intro k a hk hf
    by_cases h : hh ≤ k
    · refine ⟨a, fun μ p hμ hp hre => ?_⟩
      have k18 : μ 19 p = Int32.ofNat hh := hre.2.1.symm.trans hg
      show pE_differencesTo_L5_B (pE_differencesTo_L5 f μ (Int32.ofNat p) (fun k9 k10 => some k9)) μ (Int32.ofNat p) (fun k9 k10 => some k9) a (Int32.ofNat k) = some a
      unfold pE_differencesTo_L5_B
      rw [w_rdn (j := p) (by omega) (by omega), k18]
      dsimp only [Option.bind_some]
      rw [if_pos ((w_le (by omega) (by omega)).mpr h)]
    · obtain ⟨v, hv⟩ := ih (k + 1) (if g (271 + 10 * q + k) = g (17 + k) then a else a + 1) (by omega) (by omega)
      refine ⟨v, fun μ p hμ hp hre => ?_⟩
      have k18 : μ 19 p = Int32.ofNat hh := hre.2.1.symm.trans hg
      have e1 : μ 20 (p * 10 + k) = g (271 + 10 * q + k) := by rw [hre.2.2 k (by omega), Nat.mul_comm]; rfl
      have e2 : μ 4 k = g (17 + k) := hμ.1.2.2.2.2.1 k (by omega)
      have hv := hv μ p hμ hp hre
      show pE_differencesTo_L5_B (pE_differencesTo_L5 f μ (Int32.ofNat p) (fun k9 k10 => some k9)) μ (Int32.ofNat p) (fun k9 k10 => some k9) a (Int32.ofNat k) = some v
      unfold pE_differencesTo_L5_B pE_positionIn
      rw [w_rdn (j := p) (by omega) (by omega), k18]
      dsimp only [Option.bind_some]
      rw [if_neg (fun q => h ((w_le (by omega) (by omega)).mp q)), show Int32.ofNat p * 10 + Int32.ofNat k = Int32.ofNat (p * 10 + k) by rw [w_mr, w_aa], w_rdn (by omega) (by omega), w_rdn (by omega) (by omega)]
      dsimp only [Option.bind_some]
      rw [e1, e2, w_ar2]
      by_cases hc : g (271 + 10 * q + k) = g (17 + k)
      · rw [if_pos hc] at hv ⊢; exact hv
      · rw [if_neg hc] at hv ⊢; exact hv
theorem d_nk {μ : z_Mem} {l d : Nat} (hl : 97 ≤ l) (hl2 : l ≤ 122) (hd : d ≤ 9) : pG_needKey μ (Int32.ofNat l) (Int32.ofNat d) = some none := by
  unfold pG_needKey pG_isKey pG_isWithin
  rw [if_neg (fun q => by have := (w_ltr (k := 97) (by decide) (by omega)).mp q; exact absurd this (by show ¬ l < 97; omega)), if_neg (fun q => by have := (w_ltl (k := 122) (by decide) (by omega)).mp q; exact absurd this (by show ¬ 122 < l; omega))]
  dsimp only [Option.bind_some]
  rw [if_neg w_10, if_neg (w_n0 (by omega)), if_neg (fun q => by have := (w_ltl (k := 9) (by decide) (by omega)).mp q; exact absurd this (by show ¬ 9 < d; omega))]
  dsimp only [Option.bind_some]
  rw [if_neg w_10]
  dsimp only [Option.bind_some]
  rw [if_neg w_10]
theorem d_chg {l d : Nat} (hl : 97 ≤ l) (hl2 : l ≤ 122) (hd : d ≤ 9) : Dv (DP n g G M W S E) (fun μ => (pG_changedSince μ (Int32.ofNat l) (Int32.ofNat d)).bind fun q => z_aV q) := by
  by_cases hx : ∃ μ0, DP n g G M W S E μ0
  · obtain ⟨μ0, h0⟩ := hx
    have hE := h0.2.2.2.2.2.1.2.2.1
    rcases w_entry (ν := fun _ => g) h0.2.2.2.2.2.1 hl2 hd with ⟨-, e0, -, -⟩ | ⟨p0, q0, hp0, hq0, -, e0, hr0, -⟩
    · refine ⟨-5004, fun μ hμ => ?_⟩
      rcases w_entry (ν := fun _ => g) hμ.2.2.2.2.2.1 hl2 hd with ⟨e1, -, -, -⟩ | ⟨p, q, hp, hq, -, e1, -⟩
      · show ((pG_changedSince μ (Int32.ofNat l) (Int32.ofNat d)).bind fun q => z_aV q) = _
        unfold pG_changedSince pG_neededEntry
        rw [d_nk hl hl2 hd]
        dsimp only [Option.bind_some]
        rw [e1]
        rfl
      · exact absurd (Option.some.inj (e1.symm.trans e0)) (w_nneg (k := 1) (by omega) (by decide) (by decide))
    · obtain ⟨-, -, hh, -, -, -, hh2, -, -, eh⟩ := h0.2.2.2.2.2.1.2.2.2.1 p0 hp0
      obtain ⟨v, hv⟩ := d_diff (n := n) (g := g) (G := G) (M := M) (W := W) (S := S) hq0 hE (hr0.2.1.trans eh) hh2 z_fu 0 0 (by omega) (by show hh - 0 < 3000; omega)
      refine ⟨v, fun μ hμ => ?_⟩
      rcases w_entry (ν := fun _ => g) hμ.2.2.2.2.2.1 hl2 hd with ⟨-, e1, -, -⟩ | ⟨p, q, hp, hq, e2, e1, hr, -⟩
      · exact absurd (Option.some.inj (e0.symm.trans e1)) (w_nneg (k := 1) (by omega) (by decide) (by decide))
      · have := (w_eq (by omega) (by omega)).mp (Option.some.inj (e1.symm.trans e0))
        subst this
        have hv := hv μ p hμ hp hr
        show ((pG_changedSince μ (Int32.ofNat l) (Int32.ofNat d)).bind fun q => z_aV q) = _
        unfold pG_changedSince pG_neededEntry
        rw [d_nk hl hl2 hd]
        dsimp only [Option.bind_some]
        rw [e2]
        dsimp only [Option.bind_some]
        rw [if_neg (w_nneg (k := 1) (by omega) (by decide) (by decide))]
        dsimp only [Option.bind_some]
        rw [show pE_differencesTo μ (Int32.ofNat p) = some v from hv]
        rfl
  · exact ⟨0, fun μ hμ => absurd ⟨μ, hμ⟩ hx⟩
theorem d_act16 {l d : Nat} {i2 i3 : Int32} (hl : 97 ≤ l) (hl2 : l ≤ 122) (hd : d ≤ 9) (e2 : (((i2 : Int32).toUInt32 % 65536).toInt32) = Int32.ofNat l) (e3 : i3 = Int32.ofNat d) : Ds (DP n g G M W S E) (fun μ => pL_act μ 16 i2 i3 0) := by
  obtain ⟨v, hv⟩ := d_chg (n := n) (g := g) (G := G) (M := M) (W := W) (S := S) (E := E) hl hl2 hd
  refine ⟨v, fun μ hμ => ?_⟩
  obtain ⟨q, h1, h2⟩ := z_bs (hv μ hμ)
  show pL_act μ 16 i2 i3 0 = _
  unfold pL_act
  rw [if_neg (by decide), if_neg (by decide), if_neg (by decide), if_neg (by decide), if_neg (by decide), if_neg (by decide), if_neg (by decide), if_neg (by decide), if_neg (by decide), if_neg (by decide), if_neg (by decide), if_neg (by decide), if_neg (by decide), if_neg (by decide), if_neg (by decide), if_neg (by decide), e2, e3, h1]
  dsimp only [Option.bind_some]
  rw [h2]
  rfl
end
end ZDET
