/-! Fractions. -/
section ZFRC
theorem w_fin64 : (List.range 601).all (fun s => (List.range 11).all fun g => g == 0 || z_n64 (FP.ddiv (FP.i2d (Int32.ofNat s)) (FP.i2d (Int32.ofNat g)))) = true := by decide +kernel
theorem w_d64 {s g : Nat} (hs : s ≤ 600) (h : 0 < g) (hg : g ≤ 10) : z_n64 (FP.ddiv (FP.i2d (Int32.ofNat s)) (FP.i2d (Int32.ofNat g))) = true := by
  have h1 := List.all_eq_true.mp (List.all_eq_true.mp w_fin64 s (List.mem_range.mpr (by omega))) g (List.mem_range.mpr (by omega))
  have h0 : (g == 0) = false := by
    rw [beq_eq_false_iff_ne]; omega
  rw [h0, Bool.false_or] at h1
  exact h1
def w_f32 (a w : Nat) : UInt32 := FP.fdiv (FP.i2f (Int32.ofNat a)) (FP.i2f (Int32.ofNat w))
theorem w_fin32 : (List.range 5).all (fun a => (List.range 5).all fun w => w == 0 || (z_n32 (w_f32 a w) && z_n64 (FP.f2d (w_f32 a w)) && (Op.cmpValue (FP.dcmp (FP.f2d (w_f32 a w)) (FP.f2d (w_f32 a w))) .l == 0))) = true := by decide +kernel
theorem w_d32 {a w : Nat} (ha : a ≤ 4) (h : 0 < w) (hw : w ≤ 4) : z_n32 (w_f32 a w) = true ∧ z_n64 (FP.f2d (w_f32 a w)) = true ∧ Op.cmpValue (FP.dcmp (FP.f2d (w_f32 a w)) (FP.f2d (w_f32 a w))) .l = 0 := by
  have h1 := List.all_eq_true.mp (List.all_eq_true.mp w_fin32 a (List.mem_range.mpr (by omega))) w (List.mem_range.mpr (by omega))
  have h0 : (w == 0) = false := by
    rw [beq_eq_false_iff_ne]; omega
  rw [h0, Bool.false_or, Bool.and_eq_true, Bool.and_eq_true, beq_iff_eq] at h1
  exact ⟨h1.1.1, h1.1.2, h1.2⟩
def w_ts (g : Nat → Int32) : Nat → Nat
  | 0 => 0
  | i + 1 => w_ts g i + (g (7 + i)).toNatClampNeg
theorem w_ts_le {g : Nat → Int32} {G : Nat} (h : ∀ i, i < G → ∃ t, 8 ≤ t ∧ t ≤ 60 ∧ g (7 + i) = Int32.ofNat t) : ∀ i, i ≤ G → w_ts g i ≤ 60 * i := by
  intro i
  induction i with
  | zero => intro _; exact Nat.le_refl _
  | succ i ih =>
    intro hi
    obtain ⟨t, t1, t2, e⟩ := h i (by omega)
    have := ih (by omega)
    show w_ts g i + (g (7 + i)).toNatClampNeg ≤ _
    rw [e, w_tn (by omega)]
    omega
theorem w_mtC {μ : z_Mem} {G : Nat} (hG : G ≤ 10) (h : ∀ i, i < G → ∃ t, 8 ≤ t ∧ t ≤ 60 ∧ μ 242 (7 + i) = Int32.ofNat t) (hc : ∀ i, i < 10 → μ 3 i = μ 242 (7 + i)) {K : Int32 → Int32 → Option (UInt64 ⊕ Nat)} : ∀ (f i : Nat), i ≤ G → G - i < f → pG_meanTeeth_L27 f μ (Int32.ofNat G) K (Int32.ofNat (w_ts (μ 242) i)) (Int32.ofNat i) = K (Int32.ofNat (w_ts (μ 242) G)) (Int32.ofNat G) := by
  intro f
  induction f with
  | zero => intro i _ h; omega
  | succ f ih =>
    intro i hi hf
    show pG_meanTeeth_L27_B (pG_meanTeeth_L27 f μ (Int32.ofNat G) K) μ (Int32.ofNat G) K (Int32.ofNat (w_ts (μ 242) i)) (Int32.ofNat i) = _
    unfold pG_meanTeeth_L27_B
    by_cases hh : G ≤ i
    · rw [if_pos ((w_le (by omega) (by omega)).mpr hh), show i = G by omega]
    · rw [if_neg (fun hc => hh ((w_le (by omega) (by omega)).mp hc)), w_rdn (by omega) (by omega), hc i (by omega)]
      dsimp only [Option.bind_some]
      obtain ⟨t, t1, t2, e⟩ := h i (by omega)
      have h5 : w_ts (μ 242) (i + 1) = w_ts (μ 242) i + t := by
        show w_ts (μ 242) i + (μ 242 (7 + i)).toNatClampNeg = _
        rw [e, w_tn (by omega)]
      rw [e, w_aa, ← h5, show Int32.ofNat i + 1 = Int32.ofNat (i + 1) from w_ar2]
      exact ih (i + 1) (by omega) (by omega)
theorem w_mtM {μ : z_Mem} {G : Nat} (hG : G ≤ 10) (hg : μ 242 0 = Int32.ofNat G) (h : ∀ i, i < G → ∃ t, 8 ≤ t ∧ t ≤ 60 ∧ μ 242 (7 + i) = Int32.ofNat t) {K : Int32 → Int32 → Option (UInt64 × z_Mem)} : ∀ (f i : Nat), i ≤ G → G - i < f → pm_meanTeeth_L4 f μ K (Int32.ofNat (w_ts (μ 242) i)) (Int32.ofNat i) = K (Int32.ofNat (w_ts (μ 242) G)) (Int32.ofNat G) := by
  intro f
  induction f with
  | zero => intro i _ h; omega
  | succ f ih =>
    intro i hi hf
    show pm_meanTeeth_L4_B (pm_meanTeeth_L4 f μ K) μ K (Int32.ofNat (w_ts (μ 242) i)) (Int32.ofNat i) = _
    unfold pm_meanTeeth_L4_B
    rw [hg]
    by_cases hh : G ≤ i
    · rw [if_pos ((w_le (by omega) (by omega)).mpr hh), show i = G by omega]
    · rw [if_neg (fun hc => hh ((w_le (by omega) (by omega)).mp hc)), show (7 : Int32) + Int32.ofNat i = Int32.ofNat (7 + i) from w_al, w_rdn (by omega) (by omega)]
      dsimp only [Option.bind_some]
      obtain ⟨t, t1, t2, e⟩ := h i (by omega)
      have h5 : w_ts (μ 242) (i + 1) = w_ts (μ 242) i + t := by
        show w_ts (μ 242) i + (μ 242 (7 + i)).toNatClampNeg = _
        rw [e, w_tn (by omega)]
      rw [e, w_aa, ← h5, show Int32.ofNat i + 1 = Int32.ofNat (i + 1) from w_ar2]
      exact ih (i + 1) (by omega) (by omega)
theorem w_S43 : z_S43 w_Inv := fun n μ I hn => by
  obtain ⟨G, M, W, S, E, HN⟩ := w_get I
  obtain ⟨g1, g2, g3, g4, g5, g6, g7, g8⟩ := HN.1
  have g1 : μ 2 0 = Int32.ofNat G := g1
  have hm : pm_meanTeeth μ = _ := w_mtM (μ := μ) g3 g2 g6 z_fu 0 (Nat.zero_le _) (by show _ - 0 < 3000; omega)
  by_cases h0 : G = 0
  · subst h0
    refine ⟨.inr 4, FP.dconst0, z_u μ 241 12 1, ?_, ?_, ⟨0, rfl, w_u_eq⟩, w_Q12 I⟩
    · unfold pG_meanTeeth
      rw [if_pos (show μ 2 0 = 0 from g1)]
    · rw [hm, if_pos (show μ 242 0 = 0 from g2), if_neg (by rw [w_u_eq]; exact w_10)]
  · have n1 : ¬ μ 242 0 = 0 := by
      rw [g2]; exact fun hc => h0 ((w_eq (a := G) (b := 0) (by omega) (by omega)).mp hc)
    have n2 : ¬ μ 2 0 = 0 := by
      rw [g1]; exact fun hc => h0 ((w_eq (a := G) (b := 0) (by omega) (by omega)).mp hc)
    have hle := w_ts_le (g := μ 242) g6 G (Nat.le_refl _)
    have hd := w_d64 (s := w_ts (μ 242) G) (g := G) (by omega) (by omega) g3
    refine ⟨.inl (FP.ddiv (FP.i2d (Int32.ofNat (w_ts (μ 242) G))) (FP.i2d (Int32.ofNat G))), FP.ddiv (FP.i2d (Int32.ofNat (w_ts (μ 242) G))) (FP.i2d (Int32.ofNat G)), z_u μ 241 12 0, ?_, ?_, ⟨w_u_eq, rfl⟩, w_Q12 I⟩
    · unfold pG_meanTeeth
      rw [if_neg n2, g1]
      have h7 := w_mtC (μ := μ) g3 g6 g4 (K := fun k5 k6 => if z_n64 (FP.ddiv (FP.i2d k5) (FP.i2d (Int32.ofNat G))) = true then some (.inl (FP.ddiv (FP.i2d k5) (FP.i2d (Int32.ofNat G)))) else none) z_fu 0 (Nat.zero_le _) (by show _ - 0 < 3000; omega)
      refine h7.trans ?_
      rw [if_pos hd]
    · rw [hm, if_neg n1, if_pos w_u_eq, w_u_ne (by decide), g2, if_pos hd]
section
variable {n G M W S E : Nat} {μ ν : z_Mem}
def w_sd (g : Nat → Int32) (p : Nat) : Nat := (g (243 + p)).toNatClampNeg
def w_nf (g : Nat → Int32) (w : Nat) (t : Int32) (p : Nat) : Prop := ¬ t < Int32.ofNat (w_L g w (w_sd g p) 0)
def w_alS (g : Nat → Int32) (w : Nat) (t : Int32) (S i : Nat) : Prop := ∃ p, i ≤ p ∧ p < S ∧ w_nf g w t p
theorem w_sdv (HN : w_RelN n (w_st μ 1) (ν 242) G M W S E) {p : Nat} (hp : p < S) : w_sd (ν 242) p < 3600 ∧ μ 14 p = Int32.ofNat (w_sd (ν 242) p) ∧ ν 242 (243 + p) = Int32.ofNat (w_sd (ν 242) p) := by
  obtain ⟨-, a2, -, ⟨d, hd, a4⟩, -⟩ := HN.2.2.2.2.1.2.2.2.2.2 p hp
  have e : w_sd (ν 242) p = d := by unfold w_sd; rw [a4, w_tn (by omega)]
  rw [e]
  exact ⟨hd, (show μ 14 p = _ from a2).trans a4, a4⟩
theorem w_alC (HN : w_RelN n (w_st μ 1) (ν 242) G M W S E) {w : Nat} (hw : w < W) {t : Int32} : ∀ (f i : Nat), i ≤ S → S - i < f → pA_isAligned_L2 f μ (Int32.ofNat w) t (fun k7 => some 0) (Int32.ofNat i) = some (Int32.ofNat (w_b01 (w_alS (ν 242) w t S i))) := by
  have hS := HN.2.2.2.2.1.2.2.1
  have hc : μ 12 0 = Int32.ofNat S := HN.2.2.2.2.1.1
  intro f
  induction f with
  | zero => intro i _ h; omega
  | succ f ih =>
    intro i hi hf
    show pA_isAligned_L2_B (pA_isAligned_L2 f μ (Int32.ofNat w) t (fun k7 => some 0)) μ (Int32.ofNat w) t (fun k7 => some 0) (Int32.ofNat i) = _
    unfold pA_isAligned_L2_B
    rw [hc]
    by_cases hh : S ≤ i
    · rw [if_pos ((w_le (by omega) (by omega)).mpr hh), w_b0 (fun ⟨p, h1, h2, _⟩ => by omega)]
      rfl
    · obtain ⟨d1, d2, d3⟩ := w_sdv HN (p := i) (by omega)
      rw [if_neg (fun hc => hh ((w_le (by omega) (by omega)).mp hc)), w_rdn (by omega) (by omega), d2]
      dsimp only [Option.bind_some]
      rw [show (0 : Int32) = Int32.ofNat 0 from rfl, w_leastC HN hw d1]
      dsimp only [Option.bind_some]
      by_cases hl : t < Int32.ofNat (w_L (ν 242) w (w_sd (ν 242) i) 0)
      · rw [if_pos hl, show Int32.ofNat i + 1 = Int32.ofNat (i + 1) from w_ar2]
        have e : w_alS (ν 242) w t S i = w_alS (ν 242) w t S (i + 1) := propext ⟨fun ⟨p, h1, h2, h3⟩ => ⟨p, by
          have : p ≠ i := fun hpi => h3 (hpi ▸ hl)
          omega, h2, h3⟩, fun ⟨p, h1, h2, h3⟩ => ⟨p, by omega, h2, h3⟩⟩
        rw [e]
        exact ih (i + 1) (by omega) (by omega)
      · rw [if_neg hl, w_b1 ⟨i, Nat.le_refl _, by omega, hl⟩]
        rfl
theorem w_alM (HN : w_RelN n (w_st μ 1) (ν 242) G M W S E) {w : Nat} (hw : w < W) {t : Int32} {K : Int32 → Int32 → Option Int32} : ∀ (f i : Nat) (P : Prop), i ≤ S → S - i < f → pm_isAligned_L5 f ν (Int32.ofNat w) t K (Int32.ofNat (w_b01 P)) (Int32.ofNat i) = K (Int32.ofNat (w_b01 (P ∨ w_alS (ν 242) w t S i))) (Int32.ofNat S) := by
  have hS := HN.2.2.2.2.1.2.2.1
  have hc : ν 242 2 = Int32.ofNat S := HN.2.2.2.2.1.2.1
  intro f
  induction f with
  | zero => intro i P _ h; omega
  | succ f ih =>
    intro i P hi hf
    show pm_isAligned_L5_B (pm_isAligned_L5 f ν (Int32.ofNat w) t K) ν (Int32.ofNat w) t K (Int32.ofNat (w_b01 P)) (Int32.ofNat i) = _
    unfold pm_isAligned_L5_B
    rw [hc]
    by_cases hh : S ≤ i
    · have e : (P ∨ w_alS (ν 242) w t S i) = P := propext ⟨fun h => h.elim id (fun ⟨p, h1, h2, _⟩ => by omega), Or.inl⟩
      rw [if_pos ((w_le (by omega) (by omega)).mpr hh), e, show i = S by omega]
    · obtain ⟨d1, d2, d3⟩ := w_sdv HN (p := i) (by omega)
      rw [if_neg (fun hc => hh ((w_le (by omega) (by omega)).mp hc)), show (243 : Int32) + Int32.ofNat i = Int32.ofNat (243 + i) from w_al, w_rdn (by omega) (by omega), d3, show Int32.ofNat i + 1 = Int32.ofNat (i + 1) from w_ar2]
      dsimp only [Option.bind_some]
      rw [show pm_distance ν (Int32.ofNat w) (Int32.ofNat (w_sd (ν 242) i)) 0 = _ from w_leastM HN hw (mt := 0) d1]
      dsimp only [Option.bind_some]
      have k0 : ∀ a : Int32, a = Int32.ofNat (w_b01 False) → pm_isAligned_L5 f ν (Int32.ofNat w) t K a (Int32.ofNat (i + 1)) = K (Int32.ofNat (w_b01 (False ∨ w_alS (ν 242) w t S (i + 1)))) (Int32.ofNat S) := fun a ha => by
        rw [ha]; exact ih (i + 1) False (by omega) (by omega)
      have k1 : ∀ a : Int32, a = Int32.ofNat (w_b01 True) → pm_isAligned_L5 f ν (Int32.ofNat w) t K a (Int32.ofNat (i + 1)) = K (Int32.ofNat (w_b01 (True ∨ w_alS (ν 242) w t S (i + 1)))) (Int32.ofNat S) := fun a ha => by
        rw [ha]; exact ih (i + 1) True (by omega) (by omega)
      have e1 : (1 : Int32) = Int32.ofNat (w_b01 True) := by rw [w_b1 trivial]; rfl
      have e0 : (0 : Int32) = Int32.ofNat (w_b01 False) := by rw [w_b0 id]; rfl
      by_cases hP : P
      · rw [if_neg (by rw [w_b1 hP]; exact w_10), k1 1 e1, w_b1 (Or.inl trivial), w_b1 (Or.inl hP)]
      · rw [if_pos (by rw [w_b0 hP]; rfl)]
        by_cases hl : t < Int32.ofNat (w_L (ν 242) w (w_sd (ν 242) i) 0)
        · rw [if_pos hl, k0 0 e0]
          have e : (False ∨ w_alS (ν 242) w t S (i + 1)) = (P ∨ w_alS (ν 242) w t S i) := propext ⟨fun h => Or.inr (h.elim False.elim (fun ⟨p, h1, h2, h3⟩ => ⟨p, by omega, h2, h3⟩)), fun h => h.elim (fun h => (hP h).elim) (fun ⟨p, h1, h2, h3⟩ => Or.inr ⟨p, by
            have : p ≠ i := fun hpi => h3 (hpi ▸ hl)
            omega, h2, h3⟩)⟩
          rw [e]
        · rw [if_neg hl, k1 1 e1, w_b1 (Or.inl trivial), w_b1 (Or.inr ⟨i, Nat.le_refl _, by omega, hl⟩)]
def w_alg (g : Nat → Int32) (t : Int32) (S w : Nat) : Prop := w_alS g w t S 0
theorem w_isAlC (HN : w_RelN n (w_st μ 1) (ν 242) G M W S E) {w : Nat} (hw : w < W) {t : Int32} : pA_isAligned μ (Int32.ofNat w) t = some (Int32.ofNat (w_b01 (w_alg (ν 242) t S w))) :=
  w_alC HN hw z_fu 0 (Nat.zero_le _) (by have := HN.2.2.2.2.1.2.2.1; show _ - 0 < 3000; omega)
theorem w_isAlM (HN : w_RelN n (w_st μ 1) (ν 242) G M W S E) {w : Nat} (hw : w < W) {t : Int32} : pm_isAligned ν (Int32.ofNat w) t = some (Int32.ofNat (w_b01 (w_alg (ν 242) t S w))) := by
  have h := w_alM HN hw (t := t) (K := fun k8 k9 => if vp_nar .boolean k8 = k8 then some k8 else none) z_fu 0 False (Nat.zero_le _) (by have := HN.2.2.2.2.1.2.2.1; show _ - 0 < 3000; omega)
  have e : (False ∨ w_alS (ν 242) w t S 0) = w_alg (ν 242) t S w := propext ⟨fun h => h.elim False.elim id, Or.inr⟩
  rw [e, w_b0 id] at h
  refine h.trans ?_
  by_cases hp : w_alg (ν 242) t S w
  · rw [w_b1 hp]; rfl
  · rw [w_b0 hp]; rfl
theorem w_afC (HN : w_RelN n (w_st μ 1) (ν 242) G M W S E) {t : Int32} {K : Int32 → Int32 → Option (UInt32 ⊕ Nat)} : ∀ (f i : Nat), i ≤ W → W - i < f → pG_alignedFraction_L47 f μ t (Int32.ofNat W) K (Int32.ofNat (w_num (w_alg (ν 242) t S) i)) (Int32.ofNat i) = K (Int32.ofNat (w_num (w_alg (ν 242) t S) W)) (Int32.ofNat W) := by
  have hW := HN.2.2.2.1.2.2.1
  intro f
  induction f with
  | zero => intro i _ h; omega
  | succ f ih =>
    intro i hi hf
    show pG_alignedFraction_L47_B (pG_alignedFraction_L47 f μ t (Int32.ofNat W) K) μ t (Int32.ofNat W) K (Int32.ofNat (w_num (w_alg (ν 242) t S) i)) (Int32.ofNat i) = _
    unfold pG_alignedFraction_L47_B
    by_cases hh : W ≤ i
    · rw [if_pos ((w_le (by omega) (by omega)).mpr hh), show i = W by omega]
    · rw [if_neg (fun hc => hh ((w_le (by omega) (by omega)).mp hc)), w_isAlC HN (by omega)]
      dsimp only [Option.bind_some]
      have h5 : w_num (w_alg (ν 242) t S) (i + 1) = w_num (w_alg (ν 242) t S) i + w_b01 (w_alg (ν 242) t S i) := rfl
      rw [show Int32.ofNat i + 1 = Int32.ofNat (i + 1) from w_ar2, ← ih (i + 1) (by omega) (by omega), h5]
      by_cases hp : w_alg (ν 242) t S i
      · rw [w_b1 hp, if_neg (show ¬ Int32.ofNat 1 = 0 from w_10), show Int32.ofNat (w_num (w_alg (ν 242) t S) i) + 1 = _ from w_ar2]
      · rw [w_b0 hp, if_pos (show Int32.ofNat 0 = 0 from rfl)]
        rfl
theorem w_afM (HN : w_RelN n (w_st μ 1) (ν 242) G M W S E) {t : Int32} {K : Int32 → Int32 → Option (UInt32 × z_Mem)} : ∀ (f i : Nat), i ≤ W → W - i < f → pm_alignedFraction_L37 f ν t K (Int32.ofNat (w_num (w_alg (ν 242) t S) i)) (Int32.ofNat i) = K (Int32.ofNat (w_num (w_alg (ν 242) t S) W)) (Int32.ofNat W) := by
  have hW := HN.2.2.2.1.2.2.1
  have hc : ν 242 1 = Int32.ofNat W := HN.2.2.2.1.2.1
  intro f
  induction f with
  | zero => intro i _ h; omega
  | succ f ih =>
    intro i hi hf
    show pm_alignedFraction_L37_B (pm_alignedFraction_L37 f ν t K) ν t K (Int32.ofNat (w_num (w_alg (ν 242) t S) i)) (Int32.ofNat i) = _
    unfold pm_alignedFraction_L37_B
    rw [hc]
    by_cases hh : W ≤ i
    · rw [if_pos ((w_le (by omega) (by omega)).mpr hh), show i = W by omega]
    · rw [if_neg (fun hc => hh ((w_le (by omega) (by omega)).mp hc)), w_isAlM HN (by omega)]
      dsimp only [Option.bind_some]
      have h5 : w_num (w_alg (ν 242) t S) (i + 1) = w_num (w_alg (ν 242) t S) i + w_b01 (w_alg (ν 242) t S i) := rfl
      rw [show Int32.ofNat i + 1 = Int32.ofNat (i + 1) from w_ar2, ← ih (i + 1) (by omega) (by omega), h5]
      by_cases hp : w_alg (ν 242) t S i
      · rw [w_b1 hp, if_neg (show ¬ Int32.ofNat 1 = 0 from w_10), show Int32.ofNat (w_num (w_alg (ν 242) t S) i) + 1 = _ from w_ar2]
      · rw [w_b0 hp, if_pos (show Int32.ofNat 0 = 0 from rfl), show Int32.ofNat (w_num (w_alg (ν 242) t S) i) + 0 = _ from w_ar2]
end
theorem w_S44 : z_S44 w_Inv := fun n μ c1 I hn => by
  obtain ⟨G, M, W, S, E, HN⟩ := w_get I
  have hW := HN.2.2.2.1.2.2.1
  have cW : μ 9 0 = Int32.ofNat W := HN.2.2.2.1.1
  have gW : μ 242 1 = Int32.ofNat W := HN.2.2.2.1.2.1
  have HX : ∀ x, w_RelN (1000 * n) (w_st μ 1) (z_u μ 241 12 x 242) G M W S E := fun x => by
    rw [show z_u μ 241 12 x 242 = μ 242 from w_u_ne (by decide)]; exact HN
  have hm : ∀ (x : Int32) (K : Int32 → Int32 → Option (UInt32 × z_Mem)), pm_alignedFraction_L37 z_fu (z_u μ 241 12 x) c1 K 0 0 = K (Int32.ofNat (w_num (w_alg (z_u μ 241 12 x 242) c1 S) W)) (Int32.ofNat W) := fun x K => w_afM (μ := μ) (ν := z_u μ 241 12 x) (HX x) z_fu 0 (Nat.zero_le _) (by show _ - 0 < 3000; omega)
  have bad : ∀ (E j : Nat), ([1, 4] : List Nat)[j]? = some E → ¬ Int32.ofNat (j + 1) = 0 → pG_alignedFraction μ c1 = some (.inr E) → pm_alignedFraction μ c1 = some (FP.fconst0, z_u μ 241 12 (Int32.ofNat (j + 1))) → ∃ (r : UInt32 ⊕ Nat) (b : UInt32) (μ2 : z_Mem), pG_alignedFraction μ c1 = some r ∧ pm_alignedFraction μ c1 = some (b, μ2) ∧ z_agF [1, 4] r b (μ2 241 12) ∧ (∀ v, r = .inl v → z_n64 (FP.f2d v) = true) ∧ (μ2 241 12 = 0 → z_n64 (FP.f2d b) = true) ∧ (μ2 241 12 = 0 → Op.cmpValue (FP.dcmp (FP.f2d b) (FP.f2d b)) .l = 0) ∧ w_Inv (n + 1) μ2 := fun E j hj hne h1 h2 =>
    ⟨_, _, _, h1, h2, ⟨j, hj, w_u_eq⟩, (fun v hv => by cases hv), (fun h => by rw [w_u_eq] at h; exact (hne h).elim), (fun h => by rw [w_u_eq] at h; exact (hne h).elim), w_Q12 I⟩
  have hin : (pG_isWithin μ c1 0 1800 = some 0 ∧ pm_in μ c1 0 1800 = some 0) ∨ (pG_isWithin μ c1 0 1800 = some 1 ∧ pm_in μ c1 0 1800 = some 1) := by
    unfold pG_isWithin pm_in
    by_cases h1 : c1 < 0
    · rw [if_pos h1]; exact Or.inl ⟨rfl, rfl⟩
    · rw [if_neg h1]
      by_cases h2 : 1800 < c1
      · rw [if_pos h2]; exact Or.inl ⟨rfl, rfl⟩
      · rw [if_neg h2]; exact Or.inr ⟨rfl, rfl⟩
  rcases hin with ⟨e1, e2⟩ | ⟨e1, e2⟩
  · refine bad 1 0 rfl w_10 ?_ ?_
    · unfold pG_alignedFraction
      rw [e1]
      rfl
    · unfold pm_alignedFraction
      rw [e2]
      dsimp only [Option.bind_some]
      rw [if_pos rfl, hm, if_neg (by rw [w_u_eq]; exact w_10)]
      rfl
  · by_cases h0 : W = 0
    · subst h0
      refine bad 4 1 rfl (by decide) ?_ ?_
      · unfold pG_alignedFraction
        rw [e1]
        dsimp only [Option.bind_some]
        rw [if_neg w_10, if_pos (show μ 9 0 = 0 from cW)]
      · unfold pm_alignedFraction
        rw [e2]
        dsimp only [Option.bind_some]
        rw [if_neg w_10, if_pos (show μ 242 1 = 0 from gW), hm, if_neg (by rw [w_u_eq]; decide)]
        rfl
    · have n1 : ¬ μ 9 0 = 0 := by
        rw [cW]; exact fun hc => h0 ((w_eq (a := W) (b := 0) (by omega) (by omega)).mp hc)
      have n2 : ¬ μ 242 1 = 0 := by
        rw [gW]; exact fun hc => h0 ((w_eq (a := W) (b := 0) (by omega) (by omega)).mp hc)
      have hle := w_num_le (p := w_alg (μ 242) c1 S) (n := W)
      obtain ⟨f1, f2, f3⟩ := w_d32 (a := w_num (w_alg (μ 242) c1 S) W) (w := W) (by omega) (by omega) hW
      refine ⟨.inl (w_f32 (w_num (w_alg (μ 242) c1 S) W) W), w_f32 (w_num (w_alg (μ 242) c1 S) W) W, z_u μ 241 12 0, ?_, ?_, ⟨w_u_eq, rfl⟩, (fun v hv => by cases hv; exact f2), (fun _ => f2), (fun _ => f3), w_Q12 I⟩
      · unfold pG_alignedFraction
        rw [e1]
        dsimp only [Option.bind_some]
        rw [if_neg w_10, if_neg n1, cW]
        have h7 := w_afC HN (t := c1) (K := fun k9 k10 => if z_n32 (FP.fdiv (FP.i2f k9) (FP.i2f (Int32.ofNat W))) = true then some (.inl (FP.fdiv (FP.i2f k9) (FP.i2f (Int32.ofNat W)))) else none) z_fu 0 (Nat.zero_le _) (by show _ - 0 < 3000; omega)
        refine h7.trans ?_
        show (if z_n32 (w_f32 (w_num (w_alg (μ 242) c1 S) W) W) = true then _ else _) = _
        rw [if_pos f1]
        rfl
      · unfold pm_alignedFraction
        rw [e2]
        dsimp only [Option.bind_some]
        rw [if_neg w_10, if_neg n2, hm, if_pos w_u_eq, show z_u μ 241 12 0 242 = μ 242 from w_u_ne (by decide), gW]
        show (if z_n32 (w_f32 (w_num (w_alg (μ 242) c1 S) W) W) = true then _ else _) = _
        rw [if_pos f1]
        rfl
end ZFRC
