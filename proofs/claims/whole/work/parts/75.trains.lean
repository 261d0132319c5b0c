/-! Trains counted, in both. -/
section ZTRN
section
variable {c : w_Cl} {G M : Nat}
noncomputable def w_sn (μ : z_Mem) : Nat := w_num (fun v => μ 33 v ≠ 0) 10
/-- gears that have been seen are marked, others not -/
def w_sb (G : Nat) (μ : z_Mem) : Prop := ∀ v, v < 10 → (μ 33 v = 0 ∨ (μ 33 v = 1 ∧ v < G))
theorem w_num_full {p : Nat → Prop} : ∀ {n : Nat}, n ≤ w_num p n → ∀ i, i < n → p i := by
  intro n
  induction n with
  | zero => intro _ i hi; omega
  | succ n ih =>
    intro h i hi
    have h1 : w_num p n + w_b01 (p n) = w_num p (n + 1) := rfl
    have h2 := w_num_le (p := p) (n := n)
    by_cases hp : p n
    · rw [w_b1 hp] at h1
      by_cases hin : i = n
      · subst hin; exact hp
      · exact ih (by omega) i (by omega)
    · rw [w_b0 hp] at h1
      omega
/-- a walk from u marks what it finds -/
def w_WP (c : w_Cl) (G M u : Nat) (μ μ' : z_Mem) (k : Nat) : Prop :=
  (∀ q, q ≠ 33 → μ' q = μ q) ∧ w_sb G μ' ∧ (∀ v, v < 10 → μ 33 v ≠ 0 → μ' 33 v ≠ 0) ∧ w_sn μ' = w_sn μ + k ∧ ∀ w, w < 10 → μ 33 w = 0 → μ' 33 w ≠ 0 → w_cn c M M u w ∧ ∀ v, w_EK c M w v → μ' 33 v ≠ 0
theorem w_cnE {u v : Nat} (h : w_EK c M u v) : w_cn c M M u v := by
  obtain ⟨e, he, hk⟩ := h
  exact w_conn_one he hk
theorem w_wkL (H : w_CT c G M) {u d : Nat} (hu : u < G) {F : z_Mem → Int32 → Int32 → Option (Int32 × z_Mem)} {μ0 : z_Mem} (hF : ∀ z μ, z < G → w_Str c μ 1 → w_sb G μ → d + 1 ≤ w_sn μ → ∃ k μ', F μ (Int32.ofNat z) (Int32.ofNat (d + 1)) = some (Int32.ofNat k, μ') ∧ w_WP c G M z μ μ' k ∧ μ' 33 z ≠ 0) :
    ∀ (f i : Nat) (μ : z_Mem) (a : Nat), i ≤ M → M - i < f → w_Str c μ 1 → (∀ q, q ≠ 33 → μ q = μ0 q) → w_sb G μ → d + 1 ≤ w_sn μ → (∀ v, v < 10 → μ0 33 v ≠ 0 → μ 33 v ≠ 0) → w_sn μ = w_sn μ0 + a → (∀ w, w < 10 → μ0 33 w = 0 → μ 33 w ≠ 0 → w ≠ u → w_cn c M M u w ∧ ∀ v, w_EK c M w v → μ 33 v ≠ 0) → μ 33 u ≠ 0 → (∀ e z, e < i → w_K c M e u z → μ 33 z ≠ 0) →
    ∃ k μ', pW_walkFrom_L32 f F (Int32.ofNat u) (Int32.ofNat d) (fun M17 k15 k16 => some (k15, M17)) μ (Int32.ofNat a) (Int32.ofNat i) = some (Int32.ofNat k, μ') ∧ w_WP c G M u μ0 μ' k ∧ μ' 33 u ≠ 0 := by
  have hG := H.2.2.1
  have hM := H.2.2.2.1
  intro f
  induction f with
  | zero => intro i μ a _ h; omega
  | succ f ih =>
    intro i μ a hi hf hs h1 h2 h3 h4 h5 h6 h7 h8
    show ∃ k μ', pW_walkFrom_L32_B (pW_walkFrom_L32 f F (Int32.ofNat u) (Int32.ofNat d) (fun M17 k15 k16 => some (k15, M17))) F (Int32.ofNat u) (Int32.ofNat d) (fun M17 k15 k16 => some (k15, M17)) μ (Int32.ofNat a) (Int32.ofNat i) = some (Int32.ofNat k, μ') ∧ _
    unfold pW_walkFrom_L32_B
    rw [show μ 2 1 = Int32.ofNat M from hs.2.1.trans H.2.1]
    by_cases h : M ≤ i
    · rw [if_pos ((w_le (by omega) (by omega)).mpr h)]
      refine ⟨a, μ, rfl, ⟨h1, h2, h4, h5, fun w hw w0 w1 => ?_⟩, h7⟩
      by_cases hwu : w = u
      · subst hwu
        refine ⟨w_conn_rfl, fun v hv => ?_⟩
        obtain ⟨e, he, hk⟩ := hv
        exact h8 e v (by omega) hk
      · exact h6 w hw w0 w1 hwu
    · rw [if_neg (fun hc => h ((w_le (by omega) (by omega)).mp hc)), w_across1 H hs (by omega) hu]
      dsimp only [Option.bind_some]
      rw [show Int32.ofNat i + 1 = Int32.ofNat (i + 1) from w_ar2]
      cases ho : w_o c i u with
      | none =>
        rw [if_pos (show w_oi none = -1 from rfl)]
        refine ih (i + 1) μ a (by omega) (by omega) hs h1 h2 h3 h4 h5 h6 h7 (fun e z he hk => ?_)
        by_cases hei : e = i
        · subst hei
          rw [w_o_of H hk] at ho
          cases ho
        · exact h8 e z (by omega) hk
      | some z =>
        have hz := w_o_some (M := M) (by omega) ho
        have hzG := (w_K_lt H hz).2
        rw [if_neg (show ¬ w_oi (some z) = -1 from w_nneg (k := 1) (by omega) (by decide) (by decide)), show Int32.ofNat d + 1 = Int32.ofNat (d + 1) from w_ar2]
        obtain ⟨k, μ1, e1, ⟨p1, p2, p3, p4, p5⟩, p6⟩ := hF z μ hzG hs h2 h3
        rw [show F μ (w_oi (some z)) (Int32.ofNat (d + 1)) = some (Int32.ofNat k, μ1) from e1]
        dsimp only [Option.bind_some]
        rw [show Int32.ofNat a + Int32.ofNat k = Int32.ofNat (a + k) from w_aa]
        refine ih (i + 1) μ1 (a + k) (by omega) (by omega) (w_Str_of hs (fun q q1 q2 => p1 q (by omega))) (fun q hq => (p1 q hq).trans (h1 q hq)) p2 (by omega) (fun v hv hv0 => p3 v hv (h4 v hv hv0)) (by omega) (fun w hw w0 w1 hwu => ?_) (p3 u (by omega) h7) (fun e z' he hk => ?_)
        · by_cases hw1 : μ 33 w = 0
          · obtain ⟨x1, x2⟩ := p5 w hw hw1 w1
            exact ⟨w_conn_trans (w_cnE (w_EK_of hz)) x1, x2⟩
          · obtain ⟨x1, x2⟩ := h6 w hw w0 hw1 hwu
            exact ⟨x1, fun v hv => p3 v (by have := (w_EK_lt H _ _ hv).2; omega) (x2 v hv)⟩
        · by_cases hei : e = i
          · subst hei
            rw [w_o_of H hk] at ho
            cases ho
            exact p6
          · exact p3 z' (by have := (w_K_lt H hk).2; omega) (h8 e z' (by omega) hk)
theorem w_wkD (H : w_CT c G M) : ∀ (nf u d : Nat) (μ : z_Mem), nf + d = 12 → u < G → w_Str c μ 1 → w_sb G μ → d ≤ w_sn μ → ∃ k μ', pW_walkFrom nf μ (Int32.ofNat u) (Int32.ofNat d) = some (Int32.ofNat k, μ') ∧ w_WP c G M u μ μ' k ∧ μ' 33 u ≠ 0 := by
  have hG := H.2.2.1
  intro nf
  induction nf with
  | zero =>
    intro u d μ h _ _ _ hd
    have := w_num_le (p := fun v => μ 33 v ≠ 0) (n := 10)
    unfold w_sn at hd
    omega
  | succ nf ih =>
    intro u d μ h hu hs hb hd
    have hself : w_WP c G M u μ μ 0 := ⟨fun _ _ => rfl, hb, fun _ _ h => h, rfl, fun w _ w0 w1 => absurd w0 w1⟩
    show ∃ k μ', pW_walkFrom_B (fun μ i2 i3 => pW_walkFrom nf μ i2 i3) μ (Int32.ofNat u) (Int32.ofNat d) = some (Int32.ofNat k, μ') ∧ _
    unfold pW_walkFrom_B
    have hd10 := w_num_le (p := fun v => μ 33 v ≠ 0) (n := 10)
    by_cases h10 : 10 ≤ d
    · rw [if_pos ((w_lel (k := 10) (by decide) (by omega)).mpr h10)]
      exact ⟨0, μ, rfl, hself, w_num_full (p := fun v => μ 33 v ≠ 0) (n := 10) (by unfold w_sn at hd; omega) u (by omega)⟩
    · rw [if_neg (fun q => h10 ((w_lel (k := 10) (by decide) (by omega)).mp q)), w_hasT (hs.1.trans H.1) hG hu]
      dsimp only [Option.bind_some]
      rw [if_neg w_10, w_rdn (by omega) (by omega)]
      dsimp only [Option.bind_some]
      by_cases h0 : μ 33 u = 0
      · rw [if_pos h0, if_pos ((w_inn (by omega)).mpr (by omega)), w_tn (by omega), show vp_nar .boolean 1 = 1 by decide]
        have hone : (1 : Int32) ≠ 0 := w_10
        have hsn : w_sn (z_u μ 33 u 1) = w_sn μ + 1 := by
          unfold w_sn
          refine w_num_del (x := u) (by omega) (by rw [w_u_eq]; exact hone) (fun i hi => ?_)
          by_cases hiu : i = u
          · subst hiu
            exact ⟨fun q => absurd h0 q, fun q => absurd rfl q.2⟩
          · rw [w_u_at hiu]
            exact ⟨fun q => ⟨q, hiu⟩, fun q => q.1⟩
        exact w_wkL H hu (F := fun μ i2 i3 => pW_walkFrom nf μ i2 i3) (μ0 := μ) (fun z μ' hz hs' hb' hd' => ih z (d + 1) μ' (by omega) hz hs' hb' hd') z_fu 0 (z_u μ 33 u 1) 1 (Nat.zero_le _) (by have := H.2.2.2.1; show M - 0 < 3000; omega) (w_Str_of hs (fun q _ _ => w_u_ne (by omega))) (fun q hq => w_u_ne hq) (fun v hv => by
            by_cases hvu : v = u
            · subst hvu; exact Or.inr ⟨w_u_eq, hu⟩
            · rw [w_u_at hvu]; exact hb v hv) (by omega) (fun v _ hv0 => by
            by_cases hvu : v = u
            · subst hvu; exact absurd h0 hv0
            · rw [w_u_at hvu]; exact hv0) hsn (fun w _ w0 w1 hwu => by rw [w_u_at hwu] at w1; exact absurd w0 w1) (by rw [w_u_eq]; exact hone) (fun e z he => absurd he (Nat.not_lt_zero _))
      · rw [if_neg h0]
        exact ⟨0, μ, rfl, hself, h0⟩
theorem w_fsL {K : z_Mem → Int32 → Option z_Mem} {μ0 : z_Mem} : ∀ (f i : Nat) (μ : z_Mem), i ≤ 10 → 10 - i < f → (∀ q, q ≠ 33 → μ q = μ0 q) → (∀ v, v < i → μ 33 v = 0) → ∃ μ', pW_forgetSeen_L2 f K μ (Int32.ofNat i) = K μ' (Int32.ofNat 10) ∧ (∀ q, q ≠ 33 → μ' q = μ0 q) ∧ ∀ v, v < 10 → μ' 33 v = 0 := by
  intro f
  induction f with
  | zero => intro i μ _ h; omega
  | succ f ih =>
    intro i μ hi hf h1 h2
    show ∃ μ', pW_forgetSeen_L2_B (pW_forgetSeen_L2 f K) K μ (Int32.ofNat i) = _ ∧ _
    unfold pW_forgetSeen_L2_B
    by_cases h : i = 10
    · subst h
      rw [if_pos (show (10 : Int32) ≤ Int32.ofNat 10 by decide)]
      exact ⟨μ, rfl, h1, h2⟩
    · rw [if_neg (fun q => h (by have : 10 ≤ i := (w_lel (k := 10) (by decide) (by omega)).mp q; omega)), if_pos ((w_inn (by omega)).mpr (by omega)), w_tn (by omega), show vp_nar .boolean 0 = 0 by decide, w_ar2]
      refine ih (i + 1) _ (by omega) (by omega) (fun q hq => (w_u_ne hq).trans (h1 q hq)) (fun v hv => ?_)
      by_cases hvi : v = i
      · subst hvi; rw [w_u_eq]
      · rw [w_u_at hvi]; exact h2 v (by omega)
theorem w_forget {μ : z_Mem} : ∃ μ', pW_forgetSeen μ = some μ' ∧ (∀ q, q ≠ 33 → μ' q = μ q) ∧ ∀ v, v < 10 → μ' 33 v = 0 :=
  w_fsL (K := fun M4 k3 => some M4) z_fu 0 μ (by omega) (by decide) (fun _ _ => rfl) (fun v hv => absurd hv (Nat.not_lt_zero _))
/-- what is closed holds whole trains -/
theorem w_closed (H : w_CT c G M) {P : Nat → Prop} (hP : ∀ w v, P w → w_EK c M w v → P v) {u v : Nat} (hu : P u) (h : w_cn c M M u v) : P v := by
  obtain ⟨n, h⟩ := h
  induction n generalizing u with
  | zero =>
    have : u = v := h
    subst this
    exact hu
  | succ n ih =>
    obtain ⟨e, w, h1, h2, h3⟩ := h
    exact ih (hP u w hu ⟨e, h1, h2⟩) h3
theorem w_cnG (H : w_CT c G M) {u v : Nat} (hu : u < G) (h : w_cn c M M u v) : v < G := w_closed H (P := fun w => w < G) (fun w v _ he => (w_EK_lt H _ _ he).2) hu h
theorem w_num_up {p : Nat → Prop} {n : Nat} : ∀ {m : Nat}, n ≤ m → (∀ i, n ≤ i → i < m → ¬ p i) → w_num p m = w_num p n := by
  intro m
  induction m with
  | zero => intro h _; have : n = 0 := by omega
            subst this; rfl
  | succ m ih =>
    intro h hp
    by_cases hnm : n = m + 1
    · rw [hnm]
    · show w_num p m + w_b01 (p m) = w_num p n
      rw [ih (by omega) (fun i h1 h2 => hp i h1 (by omega)), w_b0 (hp m (by omega) (by omega))]
      omega
theorem w_trainC (H : w_CT c G M) {μ : z_Mem} (hs : w_Str c μ 1) {u : Nat} (hu : u < G) : ∃ μ', pW_sizeOfTrain μ (Int32.ofNat u) = some (Int32.ofNat (w_num (w_cn c M M u) G), μ') ∧ ∀ q, q ≠ 33 → μ' q = μ q := by
  have hG := H.2.2.1
  obtain ⟨μ1, e1, e2, e3⟩ := w_forget (μ := μ)
  have h0 : w_sn μ1 = 0 := by
    unfold w_sn
    have := w_num_up (p := fun v => μ1 33 v ≠ 0) (n := 0) (m := 10) (by omega) (fun i _ hi q => q (e3 i hi))
    exact this
  obtain ⟨k, μ2, f1, ⟨f2, f3, f4, f5, f6⟩, f7⟩ := w_wkD H 12 u 0 μ1 rfl hu (w_Str_of hs (fun q _ _ => e2 q (by omega))) (fun v hv => Or.inl (e3 v hv)) (Nat.zero_le _)
  unfold pW_sizeOfTrain
  rw [e1]
  dsimp only [Option.bind_some]
  rw [show pW_walkFrom 12 μ1 (Int32.ofNat u) 0 = _ from f1]
  refine ⟨μ2, ?_, fun q hq => (f2 q hq).trans (e2 q hq)⟩
  have hk : k = w_num (w_cn c M M u) G := by
    have h1 : w_sn μ2 = w_num (w_cn c M M u) 10 := by
      refine w_num_cong (fun v hv => ⟨fun q => (f6 v hv (e3 v hv) q).1, fun q => ?_⟩)
      exact (w_closed H (P := fun w => w < G ∧ μ2 33 w ≠ 0) (fun w v' hw he => ⟨(w_EK_lt H _ _ he).2, (f6 w (by have := hw.1; omega) (e3 w (by have := hw.1; omega)) hw.2).2 v' he⟩) ⟨hu, f7⟩ q).2
    rw [w_num_up (n := G) (m := 10) hG (fun i h2 _ q => by have := w_cnG H hu q; omega)] at h1
    omega
  rw [hk]
  rfl
theorem w_tsL {μ : z_Mem} (H : w_CT c G M) {u : Nat} (h0 : μ 242 0 = Int32.ofNat G) (hb : ∀ v, v < 10 → (¬ μ 249 v = -1 ↔ w_cn c M M u v)) {f1 : Int32} {K : Int32 → Int32 → Option (Int32 × z_Mem)} : ∀ (f i : Nat), i ≤ G → G - i < f → pm_trainSize_L23 f μ f1 K (Int32.ofNat (w_num (w_cn c M M u) i)) (Int32.ofNat i) = K (Int32.ofNat (w_num (w_cn c M M u) G)) (Int32.ofNat G) := by
  have hG := H.2.2.1
  intro f
  induction f with
  | zero => intro i _ h; omega
  | succ f ih =>
    intro i hi hf
    show pm_trainSize_L23_B (pm_trainSize_L23 f μ f1 K) μ f1 K _ (Int32.ofNat i) = _
    unfold pm_trainSize_L23_B
    rw [h0]
    by_cases h : G ≤ i
    · rw [if_pos ((w_le (by omega) (by omega)).mpr h)]
      have : i = G := by omega
      rw [this]
    · rw [if_neg (fun q => h ((w_le (by omega) (by omega)).mp q)), w_rdn (by omega) (by omega)]
      dsimp only [Option.bind_some]
      have i2 := ih (i + 1) (by omega) (by omega)
      have hst : w_num (w_cn c M M u) (i + 1) = w_num (w_cn c M M u) i + w_b01 (w_cn c M M u i) := rfl
      rw [show Int32.ofNat i + 1 = Int32.ofNat (i + 1) from w_ar2]
      by_cases hv : μ 249 i = -1
      · rw [if_pos hv, Int32.add_zero]
        rw [hst, w_b0 (fun q => (hb i (by omega)).mpr q hv), Nat.add_zero] at i2
        exact i2
      · rw [if_neg hv, w_ar2]
        rw [hst, w_b1 ((hb i (by omega)).mp hv)] at i2
        exact i2
theorem w_backcn (H : w_CT c G M) {u : Nat} (hu : u < G) {b : Nat → Int32} (h1 : w_BI c M u b) (h2 : ∀ v l, w_pt (w_EK c M) u (v :: l) → ¬ b v = -1) : ∀ v, v < 10 → (¬ b v = -1 ↔ w_cn c M M u v) := fun v hv =>
  ⟨fun q => (w_cn_pt H).mpr (by obtain ⟨l, hl, -⟩ := h1 v hv q; exact ⟨l, hl⟩), fun q => by obtain ⟨l, hl⟩ := (w_cn_pt H).mp q; exact h2 v l hl⟩
end
theorem w_S12 : z_S12 w_Inv := fun n μ c1 I hn => by
  obtain ⟨G, M, W, S, E, HN⟩ := w_get I
  have H := w_CT_of HN.1 HN.2.1 HN.2.2.1
  have hR := w_Rf_of HN.1 HN.2.1
  obtain ⟨g1, g2, g3, -⟩ := HN.1
  unfold pG_trainSize pG_needGear
  rcases w_gear (μ := μ) (ν := μ) g1 g2 g3 c1 with ⟨e1, e2, u, hu, rfl⟩ | ⟨e1, e2⟩
  · rw [e1]
    dsimp only [Option.bind_some]
    rw [if_neg w_10]
    dsimp only [Option.bind_some]
    obtain ⟨μ1, f1, f2⟩ := w_trainC H w_Str_st hu
    rw [f1]
    dsimp only [Option.bind_some]
    have h242 : μ1 242 = μ 242 := f2 242 (by decide)
    have e3 : pm_isGear μ1 (Int32.ofNat u) = some 1 := by
      rcases w_gear (μ := μ) (ν := μ1) g1 (by rw [h242]; exact g2) g3 (Int32.ofNat u) with ⟨-, h, -⟩ | ⟨h, -⟩
      · exact h
      · rw [e1] at h; cases h
    obtain ⟨ν1, k1, k2, k3, k4⟩ := w_explores (μ := μ1) H hu (by rw [h242]; exact hR)
    have hb := w_backcn H hu k3 k4
    have hl := w_tsL (μ := ν1) H (by rw [k2 242 (by decide), h242]; exact g2) hb (f1 := Int32.ofNat u) (K := fun k10 k11 => (pm_done ν1 k10).bind fun q12 => some (q12.1, q12.2)) z_fu 0 (Nat.zero_le _) (by show G - 0 < 3000; omega)
    refine ⟨.inl (Int32.ofNat (w_num (w_cn (w_st μ 1) M M u) G)), μ1, Int32.ofNat (w_num (w_cn (w_st μ 1) M M u) G), z_u ν1 241 12 0, rfl, ?_, w_ag0 w_u_eq, ?_⟩
    · unfold pm_trainSize
      rw [e3]
      dsimp only [Option.bind_some]
      rw [if_neg w_10, k1]
      exact hl
    · exact w_quiet (fun q q1 q2 q3 => by rw [w_u_ne q3, k2 q q2, f2 q (by omega)]) (fun j hj => by rw [w_u_at hj, k2 241 (by decide), f2 241 (by decide)]) I
  · rw [e1]
    refine ⟨.inr 0, μ, 0, z_u μ 241 12 1, rfl, ?_, w_agE (j := 0) rfl w_u_eq, w_Q12 I⟩
    unfold pm_trainSize
    rw [e2]
    rfl
section
variable {c : w_Cl} {G M : Nat}
/-- the class's count: after i gears all their trains are marked -/
theorem w_cwL (H : w_CT c G M) {μ0 : z_Mem} {K : z_Mem → Int32 → Int32 → Option (Int32 × z_Mem)} : ∀ (f i : Nat) (μ : z_Mem), i ≤ G → G - i < f → w_Str c μ 1 → (∀ q, q ≠ 33 → μ q = μ0 q) → w_sb G μ → (∀ v, v < 10 → (μ 33 v ≠ 0 ↔ ∃ w, w < i ∧ w_cn c M M w v)) → ∃ μ', pW_countByWalks_L8 f K μ (Int32.ofNat (w_num (w_rep c M M) i)) (Int32.ofNat i) = K μ' (Int32.ofNat (w_num (w_rep c M M) G)) (Int32.ofNat G) ∧ ∀ q, q ≠ 33 → μ' q = μ0 q := by
  have hG := H.2.2.1
  intro f
  induction f with
  | zero => intro i μ _ h; omega
  | succ f ih =>
    intro i μ hi hf hs h1 h2 h3
    show ∃ μ', pW_countByWalks_L8_B (pW_countByWalks_L8 f K) K μ _ (Int32.ofNat i) = _ ∧ _
    unfold pW_countByWalks_L8_B
    rw [show μ 2 0 = Int32.ofNat G from hs.1.trans H.1]
    by_cases h : G ≤ i
    · rw [if_pos ((w_le (by omega) (by omega)).mpr h)]
      have : i = G := by omega
      rw [this]
      exact ⟨μ, rfl, h1⟩
    · rw [if_neg (fun q => h ((w_le (by omega) (by omega)).mp q))]
      obtain ⟨k, μ1, f1, ⟨f2, f3, f4, f5, f6⟩, f7⟩ := w_wkD H 12 i 0 μ rfl (by omega) hs h2 (Nat.zero_le _)
      rw [show pW_walkFrom 12 μ (Int32.ofNat i) 0 = _ from f1]
      dsimp only [Option.bind_some]
      rw [show Int32.ofNat i + 1 = Int32.ofNat (i + 1) from w_ar2]
      have hs1 : w_Str c μ1 1 := w_Str_of hs (fun q _ _ => f2 q (by omega))
      have hcl : ∀ w v, (w < G ∧ μ1 33 w ≠ 0) → w_EK c M w v → (v < G ∧ μ1 33 v ≠ 0) := by
        intro w v hw he
        refine ⟨(w_EK_lt H _ _ he).2, ?_⟩
        by_cases hw0 : μ 33 w = 0
        · exact (f6 w (by omega) hw0 hw.2).2 v he
        · obtain ⟨x, hx, hc⟩ := (h3 w (by omega)).mp hw0
          exact f4 v (by have := (w_EK_lt H _ _ he).2; omega) ((h3 v (by have := (w_EK_lt H _ _ he).2; omega)).mpr ⟨x, hx, w_conn_trans hc (w_cnE he)⟩)
      have h3' : ∀ v, v < 10 → (μ1 33 v ≠ 0 ↔ ∃ w, w < i + 1 ∧ w_cn c M M w v) := by
        intro v hv
        constructor
        · intro q
          by_cases hv0 : μ 33 v = 0
          · exact ⟨i, by omega, (f6 v hv hv0 q).1⟩
          · obtain ⟨w, hw, hc⟩ := (h3 v hv).mp hv0
            exact ⟨w, by omega, hc⟩
        · rintro ⟨w, hw, hc⟩
          by_cases hwi : w = i
          · subst hwi
            exact (w_closed H (P := fun w => w < G ∧ μ1 33 w ≠ 0) hcl ⟨by omega, f7⟩ hc).2
          · exact f4 v hv ((h3 v hv).mpr ⟨w, by omega, hc⟩)
      have i2 := ih (i + 1) μ1 (by omega) (by omega) hs1 (fun q hq => (f2 q hq).trans (h1 q hq)) f3 h3'
      have hst : w_num (w_rep c M M) (i + 1) = w_num (w_rep c M M) i + w_b01 (w_rep c M M i) := rfl
      have hle : w_sn μ1 ≤ 10 := w_num_le
      by_cases hr : w_rep c M M i
      · rw [hst, w_b1 hr] at i2
        have hk : k ≠ 0 := by
          rintro rfl
          have h0 : μ 33 i = 0 := by
            by_cases hz : μ 33 i = 0
            · exact hz
            · obtain ⟨w, hw, hc⟩ := (h3 i (by omega)).mp hz
              exact absurd hc (hr w hw)
          have hlt : w_sn μ + 1 ≤ w_sn μ1 := by
            unfold w_sn
            have h4 := w_num_del (p := fun v => μ1 33 v ≠ 0) (q := fun v => μ1 33 v ≠ 0 ∧ v ≠ i) (x := i) (n := 10) (by omega) f7 (fun _ _ => Iff.rfl)
            have h5 : ∀ m, m ≤ 10 → w_num (fun v => μ 33 v ≠ 0) m ≤ w_num (fun v => μ1 33 v ≠ 0 ∧ v ≠ i) m := by
              intro m
              induction m with
              | zero => intro _; exact Nat.le_refl _
              | succ m ihm =>
                intro hm
                have := ihm (by omega)
                show w_num (fun v => μ 33 v ≠ 0) m + w_b01 (μ 33 m ≠ 0) ≤ w_num (fun v => μ1 33 v ≠ 0 ∧ v ≠ i) m + w_b01 (μ1 33 m ≠ 0 ∧ m ≠ i)
                by_cases hm0 : μ 33 m = 0
                · rw [w_b0 (fun q => q hm0)]; omega
                · rw [w_b1 hm0, w_b1 ⟨f4 m (by omega) hm0, fun q => by rw [q] at hm0; exact hm0 h0⟩]; omega
            have := h5 10 (Nat.le_refl _)
            omega
          omega
        rw [if_neg (fun q => by have : k ≤ 0 := (w_ler (k := 0) (by decide) (by omega)).mp q; omega), w_ar2]
        exact i2
      · rw [hst, w_b0 hr, Nat.add_zero] at i2
        have hseen : μ 33 i ≠ 0 := by
          rw [h3 i (by omega)]
          by_cases hx : ∃ w, w < i ∧ w_cn c M M w i
          · exact hx
          · exact absurd (fun w hw hc => hx ⟨w, hw, hc⟩) hr
        have hk : k = 0 := by
          have hf : pW_walkFrom 12 μ (Int32.ofNat i) (Int32.ofNat 0) = some (Int32.ofNat 0, μ) := by
            show pW_walkFrom_B (fun μ i2 i3 => pW_walkFrom 11 μ i2 i3) μ (Int32.ofNat i) (Int32.ofNat 0) = _
            unfold pW_walkFrom_B
            rw [if_neg (by decide), w_hasT (hs.1.trans H.1) hG (by omega)]
            dsimp only [Option.bind_some]
            rw [if_neg w_10, w_rdn (by omega) (by omega)]
            dsimp only [Option.bind_some]
            rw [if_neg hseen]
            rfl
          rw [hf] at f1
          have := congrArg (fun z => z.map Prod.fst) f1
          have h6 := Option.some.inj this
          have := (w_eq (a := 0) (b := k) (by omega) (by omega)).mp h6
          omega
        rw [if_pos (by rw [hk]; decide)]
        exact i2
theorem w_countC (H : w_CT c G M) {μ : z_Mem} (hs : w_Str c μ 1) : ∃ μ', pW_countByWalks μ = some (Int32.ofNat (G - M), μ') ∧ ∀ q, q ≠ 33 → μ' q = μ q := by
  have hG := H.2.2.1
  obtain ⟨μ1, e1, e2, e3⟩ := w_forget (μ := μ)
  obtain ⟨μ2, f1, f2⟩ := w_cwL (K := fun M9 k7 k8 => some (k7, M9)) (μ0 := μ) H z_fu 0 μ1 (Nat.zero_le _) (by show G - 0 < 3000; omega) (w_Str_of hs (fun q _ _ => e2 q (by omega))) e2 (fun v hv => Or.inl (e3 v hv)) (fun v hv => ⟨fun q => absurd (e3 v hv) q, fun ⟨w, hw, _⟩ => absurd hw (Nat.not_lt_zero _)⟩)
  have hc := w_comps H M (Nat.le_refl _)
  unfold pW_countByWalks
  rw [e1]
  refine ⟨μ2, ?_, f2⟩
  rw [show G - M = w_num (w_rep c M M) G by omega]
  exact f1
theorem w_tcI {μ : z_Mem} (H : w_CT c G M) {u : Nat} (hu : u < G) (hb : ∀ v, v < 10 → (¬ μ 249 v = -1 ↔ w_cn c M M u v)) {f1 : Int32} {K : Int32 → Int32 → Option (Int32 × z_Mem)} : ∀ (f i : Nat) (a : Int32), i ≤ u → u - i < f → (a = 1 ∧ (∀ w, w < i → ¬ w_cn c M M w u) ∨ a = 0 ∧ ¬ w_rep c M M u) → pm_trainCount_L24 f μ f1 (Int32.ofNat u) K a (Int32.ofNat i) = K (if w_b01 (w_rep c M M u) = 1 then 1 else 0) (Int32.ofNat u) := by
  have hG := H.2.2.1
  intro f
  induction f with
  | zero => intro i a _ h; omega
  | succ f ih =>
    intro i a hi hf ha
    show pm_trainCount_L24_B (pm_trainCount_L24 f μ f1 (Int32.ofNat u) K) μ f1 (Int32.ofNat u) K a (Int32.ofNat i) = _
    unfold pm_trainCount_L24_B
    by_cases h : u ≤ i
    · rw [if_pos ((w_le (by omega) (by omega)).mpr h)]
      have : i = u := by omega
      subst this
      rcases ha with ⟨rfl, ha⟩ | ⟨rfl, ha⟩
      · rw [w_b1 (show w_rep c M M i from ha), if_pos rfl]
      · rw [w_b0 ha, if_neg (by decide)]
    · rw [if_neg (fun q => h ((w_le (by omega) (by omega)).mp q)), show Int32.ofNat i + 1 = Int32.ofNat (i + 1) from w_ar2]
      rcases ha with ⟨rfl, ha⟩ | ⟨rfl, ha⟩
      · rw [if_neg w_10, w_rdn (by omega) (by omega)]
        dsimp only [Option.bind_some]
        by_cases hv : μ 249 i = -1
        · rw [if_pos hv]
          refine ih (i + 1) 1 (by omega) (by omega) (Or.inl ⟨rfl, fun w hw hc => ?_⟩)
          by_cases hwi : w = i
          · subst hwi
            exact (hb w (by omega)).mpr (w_cn_sym H hc) hv
          · exact ha w (by omega) hc
        · rw [if_neg hv]
          exact ih (i + 1) 0 (by omega) (by omega) (Or.inr ⟨rfl, fun hr => hr i (by omega) (w_cn_sym H ((hb i (by omega)).mp hv))⟩)
      · rw [if_pos rfl]
        exact ih (i + 1) 0 (by omega) (by omega) (Or.inr ⟨rfl, ha⟩)
theorem w_tcO (H : w_CT c G M) {μ0 : z_Mem} (hR : w_Rf c G M (μ0 242)) {K : z_Mem → Int32 → Int32 → Option (Int32 × z_Mem)} : ∀ (f i : Nat) (μ : z_Mem), i ≤ G → G - i < f → (∀ q, q ≠ 249 → μ q = μ0 q) → ∃ μ', pm_trainCount_L4 f K μ (Int32.ofNat (w_num (w_rep c M M) i)) (Int32.ofNat i) = K μ' (Int32.ofNat (w_num (w_rep c M M) G)) (Int32.ofNat G) ∧ ∀ q, q ≠ 249 → μ' q = μ0 q := by
  have hG := H.2.2.1
  intro f
  induction f with
  | zero => intro i μ _ h; omega
  | succ f ih =>
    intro i μ hi hf h1
    show ∃ μ', pm_trainCount_L4_B (pm_trainCount_L4 f K) K μ _ (Int32.ofNat i) = _ ∧ _
    unfold pm_trainCount_L4_B
    have h242 : μ 242 = μ0 242 := h1 242 (by decide)
    rw [show μ 242 0 = Int32.ofNat G by rw [h242]; exact hR.1]
    by_cases h : G ≤ i
    · rw [if_pos ((w_le (by omega) (by omega)).mpr h)]
      have : i = G := by omega
      rw [this]
      exact ⟨μ, rfl, h1⟩
    · rw [if_neg (fun q => h ((w_le (by omega) (by omega)).mp q))]
      obtain ⟨μ1, k1, k2, k3, k4⟩ := w_explores (μ := μ) (r := i) H (by omega) (by rw [h242]; exact hR)
      rw [k1]
      dsimp only [Option.bind_some]
      rw [show Int32.ofNat i + 1 = Int32.ofNat (i + 1) from w_ar2]
      have hl := w_tcI (μ := μ1) H (u := i) (by omega) (w_backcn H (by omega) k3 k4) (f1 := Int32.ofNat (w_num (w_rep c M M) i)) (K := fun k9 k10 => if k9 = 0 then pm_trainCount_L4 f K μ1 (Int32.ofNat (w_num (w_rep c M M) i) + 0) (Int32.ofNat (i + 1)) else pm_trainCount_L4 f K μ1 (Int32.ofNat (w_num (w_rep c M M) i) + 1) (Int32.ofNat (i + 1))) z_fu 0 1 (Nat.zero_le _) (by show i - 0 < 3000; omega) (Or.inl ⟨rfl, fun w hw => absurd hw (Nat.not_lt_zero _)⟩)
      obtain ⟨μ2, f1, f2⟩ := ih (i + 1) μ1 (by omega) (by omega) (fun q hq => (k2 q hq).trans (h1 q hq))
      refine ⟨μ2, Eq.trans hl ?_, f2⟩
      have hst : w_num (w_rep c M M) (i + 1) = w_num (w_rep c M M) i + w_b01 (w_rep c M M i) := rfl
      by_cases hr : w_rep c M M i
      · rw [hst, w_b1 hr] at f1
        rw [w_b1 hr, if_pos rfl, if_neg w_10, w_ar2]
        exact f1
      · rw [hst, w_b0 hr, Nat.add_zero] at f1
        rw [w_b0 hr, if_neg (show ¬ (0 : Nat) = 1 by decide), if_pos rfl, Int32.add_zero]
        exact f1
theorem w_countM (H : w_CT c G M) {μ : z_Mem} (hR : w_Rf c G M (μ 242)) : ∃ μ', pm_trainCount μ = some (Int32.ofNat (G - M), z_u μ' 241 12 0) ∧ ∀ q, q ≠ 249 → μ' q = μ q := by
  have hG := H.2.2.1
  obtain ⟨μ2, f1, f2⟩ := w_tcO H hR (K := fun M14 k12 k13 => (pm_done M14 k12).bind fun q15 => some (q15.1, q15.2)) z_fu 0 μ (Nat.zero_le _) (by show G - 0 < 3000; omega) (fun _ _ => rfl)
  have hc := w_comps H M (Nat.le_refl _)
  refine ⟨μ2, ?_, f2⟩
  rw [show G - M = w_num (w_rep c M M) G by omega]
  exact f1
end
theorem w_S13 : z_S13 w_Inv := fun n μ I hn => by
  obtain ⟨G, M, W, S, E, HN⟩ := w_get I
  have H := w_CT_of HN.1 HN.2.1 HN.2.2.1
  have hR := w_Rf_of HN.1 HN.2.1
  obtain ⟨μ1, f1, f2⟩ := w_countC H w_Str_st
  obtain ⟨ν1, k1, k2⟩ := w_countM H (μ := μ1) (by rw [f2 242 (by decide)]; exact hR)
  unfold pG_trainCount
  rw [f1]
  exact ⟨_, μ1, _, rfl, k1, w_quiet (fun q q1 q2 q3 => by rw [w_u_ne q3, k2 q q2, f2 q (by omega)]) (fun j hj => by rw [w_u_at hj, k2 241 (by decide), f2 241 (by decide)]) I⟩
end ZTRN
