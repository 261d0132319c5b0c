/-! Following a star, in both; the nearest star. -/
section ZFOL
section
variable {n G M W S E w : Nat} {μ ν : z_Mem}
theorem w_btL (HN : w_RelN n (w_st μ 1) (ν 242) G M W S E) (hw : w < W) {d : Nat} (hd : d < 3600) {K : Int32 → Int32 → Int32 → Option Int32} : ∀ (f k : Nat), k ≤ w_te (ν 242) w → w_te (ν 242) w - k < f → pA_bestTurn_L29 f μ (Int32.ofNat w) (Int32.ofNat d) (Int32.ofNat (w_te (ν 242) w)) K (Int32.ofNat (w_am (w_L (ν 242) w d) k)) (Int32.ofNat (w_ac (w_L (ν 242) w d) k)) (Int32.ofNat k) = K (Int32.ofNat (w_am (w_L (ν 242) w d) (w_te (ν 242) w))) (Int32.ofNat (w_ac (w_L (ν 242) w d) (w_te (ν 242) w))) (Int32.ofNat (w_te (ν 242) w)) := by
  obtain ⟨-, -, -, -, s1, s2⟩ := w_spv HN hw
  intro f
  induction f with
  | zero => intro k _ h; omega
  | succ f ih =>
    intro k hk hf
    show pA_bestTurn_L29_B (pA_bestTurn_L29 f μ (Int32.ofNat w) (Int32.ofNat d) (Int32.ofNat (w_te (ν 242) w)) K) μ (Int32.ofNat w) (Int32.ofNat d) (Int32.ofNat (w_te (ν 242) w)) K _ _ (Int32.ofNat k) = _
    unfold pA_bestTurn_L29_B
    by_cases h : w_te (ν 242) w ≤ k
    · rw [if_pos ((w_le (by omega) (by omega)).mpr h)]
      have : k = w_te (ν 242) w := by omega
      rw [this]
    · rw [if_neg (fun q => h ((w_le (by omega) (by omega)).mp q)), w_leastC HN hw hd]
      dsimp only [Option.bind_some]
      have hF : ∀ i, w_L (ν 242) w d i ≤ 1800 := fun i => w_L_le hd
      have hac : w_ac (w_L (ν 242) w d) k ≤ 3600 := by unfold w_ac; split; omega; have := hF (w_am (w_L (ν 242) w d) k); omega
      have st := w_ac_step (k := k) hF
      rw [w_ar2]
      have hFk := hF k
      by_cases hc : w_ac (w_L (ν 242) w d) k ≤ w_L (ν 242) w d k
      · rw [if_pos ((w_le (by omega) (by omega)).mpr hc), ← (st.1 hc).1, ← (st.1 hc).2]
        exact ih (k + 1) (by omega) (by omega)
      · rw [if_neg (fun q => hc ((w_le (by omega) (by omega)).mp q))]
        have e := ih (k + 1) (by omega) (by omega)
        rw [(st.2 hc).1, (st.2 hc).2] at e
        exact e
/-- how many teeth to the star -/
def w_T (g : Nat → Int32) (w d : Nat) : Nat := w_am (w_L g w d) (w_te g w)
theorem w_bestC (HN : w_RelN n (w_st μ 1) (ν 242) G M W S E) (hw : w < W) {d : Nat} (hd : d < 3600) : pA_bestTurn μ (Int32.ofNat w) (Int32.ofNat d) = some (Int32.ofNat (w_T (ν 242) w d)) := by
  obtain ⟨u, t, s, hu, t1, t2, s1, s2, a1, a2, a3, a4, a5, a6, a7⟩ := w_whl HN hw
  have hG := HN.1.2.2.1
  have hW := HN.2.2.2.1.2.2.1
  have ht : w_te (ν 242) w = t := by unfold w_te; rw [a2, w_tn (by omega), a4, w_tn (by omega)]
  unfold pA_bestTurn
  rw [w_rdn (by omega) (by omega), a1]
  dsimp only [Option.bind_some]
  rw [w_rdn (by omega) (by omega), a3]
  dsimp only [Option.bind_some]
  rw [← ht]
  exact w_btL HN hw hd (K := fun k9 k10 k11 => some k9) z_fu 0 (Nat.zero_le _) (by rw [ht]; show t - 0 < 3000; omega)
theorem w_tfL (HN : w_RelN n (w_st μ 1) (ν 242) G M W S E) (hw : w < W) {d : Nat} (hd : d < 3600) {f2 : Int32} {K : Int32 → Int32 → Option Int32} : ∀ (f k : Nat), 1 ≤ k → k ≤ w_te (ν 242) w → w_te (ν 242) w - k < f → pm_teethFor_L21 f ν (Int32.ofNat w) f2 (Int32.ofNat d) K (Int32.ofNat (w_am (w_L (ν 242) w d) k)) (Int32.ofNat k) = K (Int32.ofNat (w_T (ν 242) w d)) (Int32.ofNat (w_te (ν 242) w)) := by
  obtain ⟨u, t, s, hu, t1, t2, s1, s2, a1, a2, a3, a4, a5, a6, a7⟩ := w_whl HN hw
  have hG := HN.1.2.2.1
  have hW := HN.2.2.2.1.2.2.1
  have ht : w_te (ν 242) w = t := by unfold w_te; rw [a2, w_tn (by omega), a4, w_tn (by omega)]
  intro f
  induction f with
  | zero => intro k _ _ h; omega
  | succ f ih =>
    intro k hk1 hk hf
    show pm_teethFor_L21_B (pm_teethFor_L21 f ν (Int32.ofNat w) f2 (Int32.ofNat d) K) ν (Int32.ofNat w) f2 (Int32.ofNat d) K _ (Int32.ofNat k) = _
    unfold pm_teethFor_L21_B
    rw [show (227 : Int32) + Int32.ofNat w = Int32.ofNat (227 + w) from w_al, w_rdn (by omega) (by omega), a2]
    dsimp only [Option.bind_some]
    rw [show (7 : Int32) + Int32.ofNat u = Int32.ofNat (7 + u) from w_al, w_rdn (by omega) (by omega), a4, ← ht]
    dsimp only [Option.bind_some]
    by_cases h : w_te (ν 242) w ≤ k
    · rw [if_pos ((w_le (by omega) (by omega)).mpr h)]
      have : k = w_te (ν 242) w := by omega
      rw [this]
      rfl
    · rw [if_neg (fun q => h ((w_le (by omega) (by omega)).mp q)), w_leastM HN hw hd]
      dsimp only [Option.bind_some]
      rw [w_leastM HN hw hd]
      dsimp only [Option.bind_some]
      have hF : ∀ i, w_L (ν 242) w d i ≤ 1800 := fun i => w_L_le hd
      rw [w_ar2]
      have h1 := hF k
      have h2 := hF (w_am (w_L (ν 242) w d) k)
      by_cases hc : w_L (ν 242) w d (w_am (w_L (ν 242) w d) k) ≤ w_L (ν 242) w d k
      · rw [if_pos ((w_le (by omega) (by omega)).mpr hc)]
        have e : w_am (w_L (ν 242) w d) (k + 1) = w_am (w_L (ν 242) w d) k := if_neg (by omega)
        rw [← e]
        exact ih (k + 1) (by omega) (by omega) (by omega)
      · rw [if_neg (fun q => hc ((w_le (by omega) (by omega)).mp q))]
        have e : w_am (w_L (ν 242) w d) (k + 1) = k := if_pos (by omega)
        have i2 := ih (k + 1) (by omega) (by omega) (by omega)
        rw [e] at i2
        exact i2
theorem w_T_lt (HN : w_RelN n (w_st μ 1) (ν 242) G M W S E) (hw : w < W) {d : Nat} : w_T (ν 242) w d < 60 := by
  obtain ⟨-, -, -, -, s1, s2⟩ := w_spv HN hw
  have := w_am_lt (F := w_L (ν 242) w d) (k := w_te (ν 242) w) (by omega)
  unfold w_T
  omega
/-- a star's direction -/
theorem w_dir (HN : w_RelN n (w_st μ 1) (ν 242) G M W S E) {p : Nat} (hp : p < S) : ∃ d, d < 3600 ∧ μ 14 p = Int32.ofNat d ∧ ν 242 (243 + p) = Int32.ofNat d := by
  obtain ⟨-, h2, -, ⟨d, hd, h4⟩, -⟩ := HN.2.2.2.2.1.2.2.2.2.2 p hp
  exact ⟨d, hd, h2.trans h4, h4⟩
theorem w_bestM (HN : w_RelN n (w_st μ 1) (ν 242) G M W S E) (hw : w < W) {i2 : Int32} {p d : Nat} (hp : p < S) (hpl : pm_placeOf ν i2 = some (Int32.ofNat p)) (hd : d < 3600) (hdv : ν 242 (243 + p) = Int32.ofNat d) : pm_teethFor ν (Int32.ofNat w) i2 = some (Int32.ofNat (w_T (ν 242) w d)) := by
  have hS := HN.2.2.2.2.1.2.2.1
  obtain ⟨-, -, -, -, s1, s2⟩ := w_spv HN hw
  unfold pm_teethFor
  rw [hpl]
  dsimp only [Option.bind_some]
  rw [show (243 : Int32) + Int32.ofNat p = Int32.ofNat (243 + p) from w_al, w_rdn (by omega) (by omega), hdv]
  dsimp only [Option.bind_some]
  have h := w_tfL HN hw hd (f2 := i2) (K := fun k15 k16 => some k15) z_fu 1 (Nat.le_refl _) (by omega) (by show _ - 1 < 3000; omega)
  rw [w_am_1] at h
  exact h
end
theorem w_cFollow {n m : Nat} (hn : n ≤ 1000000) (hm : n + 99 ≤ m) (i1 i2 : Int32) (μ ν : z_Mem) (HH : w_Rel n (w_st μ 1) (ν 242)) : ∃ a μ' b ν', pG_tryFollow μ i1 i2 = some (a, μ') ∧ pm_follows ν i1 i2 = some (b, ν') ∧ w_Core m [0, 3] a μ μ' b ν ν' := by
  obtain ⟨G, M, W, S, E, HN⟩ := HH
  have hW := HN.2.2.2.1.2.2.1
  have hS := HN.2.2.2.2.1.2.2.1
  unfold pG_tryFollow pm_follows pm_whyNoStar
  rcases w_wheel (μ := μ) (ν := ν) HN.2.2.2.1.1 HN.2.2.2.1.2.1 hW i1 with ⟨e1, e2, w, hw, rfl⟩ | ⟨e1, e2⟩
  · rw [e1, e2]
    dsimp only [Option.bind_some]
    rw [if_neg w_10, if_neg w_10]
    rcases w_place HN.2.2.2.2.1 i2 with ⟨e3, e4⟩ | ⟨p, hp, e3, e4⟩
    · rw [e3, e4]
      exact ⟨_, _, _, _, rfl, rfl, w_Core_no (j := 1) (E := 3) rfl (by decide) (by decide) w_frC_rfl w_same_rfl⟩
    · rw [e3, e4]
      dsimp only [Option.bind_some]
      rw [if_neg (w_nneg (k := 1) (by omega) (by decide) (by decide)), if_neg (w_nneg (k := 1) (by omega) (by decide) (by decide))]
      dsimp only [Option.bind_some]
      rw [if_pos (Int32.le_refl 0)]
      obtain ⟨d, hd, d1, d2⟩ := w_dir HN hp
      rw [w_rdn (by omega) (by omega), d1]
      dsimp only [Option.bind_some]
      rw [w_bestC HN hw hd, w_bestM HN hw hp e4 hd d2]
      dsimp only [Option.bind_some]
      have hT := w_T_lt HN hw (d := d)
      by_cases h0 : w_T (ν 242) w d = 0
      · rw [if_pos (by rw [h0]; decide), if_pos (by rw [h0]; decide), show (243 : Int32) + Int32.ofNat p = Int32.ofNat (243 + p) from w_al, w_rdn (by omega) (by omega), d2]
        dsimp only [Option.bind_some]
        rw [show pA_leastDistance μ (Int32.ofNat w) (Int32.ofNat d) 0 = _ from w_leastC HN hw (mt := 0) hd, show pm_distance ν (Int32.ofNat w) (Int32.ofNat d) 0 = _ from w_leastM HN hw (mt := 0) hd]
        unfold pm_done
        dsimp only [Option.bind_some]
        have hL : w_L (ν 242) w d 0 ≤ 1800 := w_L_le hd
        refine ⟨_, _, _, _, rfl, rfl, w_frC_rfl, w_frM_12, Or.inl ⟨(w_le (a := 0) (by omega) (by omega)).mpr (Nat.zero_le _), rfl, w_u_eq, ?_⟩⟩
        rw [w_u_ne (by decide)]
        exact ⟨G, M, W, S, E, w_RelN_up (by omega) HN, w_gl HN.1 (by omega) (by omega)⟩
      · obtain ⟨u, t, s, hu, -, -, -, -, a1, a2, -, -, -, -, -⟩ := w_whl HN hw
        have hG := HN.1.2.2.1
        rw [if_neg (fun q => by have : w_T (ν 242) w d ≤ 0 := (w_ler (k := 0) (by decide) (by omega)).mp q; omega), if_neg (fun q => by have : w_T (ν 242) w d ≤ 0 := (w_ler (k := 0) (by decide) (by omega)).mp q; omega)]
        rw [w_rdn (by omega) (by omega), a1, show (227 : Int32) + Int32.ofNat w = Int32.ofNat (227 + w) from w_al, w_rdn (by omega) (by omega), a2]
        dsimp only [Option.bind_some]
        have tT := w_ti (a := w_T (ν 242) w d) (by omega)
        obtain ⟨k, μ', ν', f1, f2, hk, rC, rM, HN'⟩ := w_turnBoth (b := Int32.ofNat (w_T (ν 242) w d)) hn hm HN hu (fun q => h0 ((w_eqr (k := 0) (by decide) (by omega)).mp q)) (by omega) (by omega)
        rw [f1, f2]
        dsimp only [Option.bind_some]
        have hY : w_RY (w_st μ 1) (ν' 242) S := w_RY_tr (c := w_st μ' 1) (rC 12 (by decide) (by decide) (by decide)).symm (rC 13 (by decide) (by decide) (by decide)).symm (rC 14 (by decide) (by decide) (by decide)).symm (rC 15 (by decide) (by decide) (by decide)).symm rfl rfl rfl (fun _ _ _ => rfl) HN'.2.2.2.2.1
        have hpl : pm_placeOf ν' i2 = some (Int32.ofNat p) := by
          rcases w_place hY i2 with ⟨x1, -⟩ | ⟨p', hp', x1, x2⟩
          · rw [e3] at x1
            exact absurd (Option.some.inj x1) (w_nneg (k := 1) (by omega) (by decide) (by decide))
          · rw [e3] at x1
            rw [x2]
            exact congrArg some (Option.some.inj x1).symm
        have d3 : ν' 242 (243 + p) = Int32.ofNat d := by
          have := (hY.2.2.2.2.2 p hp).2.1
          rw [← this]
          exact d1
        rw [hpl]
        dsimp only [Option.bind_some]
        rw [show (243 : Int32) + Int32.ofNat p = Int32.ofNat (243 + p) from w_al, w_rdn (by omega) (by omega), d3]
        dsimp only [Option.bind_some]
        rw [show pA_leastDistance μ' (Int32.ofNat w) (Int32.ofNat d) 0 = _ from w_leastC HN' hw (mt := 0) hd, show pm_distance ν' (Int32.ofNat w) (Int32.ofNat d) 0 = _ from w_leastM HN' hw (mt := 0) hd]
        unfold pm_done
        dsimp only [Option.bind_some]
        have hL : w_L (ν' 242) w d 0 ≤ 1800 := w_L_le hd
        refine ⟨_, _, _, _, rfl, rfl, fun q hq => rC q (by omega) (by omega) (by omega), ⟨fun q b1 b2 b3 b4 => (w_u_ne b4).trans (rM q b1 b2), fun j hj => by rw [w_u_at hj, rM 241 (by decide) (by decide)]⟩, Or.inl ⟨(w_le (a := 0) (by omega) (by omega)).mpr (Nat.zero_le _), rfl, w_u_eq, ?_⟩⟩
        rw [w_u_ne (by decide)]
        exact ⟨G, M, W, S, E, HN', w_gl HN.1 (by omega) (by omega)⟩
  · rw [e1, e2]
    exact ⟨_, _, _, _, rfl, rfl, w_Core_no (j := 0) (E := 0) rfl (by decide) (by decide) w_frC_rfl w_same_rfl⟩
end ZFOL
