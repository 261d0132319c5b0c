/-! Turning, in both. -/
section ZTUB
theorem w_cnt_nat {p0 p : Nat → Int32} : ∀ n : Nat, n ≤ 10 → ∃ k, k ≤ n ∧ w_S (w_fc p0 p) n = Int32.ofNat k := by
  intro n
  induction n with
  | zero => intro _; exact ⟨0, Nat.le_refl _, rfl⟩
  | succ n ih =>
    intro hn
    obtain ⟨k, hk, h⟩ := ih (by omega)
    show ∃ k, k ≤ n + 1 ∧ w_S (w_fc p0 p) n + w_fc p0 p n = Int32.ofNat k
    rw [h]
    unfold w_fc
    by_cases hp : p n = p0 n
    · rw [if_pos hp, Int32.add_zero]; exact ⟨k, by omega, rfl⟩
    · rw [if_neg hp, w_ar2]; exact ⟨k + 1, by omega, rfl⟩
theorem w_turnBoth {n m G M W S E r : Nat} {b : Int32} {μ ν : z_Mem} (hn : n ≤ 1000000) (hm : n + 99 ≤ m) (HH : w_RelN n (w_st μ 1) (ν 242) G M W S E) (hr : r < G) (hb : b ≠ 0) (hb1 : -99 ≤ b.toInt) (hb2 : b.toInt ≤ 99) :
    ∃ k μ' ν', pT_turnGear 2 μ (Int32.ofNat r) b = some (Int32.ofNat k, μ') ∧ pm_turnsAll ν (Int32.ofNat r) b = some (Int32.ofNat k, ν') ∧ k ≤ 10 ∧ (∀ q, q ≠ 2 → q ≠ 4 → q ≠ 8 → μ' q = μ q) ∧ (∀ q, q ≠ 242 → q ≠ 248 → ν' q = ν q) ∧ w_RelN m (w_st μ' 1) (ν' 242) G M W S E := by
  obtain ⟨h1, h2, h3, h4, h5, h6, h7⟩ := HH
  have H := w_CT_of h1 h2 h3
  have hR := w_Rf_of h1 h2
  have hG := H.2.2.1
  have hu := w_EK_uni H
  have hgs := w_gs_of H
  obtain ⟨g1, g2, g3, g4, g5, g6, g7, g8⟩ := id h1
  have hgp : ∀ e x y, w_K (w_st μ 1) M e x y → ν 242 (127 + w_pr x y) = w_st μ 1 7 e := by
    intro e x y h
    obtain ⟨-, -, -, -, -, s, p, -, -, -, a9, -, a11⟩ := h2.2.2.1 e h.1
    rw [← w_K_pr h, a11, a9]
  obtain ⟨k, μ', e1, TC, e2⟩ := w_turnC (b := b) (tb := 1) H hr w_Str_st rfl hb
  obtain ⟨dl, ν', e3, RO⟩ := w_turnM (b := b) H hr hR (fun x y h => hgp _ x y (w_eo_K h)) hb
  obtain ⟨hD', hP'⟩ := w_RO_all H RO
  have TR := RO.1
  have hall : ∀ v l, w_pt (w_EK (w_st μ 1) M) r (v :: l) → w_sub (w_EK (w_st μ 1) M) r [r] v := fun v l h => w_sub_root h
  have hpos0 : ∀ v, v < 10 → μ 4 v = ν 242 (17 + v) := fun v hv => g5 v hv
  obtain ⟨hpos, hgap⟩ := w_TQ_eq hu hgs (pos0 := μ (1 + 1 + 2)) (pos0' := fun v => ν 242 (17 + v)) hpos0 TC.2.2.1 TR.2.2.1 (w_pt10 H hr) (fun v l h => Or.inl (hall v l h)) (fun x y l h => Or.inl (hall x (y :: l) h)) hD' hP' (fun x y _ => by rw [w_eo_symm]) (fun x y _ => by rw [w_pr_symm])
  have hpos' : ∀ v, v < 10 → μ' 4 v = ν' 242 (17 + v) := hpos
  have hcnt : w_cnt ν ν' = k := by
    rw [e2]
    exact w_S_cong (fun v hv => by
      show w_fc (fun v => ν 242 (17 + v)) (fun v => ν' 242 (17 + v)) v = w_fc (μ 4) (μ' 4) v
      unfold w_fc
      rw [hpos0 v hv, hpos' v hv])
  obtain ⟨kn, hk, hkn⟩ := w_cnt_nat (p0 := μ 4) (p := μ' 4) 10 (by decide)
  have hk2 : k = Int32.ofNat kn := e2.trans hkn
  rw [hcnt, hk2] at e3
  rw [hk2] at e1
  have rC : ∀ q, q ≠ 2 → q ≠ 4 → q ≠ 8 → μ' q = μ q := fun q a1 a2 a3 => TC.1 q a1 a2 a3
  have rM : ∀ q, q ≠ 242 → q ≠ 248 → ν' q = ν q := TR.1
  refine ⟨kn, μ', ν', e1, e3, hk, rC, rM, ?_, ?_, ?_, ?_, ?_, ?_, ?_⟩
  · have nop : ∀ i, G ≤ i → ¬ ∃ l, w_pt (w_EK (w_st μ 1) M) r (i :: l) := fun i hi ⟨l, hl⟩ => by
      have := w_pt_K H hr hl List.mem_cons_self
      omega
    refine ⟨(TC.2.1 0 (by decide)).trans g1, ?_, g3, fun i hi => ?_, hpos', fun i hi => ?_, fun i hi1 hi2 => ?_, ?_⟩
    · rw [TR.2.1 0 (by decide) (by omega) (by omega)]; exact g2
    · rw [TR.2.1 _ (by omega) (by omega) (by omega)]
      show μ' 3 i = _
      rw [rC 3 (by decide) (by decide) (by decide)]
      exact g4 i hi
    · rw [TR.2.1 _ (by omega) (by omega) (by omega)]; exact g6 i hi
    · have := TR.2.2.1.2.1 i hi2 (fun h => nop i hi1 h.2)
      exact this.trans (g7 i hi1 hi2)
    · show μ' 2 2 = ν' 242 6
      rw [show μ' 2 2 = _ from TC.2.2.2, TR.2.2.2, show μ (1 + 1) 2 = ν 242 6 from g8]
      refine congrArg (fun z => ν 242 6 + z) (w_S_cong (fun v hv => ?_))
      show w_fs (μ 4) (μ' 4) v = w_fs (fun v => ν 242 (17 + v)) (fun v => ν' 242 (17 + v)) v
      unfold w_fs
      rw [hpos0 v hv, hpos' v hv]
  · obtain ⟨a1, a2, a3, a4, a5⟩ := id h2
    have e4 : w_st μ' 1 4 = w_st μ 1 4 := rC 5 (by decide) (by decide) (by decide)
    have e5 : w_st μ' 1 5 = w_st μ 1 5 := rC 6 (by decide) (by decide) (by decide)
    have e6 : w_st μ' 1 6 = w_st μ 1 6 := rC 7 (by decide) (by decide) (by decide)
    unfold w_RM w_Rm
    rw [w_A_tr e4, w_B_tr e5, e4, e5, e6]
    refine ⟨(TC.2.1 1 (by decide)).trans a1, a2, fun e he => ?_, a4, fun a b' hab hb' => ?_⟩
    · obtain ⟨b1, b2, b3, b4, b5, s, p, b6, b7, b8, b9, b10, b11⟩ := a3 e he
      have := w_pr_lt (a := w_A (w_st μ 1) e) (b := w_B (w_st μ 1) e) (by omega) (by omega)
      have hK : w_K (w_st μ 1) M e (w_A (w_st μ 1) e) (w_B (w_st μ 1) e) := ⟨he, Or.inl ⟨rfl, rfl⟩⟩
      have hE := w_EK_of hK
      have heo := w_eo_eq H hK
      have hg1 : μ' 8 e = ν' 242 (127 + w_pr (w_A (w_st μ 1) e) (w_B (w_st μ 1) e)) := by
        have := hgap _ _ hE
        rw [heo] at this
        exact this
      have hq : ∀ x y l, w_K (w_st μ 1) M e x y → w_pt (w_EK (w_st μ 1) M) r (x :: y :: l) → ∃ q, q ≤ s ∧ μ' 8 e = Int32.ofNat q := by
        intro x y l hxy hp
        have hv := TC.2.2.1.2.2.1 x y l hp (hall x (y :: l) hp)
        dsimp only at hv
        rw [w_eo_eq H hxy] at hv
        have hgpv : w_gp (w_st μ 1) M x y = Int32.ofNat p := by unfold w_gp; rw [w_eo_eq H hxy]; exact b9
        have hslv : w_sl (w_st μ 1) M x y = Int32.ofNat s := by unfold w_sl; rw [w_eo_eq H hxy]; exact b8
        rw [hgpv, hslv] at hv
        have hbd := w_tv_bd (B := 99) (by decide) hgs hb1 hb2 hp.2.2
        obtain ⟨-, -, q, hq1, hq2⟩ := w_ps_bd (by decide) hbd.1 hbd.2 b6 b7
        exact ⟨q, hq1, hv.trans hq2⟩
      have hq2 : ∃ q, q ≤ s ∧ μ' 8 e = Int32.ofNat q := by
        by_cases hx : ∃ l, w_pt (w_EK (w_st μ 1) M) r (w_A (w_st μ 1) e :: w_B (w_st μ 1) e :: l)
        · obtain ⟨l, hl⟩ := hx
          exact hq _ _ l hK hl
        · by_cases hy : ∃ l, w_pt (w_EK (w_st μ 1) M) r (w_B (w_st μ 1) e :: w_A (w_st μ 1) e :: l)
          · obtain ⟨l, hl⟩ := hy
            exact hq _ _ l ((w_K_Jd H).1 _ _ _ hK) hl
          · have hv := TC.2.2.1.2.2.2 _ _ hE (fun h => hx h.2) (fun h => hy h.2)
            dsimp only at hv
            rw [heo] at hv
            refine ⟨p, b6, hv.trans ?_⟩
            unfold w_gp
            rw [heo]
            exact b9
      obtain ⟨q, hq3, hq4⟩ := hq2
      exact ⟨b1, b2, b3, b4, b5, s, q, hq3, b7, b8, hq4, by rw [TR.2.1 _ (by omega) (by omega) (by omega)]; exact b10, by rw [← hg1]; exact hq4⟩
    · have := w_pr_lt (a := a) (b := b') (by omega) hb'
      rw [TR.2.1 _ (by omega) (by omega) (by omega)]
      exact a5 a b' hab hb'
  · exact w_RF_tr (c := w_st μ 1) (rC 5 (by decide) (by decide) (by decide)) (rC 6 (by decide) (by decide) (by decide)) h3
  · exact w_RW_tr (c := w_st μ 1) (g := ν 242) (rC 9 (by decide) (by decide) (by decide)) (rC 10 (by decide) (by decide) (by decide)) (rC 11 (by decide) (by decide) (by decide)) (TR.2.1 1 (by decide) (by omega) (by omega)) (fun j j1 j2 => TR.2.1 j (by omega) (by omega) (by omega)) (Nat.le_refl _) h4
  · exact w_RY_tr (c := w_st μ 1) (g := ν 242) (rC 12 (by decide) (by decide) (by decide)) (rC 13 (by decide) (by decide) (by decide)) (rC 14 (by decide) (by decide) (by decide)) (rC 15 (by decide) (by decide) (by decide)) (TR.2.1 2 (by decide) (by omega) (by omega)) (TR.2.1 3 (by decide) (by omega) (by omega)) (TR.2.1 5 (by decide) (by omega) (by omega)) (fun j j1 j2 => TR.2.1 j (by omega) (by omega) (by omega)) h5
  · exact w_RE_tr (c := w_st μ 1) (g := ν 242) (rC 16 (by decide) (by decide) (by decide)) (rC 17 (by decide) (by decide) (by decide)) (rC 18 (by decide) (by decide) (by decide)) (rC 19 (by decide) (by decide) (by decide)) (rC 20 (by decide) (by decide) (by decide)) (TR.2.1 4 (by decide) (by omega) (by omega)) (fun j j1 j2 => TR.2.1 j (by omega) (by omega) (by omega)) h6
  · refine ⟨fun i hi => ?_, ?_, ?_⟩
    · have hb0 := h7.1 i hi
      by_cases hx : ∃ l, w_pt (w_EK (w_st μ 1) M) r (i :: l)
      · obtain ⟨l, hl⟩ := hx
        have hv : μ' 4 i = μ 4 i + w_tv (w_gp (w_st μ 1) M) (w_sl (w_st μ 1) M) b (i :: l) := TC.2.2.1.1 i l hl (hall i l hl)
        have hbd := w_tv_bd (B := 99) (by decide) hgs hb1 hb2 hl
        rw [← hpos' i hi, hv, hpos0 i hi, w_iadd (by omega) (by omega)]
        omega
      · have := TR.2.2.1.2.1 i hi (fun h => hx h.2)
        dsimp only at this
        rw [this]
        omega
    · rw [TR.2.1 3 (by decide) (by omega) (by omega)]
      have := h7.2.1
      omega
    · rw [TR.2.1 5 (by decide) (by omega) (by omega)]
      have := h7.2.2
      omega
theorem w_cTurn {n m : Nat} (hn : n ≤ 1000000) (hm : n + 99 ≤ m) (i1 i2 : Int32) (μ ν : z_Mem) (H : w_Rel n (w_st μ 1) (ν 242)) : ∃ a μ' b ν', pG_tryTurn μ i1 i2 = some (a, μ') ∧ pm_turns ν i1 i2 = some (b, ν') ∧ w_Core m [0, 1] a μ μ' b ν ν' := by
  obtain ⟨G, M, W, S, E, HH⟩ := H
  have h1 := HH.1
  unfold pG_tryTurn pm_turns
  rcases w_gear (μ := μ) (ν := ν) h1.1 h1.2.1 h1.2.2.1 i1 with ⟨e1, e2, r, hr, rfl⟩ | ⟨e1, e2⟩
  · rw [e1, e2]
    dsimp only [Option.bind_some]
    rw [if_neg w_10, if_neg w_10]
    by_cases h0 : i2 = 0
    · rw [if_pos h0, if_pos h0]
      exact ⟨_, _, _, _, rfl, rfl, w_Core_no (j := 1) (E := 1) rfl (by decide) (by decide) w_frC_rfl w_same_rfl⟩
    · rw [if_neg h0, if_neg h0]
      rcases w_within (μ := μ) (ν := ν) i2 (-99) 99 with ⟨e3, e4, b1, b2⟩ | ⟨e3, e4, -⟩
      · rw [e3, e4]
        dsimp only [Option.bind_some]
        rw [if_neg w_10, if_neg w_10]
        have b1' := Int32.le_iff_toInt_le.mp b1
        have b2' := Int32.le_iff_toInt_le.mp b2
        obtain ⟨k, μ', ν', f1, f2, hk, rC, rM, HN⟩ := w_turnBoth hn hm HH hr h0 b1' b2'
        rw [f1, f2]
        unfold pm_done
        dsimp only [Option.bind_some]
        refine ⟨_, _, _, _, rfl, rfl, fun q hq => rC q (by omega) (by omega) (by omega), ⟨fun q a1 a2 a3 a4 => (w_u_ne a4).trans (rM q a1 a2), fun j hj => by rw [w_u_at hj, rM 241 (by decide) (by decide)]⟩, Or.inl ⟨(w_le (a := 0) (by omega) (by omega)).mpr (Nat.zero_le _), rfl, w_u_eq, G, M, W, S, E, ?_, w_gl HH.1 (by omega) (by omega)⟩⟩
        rw [w_u_ne (by decide)]
        exact HN
      · rw [e3, e4]
        exact ⟨_, _, _, _, rfl, rfl, w_Core_no (j := 1) (E := 1) rfl (by decide) (by decide) w_frC_rfl w_same_rfl⟩
  · rw [e1, e2]
    exact ⟨_, _, _, _, rfl, rfl, w_Core_no (j := 0) (E := 0) rfl (by decide) (by decide) w_frC_rfl w_same_rfl⟩
end ZTUB
