/-! Turning a copy tooth by tooth. -/
section ZTRL
/-- free play, as a number -/
def w_hn (gp sl : Nat → Nat → Int32) : List Nat → Nat
  | [] => 0
  | [_] => 0
  | x :: y :: l => w_hn gp sl (y :: l) + (if l.length % 2 = 0 then (gp x y).toNatClampNeg else (sl x y).toNatClampNeg - (gp x y).toNatClampNeg)
theorem w_unit : ∀ s, s < 6 → ∀ p, p < 6 → p ≤ s → (w_ps 1 (Int32.ofNat p) (Int32.ofNat s) = (if p = 0 then -1 else 0) ∧ w_ng 1 (Int32.ofNat p) (Int32.ofNat s) = Int32.ofNat (p - 1)) ∧ w_ps (-1) (Int32.ofNat p) (Int32.ofNat s) = (if s - p = 0 then 1 else 0) ∧ w_ng (-1) (Int32.ofNat p) (Int32.ofNat s) = Int32.ofNat (s - (s - p - 1)) := by decide
section
variable {E : Nat → Nat → Prop} {gp sl gp' : Nat → Nat → Int32} {r : Nat}
theorem w_hn_cong {sl' : Nat → Nat → Int32} (hg : ∀ x y, E x y → gp x y = gp' x y ∧ sl x y = sl' x y) : ∀ {l : List Nat}, w_pt E r l → w_hn gp sl l = w_hn gp' sl' l := by
  intro l
  induction l with
  | nil => intro h; exact h.elim
  | cons x l ih =>
    intro h
    cases l with
    | nil => rfl
    | cons y l =>
      obtain ⟨q1, q2⟩ := hg x y h.1
      have e1 : w_hn gp sl (x :: y :: l) = w_hn gp sl (y :: l) + (if l.length % 2 = 0 then (gp x y).toNatClampNeg else (sl x y).toNatClampNeg - (gp x y).toNatClampNeg) := rfl
      have e2 : w_hn gp' sl' (x :: y :: l) = w_hn gp' sl' (y :: l) + (if l.length % 2 = 0 then (gp' x y).toNatClampNeg else (sl' x y).toNatClampNeg - (gp' x y).toNatClampNeg) := rfl
      rw [e1, e2, ih h.2.2, q1, q2]
theorem w_hn_h (hg : w_gs E gp sl) : ∀ {l : List Nat}, w_pt E r l → w_h gp sl l = Int32.ofNat (w_hn gp sl l) ∧ w_hn gp sl l ≤ 5 * (l.length - 1) := by
  intro l
  induction l with
  | nil => intro h; exact h.elim
  | cons x l ih =>
    intro h
    cases l with
    | nil => exact ⟨rfl, Nat.zero_le _⟩
    | cons y l =>
      obtain ⟨i1, i2⟩ := ih h.2.2
      obtain ⟨s, p, h1, h2, h3, h4⟩ := hg x y h.1
      have t1 : (gp x y).toNatClampNeg = p := by rw [h4, w_tn (by omega)]
      have t2 : (sl x y).toNatClampNeg = s := by rw [h3, w_tn (by omega)]
      show w_h gp sl (y :: l) + _ = Int32.ofNat (w_hn gp sl (y :: l) + _) ∧ w_hn gp sl (y :: l) + _ ≤ 5 * ((x :: y :: l).length - 1)
      rw [t1, t2, i1]
      simp only [List.length_cons] at i2 ⊢
      by_cases h0 : l.length % 2 = 0
      · rw [if_pos h0, if_pos h0, h4, w_aa]
        exact ⟨rfl, by omega⟩
      · rw [if_neg h0, if_neg h0, h4, h3, w_ss h1, w_aa]
        exact ⟨rfl, by omega⟩
/-- one tooth: the gear turns if there is no play, else the play shrinks -/
theorem w_tooth (hg : w_gs E gp sl) : ∀ {l : List Nat}, w_pt E r l → (w_hn gp sl l = 0 → w_tv gp sl 1 l = (if (l.length - 1) % 2 = 0 then 1 else -1)) ∧ (w_hn gp sl l ≠ 0 → w_tv gp sl 1 l = 0) := by
  intro l
  induction l with
  | nil => intro h; exact h.elim
  | cons x l ih =>
    intro h
    cases l with
    | nil => exact ⟨fun _ => rfl, fun q => absurd rfl q⟩
    | cons y l =>
      obtain ⟨i1, i2⟩ := ih h.2.2
      obtain ⟨s, p, h1, h2, h3, h4⟩ := hg x y h.1
      have t1 : (gp x y).toNatClampNeg = p := by rw [h4, w_tn (by omega)]
      have t2 : (sl x y).toNatClampNeg = s := by rw [h3, w_tn (by omega)]
      obtain ⟨⟨u1, -⟩, u3, -⟩ := w_unit s (by omega) p (by omega) h1
      have e1 : w_tv gp sl 1 (x :: y :: l) = w_ps (w_tv gp sl 1 (y :: l)) (Int32.ofNat p) (Int32.ofNat s) := by rw [← h3, ← h4]; rfl
      have e2 : w_hn gp sl (x :: y :: l) = w_hn gp sl (y :: l) + (if l.length % 2 = 0 then p else s - p) := by rw [← t1, ← t2]; rfl
      rw [e1, e2]
      simp only [List.length_cons, Nat.add_sub_cancel] at i1 i2 ⊢
      by_cases hz : w_hn gp sl (y :: l) = 0
      · rw [i1 hz, hz, Nat.zero_add]
        by_cases h0 : l.length % 2 = 0
        · rw [if_pos h0, if_pos h0, u1, if_neg (show ¬ (l.length + 1) % 2 = 0 by omega)]
          exact ⟨fun q => if_pos q, fun q => if_neg q⟩
        · rw [if_neg h0, if_neg h0, u3, if_pos (show (l.length + 1) % 2 = 0 by omega)]
          exact ⟨fun q => if_pos q, fun q => if_neg q⟩
      · rw [i2 hz, (w_ps_0 h1 h2).1]
        exact ⟨fun q => by omega, fun _ => rfl⟩
theorem w_tooth2 (hg : w_gs E gp sl) (hn : ∀ x y l, w_pt E r (x :: y :: l) → gp' x y = w_ng (w_tv gp sl 1 (y :: l)) (gp x y) (sl x y)) : ∀ {l : List Nat}, w_pt E r l → w_hn gp' sl l = w_hn gp sl l - 1 := by
  intro l
  induction l with
  | nil => intro h; exact h.elim
  | cons x l ih =>
    intro h
    cases l with
    | nil => rfl
    | cons y l =>
      have i1 := ih h.2.2
      obtain ⟨s, p, h1, h2, h3, h4⟩ := hg x y h.1
      have t1 : (gp x y).toNatClampNeg = p := by rw [h4, w_tn (by omega)]
      have t2 : (sl x y).toNatClampNeg = s := by rw [h3, w_tn (by omega)]
      obtain ⟨⟨-, u2⟩, -, u4⟩ := w_unit s (by omega) p (by omega) h1
      have hg' := hn x y l h
      rw [h3, h4] at hg'
      obtain ⟨j1, j2⟩ := w_tooth (r := r) hg h.2.2
      simp only [List.length_cons, Nat.add_sub_cancel] at j1
      show w_hn gp' sl (y :: l) + (if l.length % 2 = 0 then (gp' x y).toNatClampNeg else (sl x y).toNatClampNeg - (gp' x y).toNatClampNeg) = w_hn gp sl (y :: l) + (if l.length % 2 = 0 then (gp x y).toNatClampNeg else (sl x y).toNatClampNeg - (gp x y).toNatClampNeg) - 1
      rw [i1, t1, t2, hg']
      by_cases hz : w_hn gp sl (y :: l) = 0
      · rw [j1 hz, hz]
        by_cases h0 : l.length % 2 = 0
        · rw [if_pos h0, if_pos h0, if_pos h0, u2, w_tn (by omega)]
          omega
        · rw [if_neg h0, if_neg h0, if_neg h0, u4, w_tn (by omega)]
          omega
      · rw [j2 hz, (w_ps_0 h1 h2).2, w_tn (by omega)]
        split <;> omega
end
section
variable {c c' : w_Cl} {G M r tb : Nat}
theorem w_K_tr (h4 : c' 4 = c 4) (h5 : c' 5 = c 5) : w_K c' M = w_K c M := by
  funext e u v
  unfold w_K
  rw [w_J_tr h4 h5]
theorem w_eo_tr (h4 : c' 4 = c 4) (h5 : c' 5 = c 5) : w_eo c' M = w_eo c M := by
  funext x y
  unfold w_eo
  rw [w_K_tr h4 h5]
theorem w_EK_tr (h4 : c' 4 = c 4) (h5 : c' 5 = c 5) : w_EK c' M = w_EK c M := by
  unfold w_EK
  rw [w_K_tr h4 h5]
/-- after a tooth, the copy is a train still -/
theorem w_trial1 {μ : z_Mem} (H : w_CT (w_st μ tb) G M) (hr : r < G) : ∃ k μ', pT_turnGear (tb + 1) μ (Int32.ofNat r) 1 = some (k, μ') ∧ (∀ q, q ≠ tb + 1 → q ≠ tb + 1 + 2 → q ≠ tb + 1 + 6 → μ' q = μ q) ∧ w_CT (w_st μ' tb) G M ∧ w_EK (w_st μ' tb) M = w_EK (w_st μ tb) M ∧ w_sl (w_st μ' tb) M = w_sl (w_st μ tb) M ∧
    (∀ v l, w_pt (w_EK (w_st μ tb) M) r (v :: l) → μ' (tb + 1 + 2) v = μ (tb + 1 + 2) v + w_tv (w_gp (w_st μ tb) M) (w_sl (w_st μ tb) M) 1 (v :: l)) ∧ (∀ l, w_pt (w_EK (w_st μ tb) M) r l → w_hn (w_gp (w_st μ' tb) M) (w_sl (w_st μ tb) M) l = w_hn (w_gp (w_st μ tb) M) (w_sl (w_st μ tb) M) l - 1) := by
  have hG := H.2.2.1
  have hgs := w_gs_of H
  obtain ⟨k, μ', e1, TC, -⟩ := w_turnC (b := 1) (tb := tb) H hr w_Str_st rfl w_10
  have rC : ∀ q, q ≠ tb + 1 → q ≠ tb + 1 + 2 → q ≠ tb + 1 + 6 → μ' q = μ q := fun q a1 a2 a3 => TC.1 q a1 a2 a3
  have hall : ∀ v l, w_pt (w_EK (w_st μ tb) M) r (v :: l) → w_sub (w_EK (w_st μ tb) M) r [r] v := fun v l h => w_sub_root h
  have e4 : w_st μ' tb 4 = w_st μ tb 4 := rC (tb + 4) (by omega) (by omega) (by omega)
  have e5 : w_st μ' tb 5 = w_st μ tb 5 := rC (tb + 5) (by omega) (by omega) (by omega)
  have e6 : w_st μ' tb 6 = w_st μ tb 6 := rC (tb + 6) (by omega) (by omega) (by omega)
  have gap : ∀ x y l, w_pt (w_EK (w_st μ tb) M) r (x :: y :: l) → w_gp (w_st μ' tb) M x y = w_ng (w_tv (w_gp (w_st μ tb) M) (w_sl (w_st μ tb) M) 1 (y :: l)) (w_gp (w_st μ tb) M x y) (w_sl (w_st μ tb) M x y) := by
    intro x y l h
    have := TC.2.2.1.2.2.1 x y l h (hall x (y :: l) h)
    unfold w_gp at this ⊢
    rw [w_eo_tr e4 e5]
    exact this
  refine ⟨k, μ', e1, rC, ?_, w_EK_tr e4 e5, ?_, fun v l h => TC.2.2.1.1 v l h (hall v l h), fun l h => w_tooth2 hgs gap h⟩
  · obtain ⟨a1, a2, a3, a4, a5, a6, a7⟩ := id H
    refine ⟨(TC.2.1 0 (by decide)).trans a1, (TC.2.1 1 (by decide)).trans a2, a3, a4, fun e he => ?_, ?_, w_RF_tr e4 e5 a7⟩
    · obtain ⟨b1, b2, b3, b4, b5, s, p, b6, b7, b8, b9⟩ := a5 e he
      have hK : w_K (w_st μ tb) M e (w_A (w_st μ tb) e) (w_B (w_st μ tb) e) := ⟨he, Or.inl ⟨rfl, rfl⟩⟩
      have hE := w_EK_of hK
      have heo := w_eo_eq H hK
      have hq : ∀ x y l, w_K (w_st μ tb) M e x y → w_pt (w_EK (w_st μ tb) M) r (x :: y :: l) → ∃ q, q ≤ s ∧ μ' (tb + 1 + 6) e = Int32.ofNat q := by
        intro x y l hxy hp
        have hv := TC.2.2.1.2.2.1 x y l hp (hall x (y :: l) hp)
        dsimp only at hv
        rw [w_eo_eq H hxy] at hv
        have hgpv : w_gp (w_st μ tb) M x y = Int32.ofNat p := by unfold w_gp; rw [w_eo_eq H hxy]; exact b9
        have hslv : w_sl (w_st μ tb) M x y = Int32.ofNat s := by unfold w_sl; rw [w_eo_eq H hxy]; exact b8
        rw [hgpv, hslv] at hv
        have hbd := w_tv_bd (B := 99) (b := 1) (by decide) hgs (by decide) (by decide) hp.2.2
        obtain ⟨-, -, q, hq1, hq2⟩ := w_ps_bd (by decide) hbd.1 hbd.2 b6 b7
        exact ⟨q, hq1, hv.trans hq2⟩
      have hq2 : ∃ q, q ≤ s ∧ μ' (tb + 1 + 6) e = Int32.ofNat q := by
        by_cases hx : ∃ l, w_pt (w_EK (w_st μ tb) M) r (w_A (w_st μ tb) e :: w_B (w_st μ tb) e :: l)
        · obtain ⟨l, hl⟩ := hx
          exact hq _ _ l hK hl
        · by_cases hy : ∃ l, w_pt (w_EK (w_st μ tb) M) r (w_B (w_st μ tb) e :: w_A (w_st μ tb) e :: l)
          · obtain ⟨l, hl⟩ := hy
            exact hq _ _ l ((w_K_Jd H).1 _ _ _ hK) hl
          · have hv := TC.2.2.1.2.2.2 _ _ hE (fun h => hx h.2) (fun h => hy h.2)
            dsimp only at hv
            rw [heo] at hv
            refine ⟨p, b6, hv.trans ?_⟩
            unfold w_gp
            rw [heo]
            exact b9
      obtain ⟨q, hq3, hq4⟩ := hq2
      unfold w_Ce
      rw [w_A_tr e4, w_B_tr e5, e4, e5, e6]
      exact ⟨b1, b2, b3, b4, b5, s, q, hq3, b7, b8, hq4⟩
    · rw [w_A_tr e4, w_B_tr e5]
      exact a6
  · unfold w_sl
    rw [w_eo_tr e4 e5, e6]
theorem w_trL {v : Nat} {f1 : Int32} (hr : r < 10) (hv : v < 10) {E0 : Nat → Nat → Prop} {sl0 : Nat → Nat → Int32} {l : List Nat} (hp : w_pt E0 r (v :: l)) {start : Int32} {μ0 : z_Mem} {K : z_Mem → Int32 → Int32 → Option (Int32 × z_Mem)} : ∀ (f k h : Nat) (μ : z_Mem), k + h ≤ 45 → h < f → w_CT (w_st μ 23) G M → r < G → w_EK (w_st μ 23) M = E0 → w_sl (w_st μ 23) M = sl0 → w_hn (w_gp (w_st μ 23) M) sl0 (v :: l) = h → μ 26 v = start → (∀ q, ¬ (24 ≤ q ∧ q < 31) → μ q = μ0 q) → ∃ μ', pW_playOfTrial_L27 f (Int32.ofNat r) (Int32.ofNat v) start K μ (Int32.ofNat k) (Int32.ofNat k) = some (Int32.ofNat (k + h), μ') ∧ ∀ q, ¬ (24 ≤ q ∧ q < 31) → μ' q = μ0 q := by
  intro f
  induction f with
  | zero => intro k h μ _ h2; omega
  | succ f ih =>
    intro k h μ hk hf H hrG hE hsl hh hst h0
    show ∃ μ', pW_playOfTrial_L27_B (pW_playOfTrial_L27 f (Int32.ofNat r) (Int32.ofNat v) start K) (Int32.ofNat r) (Int32.ofNat v) start K μ (Int32.ofNat k) (Int32.ofNat k) = _ ∧ _
    unfold pW_playOfTrial_L27_B
    obtain ⟨kk, μ1, e1, e2, H1, hE1, hsl1, hpos, hhn⟩ := w_trial1 H hrG
    have hgs := w_gs_of H
    rw [hE, hsl] at hpos
    rw [hE, hsl] at hhn
    rw [hE, hsl] at hgs
    have hpv := hpos v l hp
    obtain ⟨t1, t2⟩ := w_tooth (r := r) hgs hp
    rw [if_neg (fun q => by have : 45 < k := (w_ltl (k := 45) (by decide) (by omega)).mp q; omega), show pT_turnGear 24 μ (Int32.ofNat r) 1 = _ from e1]
    dsimp only [Option.bind_some]
    rw [w_rdn (by omega) (by omega)]
    dsimp only [Option.bind_some]
    have hpv' : μ1 26 v = start + w_tv (w_gp (w_st μ 23) M) sl0 1 (v :: l) := by rw [← hst]; exact hpv
    have fr : ∀ q, ¬ (24 ≤ q ∧ q < 31) → μ1 q = μ0 q := fun q hq => (e2 q (by omega) (by omega) (by omega)).trans (h0 q hq)
    by_cases hz : h = 0
    · subst hz
      have h3 := t1 hh
      rw [if_neg (fun q => by
        rw [hpv', h3] at q
        have h4 := (Int32.add_eq_left).mp q
        split at h4 <;> exact absurd h4 (by decide))]
      exact ⟨μ1, rfl, fr⟩
    · have h3 := t2 (by rw [hh]; exact hz)
      rw [if_pos (by rw [hpv', h3, Int32.add_zero]), w_ar2]
      obtain ⟨μ', x1, x2⟩ := ih (k + 1) (h - 1) μ1 (by omega) (by omega) H1 hrG (hE1.trans hE) (hsl1.trans hsl) (by rw [hhn _ hp, hh]) (by rw [hpv', h3, Int32.add_zero]) fr
      refine ⟨μ', ?_, x2⟩
      rw [show k + h = k + 1 + (h - 1) by omega]
      exact x1
end
theorem w_copyT {μ : z_Mem} : ∃ μc, pT_copyFrom 24 2 μ = some μc ∧ (∀ q, ¬ (24 ≤ q ∧ q < 31) → μc q = μ q) ∧ (∀ j, j < 3 → μc 24 j = μ 2 j) ∧ ∀ k, 2 ≤ k → k ≤ 7 → ∀ j, j < w_sz k → μc (22 + (k + 1)) j = μ (k + 1) j := by
  refine ⟨_, rfl, fun q hq => ?_, fun j hj => ?_, fun k k1 k2 j hj => ?_⟩
  · rw [w_cp_ne (by omega), w_cp_ne (by omega), w_cp_ne (by omega), w_cp_ne (by omega), w_cp_ne (by omega), w_cp_ne (by omega), w_u_ne (by omega), w_u_ne (by omega), w_u_ne (by omega)]
  · rw [w_cp_ne (by decide), w_cp_ne (by decide), w_cp_ne (by decide), w_cp_ne (by decide), w_cp_ne (by decide), w_cp_ne (by decide)]
    rcases (show j = 0 ∨ j = 1 ∨ j = 2 by omega) with rfl | rfl | rfl
    · rw [w_u_at (by decide), w_u_at (by decide), w_u_eq]
    · rw [w_u_at (by decide), w_u_eq, w_u_ne (by decide)]
    · rw [w_u_eq, w_u_ne (by decide), w_u_ne (by decide)]
  · rcases (show k = 2 ∨ k = 3 ∨ k = 4 ∨ k = 5 ∨ k = 6 ∨ k = 7 by omega) with rfl | rfl | rfl | rfl | rfl | rfl
    · rw [w_cp_ne (by decide), w_cp_ne (by decide), w_cp_ne (by decide), w_cp_ne (by decide), w_cp_ne (by decide)]
      refine Eq.trans (w_cp0 (show j < 10 from hj)) ?_
      rw [w_u_ne (by decide), w_u_ne (by decide), w_u_ne (by decide)]
    · rw [w_cp_ne (by decide), w_cp_ne (by decide), w_cp_ne (by decide), w_cp_ne (by decide)]
      refine Eq.trans (w_cp0 (show j < 10 from hj)) ?_
      rw [w_cp_ne (by decide), w_u_ne (by decide), w_u_ne (by decide), w_u_ne (by decide)]
    · rw [w_cp_ne (by decide), w_cp_ne (by decide), w_cp_ne (by decide)]
      refine Eq.trans (w_cp0 (show j < 9 from hj)) ?_
      rw [w_cp_ne (by decide), w_cp_ne (by decide), w_u_ne (by decide), w_u_ne (by decide), w_u_ne (by decide)]
    · rw [w_cp_ne (by decide), w_cp_ne (by decide)]
      refine Eq.trans (w_cp0 (show j < 9 from hj)) ?_
      rw [w_cp_ne (by decide), w_cp_ne (by decide), w_cp_ne (by decide), w_u_ne (by decide), w_u_ne (by decide), w_u_ne (by decide)]
    · rw [w_cp_ne (by decide)]
      refine Eq.trans (w_cp0 (show j < 9 from hj)) ?_
      rw [w_cp_ne (by decide), w_cp_ne (by decide), w_cp_ne (by decide), w_cp_ne (by decide), w_u_ne (by decide), w_u_ne (by decide), w_u_ne (by decide)]
    · refine Eq.trans (w_cp0 (show j < 9 from hj)) ?_
      rw [w_cp_ne (by decide), w_cp_ne (by decide), w_cp_ne (by decide), w_cp_ne (by decide), w_cp_ne (by decide), w_u_ne (by decide), w_u_ne (by decide), w_u_ne (by decide)]
/-- the class's play by turning -/
theorem w_trlC {n G M W S E u v : Nat} {μ μ1 : z_Mem} {p : List Nat} (HN : w_RelN n (w_st μ 1) (μ 242) G M W S E) (hu : u < G) (hv : v < G) (h1 : ∀ q, q < 24 → μ1 q = μ q) (hp : w_pt (w_EK (w_st μ 1) M) u (v :: p)) : ∃ μ2, pW_playOfTrial μ1 (Int32.ofNat u) (Int32.ofNat v) = some (w_h (w_gp (w_st μ 1) M) (w_sl (w_st μ 1) M) (v :: p), μ2) ∧ (∀ q, ¬ (24 ≤ q ∧ q < 31) → μ2 q = μ1 q) := by
  have H := w_CT_of HN.1 HN.2.1 HN.2.2.1
  have hG := HN.1.2.2.1
  have hM := HN.2.1.2.1
  have hgs := w_gs_of H
  have hpl := w_pt_Kl H hu hp
  rw [List.length_cons] at hpl
  obtain ⟨hh1, hh2⟩ := w_hn_h hgs hp
  rw [List.length_cons, Nat.add_sub_cancel] at hh2
  unfold pW_playOfTrial
  obtain ⟨μc, hc, hcv, hc0, hcr⟩ := w_copyT (μ := μ1)
  have row : ∀ k, 1 ≤ k → k ≤ 7 → ∀ j, j < w_sz k → w_st μc 23 k j = w_st μ 1 k j := by
    intro k k1 k2 j hj
    unfold w_st
    rw [← h1 (1 + k) (by omega)]
    rcases (show k = 1 ∨ 2 ≤ k by omega) with rfl | hk
    · exact hc0 j hj
    · have := hcr k hk k2 j hj
      rw [show 23 + k = 22 + (k + 1) by omega, show 1 + k = k + 1 by omega]
      exact this
  have eA : ∀ e, e < 9 → w_A (w_st μc 23) e = w_A (w_st μ 1) e := fun e he => by unfold w_A; rw [row 4 (by decide) (by decide) e he]
  have eB : ∀ e, e < 9 → w_B (w_st μc 23) e = w_B (w_st μ 1) e := fun e he => by unfold w_B; rw [row 5 (by decide) (by decide) e he]
  have eK : w_K (w_st μc 23) M = w_K (w_st μ 1) M := by
    funext e x y
    unfold w_K w_J
    refine propext ⟨fun h => ⟨h.1, ?_⟩, fun h => ⟨h.1, ?_⟩⟩
    · rw [← eA e (by have := h.1; omega), ← eB e (by have := h.1; omega)]; exact h.2
    · rw [eA e (by have := h.1; omega), eB e (by have := h.1; omega)]; exact h.2
  have eE : w_EK (w_st μc 23) M = w_EK (w_st μ 1) M := by unfold w_EK; rw [eK]
  have eo : w_eo (w_st μc 23) M = w_eo (w_st μ 1) M := by funext x y; unfold w_eo; rw [eK]
  have Hc : w_CT (w_st μc 23) G M := by
    obtain ⟨a1, a2, a3, a4, a5, a6, a7⟩ := id H
    refine ⟨(row 1 (by decide) (by decide) 0 (by decide)).trans a1, (row 1 (by decide) (by decide) 1 (by decide)).trans a2, a3, a4, fun e he => ?_, fun e f he hf hp => ?_, ?_⟩
    · obtain ⟨b1, b2, b3, b4, b5, s, q, b6, b7, b8, b9⟩ := a5 e he
      unfold w_Ce
      rw [eA e (by omega), eB e (by omega), row 4 (by decide) (by decide) e (by show e < 9; omega), row 5 (by decide) (by decide) e (by show e < 9; omega), row 6 (by decide) (by decide) e (by show e < 9; omega), row 7 (by decide) (by decide) e (by show e < 9; omega)]
      exact ⟨b1, b2, b3, b4, b5, s, q, b6, b7, b8, b9⟩
    · rw [eA e (by omega), eB e (by omega), eA f (by omega), eB f (by omega)] at hp
      exact a6 e f he hf hp
    · intro e he hcn
      rw [eA e (by omega), eB e (by omega)] at hcn
      refine a7 e he (w_conn_mono (fun f x y g1 g2 => ⟨g1, ?_⟩) hcn)
      unfold w_J at g2 ⊢
      rw [eA f (by omega), eB f (by omega)] at g2
      exact g2
  have hgpE : ∀ x y, w_EK (w_st μ 1) M x y → w_gp (w_st μc 23) M x y = w_gp (w_st μ 1) M x y ∧ w_sl (w_st μc 23) M x y = w_sl (w_st μ 1) M x y := by
    intro x y h
    have hK := w_eo_K h
    have hlt := hK.1
    unfold w_gp w_sl
    rw [eo, row 7 (by decide) (by decide) _ (by show _ < 9; omega), row 6 (by decide) (by decide) _ (by show _ < 9; omega)]
    exact ⟨rfl, rfl⟩
  have hhc := w_hn_cong (gp := w_gp (w_st μc 23) M) (sl := w_sl (w_st μc 23) M) (gp' := w_gp (w_st μ 1) M) (sl' := w_sl (w_st μ 1) M) hgpE hp
  rw [hc]
  dsimp only [Option.bind_some]
  rw [w_rdn (by omega) (by omega)]
  dsimp only [Option.bind_some]
  obtain ⟨μ2, x1, x2⟩ := w_trL (G := G) (M := M) (r := u) (v := v) (f1 := 0) (by omega) (by omega) (E0 := w_EK (w_st μ 1) M) (sl0 := w_sl (w_st μc 23) M) hp (start := μc 26 v) (μ0 := μ1) (K := fun M13 k11 k12 => some (k11, M13)) z_fu 0 (w_hn (w_gp (w_st μ 1) M) (w_sl (w_st μ 1) M) (v :: p)) μc (by omega) (by show _ < 3000; omega) Hc hu eE rfl hhc rfl hcv
  rw [Nat.zero_add] at x1
  rw [hh1]
  exact ⟨μ2, x1, x2⟩
theorem w_S20 : z_S20 w_Inv := fun n μ c1 c2 I hn => by
  obtain ⟨G, M, W, S, E, HN⟩ := w_get I
  have hG := HN.1.2.2.1
  unfold pG_freePlayByTurning pm_freePlayByTurning
  rcases w_chain2 HN c1 c2 with ⟨u, v, p, μ1, hu, hv, rfl, rfl, e1, e2, hp, e3⟩ | ⟨E, j, μ1, hj, hj2, e1, e2, ν, e3, e4⟩
  · obtain ⟨μ2, y1, y2⟩ := w_trlC (μ1 := μ1) HN hu hv (fun q hq => e2 q (by omega)) hp
    have e2' : ∀ q, ¬ (24 ≤ q ∧ q < 32) → μ2 q = μ q := fun q hq => (y2 q (by omega)).trans (e2 q (by omega))
    obtain ⟨ν, k1, k2, k3⟩ := e3 μ2 (fun q hq => e2' q (by omega))
    have hM := w_plgM HN hu (fun q hq => e2' q (by omega)) hp k1 k2 k3
    rw [e1]
    dsimp only [Option.bind_some]
    rw [y1]
    refine ⟨_, μ2, _, z_u ν 241 12 0, rfl, ?_, w_ag0 w_u_eq, w_quiet (fun q q1 q2 q3 => by rw [w_u_ne q3, k2 q q2, e2' q (by omega)]) (fun j hj => by rw [w_u_at hj, k2 241 (by decide), e2' 241 (by omega)]) I⟩
    rw [hM]
    rfl
  · rw [e1]
    dsimp only [Option.bind_some]
    refine ⟨_, μ1, 0, z_u ν 241 12 (Int32.ofNat (j + 1)), rfl, ?_, w_agE hj w_u_eq, w_quiet (fun q q1 q2 q3 => by rw [w_u_ne q3, e4 q q2, e2 q (by omega)]) (fun j hj => by rw [w_u_at hj, e4 241 (by decide), e2 241 (by decide)]) I⟩
    unfold pm_freePlay
    rw [e3]
    dsimp only [Option.bind_some]
    rw [if_neg (fun q => by have : j + 1 ≤ 0 := (w_ler (k := 0) (by decide) (by omega)).mp q; omega)]
    rfl
/-- the methods agree, in any state of the walks' rows -/
theorem w_agree {n G M W S E u v : Nat} {μ μ1 : z_Mem} (HN : w_RelN n (w_st μ 1) (μ 242) G M W S E) (hu : u < G) (hv : v < G) (h1 : ∀ q, ¬ (24 ≤ q ∧ q < 34) → μ1 q = μ q) : ∃ μ2, pW_methodsAgreeFor μ1 (Int32.ofNat u) (Int32.ofNat v) = some (1, μ2) ∧ (∀ q, ¬ (24 ≤ q ∧ q < 34) → μ2 q = μ q) := by
  have H := w_CT_of HN.1 HN.2.1 HN.2.2.1
  have hs : w_Str (w_st μ 1) μ1 1 := w_Str_of w_Str_st (fun q _ _ => h1 q (by omega))
  obtain ⟨k, μa, f1, f2, f3⟩ := w_chain H hu hv hs
  unfold pW_methodsAgreeFor
  rw [f1]
  dsimp only [Option.bind_some]
  have ha : ∀ q, ¬ (24 ≤ q ∧ q < 34) → μa q = μ q := fun q hq => (f2 q (by omega)).trans (h1 q hq)
  rcases f3 with ⟨rfl, f3⟩ | ⟨p, rfl, f3, -⟩
  · rw [if_pos rfl]
    exact ⟨μa, rfl, ha⟩
  · have hpl := w_pt_Kl H hu f3
    rw [List.length_cons] at hpl
    have hG := H.2.2.1
    rw [if_neg (w_nneg (k := 1) (by omega) (by decide) (by decide))]
    obtain ⟨t, t1, t2, x1, x2⟩ := w_tee HN hu
    obtain ⟨t', t1', t2', x1', x2'⟩ := w_tee HN hv
    obtain ⟨μb, y1, y2⟩ := w_ratC (μ1 := μa) HN hu hv (fun q hq => ha q (by omega)) f3 x1 x1' ⟨t1, t2⟩ ⟨t1', t2'⟩
    have hb : ∀ q, ¬ (24 ≤ q ∧ q < 34) → μb q = μ q := fun q hq => (y2 q (by omega)).trans (ha q hq)
    obtain ⟨μc, y3, y4⟩ := w_aloC (μ1 := μb) HN hu hv (fun q hq => hb q (by omega)) f3 x1 x1' ⟨t1, t2⟩ ⟨t1', t2'⟩
    have hc : ∀ q, ¬ (24 ≤ q ∧ q < 34) → μc q = μ q := fun q hq => (y4 q (by omega)).trans (hb q hq)
    obtain ⟨μd, y5, y6⟩ := w_plgC (μ1 := μc) HN hu hv (fun q hq => hc q (by omega)) f3
    have hd : ∀ q, ¬ (24 ≤ q ∧ q < 34) → μd q = μ q := fun q hq => (y6 q (by omega)).trans (hc q hq)
    obtain ⟨μe, y7, y8⟩ := w_trlC (μ1 := μd) HN hu hv (fun q hq => hd q (by omega)) f3
    rw [y1]
    dsimp only [Option.bind_some]
    rw [y3]
    dsimp only [Option.bind_some]
    rw [if_pos rfl, y5]
    dsimp only [Option.bind_some]
    rw [y7]
    dsimp only [Option.bind_some]
    rw [if_pos rfl]
    exact ⟨μe, rfl, fun q hq => (y8 q (by omega)).trans (hd q hq)⟩
theorem w_icI {n G M W S E u : Nat} {μ : z_Mem} (HN : w_RelN n (w_st μ 1) (μ 242) G M W S E) (hu : u < G) {K : z_Mem → Int32 → Int32 → Option (Int32 × z_Mem)} : ∀ (f i : Nat) (μ1 : z_Mem), i ≤ G → G - i < f → (∀ q, ¬ (24 ≤ q ∧ q < 34) → μ1 q = μ q) → ∃ μ2, pG_isConsistent_L44 f (Int32.ofNat G) (Int32.ofNat u) K μ1 1 (Int32.ofNat i) = K μ2 1 (Int32.ofNat G) ∧ ∀ q, ¬ (24 ≤ q ∧ q < 34) → μ2 q = μ q := by
  have hG := HN.1.2.2.1
  intro f
  induction f with
  | zero => intro i μ1 _ h; omega
  | succ f ih =>
    intro i μ1 hi hf h1
    show ∃ μ2, pG_isConsistent_L44_B (pG_isConsistent_L44 f (Int32.ofNat G) (Int32.ofNat u) K) (Int32.ofNat G) (Int32.ofNat u) K μ1 1 (Int32.ofNat i) = _ ∧ _
    unfold pG_isConsistent_L44_B
    by_cases h : G ≤ i
    · rw [if_pos ((w_le (by omega) (by omega)).mpr h)]
      have : i = G := by omega
      rw [this]
      exact ⟨μ1, rfl, h1⟩
    · obtain ⟨μ2, e1, e2⟩ := w_agree HN hu (v := i) (by omega) h1
      rw [if_neg (fun q => h ((w_le (by omega) (by omega)).mp q)), if_neg w_10, e1]
      dsimp only [Option.bind_some]
      rw [if_neg w_10, w_ar2]
      exact ih (i + 1) μ2 (by omega) (by omega) e2
theorem w_icO {n G M W S E : Nat} {μ : z_Mem} (HN : w_RelN n (w_st μ 1) (μ 242) G M W S E) {K : z_Mem → Int32 → Int32 → Option (Int32 × z_Mem)} : ∀ (f i : Nat) (μ1 : z_Mem), i ≤ G → G - i < f → (∀ q, ¬ (24 ≤ q ∧ q < 34) → μ1 q = μ q) → ∃ μ2, pG_isConsistent_L36 f (Int32.ofNat G) K μ1 1 (Int32.ofNat i) = K μ2 1 (Int32.ofNat G) ∧ ∀ q, ¬ (24 ≤ q ∧ q < 34) → μ2 q = μ q := by
  have hG := HN.1.2.2.1
  intro f
  induction f with
  | zero => intro i μ1 _ h; omega
  | succ f ih =>
    intro i μ1 hi hf h1
    show ∃ μ2, pG_isConsistent_L36_B (pG_isConsistent_L36 f (Int32.ofNat G) K) (Int32.ofNat G) K μ1 1 (Int32.ofNat i) = _ ∧ _
    unfold pG_isConsistent_L36_B
    by_cases h : G ≤ i
    · rw [if_pos ((w_le (by omega) (by omega)).mpr h)]
      have : i = G := by omega
      rw [this]
      exact ⟨μ1, rfl, h1⟩
    · obtain ⟨μ2, e1, e2⟩ := w_icI HN (u := i) (by omega) (K := fun M14 k12 k13 => pG_isConsistent_L36 f (Int32.ofNat G) K M14 k12 (Int32.ofNat i + 1)) z_fu 0 μ1 (Nat.zero_le _) (by show G - 0 < 3000; omega) h1
      obtain ⟨μ3, e3, e4⟩ := ih (i + 1) μ2 (by omega) (by omega) e2
      refine ⟨μ3, ?_, e4⟩
      rw [if_neg (fun q => h ((w_le (by omega) (by omega)).mp q))]
      refine Eq.trans e1 ?_
      rw [w_ar2]
      exact e3
theorem w_S47 : z_S47 w_Inv := fun n μ I hn => by
  obtain ⟨G, M, W, S, E, HN⟩ := w_get I
  have H := w_CT_of HN.1 HN.2.1 HN.2.2.1
  obtain ⟨μ1, f1, f2⟩ := w_countC H w_Str_st
  obtain ⟨μ2, f3, f4⟩ := w_uniC H (μ := μ1) (w_Str_of w_Str_st (fun q _ _ => f2 q (by omega)))
  obtain ⟨μ3, f5, f6⟩ := w_icO HN (K := fun M21 k19 k20 => if vp_nar .boolean k19 = k19 then some (k19, M21) else none) z_fu 0 μ2 (Nat.zero_le _) (by have := HN.1.2.2.1; show G - 0 < 3000; omega) (fun q hq => (f4 q (by omega)).trans (f2 q (by omega)))
  unfold pG_isConsistent pm_isConsistent
  rw [f1]
  dsimp only [Option.bind_some]
  rw [f3]
  dsimp only [Option.bind_some]
  rw [if_pos rfl, show μ 2 0 = Int32.ofNat G from HN.1.1]
  refine ⟨1, μ3, z_u μ3 241 12 0, ?_, rfl, w_quiet (fun q q1 q2 q3 => by rw [w_u_ne q3, f6 q (by omega)]) (fun j hj => by rw [w_u_at hj, f6 241 (by omega)]) I⟩
  refine Eq.trans f5 ?_
  rw [if_pos (by decide)]
end ZTRL
