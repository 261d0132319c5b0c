/-! Entries made and forgotten: the two programs. -/
section ZNOT
theorem w_cp20 {X : z_Mem} {p r i : Nat} (hi : i < 10) : z_cp X 4 20 0 (p * 10) 10 20 (10 * r + i) = if r = p then X 4 i else X 20 (10 * r + i) := by
  by_cases h : r = p
  · subst h
    rw [w_cp_in (by omega), if_pos rfl]
    exact congrArg (X 4) (by omega)
  · rw [w_cp_out (by omega), if_neg h]
theorem w_wrC {μ : z_Mem} {E E' p : Nat} {x y : Int32} (hE : E ≤ 6) (h0 : μ 16 0 = Int32.ofNat E) (hpl : (pE_placeOf μ x y = some (-1) ∧ p = E ∧ E < 6 ∧ E' = E + 1) ∨ (pE_placeOf μ x y = some (Int32.ofNat p) ∧ p < E ∧ E' = E)) :
    ∃ μ', pE_write μ x y = some (Int32.ofNat E', μ') ∧ (∀ k, k < 16 ∨ 20 < k → μ' k = μ k) ∧ μ' 16 0 = Int32.ofNat E' ∧ (∀ r, μ' 17 r = if r = p then x else μ 17 r) ∧ (∀ r, μ' 18 r = if r = p then y else μ 18 r) ∧ (∀ r, μ' 19 r = if r = p then μ 2 0 else μ 19 r) ∧ ∀ r i, i < 10 → μ' 20 (10 * r + i) = if r = p then μ 4 i else μ 20 (10 * r + i) := by
  have hp6 : p < 6 := by rcases hpl with ⟨-, h1, h2, -⟩ | ⟨-, h1, -⟩ <;> omega
  have tp : (Int32.ofNat p).toNatClampNeg = p := w_tn (by omega)
  have inb : z_inb (Int32.ofNat p) 6 = true := (w_inn (by omega)).mpr (by omega)
  have hcc : ¬ (0 : Int32) < 0 ∧ ¬ (Int32.ofNat p * 10) < 0 ∧ ¬ (10 : Int32) < 0 ∧ (0 : Int32).toNatClampNeg + (10 : Int32).toNatClampNeg ≤ 10 ∧ (Int32.ofNat p * 10).toNatClampNeg + (10 : Int32).toNatClampNeg ≤ 60 := by
    rw [w_mr, w_tn (by show p * 10 < _; omega)]
    refine ⟨by decide, w_n0 (by show p * 10 < _; omega), by decide, by decide, ?_⟩
    show p * 10 + 10 ≤ 60
    omega
  have t10 : (Int32.ofNat p * 10).toNatClampNeg = p * 10 := by rw [w_mr]; exact w_tn (by show p * 10 < _; omega)
  have c0 : (0 : Int32).toNatClampNeg = 0 := rfl
  have c10 : (10 : Int32).toNatClampNeg = 10 := rfl
  have upd1 : ∀ (f : Nat → Int32) (v : Int32) (r : Nat), upd f p v r = if r = p then v else f r := fun f v r => rfl
  unfold pE_write
  rcases hpl with ⟨e1, rfl, h1, rfl⟩ | ⟨e1, h1, rfl⟩
  · rw [e1]
    dsimp only [Option.bind_some]
    rw [if_pos rfl, h0, if_neg (fun q => by have : 6 ≤ p := (w_lel (k := 6) (by decide) (by omega)).mp q; omega), if_neg (w_nneg (k := 1) (by omega) (by decide) (by decide))]
    simp (disch := omega) only [if_pos inb, if_pos hcc, tp, t10, c0, c10, w_u_ne, w_cp_ne, w_u_eq]
    rw [show Int32.ofNat p + 1 = Int32.ofNat (p + 1) from w_ar2]
    rw [if_pos (show ¬ (0 : Int32) < 0 ∧ ¬ Int32.ofNat p * 10 < 0 ∧ ¬ (10 : Int32) < 0 ∧ 0 + 10 ≤ 10 ∧ p * 10 + 10 ≤ 60 from ⟨hcc.1, hcc.2.1, by decide, by decide, by omega⟩)]
    refine ⟨_, rfl, fun k hk => ?_, ?_, fun r => ?_, fun r => ?_, fun r => ?_, fun r i hi => ?_⟩
    · simp (disch := omega) only [w_u_ne, w_cp_ne]
    · simp (disch := omega) only [w_u_ne, w_cp_ne, w_u_eq]
    · simp (disch := omega) only [w_u_ne, w_cp_ne, w_u_row, upd1]
    · simp (disch := omega) only [w_u_ne, w_cp_ne, w_u_row, upd1]
    · simp (disch := omega) only [w_u_ne, w_cp_ne, w_u_row, upd1]
    · rw [w_cp20 hi]
      simp (disch := omega) only [w_u_ne]
  · rw [e1]
    dsimp only [Option.bind_some]
    rw [if_neg (w_nneg (k := 1) (by omega) (by decide) (by decide)), if_neg (w_nneg (k := 1) (by omega) (by decide) (by decide))]
    simp (disch := omega) only [if_pos inb, if_pos hcc, tp, t10, c0, c10, w_u_ne, w_cp_ne, h0]
    rw [if_pos (show ¬ (0 : Int32) < 0 ∧ ¬ Int32.ofNat p * 10 < 0 ∧ ¬ (10 : Int32) < 0 ∧ 0 + 10 ≤ 10 ∧ p * 10 + 10 ≤ 60 from ⟨hcc.1, hcc.2.1, by decide, by decide, by omega⟩)]
    refine ⟨_, rfl, fun k hk => ?_, ?_, fun r => ?_, fun r => ?_, fun r => ?_, fun r i hi => ?_⟩
    · simp (disch := omega) only [w_u_ne, w_cp_ne]
    · simp (disch := omega) only [w_u_ne, w_cp_ne, h0]
    · simp (disch := omega) only [w_u_ne, w_cp_ne, w_u_row, upd1]
    · simp (disch := omega) only [w_u_ne, w_cp_ne, w_u_row, upd1]
    · simp (disch := omega) only [w_u_ne, w_cp_ne, w_u_row, upd1]
    · rw [w_cp20 hi]
      simp (disch := omega) only [w_u_ne]
theorem w_ntL {q : Nat} {f1 f2 f3 : Int32} {ν0 : z_Mem} (hq : q < 6) {K : z_Mem → Int32 → Option (Int32 × z_Mem)} : ∀ (f i : Nat) (ν : z_Mem), i ≤ 10 → 10 - i < f → (∀ k, k ≠ 242 → ν k = ν0 k) → (∀ j, ν 242 j = if 271 + 10 * q ≤ j ∧ j < 271 + 10 * q + i then ν0 242 (17 + (j - (271 + 10 * q))) else ν0 242 j) →
    ∃ ν', pm_notes_L88 f f1 f2 f3 (Int32.ofNat q) K ν (Int32.ofNat i) = K ν' (Int32.ofNat 10) ∧ (∀ k, k ≠ 242 → ν' k = ν0 k) ∧ ∀ j, ν' 242 j = if 271 + 10 * q ≤ j ∧ j < 271 + 10 * q + 10 then ν0 242 (17 + (j - (271 + 10 * q))) else ν0 242 j := by
  intro f
  induction f with
  | zero => intro i ν _ h; omega
  | succ f ih =>
    intro i ν hi hf h2 h3
    show ∃ ν', pm_notes_L88_B (pm_notes_L88 f f1 f2 f3 (Int32.ofNat q) K) f1 f2 f3 (Int32.ofNat q) K ν (Int32.ofNat i) = _ ∧ _
    unfold pm_notes_L88_B
    by_cases h : i = 10
    · subst h
      rw [if_pos (show (10 : Int32) ≤ Int32.ofNat 10 by decide)]
      exact ⟨ν, rfl, h2, h3⟩
    · have ei : 271 + 10 * Int32.ofNat q + Int32.ofNat i = Int32.ofNat (271 + 10 * q + i) := by rw [w_ml, w_al, w_aa]
      rw [if_neg (fun hc => h (by have : 10 ≤ i := (w_lel (k := 10) (by decide) (by omega)).mp hc; omega)), w_al, w_rdn (by omega) (by omega), ei]
      dsimp only [Option.bind_some]
      rw [if_pos ((w_inn (by omega)).mpr (by omega)), w_tn (by omega), w_ar2]
      refine ih (i + 1) _ (by omega) (by omega) (fun k hk => (w_u_ne hk).trans (h2 k hk)) (fun j => ?_)
      by_cases hj : j = 271 + 10 * q + i
      · subst hj
        rw [w_u_eq, h3, if_neg (by omega), if_pos (by omega)]
        exact congrArg (ν0 242) (by show 17 + i = _; omega)
      · rw [w_u_at hj, h3]
        by_cases hc : 271 + 10 * q ≤ j ∧ j < 271 + 10 * q + i
        · rw [if_pos hc, if_pos (by omega)]
        · rw [if_neg hc, if_neg (by omega)]
theorem w_isKey {μ ν : z_Mem} (i1 i2 : Int32) : (pG_isKey μ i1 i2 = some 1 ∧ pm_isKey ν i1 i2 = some 1 ∧ ∃ l d, 97 ≤ l ∧ l ≤ 122 ∧ d ≤ 9 ∧ i1 = Int32.ofNat l ∧ i2 = Int32.ofNat d) ∨ (pG_isKey μ i1 i2 = some 0 ∧ pm_isKey ν i1 i2 = some 0) := by
  unfold pG_isKey pm_isKey
  rcases w_within (μ := μ) (ν := ν) i1 97 122 with ⟨e1, e2, b1, b2⟩ | ⟨e1, e2, -⟩
  · rw [e1, e2]
    dsimp only [Option.bind_some]
    rw [if_neg w_10, if_neg w_10]
    rcases w_within (μ := μ) (ν := ν) i2 0 9 with ⟨e3, e4, b3, b4⟩ | ⟨e3, e4, -⟩
    · rw [e3, e4]
      dsimp only [Option.bind_some]
      rw [if_neg w_10]
      obtain ⟨l, l1, l2, rfl⟩ := w_nat_in (lo := 97) (hi := 122) (by omega) (by omega) b1 b2
      obtain ⟨d, -, d2, rfl⟩ := w_nat_in (lo := 0) (hi := 9) (by omega) (by omega) b3 b4
      exact Or.inl ⟨rfl, rfl, l, d, l1, l2, d2, rfl, rfl⟩
    · rw [e3, e4]
      exact Or.inr ⟨rfl, rfl⟩
  · rw [e1, e2]
    exact Or.inr ⟨rfl, rfl⟩
theorem w_cEntry {n m : Nat} (hnm : n ≤ m) (i1 i2 : Int32) (μ ν : z_Mem) (HH : w_Rel n (w_st μ 1) (ν 242)) : ∃ a μ' b ν', pG_tryEntry μ i1 i2 = some (a, μ') ∧ pm_notes ν i1 i2 = some (b, ν') ∧ w_Core m [1, 2] a μ μ' b ν ν' := by
  obtain ⟨G, M, W, S, E, HN⟩ := HH
  have hR := HN.2.2.2.2.2.1
  obtain ⟨g1, g2, g3, g4, g5, g6, g7, g8⟩ := id HN.1
  obtain ⟨r1, r2, r3, -⟩ := id hR
  have e16 : μ 16 0 = Int32.ofNat E := r1
  unfold pG_tryEntry pm_notes
  rcases w_isKey (μ := μ) (ν := ν) i1 i2 with ⟨e1, e2, l, d, l1, l2, d2, rfl, rfl⟩ | ⟨e1, e2⟩
  · rw [e1, e2]
    dsimp only [Option.bind_some]
    rw [if_neg w_10, if_neg w_10]
    have put : ∀ (p q E' : Nat) (v : Int32), p < E' → q < E' → E' ≤ 6 → E ≤ E' → ((pE_placeOf μ (Int32.ofNat l) (Int32.ofNat d) = some (-1) ∧ p = E ∧ E < 6 ∧ E' = E + 1) ∨ (pE_placeOf μ (Int32.ofNat l) (Int32.ofNat d) = some (Int32.ofNat p) ∧ p < E ∧ E' = E)) → (q = E ∧ E' = E + 1 ∨ q < E ∧ E' = E) →
        (∀ r, r < E → r ≠ p → ¬ (μ 17 r = Int32.ofNat l ∧ μ 18 r = Int32.ofNat d)) → (∀ r, r < E → r ≠ q → ν 242 (259 + r) ≠ 10 * Int32.ofNat l + Int32.ofNat d) → (p < E → μ 17 p = Int32.ofNat l ∧ μ 18 p = Int32.ofNat d) → (q < E → ν 242 (259 + q) = 10 * Int32.ofNat l + Int32.ofNat d) → (Int32.ofNat E + v = Int32.ofNat E') → ∀ f3 K, (∀ M27 k26, K M27 k26 = (pm_done (z_u M27 242 4 ((M27 242 4) + v)) ((z_u M27 242 4 ((M27 242 4) + v)) 242 4)).bind fun q31 => some (q31.1, q31.2)) →
        ∃ a μ' b ν', (pE_write μ (Int32.ofNat l) (Int32.ofNat d)).bind (fun q10 => some (q10.1, q10.2)) = some (a, μ') ∧ pm_notes_L88 z_fu (Int32.ofNat l) (Int32.ofNat d) f3 (Int32.ofNat q) K (z_u (z_u ν 242 (259 + q) (10 * Int32.ofNat l + Int32.ofNat d)) 242 (265 + q) ((z_u ν 242 (259 + q) (10 * Int32.ofNat l + Int32.ofNat d)) 242 0)) 0 = some (b, ν') ∧ w_Core m [1, 2] a μ μ' b ν ν' := by
      intro p q E' v hp hq hE6 hEE hpl hqE kp kq kpq kqq hv f3 K hK
      obtain ⟨μ', x1, x2, x3, x4, x5, x6, x7⟩ := w_wrC r3 e16 hpl
      rw [x1]
      dsimp only [Option.bind_some]
      obtain ⟨ν', y1, y2, y3⟩ := w_ntL (q := q) (f1 := Int32.ofNat l) (f2 := Int32.ofNat d) (f3 := f3) (ν0 := z_u (z_u ν 242 (259 + q) (10 * Int32.ofNat l + Int32.ofNat d)) 242 (265 + q) ((z_u ν 242 (259 + q) (10 * Int32.ofNat l + Int32.ofNat d)) 242 0)) (by omega) (K := K) z_fu 0 _ (by omega) (by decide) (fun _ _ => rfl) (fun j => by rw [if_neg (by omega)])
      rw [show (pm_notes_L88 z_fu (Int32.ofNat l) (Int32.ofNat d) f3 (Int32.ofNat q) K (z_u (z_u ν 242 (259 + q) (10 * Int32.ofNat l + Int32.ofNat d)) 242 (265 + q) ((z_u ν 242 (259 + q) (10 * Int32.ofNat l + Int32.ofNat d)) 242 0)) 0) = _ from y1, hK]
      have eG : (z_u ν 242 (259 + q) (10 * Int32.ofNat l + Int32.ofNat d)) 242 0 = Int32.ofNat G := by rw [w_u_at (by omega)]; exact g2
      rw [eG] at y3
      have y4 : ν' 242 4 = Int32.ofNat E := by rw [y3, if_neg (by omega), w_u_at (by omega), w_u_at (by omega)]; exact r2
      rw [y4, hv, w_u_eq]
      unfold pm_done
      dsimp only [Option.bind_some]
      have hi : ∀ j, j ≠ 4 → z_u (z_u ν' 242 4 (Int32.ofNat E')) 241 12 0 242 j = ν' 242 j := fun j hj => by rw [w_u_ne (by decide), w_u_at hj]
      have hlo : ∀ j, j ≠ 4 → j < 259 → ν' 242 j = ν 242 j := fun j j1 j2 => by rw [y3, if_neg (by omega), w_u_at (by omega), w_u_at (by omega)]
      refine ⟨_, _, _, _, rfl, rfl, fun k hk => x2 k (by omega), w_frM_trans (w_frM_trans ⟨fun k k1 k2 k3 k4 => by rw [y2 k k1, w_u_ne k1, w_u_ne k1], fun j _ => by rw [y2 241 (by decide), w_u_ne (by decide), w_u_ne (by decide)]⟩ w_frM_242) w_frM_12, Or.inl ⟨(w_le (a := 0) (by omega) (by omega)).mpr (Nat.zero_le _), rfl, w_u_eq, G, M, W, S, E', ?_, w_gl HN.1 (by omega) (by omega)⟩⟩
      refine w_Rel_ent hnm HN (fun k hk => x2 _ (by omega)) (fun j j1 j2 => by rw [hi j j1, hlo j j1 j2]) ?_
      refine w_RE_put (c := w_st μ 1) (g := ν 242) (l := l) (d := d) (h := G) (p := p) (q := q) hR l1 l2 d2 g3 hEE hE6 hp hq (fun r hr hrp => by rcases hpl with ⟨-, h1, -, h2⟩ | ⟨-, h1, h2⟩ <;> omega) (fun r hr hrq => by omega) kp kq kpq kqq x3 (by rw [w_u_ne (by decide), w_u_eq]) x4 x5 (fun r => by
          show μ' 19 r = _
          rw [x6 r, show μ 2 0 = Int32.ofNat G from g1]
          rfl) x7 (fun r hr => ?_) (fun r hr => ?_) (fun r i hr hi2 => ?_) g5
      · rw [hi _ (by omega), y3, if_neg (by omega), w_u_at (by omega)]
        by_cases hrq : r = q
        · subst hrq; rw [w_u_eq, if_pos rfl]
        · rw [w_u_at (by omega), if_neg hrq]
      · rw [hi _ (by omega), y3, if_neg (by omega)]
        by_cases hrq : r = q
        · subst hrq; rw [w_u_eq, if_pos rfl]
        · rw [w_u_at (by omega), w_u_at (by omega), if_neg hrq]
      · rw [hi _ (by omega), y3]
        by_cases hrq : r = q
        · subst hrq
          rw [if_pos (by omega), if_pos rfl, w_u_at (by omega), w_u_at (by omega)]
          exact congrArg (ν 242) (by omega)
        · rw [if_neg (by omega), if_neg hrq, w_u_at (by omega), w_u_at (by omega)]
    rcases w_entry hR l2 d2 with ⟨a1, a2, a3, a4⟩ | ⟨p, q, hp, hq, a1, a2, a3, a4, a5, a6⟩
    · rw [a1, a2]
      dsimp only [Option.bind_some]
      rw [if_pos rfl, if_pos rfl, e16, r2]
      by_cases hE : E = 6
      · subst hE
        rw [if_neg (show ¬ Int32.ofNat 6 < 6 by decide), if_pos (show Int32.ofNat 6 = 6 from rfl)]
        exact ⟨_, _, _, _, rfl, rfl, w_Core_no (j := 1) (E := 2) rfl (by decide) (by decide) w_frC_rfl w_same_rfl⟩
      · rw [if_pos ((w_ltr (k := 6) (by decide) (by omega)).mpr (show E < 6 by omega)), if_neg (fun q => hE ((w_eqr (k := 6) (by decide) (by omega)).mp q)), w_al, w_al, if_pos ((w_inn (by omega)).mpr (by omega)), if_pos ((w_inn (by omega)).mpr (by omega)), w_tn (by omega), w_tn (by omega)]
        exact put E E (E + 1) 1 (by omega) (by omega) (by omega) (by omega) (Or.inl ⟨a1, rfl, by omega, rfl⟩) (Or.inl ⟨rfl, rfl⟩) (fun r hr _ => a3 r hr) (fun r hr _ => a4 r hr) (fun h => absurd h (Nat.lt_irrefl _)) (fun h => absurd h (Nat.lt_irrefl _)) w_ar2 (-1) _ (fun M27 k26 => if_pos rfl)
    · rw [a1, a2]
      dsimp only [Option.bind_some]
      rw [if_neg (w_nneg (k := 1) (by omega) (by decide) (by decide)), if_neg (w_nneg (k := 1) (by omega) (by decide) (by decide)), if_neg (fun z => by have : q = 6 := (w_eqr (k := 6) (by decide) (by omega)).mp z; omega), w_al, w_al, if_pos ((w_inn (by omega)).mpr (by omega)), if_pos ((w_inn (by omega)).mpr (by omega)), w_tn (by omega), w_tn (by omega)]
      obtain ⟨-, -, -, r4, r5, r6, r7, r8⟩ := id hR
      exact put p q E 0 hp hq r3 (Nat.le_refl _) (Or.inr ⟨a1, hp, rfl⟩) (Or.inr ⟨hq, rfl⟩) (fun r hr hrp hk => hrp (r7 r p hr hp (hk.1.trans a4.symm) (hk.2.trans a5.symm))) (fun r hr hrq hk => hrq (r8 r q hr hq (hk.trans a6.symm))) (fun _ => ⟨a4, a5⟩) (fun _ => a6) (Int32.add_zero _) (Int32.ofNat q) _ (fun M27 k26 => if_neg (w_nneg (k := 1) (by omega) (by decide) (by decide)))
  · rw [e1, e2]
    exact ⟨_, _, _, _, rfl, rfl, w_Core_no (j := 0) (E := 1) rfl (by decide) (by decide) w_frC_rfl w_same_rfl⟩
end ZNOT
