/-! Feeding a text and reading it, with the model's side run by the kernel. -/
section ZRED
section
variable {μ : z_Mem} {t : Nat}
theorem r_both {ν1 : z_Mem} (ht : μ 21 0 = Int32.ofNat t) (hT : w_Tx (μ 22) t) (hM : w_TM ν1 (μ 22) t) : ∃ (o : Bool) (S N : Nat) (μA : z_Mem), S ≤ t ∧ N ≤ 9 ∧ pR_readText μ = some (w_bi o, μA) ∧ μA 34 0 = Int32.ofNat S ∧ (∀ q, q ≠ 34 → q ≠ 35 → q ≠ 36 → μA q = μ q) ∧
    (o = true → S = t ∧ ∀ (ν0 : z_Mem) (K : z_Mem → Int32 → Int32 → Option (Int32 × z_Mem)), w_TM ν0 (μ 22) t → ∃ ν' kd a v, pm_execute_L14 z_fu K (z_u (z_u ν0 241 15 0) 241 16 0) 0 1 = K ν' (Int32.ofNat N) 0 ∧ w_PM ν0 S 0 ν' ∧ w_dat N kd a v μA ν') ∧
    (o = false → ∀ (ν0 : z_Mem) (K : z_Mem → Int32 → Int32 → Option (Int32 × z_Mem)), w_TM ν0 (μ 22) t → ∃ ν' N' w, pm_execute_L14 z_fu K (z_u (z_u ν0 241 15 0) 241 16 0) 0 1 = K ν' (Int32.ofNat N') 0 ∧ w_PM ν0 S w ν' ∧ (w = 1 ∨ (w = 0 ∧ S < t))) := by
  have h60 := hT.1
  have hp : w_PC μ 0 0 (z_u (z_u μ 34 0 0) 34 1 0) := ⟨by rw [w_u_at (by decide), w_u_eq]; rfl, by rw [w_u_eq]; rfl, fun q a b c => by rw [w_u_ne a, w_u_ne a]⟩
  have hq : ∀ ν0 : z_Mem, w_PM ν0 0 0 (z_u (z_u ν0 241 15 0) 241 16 0) := fun ν0 => ⟨by rw [w_u_at (by decide), w_u_eq]; rfl, by rw [w_u_eq]; rfl, fun q a b => by rw [w_u_ne a, w_u_ne a], fun j a b => by rw [w_u_at b, w_u_at a]⟩
  obtain ⟨o, S, N, kd, a, v, c1, c2, c3, c4⟩ := w_txtL ht hT hM 9 0 0 rfl (Nat.zero_le _) (Nat.zero_le _)
  obtain ⟨μA, k', d1, d2, d3, d4, d5, d6⟩ := c3 z_fu _ (by decide) hp
  have d1' : pR_readText μ = some (w_bi o, μA) := d1
  -- at any reference the same class run
  have key : ∀ (ν0 : z_Mem) (K : z_Mem → Int32 → Int32 → Option (Int32 × z_Mem)), w_TM ν0 (μ 22) t → ∃ ν' N' w kd a v, pm_execute_L14 z_fu K (z_u (z_u ν0 241 15 0) 241 16 0) 0 1 = K ν' (Int32.ofNat N') 0 ∧ w_PM ν0 S w ν' ∧ (o = true → w = 0 ∧ S = t ∧ N' = N ∧ w_dat N kd a v μA ν') ∧ (o = false → w = 1 ∨ (w = 0 ∧ S < t)) := fun ν0 K hM0 => by
    obtain ⟨o2, S2, N2, kd2, a2, v2, e1, e2, e3, e4⟩ := w_txtL (ν0 := ν0) ht hT hM0 9 0 0 rfl (Nat.zero_le _) (Nat.zero_le _)
    obtain ⟨μA2, k2, f1, f2, f3, f4, f5, f6⟩ := e3 z_fu _ (by decide) hp
    have hh := d1.symm.trans f1
    have h1 : w_bi o = w_bi o2 ∧ μA = μA2 := by
      have := Option.some.inj hh
      exact ⟨congrArg Prod.fst this, congrArg Prod.snd this⟩
    obtain ⟨h1, rfl⟩ := h1
    obtain rfl := w_bi_inj h1
    have hS : S = S2 := by
      have := d2.1.symm.trans f2.1
      exact (w_eq (by omega) (by omega)).mp this
    subst hS
    obtain ⟨ν', N', w, g1, g2, g3, g4, g5, g6⟩ := e4 z_fu K _ (by decide) (hq ν0)
    refine ⟨ν', N', w, kd2, a2, v2, g1, g2, fun ho => ?_, g4⟩
    obtain ⟨i1, i2, i3⟩ := g3 ho
    obtain ⟨j1, j2, j3⟩ := c2 ho
    obtain ⟨l1, l2, l3⟩ := e2 ho
    have hN : N = N2 := by
      have h2 := d2.2.1.symm.trans f2.2.1
      rw [d3 ho, f3 ho] at h2
      exact (w_eq (by omega) (by omega)).mp h2
    subst hN
    refine ⟨i1, i2, i3, l2, by rw [← f3 ho]; exact f2.2.1, fun i hi => ?_⟩
    obtain ⟨m1, m2⟩ := f6 ho i (Nat.zero_le _) hi
    obtain ⟨n1, n2⟩ := g6 ho i (Nat.zero_le _) hi
    exact ⟨l3 i (Nat.zero_le _) hi, m1, m2, n1, n2⟩
  cases o with
  | true =>
    obtain ⟨j1, j2, j3⟩ := c2 rfl
    refine ⟨true, S, N, μA, c1, j2, d1', d2.1, d2.2.2, fun _ => ?_, fun h => by cases h⟩
    refine ⟨?_, fun ν0 K hM0 => ?_⟩
    · obtain ⟨ν', N', w, kd, a, v, g1, g2, g3, g4⟩ := key ν1 (fun _ _ _ => none) hM
      exact (g3 rfl).2.1
    · obtain ⟨ν', N', w, kd, a, v, g1, g2, g3, g4⟩ := key ν0 K hM0
      obtain ⟨rfl, x1, rfl, x2⟩ := g3 rfl
      exact ⟨ν', kd, a, v, g1, g2, x2⟩
  | false =>
    refine ⟨false, S, 0, μA, c1, Nat.zero_le _, d1', d2.1, d2.2.2, (fun h => by cases h), fun _ ν0 K hM0 => ?_⟩
    obtain ⟨ν', N', w, kd, a, v, g1, g2, g3, g4⟩ := key ν0 K hM0
    exact ⟨ν', N', w, g1, g2, g4 rfl⟩
end
theorem r_feed : ∀ (l : List Nat) (i : Nat) (μ : z_Mem), μ 21 0 = Int32.ofNat i → i + l.length ≤ 60 → (∀ c ∈ l, c < 128) → ∃ μ', pL_feeds l μ = some μ' ∧ μ' 21 0 = Int32.ofNat (i + l.length) ∧ (∀ j, j < l.length → μ' 22 (i + j) = Int32.ofNat (l.getD j 0)) ∧ (∀ j, j < i → μ' 22 j = μ 22 j) ∧ ∀ q, q ≠ 21 → q ≠ 22 → μ' q = μ q := by
  intro l
  induction l with
  | nil => intro i μ h _ _; exact ⟨μ, rfl, h, fun j hj => absurd hj (Nat.not_lt_zero _), fun _ _ => rfl, fun _ _ _ => rfl⟩
  | cons c l ih =>
    intro i μ h hl hc
    have hl2 : i + (l.length + 1) ≤ 60 := hl
    have e1 : z_iXM (pG_feed μ (Int32.ofNat c)) = some (Int32.ofNat (i + 1), z_u (z_u μ 22 i (Int32.ofNat c)) 21 0 (Int32.ofNat (i + 1))) := by
      unfold pG_feed pS_put
      have e0 : z_u μ (21 + 1) i (Int32.ofNat c) 21 0 = Int32.ofNat i := by rw [w_u_ne (by decide)]; exact h
      rw [h, if_pos ((w_lt (by omega) (by omega)).mpr (by omega)), if_pos ((w_inn (by omega)).mpr (by omega)), w_tn (by omega), (w_ch1 (hc c List.mem_cons_self)).1, e0, w_ar2]
      dsimp only [Option.bind_some]
      rw [if_neg w_10, w_u_eq]
      rfl
    obtain ⟨μ', f1, f2, f3, f4, f5⟩ := ih (i + 1) (z_u (z_u μ 22 i (Int32.ofNat c)) 21 0 (Int32.ofNat (i + 1))) w_u_eq (by omega) (fun c' h' => hc c' (List.mem_cons_of_mem _ h'))
    refine ⟨μ', ?_, ?_, fun j hj => ?_, fun j hj => ?_, fun q h1 h2 => ?_⟩
    · show ((z_iXM (pG_feed μ (Int32.ofNat c))).bind fun q => pL_feeds l q.2) = _
      rw [e1]
      exact f1
    · rw [f2]
      show Int32.ofNat (i + 1 + l.length) = Int32.ofNat (i + (l.length + 1))
      congr 1
      omega
    · cases j with
      | zero =>
        rw [f4 (i + 0) (by omega), w_u_ne (by decide)]
        exact w_u_eq
      | succ j =>
        have hj2 : j < l.length := Nat.lt_of_succ_lt_succ hj
        rw [show i + (j + 1) = i + 1 + j by omega, f3 j hj2]
        rfl
    · rw [f4 j (by omega), w_u_ne (by decide), w_u_at (by omega)]
    · rw [f5 q h1 h2, w_u_ne h1, w_u_ne h2]
theorem r_str128 : (List.range 21).all (fun j => decide ((z_str j).length ≤ 60) && (z_str j).all (fun c => decide (c < 128))) = true := by decide +kernel
theorem r_str {sj : Nat} (h : sj < 21) : (z_str sj).length ≤ 60 ∧ ∀ c ∈ z_str sj, c < 128 := by
  have h1 := List.all_eq_true.mp r_str128 sj (List.mem_range.mpr h)
  rw [Bool.and_eq_true] at h1
  exact ⟨of_decide_eq_true h1.1, fun c hc => of_decide_eq_true (List.all_eq_true.mp h1.2 c hc)⟩
/-- the model's text alone -/
def rt_nu (sj : Nat) : z_Mem := fun k j => if k = 241 then (if j = 7 then Int32.ofNat (z_str sj).length else 0) else if k = 246 then Int32.ofNat ((z_str sj).getD j 0) else 0
def rt_R (sj : Nat) : Option (Int32 × z_Mem) := pm_execute_L14 z_fu (fun ν a _ => some (a, ν)) (z_u (z_u (rt_nu sj) 241 15 0) 241 16 0) 0 1
/-- a well-formed text: its number of commands, and the kinds and values -/
def rt_g (sj N : Nat) (l : List (Nat × Int32)) : Bool := match rt_R sj with
  | some (a, ν) => decide (a = Int32.ofNat N) && (decide (ν 241 15 = Int32.ofNat (z_str sj).length) && (decide (ν 241 16 = 0) && l.all (fun q => decide (ν 250 q.1 = q.2))))
  | none => false
/-- a text that is malformed at S -/
def rt_b (sj S : Nat) : Bool := match rt_R sj with
  | some (_, ν) => decide (ν 241 15 = Int32.ofNat S) && (decide (S < 60) && !(decide (ν 241 16 = 0) && decide (S = (z_str sj).length)))
  | none => false
theorem r_txt {sj : Nat} {μ : z_Mem} (hj : sj < 21) (h22 : ∀ j, j < (z_str sj).length → μ 22 j = Int32.ofNat ((z_str sj).getD j 0)) : w_Tx (μ 22) (z_str sj).length ∧ w_TM (rt_nu sj) (μ 22) (z_str sj).length := by
  obtain ⟨h1, h2⟩ := r_str hj
  refine ⟨⟨h1, fun i hi => ⟨(z_str sj).getD i 0, ?_, h22 i hi⟩⟩, rfl, fun i hi => (h22 i hi).symm⟩
  have := h2 ((z_str sj).getD i 0) (by rw [List.getD_eq_getElem?_getD, List.getElem?_eq_getElem hi]; exact List.getElem_mem hi)
  omega
theorem r_bad {sj S : Nat} {μ : z_Mem} (hj : sj < 21) (hc : rt_b sj S = true) (h21 : μ 21 0 = Int32.ofNat (z_str sj).length) (h22 : ∀ j, j < (z_str sj).length → μ 22 j = Int32.ofNat ((z_str sj).getD j 0)) : ∃ μA, pR_readText μ = some (0, μA) ∧ μA 34 0 = Int32.ofNat S ∧ ∀ q, q ≠ 34 → q ≠ 35 → q ≠ 36 → μA q = μ q := by
  obtain ⟨hT, hM⟩ := r_txt hj h22
  obtain ⟨o, S2, N, μA, a1, a2, a3, a4, a5, a6, a7⟩ := r_both h21 hT hM
  have hT1 := hT.1
  unfold rt_b at hc
  cases o with
  | true =>
    exfalso
    obtain ⟨b1, b2⟩ := a6 rfl
    obtain ⟨ν', kd, a, v, c1, c2, -⟩ := b2 (rt_nu sj) (fun ν a _ => some (a, ν)) hM
    rw [show rt_R sj = _ from c1] at hc
    simp only [Bool.and_eq_true, decide_eq_true_eq, Bool.not_eq_true', Bool.and_eq_false_iff, decide_eq_false_iff_not] at hc
    obtain ⟨d1, d2, d3⟩ := hc
    have e1 := c2.1
    rw [d1] at e1
    have e2 := (w_eq (by omega) (by omega)).mp e1
    rcases d3 with d3 | d3
    · exact d3 c2.2.1
    · exact d3 (e2.trans b1)
  | false =>
    obtain ⟨ν', N', w, c1, c2, c3⟩ := a7 rfl (rt_nu sj) (fun ν a _ => some (a, ν)) hM
    rw [show rt_R sj = _ from c1] at hc
    simp only [Bool.and_eq_true, decide_eq_true_eq] at hc
    obtain ⟨d1, d2, -⟩ := hc
    have e1 := c2.1
    rw [d1] at e1
    have e2 := (w_eq (by omega) (by omega)).mp e1
    exact ⟨μA, a3, by rw [a4, e2], a5⟩
theorem r_good {sj N : Nat} {l : List (Nat × Int32)} {μ : z_Mem} (hj : sj < 21) (hN : N ≤ 9) (hc : rt_g sj N l = true) (h21 : μ 21 0 = Int32.ofNat (z_str sj).length) (h22 : ∀ j, j < (z_str sj).length → μ 22 j = Int32.ofNat ((z_str sj).getD j 0)) : ∃ μA ν' kd a v, pR_readText μ = some (1, μA) ∧ (∀ q, q ≠ 34 → q ≠ 35 → q ≠ 36 → μA q = μ q) ∧ w_dat N kd a v μA ν' ∧ ∀ q ∈ l, ν' 250 q.1 = q.2 := by
  obtain ⟨hT, hM⟩ := r_txt hj h22
  obtain ⟨o, S2, N2, μA, a1, a2, a3, a4, a5, a6, a7⟩ := r_both h21 hT hM
  have hT1 := hT.1
  unfold rt_g at hc
  cases o with
  | true =>
    obtain ⟨b1, b2⟩ := a6 rfl
    obtain ⟨ν', kd, a, v, c1, c2, c3⟩ := b2 (rt_nu sj) (fun ν a _ => some (a, ν)) hM
    rw [show rt_R sj = _ from c1] at hc
    simp only [Bool.and_eq_true, decide_eq_true_eq] at hc
    obtain ⟨d1, -, -, d4⟩ := hc
    have e2 := (w_eq (by omega) (by omega)).mp d1
    subst e2
    exact ⟨μA, ν', kd, a, v, a3, a5, c3, fun q hq => of_decide_eq_true (List.all_eq_true.mp d4 q hq)⟩
  | false =>
    exfalso
    obtain ⟨ν', N', w, c1, c2, c3⟩ := a7 rfl (rt_nu sj) (fun ν a _ => some (a, ν)) hM
    rw [show rt_R sj = _ from c1] at hc
    simp only [Bool.and_eq_true, decide_eq_true_eq] at hc
    obtain ⟨-, d2, d3, -⟩ := hc
    have e1 := c2.1
    have e3 := c2.2.1
    rw [d2] at e1
    rw [d3] at e3
    have e4 := (w_eq (by omega) (by omega)).mp e1
    rcases c3 with rfl | ⟨-, c4⟩
    · exact absurd e3 (by decide)
    · omega
theorem rt_6 : rt_g 6 3 [(0, 116), (1, 0), (2, 7), (4, 116), (5, 1), (6, -30), (8, 104), (9, 5)] = true := by decide +kernel
theorem rt_7 : rt_g 7 2 [(0, 104), (1, 1), (4, 116), (5, 0), (6, 0)] = true := by decide +kernel
theorem rt_8 : rt_g 8 1 [(0, 103), (1, 7)] = true := by decide +kernel
theorem rt_bs : (rt_b 9 6 && rt_b 10 8 && rt_b 11 8 && rt_b 12 6 && rt_b 13 7 && rt_b 14 0 && rt_b 15 7 && rt_b 16 5 && rt_b 17 6 && rt_b 18 1 && rt_b 19 0) = true := by decide +kernel
end ZRED
