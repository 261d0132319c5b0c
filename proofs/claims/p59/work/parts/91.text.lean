/-! The whole text read, in both. -/
section ZTXT
section
variable {μ0 ν0 : z_Mem} {t : Nat}
def w_KC : z_Mem → Int32 → Option (Int32 × z_Mem) := fun M10 k9 => some (0, M10)
def w_txt (μ0 ν0 : z_Mem) (t s k : Nat) : Prop := ∃ (o : Bool) (S N : Nat) (kd : Nat → Int32) (a : Nat → Nat) (v : Nat → Nat → Int32), S ≤ t ∧ (o = true → k < N ∧ N ≤ 9 ∧ ∀ i, k ≤ i → i < N → w_kd (kd i) (a i) (v i)) ∧
  (∀ (f : Nat) (μ : z_Mem), 9 - k < f → w_PC μ0 s k μ → ∃ μ' k', pR_readText_L12 f w_KC μ (Int32.ofNat k) = some (w_bi o, μ') ∧ w_PC μ0 S k' μ' ∧ (o = true → k' = N) ∧ (∀ j, j < k → μ' 35 j = μ 35 j) ∧ (∀ j, j < 3 * k → μ' 36 j = μ 36 j) ∧ (o = true → ∀ i, k ≤ i → i < N → μ' 35 i = kd i ∧ ∀ x, x < a i → μ' 36 (3 * i + x) = v i x)) ∧
  ∀ (f : Nat) (K : z_Mem → Int32 → Int32 → Option (Int32 × z_Mem)) (ν : z_Mem), 10 - k < f → w_PM ν0 s 0 ν → ∃ ν' N' w, pm_execute_L14 f K ν (Int32.ofNat k) 1 = K ν' (Int32.ofNat N') 0 ∧ w_PM ν0 S w ν' ∧ (o = true → w = 0 ∧ S = t ∧ N' = N) ∧ (o = false → w = 1 ∨ (w = 0 ∧ S < t)) ∧ (∀ j, j < 4 * k → ν' 250 j = ν 250 j) ∧ (o = true → ∀ i, k ≤ i → i < N → ν' 250 (4 * i) = kd i ∧ ∀ x, x < a i → ν' 250 (4 * i + 1 + x) = v i x)
theorem w_L14e {f : Nat} {K : z_Mem → Int32 → Int32 → Option (Int32 × z_Mem)} {ν : z_Mem} {a1 : Int32} (hf : 0 < f) : pm_execute_L14 f K ν a1 0 = K ν a1 0 := by
  obtain ⟨g, rfl⟩ : ∃ g, f = g + 1 := ⟨f - 1, by omega⟩
  show pm_execute_L14_B (pm_execute_L14 g K) K ν a1 0 = _
  unfold pm_execute_L14_B
  rw [if_pos rfl]
theorem w_txtL (ht : μ0 21 0 = Int32.ofNat t) (hT : w_Tx (μ0 22) t) (hM : w_TM ν0 (μ0 22) t) : ∀ (d k s : Nat), k + d = 9 → 7 * k ≤ s → s ≤ t → w_txt μ0 ν0 t s k := by
  intro d
  induction d with
  | zero => intro k s h1 h2 h3; have := hT.1; omega
  | succ d ih =>
    intro k s h1 h2 h3
    have h60 := hT.1
    obtain ⟨o, s', kd, a, v, c1, c2, c3, c4⟩ := w_cmdAll (s := s) ht hT hM h3 (show k ≤ 8 by omega)
    cases o with
    | false =>
      refine ⟨false, s', 0, fun _ => 0, fun _ => 0, fun _ _ => 0, c1, (fun h => by cases h), fun f μ hf hp => ?_, fun f K ν hf hp => ?_⟩
      · obtain ⟨f, rfl⟩ : ∃ g, f = g + 1 := ⟨f - 1, by omega⟩
        obtain ⟨μ1, a1, a2, a3, a4, -⟩ := c3 μ hp
        refine ⟨μ1, k, ?_, a2, (fun h => by cases h), fun j hj => a3 j (by omega), a4, fun h => by cases h⟩
        show pR_readText_L12_B (pR_readText_L12 f w_KC) w_KC μ (Int32.ofNat k) = _
        unfold pR_readText_L12_B
        rw [if_neg (show ¬ (9 : Int32) ≤ Int32.ofNat k from fun q => by have : 9 ≤ k := (w_lel (k := 9) (by decide) (by omega)).mp q; omega), a1]
        rfl
      · obtain ⟨f, rfl⟩ : ∃ g, f = g + 1 := ⟨f - 1, by omega⟩
        obtain ⟨ν1, a1, a2, a3, -⟩ := c4 ν hp
        refine ⟨z_u ν1 241 15 (Int32.ofNat s'), k + 1, 1, ?_, w_PM_s a2, (fun h => by cases h), fun _ => Or.inl rfl, fun j hj => by rw [w_u_ne (by decide)]; exact a3 j hj, fun h => by cases h⟩
        show pm_execute_L14_B (pm_execute_L14 f K) K ν (Int32.ofNat k) 1 = _
        unfold pm_execute_L14_B
        rw [if_neg w_10, show (4 : Int32) * Int32.ofNat k = Int32.ofNat (4 * k) from w_ml, show pm_parsesCommand ν (Int32.ofNat (4 * k)) = some ν1 from a1]
        dsimp only [Option.bind_some]
        rw [if_neg (show ¬ ν1 241 16 = 0 by rw [a2.2.1]; exact w_10), a2.1, show Int32.ofNat s' + 0 = Int32.ofNat s' from Int32.add_zero _, show Int32.ofNat k + 1 = Int32.ofNat (k + 1) from w_ar2]
        exact w_L14e (by omega)
    | true =>
      obtain ⟨g1, g2⟩ := c2 rfl
      -- the class up to the sign after the command
      have hC : ∀ (f : Nat) (μ : z_Mem), w_PC μ0 s k μ → ∃ μ1, pR_readText_L12 (f + 1) w_KC μ (Int32.ofNat k) = ((pR_read μ1 59).bind fun q5 => if q5.1 = 0 then if (q5.2 34 0) = (q5.2 21 0) then some (1, q5.2) else some (0, q5.2) else pR_readText_L12 f w_KC q5.2 (Int32.ofNat (k + 1))) ∧ w_PC μ0 s' (k + 1) μ1 ∧ (∀ j, j < k → μ1 35 j = μ 35 j) ∧ (∀ j, j < 3 * k → μ1 36 j = μ 36 j) ∧ μ1 35 k = kd ∧ ∀ x, x < a → μ1 36 (3 * k + x) = v x := fun f μ hp => by
        obtain ⟨μ1, a1, a2, a3, a4, a5⟩ := c3 μ hp
        refine ⟨z_u μ1 34 1 (Int32.ofNat (k + 1)), ?_, ⟨by rw [w_u_at (by decide)]; exact a2.1, w_u_eq, fun q x y z => by rw [w_u_ne x]; exact a2.2.2 q x y z⟩, fun j hj => by rw [w_u_ne (by decide)]; exact a3 j (by omega), fun j hj => by rw [w_u_ne (by decide)]; exact a4 j hj, by rw [w_u_ne (by decide)]; exact (a5 rfl).1, fun x hx => by rw [w_u_ne (by decide)]; exact (a5 rfl).2 x hx⟩
        show pR_readText_L12_B (pR_readText_L12 f w_KC) w_KC μ (Int32.ofNat k) = _
        unfold pR_readText_L12_B
        rw [if_neg (show ¬ (9 : Int32) ≤ Int32.ofNat k from fun q => by have : 9 ≤ k := (w_lel (k := 9) (by decide) (by omega)).mp q; omega), a1]
        dsimp only [Option.bind_some]
        rw [if_neg (show ¬ w_bi true = 0 from w_10), a2.2.1, show Int32.ofNat k + 1 = Int32.ofNat (k + 1) from w_ar2]
      have hR : ∀ (f : Nat) (K : z_Mem → Int32 → Int32 → Option (Int32 × z_Mem)) (ν : z_Mem), w_PM ν0 s 0 ν → ∃ ν1, pm_execute_L14 (f + 1) K ν (Int32.ofNat k) 1 = (if w_ah (μ0 22) t s' = 59 then pm_execute_L14 f K (z_u ν1 241 15 (Int32.ofNat (s' + 1))) (Int32.ofNat (k + 1)) 1 else pm_execute_L14 f K (z_u ν1 241 15 (Int32.ofNat s')) (Int32.ofNat (k + 1)) 0) ∧ w_PM ν0 s' 0 ν1 ∧ (∀ j, j < 4 * k → ν1 250 j = ν 250 j) ∧ ν1 250 (4 * k) = kd ∧ ∀ x, x < a → ν1 250 (4 * k + 1 + x) = v x := fun f K ν hp => by
        obtain ⟨ν1, a1, a2, a3, a4⟩ := c4 ν hp
        refine ⟨ν1, ?_, a2, a3, (a4 rfl).1, (a4 rfl).2⟩
        show pm_execute_L14_B (pm_execute_L14 f K) K ν (Int32.ofNat k) 1 = _
        unfold pm_execute_L14_B
        rw [if_neg w_10, show (4 : Int32) * Int32.ofNat k = Int32.ofNat (4 * k) from w_ml, show pm_parsesCommand ν (Int32.ofNat (4 * k)) = some ν1 from a1]
        dsimp only [Option.bind_some]
        rw [if_pos (show ν1 241 16 = 0 from a2.2.1), w_hr hM hT a2 c1]
        dsimp only [Option.bind_some]
        rw [a2.1, show Int32.ofNat s' + 0 = Int32.ofNat s' from Int32.add_zero _, show Int32.ofNat s' + 1 = Int32.ofNat (s' + 1) from w_ar2, show Int32.ofNat k + 1 = Int32.ofNat (k + 1) from w_ar2]
      by_cases h59 : w_ah (μ0 22) t s' = 59
      · have hlt : s' < t := w_ah_lt (c := 59) (by decide) h59
        obtain ⟨o2, S, N, kd2, a2, v2, d1, d2, d3, d4⟩ := ih (k + 1) (s' + 1) (by omega) (by omega) hlt
        refine ⟨o2, S, N, fun i => if i = k then kd else kd2 i, fun i => if i = k then a else a2 i, fun i => if i = k then v else v2 i, d1, fun ho => ?_, fun f μ hf hp => ?_, fun f K ν hf hp => ?_⟩
        · obtain ⟨e1, e2, e3⟩ := d2 ho
          refine ⟨by omega, e2, fun i i1 i2 => ?_⟩
          dsimp only
          by_cases hi : i = k
          · rw [if_pos hi, if_pos hi, if_pos hi]; exact g2
          · rw [if_neg hi, if_neg hi, if_neg hi]; exact e3 i (by omega) i2
        · obtain ⟨f, rfl⟩ : ∃ g, f = g + 1 := ⟨f - 1, by omega⟩
          obtain ⟨μ1, a1, b1, b2, b3, b4, b5⟩ := hC f μ hp
          obtain ⟨μ2, k', e1, e2, e3, e4, e5, e6⟩ := d3 f _ (by omega) (w_PC_sp b1 (s' := s' + 1))
          refine ⟨μ2, k', ?_, e2, e3, fun j hj => ?_, fun j hj => ?_, fun ho i i1 i2 => ?_⟩
          · rw [a1, w_rdY ht hT c1 b1 h59]
            dsimp only [Option.bind_some]
            rw [if_neg w_10]
            exact e1
          · rw [e4 j (by omega), w_u_ne (by decide)]; exact b2 j hj
          · rw [e5 j (by omega), w_u_ne (by decide)]; exact b3 j hj
          · dsimp only
            by_cases hi : i = k
            · rw [if_pos hi, if_pos hi, if_pos hi, hi]
              refine ⟨?_, fun x hx => ?_⟩
              · rw [e4 k (by omega), w_u_ne (by decide)]; exact b4
              · have : a ≤ 3 := by
                  rcases g2 with h | h | h | h | h | h <;> omega
                rw [e5 _ (by omega), w_u_ne (by decide)]; exact b5 x hx
            · rw [if_neg hi, if_neg hi, if_neg hi]; exact e6 ho i (by omega) i2
        · obtain ⟨f, rfl⟩ : ∃ g, f = g + 1 := ⟨f - 1, by omega⟩
          obtain ⟨ν1, a1, b1, b2, b3, b4⟩ := hR f K ν hp
          obtain ⟨ν2, N', w, e1, e2, e3, e4, e5, e6⟩ := d4 f K _ (by omega) (w_PM_s b1 (s' := s' + 1))
          refine ⟨ν2, N', w, ?_, e2, e3, e4, fun j hj => ?_, fun ho i i1 i2 => ?_⟩
          · rw [a1, if_pos h59]
            exact e1
          · rw [e5 j (by omega), w_u_ne (by decide)]; exact b2 j hj
          · dsimp only
            by_cases hi : i = k
            · rw [if_pos hi, if_pos hi, if_pos hi, hi]
              refine ⟨?_, fun x hx => ?_⟩
              · rw [e5 _ (by omega), w_u_ne (by decide)]; exact b3
              · have : a ≤ 3 := by
                  rcases g2 with h | h | h | h | h | h <;> omega
                rw [e5 _ (by omega), w_u_ne (by decide)]; exact b4 x hx
            · rw [if_neg hi, if_neg hi, if_neg hi]; exact e6 ho i (by omega) i2
      · by_cases hst : s' = t
        · refine ⟨true, s', k + 1, fun _ => kd, fun _ => a, fun _ => v, c1, fun _ => ⟨by omega, by omega, fun i _ _ => g2⟩, fun f μ hf hp => ?_, fun f K ν hf hp => ?_⟩
          · obtain ⟨f, rfl⟩ : ∃ g, f = g + 1 := ⟨f - 1, by omega⟩
            obtain ⟨μ1, a1, b1, b2, b3, b4, b5⟩ := hC f μ hp
            refine ⟨μ1, k + 1, ?_, b1, fun _ => rfl, b2, b3, fun _ i i1 i2 => ?_⟩
            · rw [a1, w_rdN ht hT c1 b1 h59]
              dsimp only [Option.bind_some]
              rw [if_pos rfl, if_pos (show μ1 34 0 = μ1 21 0 by rw [b1.1, b1.2.2 21 (by decide) (by decide) (by decide), ht, hst])]
              rfl
            · rw [show i = k by omega]; exact ⟨b4, b5⟩
          · obtain ⟨f, rfl⟩ : ∃ g, f = g + 1 := ⟨f - 1, by omega⟩
            obtain ⟨ν1, a1, b1, b2, b3, b4⟩ := hR f K ν hp
            refine ⟨z_u ν1 241 15 (Int32.ofNat s'), k + 1, 0, ?_, w_PM_s b1, fun _ => ⟨rfl, hst, rfl⟩, (fun h => by cases h), fun j hj => by rw [w_u_ne (by decide)]; exact b2 j hj, fun _ i i1 i2 => ?_⟩
            · rw [a1, if_neg h59]
              exact w_L14e (by omega)
            · rw [show i = k by omega, w_u_ne (by decide)]; exact ⟨b3, b4⟩
        · refine ⟨false, s', 0, fun _ => 0, fun _ => 0, fun _ _ => 0, c1, (fun h => by cases h), fun f μ hf hp => ?_, fun f K ν hf hp => ?_⟩
          · obtain ⟨f, rfl⟩ : ∃ g, f = g + 1 := ⟨f - 1, by omega⟩
            obtain ⟨μ1, a1, b1, b2, b3, b4, b5⟩ := hC f μ hp
            refine ⟨μ1, k + 1, ?_, b1, (fun h => by cases h), b2, b3, fun h => by cases h⟩
            rw [a1, w_rdN ht hT c1 b1 h59]
            dsimp only [Option.bind_some]
            rw [if_pos rfl, if_neg (show ¬ μ1 34 0 = μ1 21 0 by rw [b1.1, b1.2.2 21 (by decide) (by decide) (by decide), ht]; exact fun q => hst ((w_eq (by omega) (by omega)).mp q))]
            rfl
          · obtain ⟨f, rfl⟩ : ∃ g, f = g + 1 := ⟨f - 1, by omega⟩
            obtain ⟨ν1, a1, b1, b2, b3, b4⟩ := hR f K ν hp
            refine ⟨z_u ν1 241 15 (Int32.ofNat s'), k + 1, 0, ?_, w_PM_s b1, (fun h => by cases h), fun _ => Or.inr ⟨rfl, by omega⟩, fun j hj => by rw [w_u_ne (by decide)]; exact b2 j hj, fun h => by cases h⟩
            rw [a1, if_neg h59]
            exact w_L14e (by omega)
end
end ZTXT
