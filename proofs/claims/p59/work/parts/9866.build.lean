/-! What build makes: an object of four gears or more. -/
section ZBUI
theorem Bz_up {n m : Nat} {μ : z_Mem} (h : n ≤ m) (B : Bz n μ) : Bz m μ := by
  obtain ⟨⟨g, H⟩, b⟩ := B
  exact ⟨⟨g, w_Rel_up h H⟩, b⟩
theorem b_and31 (x : Int32) : ∃ t, t < 32 ∧ x &&& 31 = Int32.ofNat t := by
  refine ⟨x.toBitVec.toNat % 32, Nat.mod_lt _ (by omega), ?_⟩
  apply Int32.toBitVec_inj.mp
  apply BitVec.eq_of_toNat_eq
  rw [Int32.toBitVec_and, BitVec.toNat_and, show (31 : Int32).toBitVec.toNat = 2 ^ 5 - 1 from rfl, Nat.and_two_pow_sub_one_eq_mod]
  show _ = (x.toBitVec.toNat % 32) % 4294967296
  have := Nat.mod_lt x.toBitVec.toNat (show 32 > 0 by omega)
  omega
theorem b_and3 (x : Int32) : ∃ t, t < 4 ∧ x &&& 3 = Int32.ofNat t := by
  refine ⟨x.toBitVec.toNat % 4, Nat.mod_lt _ (by omega), ?_⟩
  apply Int32.toBitVec_inj.mp
  apply BitVec.eq_of_toNat_eq
  rw [Int32.toBitVec_and, BitVec.toNat_and, show (3 : Int32).toBitVec.toNat = 2 ^ 2 - 1 from rfl, Nat.and_two_pow_sub_one_eq_mod]
  show _ = (x.toBitVec.toNat % 4) % 4294967296
  have := Nat.mod_lt x.toBitVec.toNat (show 4 > 0 by omega)
  omega
theorem b_pmG {g : Nat → Int32} {G t : Nat} (hg : g 0 = Int32.ofNat G) (hG : G < 10) (h1 : 8 ≤ t) (h2 : t ≤ 60) {b : Int32} {ν' : z_Mem} (h : pm_addsGear (fun _ => g) (Int32.ofNat t) = some (b, ν')) : ν' 241 12 = 0 ∧ ν' 242 0 = Int32.ofNat (G + 1) := by
  unfold pm_addsGear at h
  rcases w_within (μ := fun _ => g) (ν := fun _ => g) (Int32.ofNat t) 8 60 with ⟨-, e2, -, -⟩ | ⟨-, -, e3⟩
  · rw [e2] at h
    dsimp only [Option.bind_some] at h
    rw [if_neg w_10] at h
    simp only [hg] at h
    rw [if_neg (fun q => by have := (w_eqr (k := 10) (by decide) (by omega)).mp q; have h3 : G = 10 := this; omega), w_al, if_pos ((w_inn (by omega)).mpr (by show 7 + G < 331; omega)), w_tn (by show 7 + G < 2147483648; omega)] at h
    unfold pm_done at h
    dsimp only [Option.bind_some] at h
    cases h
    refine ⟨w_u_eq, ?_⟩
    rw [w_u_ne (by decide), w_u_eq, w_u_at (by show 0 ≠ 7 + G; omega)]
    show g 0 + 1 = _
    rw [hg]
    exact w_ar2
  · exact absurd ⟨(w_lel (k := 8) (by decide) (by omega)).mpr h1, (w_ler (k := 60) (by decide) (by omega)).mpr h2⟩ e3
/-- one gear more, unless there are ten -/
theorem b_gear {n : Nat} {μ : z_Mem} {t k : Nat} {i3 i4 : Int32} (hn : n ≤ 900000) (B : Bz n μ) (h1 : 8 ≤ t) (h2 : t ≤ 60) (hk : k < 10) (hG : Int32.ofNat k ≤ μ 2 0) : ∃ v μ3, pL_act μ 0 (Int32.ofNat t) i3 i4 = some (v, μ3) ∧ Bz (n + 99) μ3 ∧ Int32.ofNat (k + 1) ≤ μ3 2 0 := by
  obtain ⟨⟨g, H⟩, ⟨k1, o, hH⟩, h21⟩ := id B
  obtain ⟨G, M, W, S, E, HN⟩ := id H
  have hG1 := HN.1.2.2.1
  have e20 : μ 2 0 = Int32.ofNat G := HN.1.1
  by_cases hG2 : G = 10
  · obtain ⟨v, μ3, c1, c2, c3⟩ := b_a0 (i2 := Int32.ofNat t) (i3 := i3) (i4 := i4) hn B
    refine ⟨v, μ3, c1, c2, Int32.le_trans ?_ c3⟩
    rw [e20, hG2]
    exact (w_le (by omega) (by omega)).mpr (by omega)
  · have hkG : k ≤ G := (w_le (by omega) (by omega)).mp (by rw [e20] at hG; exact hG)
    obtain ⟨b, ν', hb⟩ : ∃ b ν', pm_addsGear (fun _ => g) (Int32.ofNat t) = some (b, ν') := by
      obtain ⟨-, -, b, ν', -, q, -⟩ := w_cGear (n := n) (m := n + 99) (by omega) (Int32.ofNat t) μ (fun _ => g) H
      exact ⟨b, ν', q⟩
    obtain ⟨p1, p2⟩ := b_pmG HN.1.2.1 (by omega) h1 h2 hb
    obtain ⟨μ3, f1, -, -, -, hC⟩ := c_change (n := n) (m := n + 99) (T := fun μ => pG_tryGear μ (Int32.ofNat t)) (b := b) (ν' := ν') (by omega) H hH (fun μ1 h => by
      obtain ⟨a, μ', b2, ν2, e1, e2, e3⟩ := w_cGear (n := n) (m := n + 99) (by omega) (Int32.ofNat t) μ1 (fun _ => g) h
      cases Option.some.inj (e2.symm.trans hb)
      exact ⟨_, a, μ', e1, e3⟩)
    have e21 : μ3 21 0 = 0 := by rw [f1 21 (by omega)]; exact h21
    rcases hC with ⟨-, -, e, c1, c2⟩ | ⟨E, -, c0, -⟩
    · refine ⟨b, μ3, ?_, ⟨⟨_, c1⟩, ⟨_, _, c2⟩, e21⟩, ?_⟩
      · unfold pL_act
        rw [if_pos rfl]
        rw [show pG_addGear μ (Int32.ofNat t) = some (.inl b, μ3) from e]
        rfl
      · obtain ⟨G3, M3, W3, S3, E3, H3⟩ := c1
        rw [show μ3 2 0 = Int32.ofNat G3 from H3.1.1]
        have hg3 := H3.1.2.1
        rw [p2] at hg3
        have := H3.1.2.2.1
        have h4 := (w_eq (by omega) (by omega)).mp hg3
        exact (w_le (by omega) (by omega)).mpr (by omega)
    · exact absurd p1 c0
section
variable {n : Nat} {μ : z_Mem} {K : z_Mem → Option z_Mem} {Q : z_Mem → Prop} {z k c g : Int32}
theorem b_k {F : Option (Int32 × z_Mem)} (h4 : 4 ≤ μ 2 0) (hK : ∀ μ', Bz (n + 99) μ' → 4 ≤ μ' 2 0 → ∃ r, K μ' = some r ∧ Q r) (h : ∃ v μ3, F = some (v, μ3) ∧ Bz (n + 99) μ3 ∧ μ 2 0 ≤ μ3 2 0) : ∃ r, (F.bind fun q => K q.2) = some r ∧ Q r := by
  obtain ⟨v, μ3, h1, h2, h3⟩ := h
  rw [h1]
  exact hK μ3 h2 (Int32.le_trans h4 h3)
theorem b_s1 (hg : ¬ g = 0) (hn : n ≤ 900000) (B : Bz n μ) (h4 : 4 ≤ μ 2 0) (hK : ∀ μ', Bz (n + 99) μ' → 4 ≤ μ' 2 0 → ∃ r, K μ' = some r ∧ Q r) : ∃ r, pB_s1 K z k c g μ = some r ∧ Q r := by
  unfold pB_s1
  rw [if_neg hg]
  exact b_k h4 hK (b_a3 hn B)
theorem b_s2 (hg : ¬ g = 0) (hn : n ≤ 900000) (B : Bz n μ) (h4 : 4 ≤ μ 2 0) (hK : ∀ μ', Bz (n + 99) μ' → 4 ≤ μ' 2 0 → ∃ r, K μ' = some r ∧ Q r) : ∃ r, pB_s2 K z k c g μ = some r ∧ Q r := by
  unfold pB_s2
  rw [if_neg hg]
  exact b_k h4 hK (b_a3 hn B)
theorem b_s3 (hg : ¬ g = 0) (hn : n ≤ 900000) (B : Bz n μ) (h4 : 4 ≤ μ 2 0) (hK : ∀ μ', Bz (n + 99) μ' → 4 ≤ μ' 2 0 → ∃ r, K μ' = some r ∧ Q r) : ∃ r, pB_s3 K z k c g μ = some r ∧ Q r := by
  unfold pB_s3
  split
  · exact b_k h4 hK (b_a4 hn B)
  · exact hK μ (Bz_up (by omega) B) h4
theorem b_s4 (hn : n ≤ 900000) (B : Bz n μ) (h4 : 4 ≤ μ 2 0) (hK : ∀ μ', Bz (n + 99) μ' → 4 ≤ μ' 2 0 → ∃ r, K μ' = some r ∧ Q r) : ∃ r, pB_s4 K z k c g μ = some r ∧ Q r := by
  unfold pB_s4
  split
  · exact b_k h4 hK (b_a5 hn B)
  · exact hK μ (Bz_up (by omega) B) h4
theorem b_s5 (hg : ¬ g = 0) (hn : n ≤ 900000) (B : Bz n μ) (h4 : 4 ≤ μ 2 0) (hK : ∀ μ', Bz (n + 99) μ' → 4 ≤ μ' 2 0 → ∃ r, K μ' = some r ∧ Q r) : ∃ r, pB_s5 K z k c g μ = some r ∧ Q r := by
  unfold pB_s5
  split
  · exact b_k h4 hK (b_a2 hn B)
  · exact hK μ (Bz_up (by omega) B) h4
theorem b_s6 (hg : ¬ g = 0) (hn : n ≤ 900000) (B : Bz n μ) (h4 : 4 ≤ μ 2 0) (hK : ∀ μ', Bz (n + 99) μ' → 4 ≤ μ' 2 0 → ∃ r, K μ' = some r ∧ Q r) : ∃ r, pB_s6 K z k c g μ = some r ∧ Q r := by
  unfold pB_s6
  split
  · exact b_k h4 hK (b_a1 hn B)
  · exact hK μ (Bz_up (by omega) B) h4
theorem b_s7 (hn : n ≤ 900000) (B : Bz n μ) (h4 : 4 ≤ μ 2 0) (hK : ∀ μ', Bz (n + 99) μ' → 4 ≤ μ' 2 0 → ∃ r, K μ' = some r ∧ Q r) : ∃ r, pB_s7 K z k c g μ = some r ∧ Q r := by
  unfold pB_s7
  split
  · exact b_k h4 hK (b_a7 hn B)
  · exact hK μ (Bz_up (by omega) B) h4
theorem b_s8 (hn : n ≤ 900000) (B : Bz n μ) (h4 : 4 ≤ μ 2 0) (hK : ∀ μ', Bz (n + 99) μ' → 4 ≤ μ' 2 0 → ∃ r, K μ' = some r ∧ Q r) : ∃ r, pB_s8 K z k c g μ = some r ∧ Q r := by
  unfold pB_s8
  split
  · exact b_k h4 hK (b_a8 hn B)
  · exact hK μ (Bz_up (by omega) B) h4
theorem b_s9 (hn : n ≤ 900000) (B : Bz n μ) (h4 : 4 ≤ μ 2 0) (hK : ∀ μ', Bz (n + 99) μ' → 4 ≤ μ' 2 0 → ∃ r, K μ' = some r ∧ Q r) : ∃ r, pB_s9 K z k c g μ = some r ∧ Q r := by
  unfold pB_s9
  split
  · exact b_k h4 hK (b_a6 hn B)
  · exact hK μ (Bz_up (by omega) B) h4
theorem b_s10 (hn : n ≤ 900000) (B : Bz n μ) (h4 : 4 ≤ μ 2 0) (hK : ∀ μ', Bz (n + 99) μ' → 4 ≤ μ' 2 0 → ∃ r, K μ' = some r ∧ Q r) : ∃ r, pB_s10 K z k c g μ = some r ∧ Q r := by
  unfold pB_s10
  split
  · exact b_k h4 hK (b_a10 hn B)
  · exact hK μ (Bz_up (by omega) B) h4
theorem b_s11 (hn : n ≤ 900000) (B : Bz n μ) (h4 : 4 ≤ μ 2 0) (hK : ∀ μ', Bz (n + 99) μ' → 4 ≤ μ' 2 0 → ∃ r, K μ' = some r ∧ Q r) : ∃ r, pB_s11 K z k c g μ = some r ∧ Q r := by
  unfold pB_s11
  split
  · exact b_k h4 hK (b_a0 hn B)
  · exact hK μ (Bz_up (by omega) B) h4
end
theorem b_L2 {S : Int32 → Int32} {z : Int32} {N : Nat} (hN : N ≤ 800000) : ∀ (f i n : Nat) (μ : z_Mem), 1 ≤ i → i ≤ 13 → 13 - i < f → n + 1100 * (13 - i) ≤ N → Bz n μ → 4 ≤ μ 2 0 → ∃ r, pB_L2 S z f μ (Int32.ofNat i) = some r ∧ (Bz N r ∧ 4 ≤ r 2 0) := by
  intro f
  induction f with
  | zero => intro i n μ _ _ h; omega
  | succ f ih =>
    intro i n μ h1 h13 hf hn B h4
    show ∃ r, (if 13 ≤ Int32.ofNat i then some μ else if Int32.ofNat i < 0 then none else (fun c => (pG_gearCount μ).bind fun g => pB_s1 (fun m => pB_s2 (fun m => pB_s3 (fun m => pB_s4 (fun m => pB_s5 (fun m => pB_s6 (fun m => pB_s7 (fun m => pB_s8 (fun m => pB_s9 (fun m => pB_s10 (fun m => pB_s11 (fun m => pB_L2 S z f m (Int32.ofNat i + 1)) z (Int32.ofNat i) c g m) z (Int32.ofNat i) c g m) z (Int32.ofNat i) c g m) z (Int32.ofNat i) c g m) z (Int32.ofNat i) c g m) z (Int32.ofNat i) c g m) z (Int32.ofNat i) c g m) z (Int32.ofNat i) c g m) z (Int32.ofNat i) c g m) z (Int32.ofNat i) c g m) z (Int32.ofNat i) c g μ) (S (Int32.ofNat i))) = some r ∧ (Bz N r ∧ 4 ≤ r 2 0)
    by_cases hi : i = 13
    · subst hi
      rw [if_pos (show (13 : Int32) ≤ Int32.ofNat 13 by decide)]
      exact ⟨μ, rfl, Bz_up (by omega) B, h4⟩
    · rw [if_neg (fun q => by have h3 : 13 ≤ i := (w_lel (k := 13) (by decide) (by omega)).mp q; omega), if_neg (w_n0 (by omega))]
      dsimp only
      unfold pG_gearCount
      dsimp only [Option.bind_some]
      have hg : ¬ μ 2 0 = 0 := fun q => by rw [q] at h4; exact absurd h4 (by decide)
      have e : Int32.ofNat i + 1 = Int32.ofNat (i + 1) := w_ar2
      rw [e]
      refine b_s1 hg (by omega) B h4 (fun μ B h4 => ?_)
      refine b_s2 hg (by omega) B h4 (fun μ B h4 => ?_)
      refine b_s3 hg (by omega) B h4 (fun μ B h4 => ?_)
      refine b_s4 (by omega) B h4 (fun μ B h4 => ?_)
      refine b_s5 hg (by omega) B h4 (fun μ B h4 => ?_)
      refine b_s6 hg (by omega) B h4 (fun μ B h4 => ?_)
      refine b_s7 (by omega) B h4 (fun μ B h4 => ?_)
      refine b_s8 (by omega) B h4 (fun μ B h4 => ?_)
      refine b_s9 (by omega) B h4 (fun μ B h4 => ?_)
      refine b_s10 (by omega) B h4 (fun μ B h4 => ?_)
      refine b_s11 (by omega) B h4 (fun μ B h4 => ?_)
      exact ih (i + 1) _ μ (by omega) (by omega) (by omega) (by omega) B h4
theorem b_L1 {z : Int32} {K : z_Mem → Option z_Mem} {N L : Nat} {Q : z_Mem → Prop} (hN : N ≤ 800000) (hL : L < 10) (hz : (4 + (z &&& 3)) = Int32.ofNat L) (hK : ∀ μ', Bz N μ' → Int32.ofNat L ≤ μ' 2 0 → ∃ r, K μ' = some r ∧ Q r) : ∀ (f i n : Nat) (μ : z_Mem), i ≤ L → L - i < f → n + 200 * (L - i) ≤ N → Bz n μ → Int32.ofNat i ≤ μ 2 0 → ∃ r, pB_L1 z K f μ (Int32.ofNat i) = some r ∧ Q r := by
  intro f
  induction f with
  | zero => intro i n μ _ h; omega
  | succ f ih =>
    intro i n μ hi hf hn B hG
    show ∃ r, (if (4 + (z &&& 3)) ≤ Int32.ofNat i then K μ else pB_a1 (fun m => pB_a2 (fun m => pB_L1 z K f m (Int32.ofNat i + 1)) z (Int32.ofNat i) m) z (Int32.ofNat i) μ) = some r ∧ Q r
    rw [hz]
    by_cases hiL : i = L
    · subst hiL
      rw [if_pos (Int32.le_refl _)]
      exact hK μ (Bz_up (by omega) B) hG
    · rw [if_neg (fun q => by have h3 : L ≤ i := (w_le (by omega) (by omega)).mp q; omega)]
      have e : Int32.ofNat i + 1 = Int32.ofNat (i + 1) := w_ar2
      rw [e]
      unfold pB_a1
      obtain ⟨t, ht, e31⟩ := b_and31 (z >>> ((((2 : Int32) + ((2 : Int32) * Int32.ofNat i)) : Int32) &&& 31))
      rw [e31, show (8 : Int32) + Int32.ofNat t = Int32.ofNat (8 + t) from w_al]
      obtain ⟨v, μ3, c1, c2, c3⟩ := b_gear (i3 := 0) (i4 := 0) (t := 8 + t) (k := i) (by omega) B (by omega) (by omega) (by omega) hG
      rw [c1]
      dsimp only [Option.bind_some]
      unfold pB_a2
      by_cases hi0 : i = 0
      · subst hi0
        rw [if_pos (show Int32.ofNat 0 ≤ 0 by decide)]
        exact ih 1 _ μ3 (by omega) (by omega) (by omega) c2 c3
      · rw [if_neg (fun q => by have h3 : i ≤ 0 := (w_ler (k := 0) (by decide) (by omega)).mp q; omega), if_neg (fun q => by have h3 : i = 0 := (w_eqr (k := 0) (by decide) (by omega)).mp q; omega)]
        obtain ⟨v2, μ4, d1, d2, d3⟩ := b_a1 (i2 := (((z >>> ((((3 : Int32) + ((2 : Int32) * Int32.ofNat i)) : Int32) &&& 31)) &&& 7) - ((z >>> ((((3 : Int32) + ((2 : Int32) * Int32.ofNat i)) : Int32) &&& 31)) &&& 7) / Int32.ofNat i * Int32.ofNat i)) (i3 := Int32.ofNat i) (i4 := (((z >>> ((Int32.ofNat i : Int32) &&& 31)) &&& 7) - ((z >>> ((Int32.ofNat i : Int32) &&& 31)) &&& 7) / 6 * 6)) (by omega) c2
        rw [d1]
        exact ih (i + 1) _ μ4 (by omega) (by omega) (by omega) d2 (Int32.le_trans c3 d3)
theorem b_build {S : Int32 → Int32} {μ : z_Mem} (B : Bz 0 μ) (h0 : 0 ≤ μ 2 0) : ∃ r, pB S μ = some r ∧ (Bz 20000 r ∧ 4 ≤ r 2 0) := by
  obtain ⟨t, ht, e⟩ := b_and3 (S 0)
  unfold pB
  refine b_L1 (N := 2000) (L := 4 + t) (by omega) (by omega) (by rw [e]; exact w_al) (fun μ' B' h4 => ?_) 8 0 0 μ (by omega) (by omega) (by omega) B h0
  exact b_L2 (N := 20000) (by omega) 13 1 2000 μ' (by omega) (by omega) (by omega) (by omega) B' (Int32.le_trans ((w_lel (k := 4) (by decide) (by omega)).mpr (by show 4 ≤ 4 + t; omega)) h4)
end ZBUI
