/-! The whole of the law's state reads the reference's row alone. -/
section ZSTT
section
variable {n : Nat} {g : Nat → Int32} {G M W S E : Nat}
theorem s_gc {μ : z_Mem} (h : DP n g G M W S E μ) : pG_gearCount μ = some (Int32.ofNat G) := congrArg some (show μ 2 0 = Int32.ofNat G from h.1.1)
theorem s_mc {μ : z_Mem} (h : DP n g G M W S E μ) : pG_meshCount μ = some (Int32.ofNat M) := congrArg some (show μ 2 1 = Int32.ofNat M from h.2.1.1)
theorem s_tt {μ : z_Mem} (h : DP n g G M W S E μ) : pG_turnedTeeth μ = some (g 6) := congrArg some (show μ 2 2 = g 6 from h.1.2.2.2.2.2.2.2)
theorem s_wc {μ : z_Mem} (h : DP n g G M W S E μ) : pG_wheelCount μ = some (Int32.ofNat W) := congrArg some (show μ 9 0 = Int32.ofNat W from h.2.2.2.1.1)
theorem s_sc {μ : z_Mem} (h : DP n g G M W S E μ) : pG_starCount μ = some (Int32.ofNat S) := congrArg some (show μ 12 0 = Int32.ofNat S from h.2.2.2.2.1.1)
theorem s_L53 {a : Nat} (ha : a < G) {K : z_Mem → Int32 → Int32 → Option (Int32 × z_Mem)} (hG : G ≤ 10) (hK : ∀ x y, Ds (DP n g G M W S E) (fun μ => K μ x y)) : ∀ (f b : Nat) (x : Int32), b ≤ a → a - b < f → Ds (DP n g G M W S E) (fun μ => pL_state_L53 f μ (Int32.ofNat a) (K μ) x (Int32.ofNat b)) := by
  intro f
  induction f with
  | zero => intro b x _ h; omega
  | succ f ih =>
    intro b x hb hf
    show Ds (DP n g G M W S E) (fun μ => pL_state_L53_B (pL_state_L53 f μ (Int32.ofNat a) (K μ)) μ (Int32.ofNat a) (K μ) x (Int32.ofNat b))
    unfold pL_state_L53_B
    refine Ds_if (fun _ => hK _ _) (fun hc => ?_)
    have hb2 : b < a := by
      rcases Nat.lt_or_ge b a with h | h
      · exact h
      · exact absurd ((w_le (by omega) (by omega)).mpr h) hc
    refine Ds_c (fun μ hμ => d_doMesh hμ ha (by omega) (by omega)) ?_
    have e : Int32.ofNat b + 1 = Int32.ofNat (b + 1) := w_ar2
    refine Ds_if (fun _ => ?_) (fun hg => ?_)
    · rw [e]
      exact ih (b + 1) _ (by omega) (by omega)
    · have hg2 : ¬ g (27 + w_pr a b) = 0 := fun q => hg (if_pos q)
      refine Ds_c (fun μ hμ => d_gap hμ ha (by omega) (by omega) hg2) ?_
      refine Ds_c (fun μ hμ => d_slack hμ ha (by omega) (by omega) hg2) ?_
      rw [e]
      exact ih (b + 1) _ (by omega) (by omega)
theorem s_L23 {K : z_Mem → Int32 → Int32 → Option (Int32 × z_Mem)} (hG : G ≤ 10) (hK : ∀ x y, Ds (DP n g G M W S E) (fun μ => K μ x y)) : ∀ (f a : Nat) (x : Int32), a ≤ G → G - a < f → Ds (DP n g G M W S E) (fun μ => pL_state_L23 f μ (K μ) x (Int32.ofNat a)) := by
  intro f
  induction f with
  | zero => intro a x _ h; omega
  | succ f ih =>
    intro a x ha hf
    show Ds (DP n g G M W S E) (fun μ => pL_state_L23_B (pL_state_L23 f μ (K μ)) μ (K μ) x (Int32.ofNat a))
    unfold pL_state_L23_B
    refine Ds_c (fun μ hμ => s_gc hμ) ?_
    refine Ds_if (fun _ => hK _ _) (fun hc => ?_)
    have ha2 : a < G := by
      rcases Nat.lt_or_ge a G with h | h
      · exact h
      · exact absurd ((w_le (by omega) (by omega)).mpr h) hc
    refine Ds_c (fun μ hμ => d_teeth hμ ha2) ?_
    refine Ds_c (fun μ hμ => d_pos hμ ha2) ?_
    have e : Int32.ofNat a + 1 = Int32.ofNat (a + 1) := w_ar2
    rw [e]
    exact s_L53 ha2 (K := fun μ k22 k23 => pL_state_L23 f μ (K μ) k22 (Int32.ofNat (a + 1))) hG (fun x y => ih (a + 1) x (by omega) (by omega)) z_fu 0 _ (by omega) (by show a - 0 < 3000; omega)
theorem s_L109 {K : z_Mem → Int32 → Int32 → Option (Int32 × z_Mem)} (hW : W ≤ 4) (hK : ∀ x y, Ds (DP n g G M W S E) (fun μ => K μ x y)) : ∀ (f a : Nat) (x : Int32), a ≤ W → W - a < f → Ds (DP n g G M W S E) (fun μ => pL_state_L109 f μ (K μ) x (Int32.ofNat a)) := by
  intro f
  induction f with
  | zero => intro a x _ h; omega
  | succ f ih =>
    intro a x ha hf
    show Ds (DP n g G M W S E) (fun μ => pL_state_L109_B (pL_state_L109 f μ (K μ)) μ (K μ) x (Int32.ofNat a))
    unfold pL_state_L109_B
    refine Ds_c (fun μ hμ => s_wc hμ) ?_
    refine Ds_if (fun _ => hK _ _) (fun hc => ?_)
    have ha2 : a < W := by
      rcases Nat.lt_or_ge a W with h | h
      · exact h
      · exact absurd ((w_le (by omega) (by omega)).mpr h) hc
    refine Ds_c (fun μ hμ => d_gearOf hμ ha2) ?_
    refine Ds_c (fun μ hμ => d_spoke hμ ha2) ?_
    have e : Int32.ofNat a + 1 = Int32.ofNat (a + 1) := w_ar2
    rw [e]
    exact ih (a + 1) _ (by omega) (by omega)
theorem s_L146 {K : z_Mem → Int32 → Int32 → Option (Int32 × z_Mem)} (hS : S ≤ 8) (hK : ∀ x y, Ds (DP n g G M W S E) (fun μ => K μ x y)) : ∀ (f a : Nat) (x : Int32), a ≤ S → S - a < f → Ds (DP n g G M W S E) (fun μ => pL_state_L146 f μ (K μ) x (Int32.ofNat a)) := by
  intro f
  induction f with
  | zero => intro a x _ h; omega
  | succ f ih =>
    intro a x ha hf
    show Ds (DP n g G M W S E) (fun μ => pL_state_L146_B (pL_state_L146 f μ (K μ)) μ (K μ) x (Int32.ofNat a))
    unfold pL_state_L146_B
    refine Ds_c (fun μ hμ => s_sc hμ) ?_
    refine Ds_if (fun _ => hK _ _) (fun hc => ?_)
    have ha2 : a < S := by
      rcases Nat.lt_or_ge a S with h | h
      · exact h
      · exact absurd ((w_le (by omega) (by omega)).mpr h) hc
    refine Ds_c (fun μ hμ => d_star hμ ha2) ?_
    refine Ds_c (fun μ hμ => d_star hμ ha2) ?_
    refine Ds_b (d_dir ha2) (fun v => ?_)
    refine Ds_c (fun μ hμ => d_star hμ ha2) ?_
    refine Ds_b (d_dir7 ha2) (fun v2 => ?_)
    have e : Int32.ofNat a + 1 = Int32.ofNat (a + 1) := w_ar2
    rw [e]
    exact ih (a + 1) _ (by omega) (by omega)
theorem s_state0 (hG : G ≤ 10) (hW : W ≤ 4) (hS : S ≤ 8) : Ds (DP n g G M W S E) (fun μ => pL_state μ) := by
  unfold pL_state
  refine Ds_c (fun μ hμ => s_gc hμ) ?_
  refine Ds_c (fun μ hμ => s_mc hμ) ?_
  refine Ds_c (fun μ hμ => s_tt hμ) ?_
  refine s_L23 (K := fun μ k24 k25 => _) hG (fun x y => ?_) z_fu 0 _ (by omega) (by show G - 0 < 3000; omega)
  refine s_L109 (K := fun μ k33 k34 => _) hW (fun x y => ?_) z_fu 0 _ (by omega) (by show W - 0 < 3000; omega)
  refine s_L146 (K := fun μ k48 k49 => _) hS (fun x y => ?_) z_fu 0 _ (by omega) (by show S - 0 < 3000; omega)
  refine Ds_s (d_act16 (l := 97) (d := 0) (by decide) (by decide) (by decide) (by decide +kernel) (by decide +kernel)) (fun v => ?_)
  refine Ds_s (d_act16 (l := 98) (d := 0) (by decide) (by decide) (by decide) (by decide +kernel) (by decide +kernel)) (fun v => ?_)
  refine Ds_s (d_act16 (l := 97) (d := 1) (by decide) (by decide) (by decide) (by decide +kernel) (by decide +kernel)) (fun v => ?_)
  refine Ds_s (d_act16 (l := 98) (d := 1) (by decide) (by decide) (by decide) (by decide +kernel) (by decide +kernel)) (fun v => ?_)
  refine Ds_s (d_act16 (l := 97) (d := 2) (by decide) (by decide) (by decide) (by decide +kernel) (by decide +kernel)) (fun v => ?_)
  refine Ds_s (d_act16 (l := 98) (d := 2) (by decide) (by decide) (by decide) (by decide +kernel) (by decide +kernel)) (fun v => ?_)
  refine Ds_s (d_act16 (l := 97) (d := 3) (by decide) (by decide) (by decide) (by decide +kernel) (by decide +kernel)) (fun v => ?_)
  refine Ds_s (d_act16 (l := 98) (d := 3) (by decide) (by decide) (by decide) (by decide +kernel) (by decide +kernel)) (fun v => ?_)
  dsimp only
  exact ⟨_, fun μ _ => rfl⟩
end
/-- two memories that stand to the same row have the same numbers -/
theorem s_num {n n' : Nat} {g : Nat → Int32} {G M W S E G' M' W' S' E' : Nat} {μ μ' : z_Mem} (h : DP n g G M W S E μ) (h' : DP n' g G' M' W' S' E' μ') : DP n' g G M W S E μ' := by
  have h1 : G' = G := (w_eq (by have := h'.1.2.2.1; omega) (by have := h.1.2.2.1; omega)).mp (h'.1.2.1.symm.trans h.1.2.1)
  have h2 : M' = M := by
    have a := w_meshes (ν := fun _ => g) (w_CT_of h.1 h.2.1 h.2.2.1) (w_Rf_of h.1 h.2.1)
    have b := w_meshes (ν := fun _ => g) (w_CT_of h'.1 h'.2.1 h'.2.2.1) (w_Rf_of h'.1 h'.2.1)
    exact (w_eq (by have := h'.2.1.2.1; omega) (by have := h.2.1.2.1; omega)).mp (Option.some.inj (b.symm.trans a))
  have h3 : W' = W := (w_eq (by have := h'.2.2.2.1.2.2.1; omega) (by have := h.2.2.2.1.2.2.1; omega)).mp (h'.2.2.2.1.2.1.symm.trans h.2.2.2.1.2.1)
  have h4 : S' = S := (w_eq (by have := h'.2.2.2.2.1.2.2.1; omega) (by have := h.2.2.2.2.1.2.2.1; omega)).mp (h'.2.2.2.2.1.2.1.symm.trans h.2.2.2.2.1.2.1)
  have h5 : E' = E := (w_eq (by have := h'.2.2.2.2.2.1.2.2.1; omega) (by have := h.2.2.2.2.2.1.2.2.1; omega)).mp (h'.2.2.2.2.2.1.2.1.symm.trans h.2.2.2.2.2.1.2.1)
  subst h1 h2 h3 h4 h5
  exact h'
/-- the state of all memories that stand to a row -/
theorem s_state (n : Nat) (g : Nat → Int32) : ∃ v, ∀ μ, w_Rel n (w_st μ 1) g → pL_state μ = some (v, μ) := by
  by_cases hx : ∃ μ0, w_Rel n (w_st μ0 1) g
  · obtain ⟨μ0, G, M, W, S, E, h0⟩ := hx
    obtain ⟨v, hv⟩ := s_state0 (n := n) (g := g) (G := G) (M := M) (W := W) (S := S) (E := E) h0.1.2.2.1 h0.2.2.2.1.2.2.1 h0.2.2.2.2.1.2.2.1
    refine ⟨v, fun μ hμ => ?_⟩
    obtain ⟨G', M', W', S', E', h'⟩ := hμ
    exact hv μ (s_num (n := n) h0 h')
  · exact ⟨0, fun μ hμ => absurd ⟨μ, hμ⟩ hx⟩
end ZSTT
