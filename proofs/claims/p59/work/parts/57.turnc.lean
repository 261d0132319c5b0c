/-! The class's walk of turning. -/
section ZTUC
/-- the mesh of two gears -/
noncomputable def w_eo (c : w_Cl) (M x y : Nat) : Nat := Classical.epsilon (fun e => w_K c M e x y)
theorem w_eo_eq {c : w_Cl} {G M e x y : Nat} (H : w_CT c G M) (h : w_K c M e x y) : w_eo c M x y = e :=
  w_K_one H (Classical.epsilon_spec (p := fun e => w_K c M e x y) ⟨e, h⟩) h
theorem w_eo_K {c : w_Cl} {M x y : Nat} (h : w_EK c M x y) : w_K c M (w_eo c M x y) x y := by
  obtain ⟨e, -, h⟩ := h
  exact Classical.epsilon_spec (p := fun e => w_K c M e x y) ⟨e, h⟩
theorem w_eo_symm {c : w_Cl} {M x y : Nat} : w_eo c M x y = w_eo c M y x := by
  unfold w_eo
  congr 1
  funext e
  exact propext ⟨fun h => ⟨h.1, Or.symm h.2⟩, fun h => ⟨h.1, Or.symm h.2⟩⟩
noncomputable def w_gp (c : w_Cl) (M : Nat) (x y : Nat) : Int32 := c 7 (w_eo c M x y)
noncomputable def w_sl (c : w_Cl) (M : Nat) (x y : Nat) : Int32 := c 6 (w_eo c M x y)
theorem w_gs_of {c : w_Cl} {G M : Nat} (H : w_CT c G M) : w_gs (w_EK c M) (w_gp c M) (w_sl c M) := by
  intro x y h
  obtain ⟨-, -, -, -, -, s, p, h1, h2, h3, h4⟩ := H.2.2.2.2.1 _ (w_eo_K h).1
  exact ⟨s, p, h1, h2, h3, h4⟩
theorem w_pt10 {c : w_Cl} {G M r : Nat} (H : w_CT c G M) (hr : r < G) (v : Nat) (l : List Nat) (h : w_pt (w_EK c M) r (v :: l)) : v < 10 := by
  have := w_pt_K H hr h List.mem_cons_self
  have := H.2.2.1
  omega
section
variable {c : w_Cl} {G M r tb : Nat} {b : Int32} {μ0 μ : z_Mem} {D P : Nat → Prop}
/-- the class's memory while gears turn -/
def w_TC (c : w_Cl) (M r : Nat) (b : Int32) (tb : Nat) (μ0 : z_Mem) (D P : Nat → Prop) (μ : z_Mem) : Prop :=
  (∀ q, q ≠ tb + 1 → q ≠ tb + 1 + 2 → q ≠ tb + 1 + 6 → μ q = μ0 q) ∧ (∀ j, j ≠ 2 → μ (tb + 1) j = μ0 (tb + 1) j) ∧
  w_TQ (w_EK c M) r (w_gp c M) (w_sl c M) b (μ0 (tb + 1 + 2)) D P (μ (tb + 1 + 2)) (fun x y => μ (tb + 1 + 6) (w_eo c M x y)) ∧
  μ (tb + 1) 2 = μ0 (tb + 1) 2 + w_S (w_fs (μ0 (tb + 1 + 2)) (μ (tb + 1 + 2))) 10
theorem w_TC_cong {D' P' : Nat → Prop} (hD : ∀ w, D w ↔ D' w) (hP : ∀ w, P w ↔ P' w) (T : w_TC c M r b tb μ0 D P μ) : w_TC c M r b tb μ0 D' P' μ :=
  ⟨T.1, T.2.1, w_TQ_cong hD hP T.2.2.1, T.2.2.2⟩
theorem w_TC_Str (hs : w_Str c μ0 tb) (T : w_TC c M r b tb μ0 D P μ) : w_Str c μ tb := by
  obtain ⟨a1, a2, a3, a4, a5⟩ := hs
  exact ⟨(T.2.1 0 (by decide)).trans a1, (T.2.1 1 (by decide)).trans a2, (T.1 _ (by omega) (by omega) (by omega)).trans a3, (T.1 _ (by omega) (by omega) (by omega)).trans a4, (T.1 _ (by omega) (by omega) (by omega)).trans a5⟩
theorem w_neg0 {a : Int32} : -a = 0 ↔ a = 0 := by
  constructor
  · intro h
    have := congrArg (fun z => -z) h
    simpa using this
  · rintro rfl; rfl
/-- a mesh passes on -/
theorem w_TC_gap (H : w_CT c G M) (hs : w_Str c μ0 tb) (T : w_TC c M r b tb μ0 D P μ) {z x i : Nat} {l : List Nat} (hp : w_pt (w_EK c M) r (z :: x :: l)) (hi : w_K c M i z x) (hP : ¬ P z) : ∃ k μ1, pT_restAfterGap (tb + 1) μ (Int32.ofNat i) (w_tv (w_gp c M) (w_sl c M) b (x :: l)) = some (k, μ1) ∧ w_tv (w_gp c M) (w_sl c M) b (z :: x :: l) = -k ∧ w_TC c M r b tb μ0 D (fun w => P w ∨ w = z) μ1 ∧ μ1 (tb + 1 + 2) = μ (tb + 1 + 2) := by
  have hM := H.2.2.2.1
  have hu := w_EK_uni H
  have hiM := hi.1
  have heo := w_eo_eq H hi
  have hgap : μ (tb + 1 + 6) i = w_gp c M z x := by
    have := w_TQ_gap0 hu T.2.2.1 hp hP
    rwa [heo] at this
  have hsl : μ (tb + 1 + 5) i = w_sl c M z x := by
    rw [(w_TC_Str hs T).2.2.2.2]
    unfold w_sl
    rw [heo]
  have hr9 : ∀ a, z_rd μ a 9 (Int32.ofNat i) = some (μ a i) := fun a => w_rdn (by omega) (by omega)
  have hin : z_inb (Int32.ofNat i) 9 = true := (w_inn (by omega)).mpr (by omega)
  have fin : ∀ g, g = w_ng (w_tv (w_gp c M) (w_sl c M) b (x :: l)) (w_gp c M z x) (w_sl c M z x) → w_TC c M r b tb μ0 D (fun w => P w ∨ w = z) (z_u μ (tb + 1 + 6) i g) ∧ z_u μ (tb + 1 + 6) i g (tb + 1 + 2) = μ (tb + 1 + 2) := by
    intro g hg
    have e2 : z_u μ (tb + 1 + 6) i g (tb + 1 + 2) = μ (tb + 1 + 2) := w_u_ne (by omega)
    have e1 : z_u μ (tb + 1 + 6) i g (tb + 1) = μ (tb + 1) := w_u_ne (by omega)
    refine ⟨⟨fun q h1 h2 h3 => (w_u_ne h3).trans (T.1 q h1 h2 h3), fun j hj => by rw [e1]; exact T.2.1 j hj, ?_, by rw [e1, e2]; exact T.2.2.2⟩, e2⟩
    rw [e2]
    refine w_TQ_gap hu T.2.2.1 hp ?_ (fun a y h1 h2 h3 => ?_)
    · show z_u μ (tb + 1 + 6) i g (tb + 1 + 6) (w_eo c M z x) = _
      rw [heo, w_u_eq]
      exact hg
    · show z_u μ (tb + 1 + 6) i g (tb + 1 + 6) (w_eo c M a y) = μ (tb + 1 + 6) (w_eo c M a y)
      refine w_u_at (fun h4 => ?_)
      have h5 := w_eo_K h1
      rw [h4] at h5
      rcases (w_K_Jd H).2.2 _ _ _ _ _ hi h5 with h6 | h6
      · exact h2 h6
      · exact h3 h6
  unfold pT_restAfterGap
  show ∃ k μ1, _ ∧ w_ps (w_tv (w_gp c M) (w_sl c M) b (x :: l)) (w_gp c M z x) (w_sl c M z x) = -k ∧ _
  generalize w_tv (w_gp c M) (w_sl c M) b (x :: l) = t at *
  simp only [hr9, Option.bind_some, hgap, hsl, if_pos hin, w_tn (show i < 2147483648 by omega)]
  have hmin : ∀ a e : Int32, pJ_min μ a e = some (w_min a e) := by
    intro a e
    unfold pJ_min w_min
    split <;> rfl
  simp only [hmin, Option.bind_some]
  by_cases ht : t ≤ 0
  · rw [if_pos ht]
    exact ⟨_, _, rfl, by unfold w_ps; rw [if_pos ht], fin _ (by unfold w_ng; rw [if_pos ht])⟩
  · rw [if_neg ht]
    exact ⟨_, _, rfl, by unfold w_ps; rw [if_neg ht], fin _ (by unfold w_ng; rw [if_neg ht])⟩
/-- what hangs on x by its meshes below i, and x itself -/
def w_Si (c : w_Cl) (M r x : Nat) (l : List Nat) (i w : Nat) : Prop := w = x ∨ ∃ e cc, e < i ∧ w_K c M e cc x ∧ ¬ cc ∈ x :: l ∧ w_sub (w_EK c M) r (cc :: x :: l) w
theorem w_Si_same (H : w_CT c G M) {x i : Nat} {l : List Nat} (h : ∀ cc, w_K c M i cc x → cc ∈ x :: l) (w : Nat) : w_Si c M r x l i w ↔ w_Si c M r x l (i + 1) w := by
  constructor
  · rintro (h1 | ⟨e, cc, h1, h2, h3⟩)
    · exact Or.inl h1
    · exact Or.inr ⟨e, cc, by omega, h2, h3⟩
  · rintro (h1 | ⟨e, cc, h1, h2, h3⟩)
    · exact Or.inl h1
    · by_cases he : e = i
      · subst he
        exact absurd (h cc h2) h3.1
      · exact Or.inr ⟨e, cc, by omega, h2, h3⟩
theorem w_Si_next (H : w_CT c G M) {x z i : Nat} {l : List Nat} (hz : w_K c M i z x) (hn : ¬ z ∈ x :: l) (w : Nat) : w_Si c M r x l i w ∨ w_sub (w_EK c M) r (z :: x :: l) w ↔ w_Si c M r x l (i + 1) w := by
  constructor
  · rintro ((h1 | ⟨e, cc, h1, h2, h3⟩) | h1)
    · exact Or.inl h1
    · exact Or.inr ⟨e, cc, by omega, h2, h3⟩
    · exact Or.inr ⟨i, z, by omega, hz, hn, h1⟩
  · rintro (h1 | ⟨e, cc, h1, h2, h3⟩)
    · exact Or.inl (Or.inl h1)
    · by_cases he : e = i
      · subst he
        have : cc = z := by
          have a1 := w_o_of H ((w_K_Jd H).1 _ _ _ h2)
          have a2 := w_o_of H ((w_K_Jd H).1 _ _ _ hz)
          rw [a1] at a2
          cases a2
          rfl
        subst this
        exact Or.inr h3.2
      · exact Or.inl (Or.inr ⟨e, cc, by omega, h2, h3⟩)
theorem w_Si_sub {x : Nat} {l : List Nat} (hp : w_pt (w_EK c M) r (x :: l)) (w : Nat) : w_Si c M r x l M w ↔ w_sub (w_EK c M) r (x :: l) w := by
  constructor
  · rintro (rfl | ⟨e, cc, h1, h2, h3, h4⟩)
    · exact w_sub_self hp
    · exact w_sub_up h4
  · intro h
    by_cases hw : w = x
    · exact Or.inl hw
    · obtain ⟨cc, ⟨e, h1, h2⟩, h3, h4⟩ := w_sub_child h hw
      exact Or.inr ⟨e, cc, h1, h2, h3, h4⟩
/-- a further child's gears are new -/
theorem w_Si_new (H : w_CT c G M) {x z i w : Nat} {l : List Nat} (hz : w_K c M i z x) (h : w_sub (w_EK c M) r (z :: x :: l) w) : ¬ w_Si c M r x l i w := by
  rintro (h1 | ⟨e, cc, h1, h2, h3, h4⟩)
  · exact w_sub_ne (w_EK_uni H) h h1
  · have := w_sub_one (w_EK_uni H) h h4
    subst this
    have := w_K_one H h2 hz
    omega
abbrev w_TF : Type := z_Mem → Int32 → Int32 → Int32 → Int32 → Option (Int32 × z_Mem)
/-- what the walk below x :: l does -/
def w_TD (c : w_Cl) (M r : Nat) (b : Int32) (tb : Nat) (μ0 : z_Mem) (F : w_TF) (x : Nat) (l : List Nat) : Prop :=
  ∀ (D P : Nat → Prop) (μ : z_Mem), w_TC c M r b tb μ0 D P μ → w_tv (w_gp c M) (w_sl c M) b (x :: l) ≠ 0 → (∀ w, w_sub (w_EK c M) r (x :: l) w → ¬ D w) → (∀ w, w_sub (w_EK c M) r (x :: l) w → w ≠ x → ¬ P w) → (P x ∨ l = []) →
    ∃ k μ', F μ (Int32.ofNat x) (w_tv (w_gp c M) (w_sl c M) b (x :: l)) (w_par l) (Int32.ofNat l.length) = some (k, μ') ∧ w_TC c M r b tb μ0 (fun w => D w ∨ w_sub (w_EK c M) r (x :: l) w) (fun w => P w ∨ w_sub (w_EK c M) r (x :: l) w) μ' ∧ w_S (w_fc (μ0 (tb + 1 + 2)) (μ' (tb + 1 + 2))) 10 = w_S (w_fc (μ0 (tb + 1 + 2)) (μ (tb + 1 + 2))) 10 + k
theorem w_turnL (H : w_CT c G M) (hr : r < G) (hs : w_Str c μ0 tb) {x : Nat} {l : List Nat} (hp : w_pt (w_EK c M) r (x :: l)) {F : w_TF} (hF : ∀ z, w_pt (w_EK c M) r (z :: x :: l) → w_TD c M r b tb μ0 F z (x :: l)) (hD : ∀ w, w_sub (w_EK c M) r (x :: l) w → ¬ D w) (hP : ∀ w, w_sub (w_EK c M) r (x :: l) w → w ≠ x → ¬ P w) (C : Int32) :
    ∀ (f i : Nat) (μ : z_Mem) (k : Int32), i ≤ M → M - i < f → w_TC c M r b tb μ0 (fun w => D w ∨ w_Si c M r x l i w) (fun w => P w ∨ w_Si c M r x l i w) μ → w_S (w_fc (μ0 (tb + 1 + 2)) (μ (tb + 1 + 2))) 10 = C + k →
    ∃ k' μ', pT_turnOnwards_L46 f F (tb + 1) (Int32.ofNat x) (w_tv (w_gp c M) (w_sl c M) b (x :: l)) (w_par l) (Int32.ofNat l.length) (fun M22 k20 k21 => some (k20, M22)) μ k (Int32.ofNat i) = some (k', μ') ∧ w_TC c M r b tb μ0 (fun w => D w ∨ w_Si c M r x l M w) (fun w => P w ∨ w_Si c M r x l M w) μ' ∧ w_S (w_fc (μ0 (tb + 1 + 2)) (μ' (tb + 1 + 2))) 10 = C + k' := by
  have hG := H.2.2.1
  have hM := H.2.2.2.1
  have hu := w_EK_uni H
  have hxG : x < G := w_pt_K H hr hp List.mem_cons_self
  intro f
  induction f with
  | zero => intro i μ k _ h; omega
  | succ f ih =>
    intro i μ k hi hf T hC
    show ∃ k' μ', pT_turnOnwards_L46_B (pT_turnOnwards_L46 f F (tb + 1) (Int32.ofNat x) (w_tv (w_gp c M) (w_sl c M) b (x :: l)) (w_par l) (Int32.ofNat l.length) (fun M22 k20 k21 => some (k20, M22))) F (tb + 1) (Int32.ofNat x) (w_tv (w_gp c M) (w_sl c M) b (x :: l)) (w_par l) (Int32.ofNat l.length) (fun M22 k20 k21 => some (k20, M22)) μ k (Int32.ofNat i) = some (k', μ') ∧ _
    unfold pT_turnOnwards_L46_B
    have hs1 := w_TC_Str hs T
    rw [hs1.2.1, H.2.1]
    by_cases h : M ≤ i
    · rw [if_pos ((w_le (by omega) (by omega)).mpr h)]
      have : i = M := by omega
      subst this
      exact ⟨k, μ, rfl, T, hC⟩
    · rw [if_neg (fun hc => h ((w_le (by omega) (by omega)).mp hc)), w_across H hs1 (by omega) hxG]
      dsimp only [Option.bind_some]
      have same : (∀ cc, w_K c M i cc x → cc ∈ x :: l) → ∃ k' μ', pT_turnOnwards_L46 f F (tb + 1) (Int32.ofNat x) (w_tv (w_gp c M) (w_sl c M) b (x :: l)) (w_par l) (Int32.ofNat l.length) (fun M22 k20 k21 => some (k20, M22)) μ k (Int32.ofNat (i + 1)) = some (k', μ') ∧ w_TC c M r b tb μ0 (fun w => D w ∨ w_Si c M r x l M w) (fun w => P w ∨ w_Si c M r x l M w) μ' ∧ w_S (w_fc (μ0 (tb + 1 + 2)) (μ' (tb + 1 + 2))) 10 = C + k' := by
        intro hn
        refine ih (i + 1) μ k (by omega) (by omega) (w_TC_cong (fun w => ?_) (fun w => ?_) T) hC
        · rw [w_Si_same H hn w]
        · rw [w_Si_same H hn w]
      rw [show Int32.ofNat i + 1 = Int32.ofNat (i + 1) from w_ar2]
      cases ho : w_o c i x with
      | none =>
        rw [if_pos (show w_oi none = -1 from rfl)]
        refine same (fun cc h4 => ?_)
        rw [w_o_of H ((w_K_Jd H).1 _ _ _ h4)] at ho
        cases ho
      | some z =>
        have hz := (w_K_Jd H).1 _ _ _ (w_o_some (M := M) (by omega) ho)
        have hzG := (w_K_lt H hz).1
        rw [if_neg (show ¬ w_oi (some z) = -1 from w_nneg (k := 1) (by omega) (by decide) (by decide))]
        by_cases hpar : l.head? = some z
        · have hw : w_oi (some z) = w_par l := by
            cases l with
            | nil => cases hpar
            | cons y l => cases hpar; rfl
          rw [if_pos hw]
          refine same (fun cc h4 => ?_)
          rw [w_o_of H ((w_K_Jd H).1 _ _ _ h4)] at ho
          cases ho
          exact List.mem_cons_of_mem _ (List.mem_of_mem_head? hpar)
        · have hw : ¬ w_oi (some z) = w_par l := by
            cases l with
            | nil => exact w_nneg (k := 1) (by omega) (by decide) (by decide)
            | cons y l =>
              have hy := w_pt_K H hr hp (x := y) (List.mem_cons_of_mem _ List.mem_cons_self)
              exact fun q => hpar (by rw [(w_eq (by omega) (by omega)).mp q]; rfl)
          rw [if_neg hw]
          have hpz := w_extK H hp (w_EK_of hz) hpar
          have hzn : ¬ z ∈ x :: l := hpz.2.1
          have hzx : z ≠ x := fun q => hzn (by rw [q]; exact List.mem_cons_self)
          have newP : ∀ w, w_sub (w_EK c M) r (z :: x :: l) w → ¬ (P w ∨ w_Si c M r x l i w) := by
            rintro w h1 (h2 | h2)
            · exact hP w (w_sub_up h1) (w_sub_ne hu h1) h2
            · exact w_Si_new H hz h1 h2
          have newD : ∀ w, w_sub (w_EK c M) r (z :: x :: l) w → ¬ (D w ∨ w_Si c M r x l i w) := by
            rintro w h1 (h2 | h2)
            · exact hD w (w_sub_up h1) h2
            · exact w_Si_new H hz h1 h2
          obtain ⟨q, μ1, e1, e2, T1, e3⟩ := w_TC_gap H hs T hpz hz (newP z (w_sub_self hpz))
          rw [e1]
          dsimp only [Option.bind_some]
          by_cases hq : q = 0
          · rw [if_pos hq]
            have h0 : w_tv (w_gp c M) (w_sl c M) b (z :: x :: l) = 0 := by rw [e2, hq]; rfl
            have T2 := w_TQ_zero hu (w_gs_of H) (w_pt10 H hr) T1.2.2.1 hpz h0 (Or.inl (Or.inr rfl))
            refine ih (i + 1) μ1 k (by omega) (by omega) ⟨T1.1, T1.2.1, w_TQ_cong (fun w => ?_) (fun w => ?_) T2, T1.2.2.2⟩ (by rw [e3]; exact hC)
            · rw [or_assoc, w_Si_next H hz hzn w]
            · rw [← w_Si_next H hz hzn w]
              constructor
              · rintro ((h1 | h1) | h1)
                · exact h1.imp_right Or.inl
                · subst h1; exact Or.inr (Or.inr (w_sub_self hpz))
                · exact Or.inr (Or.inr h1)
              · rintro (h1 | h1 | h1)
                · exact Or.inl (Or.inl (Or.inl h1))
                · exact Or.inl (Or.inl (Or.inr h1))
                · exact Or.inr h1
          · rw [if_neg hq]
            have h0 : w_tv (w_gp c M) (w_sl c M) b (z :: x :: l) ≠ 0 := by rw [e2]; exact fun h => hq (w_neg0.mp h)
            obtain ⟨k1, μ2, g1, T2, g2⟩ := hF z hpz _ _ μ1 T1 h0 newD (fun w h1 h2 h3 => (h3.elim (newP w h1) h2)) (Or.inl (Or.inr rfl))
            rw [show (F μ1 (w_oi (some z)) (-q) (Int32.ofNat x) (Int32.ofNat l.length + 1)) = some (k1, μ2) by
              rw [← e2, w_ar2]; exact g1]
            dsimp only [Option.bind_some]
            refine ih (i + 1) μ2 (k + k1) (by omega) (by omega) (w_TC_cong (fun w => ?_) (fun w => ?_) T2) (by rw [g2, e3, hC, Int32.add_assoc])
            · rw [or_assoc, w_Si_next H hz hzn w]
            · rw [← w_Si_next H hz hzn w]
              constructor
              · rintro ((h1 | h1) | h1)
                · exact h1.imp_right Or.inl
                · subst h1; exact Or.inr (Or.inr (w_sub_self hpz))
                · exact Or.inr (Or.inr h1)
              · rintro (h1 | h1 | h1)
                · exact Or.inl (Or.inl (Or.inl h1))
                · exact Or.inl (Or.inl (Or.inr h1))
                · exact Or.inr h1
theorem w_turnD (H : w_CT c G M) (hr : r < G) (hs : w_Str c μ0 tb) : ∀ (nf x : Nat) (l : List Nat), nf + l.length = 12 → w_pt (w_EK c M) r (x :: l) → w_TD c M r b tb μ0 (fun μ i1 i2 i3 i4 => pT_turnOnwards nf (tb + 1) μ i1 i2 i3 i4) x l := by
  have hG := H.2.2.1
  have hM := H.2.2.2.1
  have hu := w_EK_uni H
  intro nf
  induction nf with
  | zero =>
    intro x l h hp
    have := w_pt_Kl H hr hp
    rw [List.length_cons] at this
    omega
  | succ nf ih =>
    intro x l h hp D P μ T ht hD hP hPx
    have hpl := w_pt_Kl H hr hp
    rw [List.length_cons] at hpl
    have hxG : x < G := w_pt_K H hr hp List.mem_cons_self
    have hs1 := w_TC_Str hs T
    show ∃ k μ', pT_turnOnwards_B (fun μ i1 i2 i3 i4 => pT_turnOnwards nf (tb + 1) μ i1 i2 i3 i4) (tb + 1) μ (Int32.ofNat x) (w_tv (w_gp c M) (w_sl c M) b (x :: l)) (w_par l) (Int32.ofNat l.length) = some (k, μ') ∧ _
    unfold pT_turnOnwards_B
    rw [if_neg (fun q => by have : 10 ≤ l.length := (w_lel (k := 10) (by decide) (by omega)).mp q; omega), w_hasT (hs1.1.trans H.1) hG hxG]
    dsimp only [Option.bind_some]
    rw [if_neg (by decide), w_rdn (by omega) (by omega)]
    dsimp only [Option.bind_some]
    rw [if_pos ((w_inn (by omega)).mpr (by omega)), w_tn (by omega)]
    have habs : ∀ (μ : z_Mem) (a : Int32), pJ_abs μ a = some (w_abs a) := by
      intro μ a
      unfold pJ_abs w_abs
      split <;> rfl
    rw [habs]
    dsimp only [Option.bind_some]
    have hxD := hD x (w_sub_self hp)
    have hpos : μ (tb + 1 + 2) x = μ0 (tb + 1 + 2) x := T.2.2.1.2.1 x (by omega) (fun h => hxD h.1)
    have f1 : ∀ (v w : Int32), z_u (z_u μ (tb + 1 + 2) x v) (tb + 1) 2 w (tb + 1 + 2) = upd (μ (tb + 1 + 2)) x v := by
      intro v w
      rw [w_u_ne (by omega), w_u_row]
    have f2 : ∀ (v w : Int32), z_u (z_u μ (tb + 1 + 2) x v) (tb + 1) 2 w (tb + 1 + 6) = μ (tb + 1 + 6) := by
      intro v w
      rw [w_u_ne (by omega), w_u_ne (by omega)]
    have f3 : ∀ (v : Int32), z_u μ (tb + 1 + 2) x v (tb + 1) = μ (tb + 1) := fun v => w_u_ne (by omega)
    rw [f3]
    have T1 : w_TC c M r b tb μ0 (fun w => D w ∨ w_Si c M r x l 0 w) (fun w => P w ∨ w_Si c M r x l 0 w) (z_u (z_u μ (tb + 1 + 2) x (μ (tb + 1 + 2) x + w_tv (w_gp c M) (w_sl c M) b (x :: l))) (tb + 1) 2 (μ (tb + 1) 2 + w_abs (w_tv (w_gp c M) (w_sl c M) b (x :: l)))) := by
      refine ⟨fun q h1 h2 h3 => ?_, fun j hj => ?_, ?_, ?_⟩
      · rw [w_u_ne h1, w_u_ne h2]; exact T.1 q h1 h2 h3
      · rw [w_u_at hj, f3]; exact T.2.1 j hj
      · rw [f1, f2]
        have hS0 : ∀ w, w_Si c M r x l 0 w ↔ w = x := fun w => ⟨fun h => h.elim id (fun ⟨e, cc, h1, _⟩ => absurd h1 (Nat.not_lt_zero _)), Or.inl⟩
        refine w_TQ_cong (fun w => ?_) (fun w => ?_) (w_TQ_root hu hp hPx (w_TQ_pos hu T.2.2.1 hp (by omega) hxD))
        · rw [hS0 w]
        · rw [hS0 w]
      · rw [f1, w_u_eq, w_fs_one (by omega) hpos, T.2.2.2, Int32.add_assoc]
    obtain ⟨k, μ', e1, T2, e2⟩ := w_turnL H hr hs hp (F := fun μ i1 i2 i3 i4 => pT_turnOnwards nf (tb + 1) μ i1 i2 i3 i4) (fun z hz => ih z (x :: l) (by rw [List.length_cons]; omega) hz) hD hP (w_S (w_fc (μ0 (tb + 1 + 2)) (μ (tb + 1 + 2))) 10) z_fu 0 _ 1 (Nat.zero_le _) (by show M - 0 < 3000; omega) T1 (by rw [f1, w_fc_one (by omega) hpos ht])
    refine ⟨k, μ', e1, w_TC_cong (fun w => ?_) (fun w => ?_) T2, e2⟩
    · rw [w_Si_sub hp w]
    · rw [w_Si_sub hp w]
/-- the class's turn -/
theorem w_turnC (H : w_CT c G M) (hr : r < G) (hs : w_Str c μ0 tb) (hc : μ0 (tb + 1 + 6) = c 7) (hb : b ≠ 0) : ∃ k μ', pT_turnGear (tb + 1) μ0 (Int32.ofNat r) b = some (k, μ') ∧ w_TC c M r b tb μ0 (fun w => w_sub (w_EK c M) r [r] w) (fun w => w_sub (w_EK c M) r [r] w) μ' ∧ k = w_S (w_fc (μ0 (tb + 1 + 2)) (μ' (tb + 1 + 2))) 10 := by
  have T0 : w_TC c M r b tb μ0 (fun _ => False) (fun _ => False) μ0 := by
    refine ⟨fun _ _ _ _ => rfl, fun _ _ => rfl, ⟨fun _ _ _ h => h.elim, fun _ _ _ => rfl, fun _ _ _ _ h => h.elim, fun x y h _ _ => ?_⟩, ?_⟩
    · show μ0 (tb + 1 + 6) (w_eo c M x y) = w_gp c M x y
      rw [hc]
      rfl
    · rw [w_fs_0, Int32.add_zero]
  obtain ⟨k, μ', e1, T1, e2⟩ := w_turnD (b := b) H hr hs 12 r [] rfl rfl _ _ μ0 T0 hb (fun _ _ h => h) (fun _ _ _ h => h) (Or.inr rfl)
  unfold pT_turnGear
  refine ⟨k, μ', ?_, w_TC_cong (fun w => ?_) (fun w => ?_) T1, ?_⟩
  · rw [show pT_turnOnwards 12 (tb + 1) μ0 (Int32.ofNat r) b (-1) 0 = some (k, μ') from e1]
    rfl
  · rw [false_or]
  · rw [false_or]
  · rw [e2, w_fc_0, Int32.zero_add]
end
end ZTUC
