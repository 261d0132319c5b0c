/-! The reference's turning: gears that wait. -/
section ZTUM
theorem w_less {μ : z_Mem} {a e : Int32} : pm_less μ a e = some (w_min a e) := by
  unfold pm_less w_min
  by_cases h : e ≤ a
  · rw [if_pos h]
    by_cases h2 : e < a
    · rw [if_pos h2]
    · rw [if_neg h2, Int32.le_antisymm h (Int32.not_lt.mp h2)]
  · rw [if_neg h, if_neg (fun q => h (Int32.le_of_lt q))]
theorem w_size {μ : z_Mem} {a : Int32} : pm_size μ a = some (w_abs a) := by
  unfold pm_size w_abs
  split <;> rfl
def w_hd (l : List Nat) : Nat := l.headD 0
/-- the waiting gears, the top first -/
def w_stk (tv : List Nat → Int32) (s : Nat → Int32) : List (List Nat) → Prop
  | [] => True
  | p :: L => s (3 * L.length) = Int32.ofNat (w_hd p) ∧ s (3 * L.length + 1) = tv p ∧ s (3 * L.length + 2) = w_par p.tail ∧ w_stk tv s L
theorem w_stk_cong {tv : List Nat → Int32} {s s' : Nat → Int32} : ∀ {L : List (List Nat)}, (∀ j, j < 3 * L.length → s' j = s j) → w_stk tv s L → w_stk tv s' L := by
  intro L
  induction L with
  | nil => intro _ _; trivial
  | cons p L ih =>
    intro h h2
    rw [List.length_cons] at h
    exact ⟨(h _ (by omega)).trans h2.1, (h _ (by omega)).trans h2.2.1, (h _ (by omega)).trans h2.2.2.1, ih (fun j hj => h j (by omega)) h2.2.2.2⟩
section
variable {c : w_Cl} {G M r : Nat} {b : Int32} {μ0 μ : z_Mem} {D P : Nat → Prop}
def w_TR (c : w_Cl) (M r : Nat) (b : Int32) (μ0 : z_Mem) (D P : Nat → Prop) (μ : z_Mem) : Prop :=
  (∀ q, q ≠ 242 → q ≠ 248 → μ q = μ0 q) ∧ (∀ j, j ≠ 6 → ¬ (17 ≤ j ∧ j < 27) → ¬ (127 ≤ j ∧ j < 227) → μ 242 j = μ0 242 j) ∧
  w_TQ (w_EK c M) r (w_gp c M) (w_sl c M) b (fun v => μ0 242 (17 + v)) D P (fun v => μ 242 (17 + v)) (fun x y => μ 242 (127 + w_pr x y)) ∧
  μ 242 6 = μ0 242 6 + w_S (w_fs (fun v => μ0 242 (17 + v)) (fun v => μ 242 (17 + v))) 10
theorem w_TR_cong {D' P' : Nat → Prop} (hD : ∀ w, D w ↔ D' w) (hP : ∀ w, P w ↔ P' w) (T : w_TR c M r b μ0 D P μ) : w_TR c M r b μ0 D' P' μ :=
  ⟨T.1, T.2.1, w_TQ_cong hD hP T.2.2.1, T.2.2.2⟩
theorem w_TR_Rf (H : w_CT c G M) (hR : w_Rf c G M (μ0 242)) (T : w_TR c M r b μ0 D P μ) : w_Rf c G M (μ 242) := by
  refine ⟨(T.2.1 0 (by decide) (by decide) (by decide)).trans hR.1, fun e u v h => ?_, fun u v hu hv huv h => ?_⟩
  · obtain ⟨s, h1, h2, h3⟩ := hR.2.1 e u v h
    refine ⟨s, h1, h2, ?_⟩
    rw [← h3]
    obtain ⟨h4, h5⟩ := w_K_lt H h
    have hG := H.2.2.1
    have := w_pr_lt (a := u) (b := v) (by omega) (by omega)
    exact T.2.1 _ (by omega) (by omega) (by omega)
  · have := w_pr_lt hu hv
    rw [T.2.1 _ (by omega) (by omega) (by omega)]
    exact hR.2.2 u v hu hv huv h
theorem w_TR_gap (H : w_CT c G M) (hr : r < G) (hR : w_Rf c G M (μ0 242)) (T : w_TR c M r b μ0 D P μ) {z x : Nat} {l : List Nat} (hp : w_pt (w_EK c M) r (z :: x :: l)) (hP : ¬ P z) : ∃ μ1, pm_passesOn μ (Int32.ofNat x) (Int32.ofNat z) (w_tv (w_gp c M) (w_sl c M) b (x :: l)) = some (w_tv (w_gp c M) (w_sl c M) b (z :: x :: l), μ1) ∧ w_TR c M r b μ0 D (fun w => P w ∨ w = z) μ1 ∧ μ1 248 = μ 248 ∧ ∀ v, v < 10 → μ1 242 (17 + v) = μ 242 (17 + v) := by
  have hG := H.2.2.1
  have hu := w_EK_uni H
  obtain ⟨hz, hx⟩ := w_EK_lt H _ _ hp.1
  have hzx : z ≠ x := fun q => w_EK_irr H z (by have := hp.1; rwa [← q] at this)
  have hpr := w_pr_lt (a := x) (b := z) (by omega) (by omega)
  have heo := w_eo_K hp.1
  have hgap : μ 242 (127 + w_pr x z) = w_gp c M z x := by
    rw [w_pr_symm]
    exact w_TQ_gap0 hu T.2.2.1 hp hP
  have hsl : μ 242 (27 + w_pr x z) - 1 = w_sl c M z x := by
    obtain ⟨s, h1, h2, h3⟩ := (w_TR_Rf H hR T).2.1 _ _ _ heo
    rw [w_pr_symm, h3, w_sr (k := 1) (show 1 ≤ s + 1 by omega)]
    exact h2.symm
  have fin : ∀ g, g = w_ng (w_tv (w_gp c M) (w_sl c M) b (x :: l)) (w_gp c M z x) (w_sl c M z x) → w_TR c M r b μ0 D (fun w => P w ∨ w = z) (z_u μ 242 (127 + w_pr x z) g) ∧ z_u μ 242 (127 + w_pr x z) g 248 = μ 248 ∧ ∀ v, v < 10 → z_u μ 242 (127 + w_pr x z) g 242 (17 + v) = μ 242 (17 + v) := by
    intro g hg
    have e3 : ∀ j, j < 127 → z_u μ 242 (127 + w_pr x z) g 242 j = μ 242 j := fun j hj => w_u_at (by omega)
    have e2 : ∀ n, n ≤ 10 → w_S (w_fs (fun v => μ0 242 (17 + v)) (fun v => z_u μ 242 (127 + w_pr x z) g 242 (17 + v))) n = w_S (w_fs (fun v => μ0 242 (17 + v)) (fun v => μ 242 (17 + v))) n := fun n hn => w_S_cong (fun i hi => by unfold w_fs; dsimp only; rw [e3 _ (by omega)])
    refine ⟨⟨fun q h1 h2 => (w_u_ne h1).trans (T.1 q h1 h2), fun j h1 h2 h3 => (w_u_at (by omega)).trans (T.2.1 j h1 h2 h3), ?_, ?_⟩, w_u_ne (by decide), fun v hv => e3 _ (by omega)⟩
    · obtain ⟨q1, q2, q3, q4⟩ := T.2.2.1
      have Q2 : w_TQ (w_EK c M) r (w_gp c M) (w_sl c M) b (fun v => μ0 242 (17 + v)) D P (fun v => z_u μ 242 (127 + w_pr x z) g 242 (17 + v)) (fun x y => μ 242 (127 + w_pr x y)) := by
        refine ⟨fun v l h1 h2 => ?_, fun v hv h2 => ?_, q3, q4⟩
        · have hv : v < G := w_pt_K H hr h1 List.mem_cons_self
          dsimp only
          rw [e3 _ (by omega)]
          exact q1 v l h1 h2
        · dsimp only
          rw [e3 _ (by omega)]
          exact q2 v hv h2
      refine w_TQ_gap hu Q2 hp ?_ (fun a y h1 h2 h3 => ?_)
      · rw [w_pr_symm, w_u_eq]
        exact hg
      · refine w_u_at (fun h4 => ?_)
        have h5 : w_pr a y = w_pr x z := by omega
        obtain ⟨ha, hy⟩ := w_EK_lt H _ _ h1
        rcases w_pr_inj (by omega) (by omega) (by omega) (by omega) h5 with ⟨h6, h7⟩ | ⟨h6, h7⟩
        · exact h3 ⟨h6, h7⟩
        · exact h2 ⟨h6, h7⟩
    · rw [e3 _ (by decide), e2 10 (by decide)]
      exact T.2.2.2
  unfold pm_passesOn
  show ∃ μ1, _ = some (w_ps (w_tv (w_gp c M) (w_sl c M) b (x :: l)) (w_gp c M z x) (w_sl c M z x), μ1) ∧ _
  rw [w_gapm (by omega) (by omega), w_slackm (by omega) (by omega), hgap, hsl, w_pairm (by omega) (by omega)]
  dsimp only [Option.bind_some]
  generalize w_tv (w_gp c M) (w_sl c M) b (x :: l) = t at *
  have hin : z_inb (127 + Int32.ofNat (w_pr x z)) 331 = true := by rw [w_al]; exact (w_inn (by omega)).mpr (by omega)
  have hrd : z_rd μ 242 331 (127 + Int32.ofNat (w_pr x z)) = some (w_gp c M z x) := by
    rw [w_al, w_rdn (by omega) (by omega)]
    exact congrArg some hgap
  have htn : (127 + Int32.ofNat (w_pr x z)).toNatClampNeg = 127 + w_pr x z := by rw [w_al]; exact w_tn (by omega)
  simp only [w_less, Option.bind_some, hrd, if_pos hin, htn]
  by_cases ht : t ≤ 0
  · simp only [if_pos ht]
    exact ⟨_, by rw [w_ps, if_pos ht, Int32.neg_add], fin _ (by unfold w_ng; rw [if_pos ht])⟩
  · simp only [if_neg ht]
    exact ⟨_, by rw [w_ps, if_neg ht, Int32.neg_sub], fin _ (by unfold w_ng; rw [if_neg ht, Int32.sub_eq_add_neg])⟩
end
end ZTUM
