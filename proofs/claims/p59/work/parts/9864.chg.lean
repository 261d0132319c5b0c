/-! A change of the class, with the reference's row alone. -/
section ZCHA
/-- the history's two numbers -/
def Hk (μ : z_Mem) (k o : Nat) : Prop := μ 57 0 = Int32.ofNat k ∧ k ≤ 8 ∧ μ 57 1 = Int32.ofNat o ∧ o < 9
def chg (T : z_Mem → Option (Int32 × z_Mem)) (μ : z_Mem) : Option ((Int32 ⊕ Nat) × z_Mem) := (pH_begin μ).bind fun q1 => (T q1).bind fun q3 => (pG_settled q3.2 q3.1).bind fun q5 => (match q5.1 with | .inl x7 => some ((.inl x7), q5.2) | .inr E8 => some ((.inr E8), q5.2))
theorem c_begin {k o : Nat} {μ : z_Mem} (H : Hk μ k o) : ∃ μ1, pH_begin μ = some μ1 ∧ (∀ r, r < 59 + 20 * o ∨ 59 + 20 * o + 20 ≤ r → μ1 r = μ r) ∧ w_same (w_st μ 1) (w_st μ1 (59 + 20 * o)) := by
  obtain ⟨h1, h2, h4, h5⟩ := H
  obtain ⟨μ1, e1, e2, e3⟩ := w_copyA (μ := μ) (t := 59 + 20 * o) (u := 1) (by omega)
  refine ⟨μ1, ?_, e2, e3⟩
  unfold pH_begin
  rw [h4, if_pos ((w_inn (by omega)).mpr h5)]
  dsimp only [Option.bind_some]
  unfold z_rg
  rw [w_tn (by omega), e1]
  rfl
theorem c_rows {n : Nat} {g : Nat → Int32} {μ μ1 : z_Mem} (h : ∀ r, 1 ≤ r → r < 21 → μ1 r = μ r) (H : w_Rel n (w_st μ 1) g) : w_Rel n (w_st μ1 1) g :=
  w_Rel_same (fun k j hj => by have := w_sz_lt hj; unfold w_st; rw [h _ (by omega) (by omega)]) (fun j _ => rfl) H
theorem c_same {n : Nat} {g : Nat → Int32} {c c' : w_Cl} (h : w_same c c') (H : w_Rel n c g) : w_Rel n c' g := w_Rel_same h (fun j _ => rfl) H
theorem c_change {n m k o : Nat} {g : Nat → Int32} {μ ν' : z_Mem} {T : z_Mem → Option (Int32 × z_Mem)} {b : Int32} (hnm : n ≤ m) (H : w_Rel n (w_st μ 1) g) (hH : Hk μ k o)
    (hT : ∀ μ1, w_Rel n (w_st μ1 1) g → ∃ es a μ2, T μ1 = some (a, μ2) ∧ w_Core m es a μ1 μ2 b (fun _ => g) ν') :
    ∃ μ3, (∀ q, q = 0 ∨ q = 21 ∨ q = 22 ∨ (37 ≤ q ∧ q < 57) → μ3 q = μ q) ∧ (∀ q, 59 ≤ q → q < 59 + 20 * o ∨ 59 + 20 * o + 20 ≤ q → μ3 q = μ q) ∧ w_same (w_st μ 1) (w_st μ3 (59 + 20 * o)) ∧ μ 2 0 ≤ μ3 2 0 ∧
      ((0 ≤ b ∧ ν' 241 12 = 0 ∧ chg T μ = some (.inl b, μ3) ∧ w_Rel m (w_st μ3 1) (ν' 242) ∧ Hk μ3 (if k = 8 then 8 else k + 1) ((o + 1) % 9)) ∨
       (∃ E, E ≤ 3 ∧ ¬ ν' 241 12 = 0 ∧ chg T μ = some (.inr E, μ3) ∧ w_Rel m (w_st μ3 1) g ∧ Hk μ3 k o)) := by
  obtain ⟨h1, h2, h4, h5⟩ := id hH
  obtain ⟨μ1, e1, f1, s1⟩ := c_begin hH
  have H1 : w_Rel n (w_st μ1 1) g := c_rows (fun r _ _ => f1 r (by omega)) H
  obtain ⟨es, a, μ2, e2, fC, fM, hC⟩ := hT μ1 H1
  have sl : ∀ q, 59 ≤ q → μ2 q = μ1 q := fun q hq => fC q (by omega)
  have s2 : w_same (w_st μ 1) (w_st μ2 (59 + 20 * o)) := fun r j hj => by
    rw [s1 r j hj]; unfold w_st; rw [sl _ (by omega)]
  rcases hC with ⟨c1, c2, c3, G, M, W, S, E, c4, c5⟩ | ⟨j, E, c1, c2, c3, c4, c5, c6, c7⟩
  · subst c2
    obtain ⟨μ3, e3, f3, k3, o3⟩ := w_keep (n := n) (μ := μ2) (k := k) (o := o) (by rw [fC _ (by omega), f1 _ (by omega)]; exact h1) h2 (by rw [fC _ (by omega), f1 _ (by omega)]; exact h4) h5
    refine ⟨μ3, fun q hq => by rw [f3 _ (by omega), fC _ (by omega), f1 _ (by omega)], fun q hq1 hq2 => by rw [f3 _ (by omega), fC _ (by omega), f1 _ (by omega)], fun r j hj => ?_, ?_, Or.inl ⟨c1, c3, ?_, ?_, k3, by split <;> omega, o3, by omega⟩⟩
    · rw [s2 r j hj]; unfold w_st; rw [f3 _ (by omega)]
    · rw [f3 2 (by omega), show μ2 2 0 = Int32.ofNat G from c4.1.1, ← f1 2 (by omega)]
      exact c5
    · unfold chg
      rw [e1]
      dsimp only [Option.bind_some]
      rw [e2]
      dsimp only [Option.bind_some]
      rw [w_settle0 c1, e3]
      rfl
    · exact c_rows (fun r _ _ => f3 r (by omega)) ⟨G, M, W, S, E, c4⟩
  · subst c3
    have hs : w_same (w_st μ 1) (w_st μ2 1) := fun r j hj => by
      rw [← c6 r j hj]; have := w_sz_lt hj; unfold w_st; rw [f1 _ (by omega)]
    refine ⟨μ2, fun q hq => by rw [fC _ (by omega), f1 _ (by omega)], fun q hq1 hq2 => by rw [fC _ (by omega), f1 _ (by omega)], s2, ?_, Or.inr ⟨E, c2, ?_, ?_, c_same hs (w_Rel_up hnm H), ?_, h2, ?_, h5⟩⟩
    · have e : μ 2 0 = μ2 2 0 := hs 1 0 (by decide)
      rw [e]
      exact Int32.le_refl _
    · rw [c5]
      exact fun q => by have := (w_eq (b := 0) (by omega) (by omega)).mp q; omega
    · unfold chg
      rw [e1]
      dsimp only [Option.bind_some]
      rw [e2]
      dsimp only [Option.bind_some]
      rw [w_settleE c2]
      rfl
    · rw [fC _ (by omega), f1 _ (by omega)]; exact h1
    · rw [fC _ (by omega), f1 _ (by omega)]; exact h4
/-- what a change of the class needs to know -/
def Tc (T : z_Mem → Option (Int32 × z_Mem)) : Prop := ∀ n g, n ≤ 900000 → ∃ b ν', ∀ μ1, w_Rel n (w_st μ1 1) g → ∃ es a μ2, T μ1 = some (a, μ2) ∧ w_Core (n + 99) es a μ1 μ2 b (fun _ => g) ν'
theorem Tc_of {T : z_Mem → Option (Int32 × z_Mem)} {R : z_Mem → Option (Int32 × z_Mem)} (h : ∀ n g μ1, n ≤ 900000 → w_Rel n (w_st μ1 1) g → ∃ es a μ2 b ν', T μ1 = some (a, μ2) ∧ R (fun _ => g) = some (b, ν') ∧ w_Core (n + 99) es a μ1 μ2 b (fun _ => g) ν') : Tc T := by
  intro n g hn
  by_cases hx : ∃ μ1, w_Rel n (w_st μ1 1) g
  · obtain ⟨μ0, h0⟩ := hx
    obtain ⟨-, -, -, b, ν', -, r0, -⟩ := h n g μ0 hn h0
    refine ⟨b, ν', fun μ1 h1 => ?_⟩
    obtain ⟨es, a, μ2, b2, ν2, e1, e2, e3⟩ := h n g μ1 hn h1
    cases Option.some.inj (e2.symm.trans r0)
    exact ⟨es, a, μ2, e1, e3⟩
  · exact ⟨0, fun _ _ => 0, fun μ1 h1 => absurd ⟨μ1, h1⟩ hx⟩
theorem T_gear {i1 : Int32} : Tc (fun μ => pG_tryGear μ i1) := Tc_of (R := fun ν => pm_addsGear ν i1) (fun n g μ1 hn h => by
  obtain ⟨a, μ', b, ν', e1, e2, e3⟩ := w_cGear (n := n) (m := n + 99) (by omega) i1 μ1 (fun _ => g) h
  exact ⟨_, a, μ', b, ν', e1, e2, e3⟩)
theorem T_mesh {i1 i2 i3 : Int32} : Tc (fun μ => pG_tryMesh μ i1 i2 i3) := Tc_of (R := fun ν => pm_joins ν i1 i2 i3) (fun n g μ1 hn h => by
  obtain ⟨a, μ', b, ν', e1, e2, e3⟩ := w_cMesh (n := n) (m := n + 99) (by omega) i1 i2 i3 μ1 (fun _ => g) h
  exact ⟨_, a, μ', b, ν', e1, e2, e3⟩)
theorem T_part {i1 i2 : Int32} : Tc (fun μ => pG_tryPart μ i1 i2) := Tc_of (R := fun ν => pm_parts ν i1 i2) (fun n g μ1 hn h => by
  obtain ⟨a, μ', b, ν', e1, e2, e3⟩ := w_cPart (n := n) (m := n + 99) (by omega) i1 i2 μ1 (fun _ => g) h
  exact ⟨_, a, μ', b, ν', e1, e2, e3⟩)
theorem T_turn {i1 i2 : Int32} : Tc (fun μ => pG_tryTurn μ i1 i2) := Tc_of (R := fun ν => pm_turns ν i1 i2) (fun n g μ1 hn h => by
  obtain ⟨a, μ', b, ν', e1, e2, e3⟩ := w_cTurn (n := n) (m := n + 99) (by omega) (by omega) i1 i2 μ1 (fun _ => g) h
  exact ⟨_, a, μ', b, ν', e1, e2, e3⟩)
theorem T_wheel {i1 i2 : Int32} : Tc (fun μ => pG_tryWheel μ i1 i2) := Tc_of (R := fun ν => pm_addsWheel ν i1 i2) (fun n g μ1 hn h => by
  obtain ⟨a, μ', b, ν', e1, e2, e3⟩ := w_cWheel (n := n) (m := n + 99) (by omega) i1 i2 μ1 (fun _ => g) h
  exact ⟨_, a, μ', b, ν', e1, e2, e3⟩)
theorem T_star {i1 i2 : Int32} : Tc (fun μ => pG_tryStar μ i1 i2) := Tc_of (R := fun ν => pm_addsStar ν i1 i2) (fun n g μ1 hn h => by
  obtain ⟨a, μ', b, ν', e1, e2, e3⟩ := w_cStar (n := n) (m := n + 99) (by omega) (by omega) i1 i2 μ1 (fun _ => g) h
  exact ⟨_, a, μ', b, ν', e1, e2, e3⟩)
theorem T_removal {i1 : Int32} : Tc (fun μ => pG_tryRemoval μ i1) := Tc_of (R := fun ν => pm_removes ν i1) (fun n g μ1 hn h => by
  obtain ⟨a, μ', b, ν', e1, e2, e3⟩ := w_cRemoval (n := n) (m := n + 99) (by omega) i1 μ1 (fun _ => g) h
  exact ⟨_, a, μ', b, ν', e1, e2, e3⟩)
theorem T_hours {i1 : Int32} : Tc (fun μ => pG_tryHours μ i1) := Tc_of (R := fun ν => pm_passes ν i1) (fun n g μ1 hn h => by
  obtain ⟨a, μ', b, ν', e1, e2, e3⟩ := w_cHours (n := n) (m := n + 99) (by omega) (by omega) i1 μ1 (fun _ => g) h
  exact ⟨_, a, μ', b, ν', e1, e2, e3⟩)
theorem T_entry {i1 i2 : Int32} : Tc (fun μ => pG_tryEntry μ i1 i2) := Tc_of (R := fun ν => pm_notes ν i1 i2) (fun n g μ1 hn h => by
  obtain ⟨a, μ', b, ν', e1, e2, e3⟩ := w_cEntry (n := n) (m := n + 99) (by omega) i1 i2 μ1 (fun _ => g) h
  exact ⟨_, a, μ', b, ν', e1, e2, e3⟩)
theorem T_follow {i1 i2 : Int32} : Tc (fun μ => pG_tryFollow μ i1 i2) := Tc_of (R := fun ν => pm_follows ν i1 i2) (fun n g μ1 hn h => by
  obtain ⟨a, μ', b, ν', e1, e2, e3⟩ := w_cFollow (n := n) (m := n + 99) (by omega) (by omega) i1 i2 μ1 (fun _ => g) h
  exact ⟨_, a, μ', b, ν', e1, e2, e3⟩)
/-- an object that the law may go on with -/
def Bz (n : Nat) (μ : z_Mem) : Prop := (∃ g, w_Rel n (w_st μ 1) g) ∧ (∃ k o, Hk μ k o) ∧ μ 21 0 = 0
theorem b_act0 {n : Nat} {μ : z_Mem} {T : z_Mem → Option (Int32 × z_Mem)} (hT : Tc T) (hn : n ≤ 900000) (B : Bz n μ) : ∃ v μ3, ((chg T μ).bind fun q => (z_aV q.1).bind fun v => some (v, q.2)) = some (v, μ3) ∧ Bz (n + 99) μ3 ∧ μ 2 0 ≤ μ3 2 0 := by
  obtain ⟨⟨g, H⟩, ⟨k, o, hH⟩, h21⟩ := B
  obtain ⟨b, ν', hT⟩ := hT n g hn
  obtain ⟨μ3, f1, -, -, h2, hC⟩ := c_change (n := n) (m := n + 99) (by omega) H hH hT
  have e21 : μ3 21 0 = 0 := by rw [f1 21 (by omega)]; exact h21
  rcases hC with ⟨-, -, e, c1, c2⟩ | ⟨E, c0, -, e, c1, c2⟩
  · refine ⟨b, μ3, ?_, ⟨⟨_, c1⟩, ⟨_, _, c2⟩, e21⟩, h2⟩
    rw [e]; rfl
  · rw [e]
    rcases (show E = 0 ∨ E = 1 ∨ E = 2 ∨ E = 3 by omega) with rfl | rfl | rfl | rfl
    · exact ⟨_, μ3, rfl, ⟨⟨_, c1⟩, ⟨_, _, c2⟩, e21⟩, h2⟩
    · exact ⟨_, μ3, rfl, ⟨⟨_, c1⟩, ⟨_, _, c2⟩, e21⟩, h2⟩
    · exact ⟨_, μ3, rfl, ⟨⟨_, c1⟩, ⟨_, _, c2⟩, e21⟩, h2⟩
    · exact ⟨_, μ3, rfl, ⟨⟨_, c1⟩, ⟨_, _, c2⟩, e21⟩, h2⟩
section
variable {n : Nat} {μ : z_Mem} {i2 i3 i4 : Int32}
theorem b_a0 (hn : n ≤ 900000) (B : Bz n μ) : ∃ v μ3, pL_act μ 0 i2 i3 i4 = some (v, μ3) ∧ Bz (n + 99) μ3 ∧ μ 2 0 ≤ μ3 2 0 := by
  unfold pL_act
  rw [if_pos rfl]
  exact b_act0 (T_gear (i1 := i2)) hn B
theorem b_a1 (hn : n ≤ 900000) (B : Bz n μ) : ∃ v μ3, pL_act μ 1 i2 i3 i4 = some (v, μ3) ∧ Bz (n + 99) μ3 ∧ μ 2 0 ≤ μ3 2 0 := by
  unfold pL_act
  rw [if_neg (by decide), if_pos rfl]
  exact b_act0 (T_mesh (i1 := i2) (i2 := i3) (i3 := i4)) hn B
theorem b_a2 (hn : n ≤ 900000) (B : Bz n μ) : ∃ v μ3, pL_act μ 2 i2 i3 i4 = some (v, μ3) ∧ Bz (n + 99) μ3 ∧ μ 2 0 ≤ μ3 2 0 := by
  unfold pL_act
  rw [if_neg (by decide), if_neg (by decide), if_pos rfl]
  exact b_act0 (T_part (i1 := i2) (i2 := i3)) hn B
theorem b_a3 (hn : n ≤ 900000) (B : Bz n μ) : ∃ v μ3, pL_act μ 3 i2 i3 i4 = some (v, μ3) ∧ Bz (n + 99) μ3 ∧ μ 2 0 ≤ μ3 2 0 := by
  unfold pL_act
  rw [if_neg (by decide), if_neg (by decide), if_neg (by decide), if_pos rfl]
  exact b_act0 (T_turn (i1 := i2) (i2 := i3)) hn B
theorem b_a4 (hn : n ≤ 900000) (B : Bz n μ) : ∃ v μ3, pL_act μ 4 i2 i3 i4 = some (v, μ3) ∧ Bz (n + 99) μ3 ∧ μ 2 0 ≤ μ3 2 0 := by
  unfold pL_act
  rw [if_neg (by decide), if_neg (by decide), if_neg (by decide), if_neg (by decide), if_pos rfl]
  exact b_act0 (T_wheel (i1 := i2) (i2 := i3)) hn B
theorem b_a5 (hn : n ≤ 900000) (B : Bz n μ) : ∃ v μ3, pL_act μ 5 i2 i3 i4 = some (v, μ3) ∧ Bz (n + 99) μ3 ∧ μ 2 0 ≤ μ3 2 0 := by
  unfold pL_act
  rw [if_neg (by decide), if_neg (by decide), if_neg (by decide), if_neg (by decide), if_neg (by decide), if_pos rfl]
  exact b_act0 (T_star (i1 := i2) (i2 := i3)) hn B
theorem b_a6 (hn : n ≤ 900000) (B : Bz n μ) : ∃ v μ3, pL_act μ 6 i2 i3 i4 = some (v, μ3) ∧ Bz (n + 99) μ3 ∧ μ 2 0 ≤ μ3 2 0 := by
  unfold pL_act
  rw [if_neg (by decide), if_neg (by decide), if_neg (by decide), if_neg (by decide), if_neg (by decide), if_neg (by decide), if_pos rfl]
  exact b_act0 (T_removal (i1 := i2)) hn B
theorem b_a7 (hn : n ≤ 900000) (B : Bz n μ) : ∃ v μ3, pL_act μ 7 i2 i3 i4 = some (v, μ3) ∧ Bz (n + 99) μ3 ∧ μ 2 0 ≤ μ3 2 0 := by
  unfold pL_act
  rw [if_neg (by decide), if_neg (by decide), if_neg (by decide), if_neg (by decide), if_neg (by decide), if_neg (by decide), if_neg (by decide), if_pos rfl]
  exact b_act0 (T_hours (i1 := i2)) hn B
theorem b_a8 (hn : n ≤ 900000) (B : Bz n μ) : ∃ v μ3, pL_act μ 8 i2 i3 i4 = some (v, μ3) ∧ Bz (n + 99) μ3 ∧ μ 2 0 ≤ μ3 2 0 := by
  unfold pL_act
  rw [if_neg (by decide), if_neg (by decide), if_neg (by decide), if_neg (by decide), if_neg (by decide), if_neg (by decide), if_neg (by decide), if_neg (by decide), if_pos rfl]
  exact b_act0 (T_entry (i1 := (((i2 : Int32).toUInt32 % 65536).toInt32)) (i2 := i3)) hn B
theorem b_a10 (hn : n ≤ 900000) (B : Bz n μ) : ∃ v μ3, pL_act μ 10 i2 i3 i4 = some (v, μ3) ∧ Bz (n + 99) μ3 ∧ μ 2 0 ≤ μ3 2 0 := by
  unfold pL_act
  rw [if_neg (by decide), if_neg (by decide), if_neg (by decide), if_neg (by decide), if_neg (by decide), if_neg (by decide), if_neg (by decide), if_neg (by decide), if_neg (by decide), if_neg (by decide), if_pos rfl]
  exact b_act0 (T_follow (i1 := i2) (i2 := i3)) hn B
end
end ZCHA
