/-! Numbers and letters in the class, and the small steps of the reference. -/
section ZPR2
noncomputable def w_nl (b : Nat → Int32) (t s : Nat) : Nat := 1 + w_b01 (w_isd b t (s + 1))
noncomputable def w_nv (b : Nat → Int32) (t s : Nat) : Nat := @ite _ (w_isd b t (s + 1)) (Classical.propDecidable _) (10 * w_dv b t s + w_dv b t (s + 1)) (w_dv b t s)
section
variable {μ0 μ : z_Mem} {t s k : Nat}
theorem w_rnC (ht : μ0 21 0 = Int32.ofNat t) (hT : w_Tx (μ0 22) t) (hs : s ≤ t) (h : w_PC μ0 s k μ) (hk : k ≤ 8) {j : Nat} (hj : j ≤ 2) (m : Int32) : (w_isd (μ0 22) t s ∧ s + w_nl (μ0 22) t s ≤ t ∧ ∃ μ', pR_readNumber μ (Int32.ofNat j) m = some (1, μ') ∧ w_PC μ0 (s + w_nl (μ0 22) t s) k μ' ∧ w_set μ μ' (3 * k + j) (m * Int32.ofNat (w_nv (μ0 22) t s))) ∨ (¬ w_isd (μ0 22) t s ∧ pR_readNumber μ (Int32.ofNat j) m = some (0, μ)) := by
  unfold pR_readNumber
  rcases w_rdg ht hT hs h hk hj with ⟨a1, a2, μ1, a3, a4, a5⟩ | ⟨a1, a2⟩
  · left
    rw [a3]
    dsimp only [Option.bind_some]
    rw [if_neg w_10, w_gV a4 hk hj, a5.2.1]
    dsimp only [Option.bind_some]
    rcases w_rdg ht hT a2 a4 hk hj with ⟨b1, b2, μ2, b3, b4, b5⟩ | ⟨b1, b2⟩
    · have e1 : w_nl (μ0 22) t s = 2 := by unfold w_nl; rw [w_b1 b1]
      have e2 : w_nv (μ0 22) t s = 10 * w_dv (μ0 22) t s + w_dv (μ0 22) t (s + 1) := if_pos b1
      rw [b3]
      dsimp only [Option.bind_some]
      rw [if_neg w_10, w_gV b4 hk hj, b5.2.1]
      dsimp only [Option.bind_some]
      rw [w_sV b4 hk hj]
      dsimp only [Option.bind_some]
      rw [show (10 : Int32) * Int32.ofNat (w_dv (μ0 22) t s) = Int32.ofNat (10 * w_dv (μ0 22) t s) from w_ml, w_aa, e1, e2]
      exact ⟨a1, by omega, _, rfl, w_PC_v b4, by rw [w_u_ne (by decide)]; exact b5.1.trans a5.1, w_u_eq, fun i hi => by rw [w_u_at hi]; exact (b5.2.2 i hi).trans (a5.2.2 i hi)⟩
    · have e1 : w_nl (μ0 22) t s = 1 := by unfold w_nl; rw [w_b0 b1]
      have e2 : w_nv (μ0 22) t s = w_dv (μ0 22) t s := if_neg b1
      rw [b2]
      dsimp only [Option.bind_some]
      rw [if_pos rfl, w_sV a4 hk hj]
      dsimp only [Option.bind_some]
      rw [e1, e2]
      exact ⟨a1, by omega, _, rfl, w_PC_v a4, by rw [w_u_ne (by decide)]; exact a5.1, w_u_eq, fun i hi => by rw [w_u_at hi]; exact a5.2.2 i hi⟩
  · right
    rw [a2]
    exact ⟨a1, rfl⟩
theorem w_rlC (ht : μ0 21 0 = Int32.ofNat t) (hT : w_Tx (μ0 22) t) (hs : s ≤ t) (h : w_PC μ0 s k μ) (hk : k ≤ 8) {j : Nat} (hj : j ≤ 2) : (w_isl (μ0 22) t s ∧ s < t ∧ ∃ μ', pR_readLetter μ (Int32.ofNat j) = some (1, μ') ∧ w_PC μ0 (s + 1) k μ' ∧ w_set μ μ' (3 * k + j) (w_ah (μ0 22) t s)) ∨ (¬ w_isl (μ0 22) t s ∧ pR_readLetter μ (Int32.ofNat j) = some (0, μ)) := by
  unfold pR_readLetter
  rcases w_rb ht hT hs h hk hj (lo := 97) (hi := 122) (d := 0) with ⟨a1, a2, μ', a3, a4, a5⟩ | ⟨a1, a2⟩
  · have hlt : s < t := by
      by_cases hh : s < t
      · exact hh
      · unfold w_ah at a1
        rw [if_neg hh] at a1
        exact absurd a1 (by decide)
    rw [a3]
    dsimp only [Option.bind_some]
    rw [if_pos (by decide)]
    rw [show w_ah (μ0 22) t s - 0 = w_ah (μ0 22) t s from Int32.sub_zero _] at a5
    exact Or.inl ⟨⟨a1, a2⟩, hlt, μ', rfl, a4, a5⟩
  · rw [a2]
    dsimp only [Option.bind_some]
    rw [if_pos (by decide)]
    exact Or.inr ⟨a1, rfl⟩
end
/-! the reference -/
def w_PM (ν0 : z_Mem) (s w : Nat) (ν : z_Mem) : Prop := ν 241 15 = Int32.ofNat s ∧ ν 241 16 = Int32.ofNat w ∧ (∀ q, q ≠ 241 → q ≠ 250 → ν q = ν0 q) ∧ ∀ j, j ≠ 15 → j ≠ 16 → ν 241 j = ν0 241 j
/-- the text in the reference -/
def w_TM (ν0 : z_Mem) (b : Nat → Int32) (t : Nat) : Prop := ν0 241 7 = Int32.ofNat t ∧ ∀ i, i < t → ν0 246 i = b i
section
variable {ν0 ν : z_Mem} {b : Nat → Int32} {t s w : Nat}
theorem w_PM_w (h : w_PM ν0 s w ν) {w' : Nat} : w_PM ν0 s w' (z_u ν 241 16 (Int32.ofNat w')) :=
  ⟨by rw [w_u_at (by decide)]; exact h.1, w_u_eq, fun q a b => by rw [w_u_ne a]; exact h.2.2.1 q a b, fun j a b => by rw [w_u_at b]; exact h.2.2.2 j a b⟩
theorem w_PM_s (h : w_PM ν0 s w ν) {s' : Nat} : w_PM ν0 s' w (z_u ν 241 15 (Int32.ofNat s')) :=
  ⟨w_u_eq, by rw [w_u_at (by decide)]; exact h.2.1, fun q a b => by rw [w_u_ne a]; exact h.2.2.1 q a b, fun j a b => by rw [w_u_at a]; exact h.2.2.2 j a b⟩
theorem w_PM_v (h : w_PM ν0 s w ν) {j : Nat} {v : Int32} : w_PM ν0 s w (z_u ν 250 j v) :=
  ⟨by rw [w_u_ne (by decide)]; exact h.1, by rw [w_u_ne (by decide)]; exact h.2.1, fun q a b => by rw [w_u_ne b]; exact h.2.2.1 q a b, fun j a b => by rw [w_u_ne (by decide)]; exact h.2.2.2 j a b⟩
theorem w_hr (hM : w_TM ν0 b t) (hT : w_Tx b t) (h : w_PM ν0 s w ν) (hs : s ≤ t) : pm_here ν = some (w_ah b t s) := by
  have := hT.1
  unfold pm_here w_ah
  rw [h.2.2.2 7 (by decide) (by decide), hM.1, h.1]
  by_cases hh : t ≤ s
  · rw [if_pos ((w_le (by omega) (by omega)).mpr hh), if_neg (by omega)]
  · rw [if_neg (fun q => hh ((w_le (by omega) (by omega)).mp q)), w_rdn (by omega) (by omega), h.2.2.1 246 (by decide) (by decide), if_pos (by omega), hM.2 s (by omega)]
    rfl
theorem w_ndY (hM : w_TM ν0 b t) (hT : w_Tx b t) (h : w_PM ν0 s 0 ν) (hs : s ≤ t) {c : Int32} (hc : w_ah b t s = c) : ∃ ν', pm_needs ν c = some ν' ∧ w_PM ν0 (s + 1) 0 ν' ∧ ν' 250 = ν 250 := by
  unfold pm_needs
  rw [if_pos (show ν 241 16 = 0 from h.2.1), w_hr hM hT h hs]
  dsimp only [Option.bind_some]
  rw [if_pos hc, if_pos w_u_eq, w_u_at (by decide), h.1, show Int32.ofNat s + 1 = Int32.ofNat (s + 1) from w_ar2]
  exact ⟨_, rfl, w_PM_s (w_PM_w h (w' := 0)), by rw [w_u_ne (by decide), w_u_ne (by decide)]⟩
theorem w_ndN (hM : w_TM ν0 b t) (hT : w_Tx b t) (h : w_PM ν0 s 0 ν) (hs : s ≤ t) {c : Int32} (hc : ¬ w_ah b t s = c) : ∃ ν', pm_needs ν c = some ν' ∧ w_PM ν0 s 1 ν' ∧ ν' 250 = ν 250 := by
  unfold pm_needs
  rw [if_pos (show ν 241 16 = 0 from h.2.1), w_hr hM hT h hs]
  dsimp only [Option.bind_some]
  rw [if_neg hc, if_neg (show ¬ z_u ν 241 16 1 241 16 = 0 by rw [w_u_eq]; exact w_10), w_u_at (by decide), h.1, show Int32.ofNat s + 0 = Int32.ofNat s from Int32.add_zero _]
  exact ⟨_, rfl, w_PM_s (w_PM_w h (w' := 1)), by rw [w_u_ne (by decide), w_u_ne (by decide)]⟩
theorem w_ndW (h : w_PM ν0 s 1 ν) {c : Int32} : ∃ ν', pm_needs ν c = some ν' ∧ w_PM ν0 s 1 ν' ∧ ν' 250 = ν 250 := by
  unfold pm_needs
  rw [if_neg (show ¬ ν 241 16 = 0 by rw [h.2.1]; exact w_10), if_neg (show ¬ z_u ν 241 16 1 241 16 = 0 by rw [w_u_eq]; exact w_10), w_u_at (by decide), h.1, show Int32.ofNat s + 0 = Int32.ofNat s from Int32.add_zero _]
  exact ⟨_, rfl, w_PM_s (w_PM_w h (w' := 1)), by rw [w_u_ne (by decide), w_u_ne (by decide)]⟩
/-- a word -/
def w_nds : List Nat → z_Mem → Option z_Mem
  | [], ν => some ν
  | c :: l, ν => (pm_needs ν (Int32.ofNat c)).bind (w_nds l)
theorem w_ndsW {l : List Nat} : ∀ {ν : z_Mem}, w_PM ν0 s 1 ν → ∃ ν', w_nds l ν = some ν' ∧ w_PM ν0 s 1 ν' ∧ ν' 250 = ν 250 := by
  induction l with
  | nil => intro ν h; exact ⟨ν, rfl, h, rfl⟩
  | cons c l ih =>
    intro ν h
    obtain ⟨ν1, a1, a2, a3⟩ := w_ndW h (c := Int32.ofNat c)
    obtain ⟨ν2, b1, b2, b3⟩ := ih a2
    exact ⟨ν2, by show (pm_needs ν (Int32.ofNat c)).bind (w_nds l) = _; rw [a1]; exact b1, b2, b3.trans a3⟩
theorem w_ndsL (hM : w_TM ν0 b t) (hT : w_Tx b t) {l : List Nat} : ∀ {s : Nat} {ν : z_Mem}, (∀ c ∈ l, c < 2147483648) → s ≤ t → w_PM ν0 s 0 ν → ∃ ν', w_nds l ν = some ν' ∧ w_PM ν0 (w_sw b t l s).2 (1 - (w_sw b t l s).1.toNat) ν' ∧ ν' 250 = ν 250 := by
  induction l with
  | nil => intro s ν _ _ h; exact ⟨ν, rfl, h, rfl⟩
  | cons c l ih =>
    intro s ν hc hs h
    show ∃ ν', (pm_needs ν (Int32.ofNat c)).bind (w_nds l) = some ν' ∧ _
    unfold w_sw
    by_cases hh : w_ah b t s = Int32.ofNat c
    · have hlt := w_ah_lt (hc c (List.mem_cons_self)) hh
      obtain ⟨ν1, a1, a2, a3⟩ := w_ndY hM hT h hs hh
      obtain ⟨ν2, b1, b2, b3⟩ := ih (fun x hx => hc x (List.mem_cons_of_mem _ hx)) hlt a2
      rw [if_pos hh, a1]
      exact ⟨ν2, b1, b2, b3.trans a3⟩
    · obtain ⟨ν1, a1, a2, a3⟩ := w_ndN hM hT h hs hh
      obtain ⟨ν2, b1, b2, b3⟩ := w_ndsW (l := l) a2
      rw [if_neg hh, a1]
      exact ⟨ν2, b1, b2, b3.trans a3⟩
theorem w_in01 {i a c : Int32} : (pm_in ν i a c = some 1 ∧ a ≤ i ∧ i ≤ c) ∨ (pm_in ν i a c = some 0 ∧ ¬ (a ≤ i ∧ i ≤ c)) := by
  rcases w_within (μ := ν) (ν := ν) i a c with ⟨-, h, h2⟩ | ⟨-, h, h2⟩
  · exact Or.inl ⟨h, h2⟩
  · exact Or.inr ⟨h, h2⟩
theorem w_d34 {f : Nat} {n : Int32} {K : z_Mem → Int32 → Int32 → Option (Int32 × z_Mem)} {a i : Int32} : pm_digits_L34 (f + 1) n K ν a i = pm_digits_L34_B (pm_digits_L34 f n K) n K ν a i := rfl
theorem w_dgW (h : w_PM ν0 s 1 ν) {n : Int32} : ∃ ν', pm_digits ν n = some (0, ν') ∧ w_PM ν0 s 1 ν' ∧ ν' 250 = ν 250 := by
  refine ⟨z_u ν 241 16 1, ?_, w_PM_w h (w' := 1), w_u_ne (by decide)⟩
  unfold pm_digits
  rw [if_neg (show ¬ ν 241 16 = 0 by rw [h.2.1]; exact w_10)]
  rw [show z_fu = 2999 + 1 from rfl, w_d34]
  unfold pm_digits_L34_B
  rw [if_neg (show ¬ z_u ν 241 16 1 241 16 = 0 by rw [w_u_eq]; exact w_10)]
theorem w_dgN (hM : w_TM ν0 b t) (hT : w_Tx b t) (hs : s ≤ t) (h : w_PM ν0 s 0 ν) {n : Int32} (hd : ¬ w_isd b t s) : ∃ ν', pm_digits ν n = some (0, ν') ∧ w_PM ν0 s 1 ν' ∧ ν' 250 = ν 250 := by
  refine ⟨z_u ν 241 16 1, ?_, w_PM_w h (w' := 1), w_u_ne (by decide)⟩
  unfold pm_digits
  rw [if_pos (show ν 241 16 = 0 from h.2.1), w_hr hM hT h hs]
  dsimp only [Option.bind_some]
  rcases w_in01 (ν := ν) (i := w_ah b t s) (a := 48) (c := 57) with ⟨e, h2⟩ | ⟨e, h2⟩
  · exact absurd h2 hd
  · rw [e]
    dsimp only [Option.bind_some]
    rw [if_pos rfl]
    rw [show z_fu = 2999 + 1 from rfl, w_d34]
    unfold pm_digits_L34_B
    rw [if_neg (show ¬ z_u ν 241 16 1 241 16 = 0 by rw [w_u_eq]; exact w_10)]
/-- one turn of the loop over the digits -/
theorem w_dgS (hM : w_TM ν0 b t) (hT : w_Tx b t) (hs : s ≤ t) (h : w_PM ν0 s 0 ν) {n : Nat} {R : z_Mem → Int32 → Int32 → Option (Int32 × z_Mem)} {K : z_Mem → Int32 → Int32 → Option (Int32 × z_Mem)} {a : Nat} {i : Nat} (hn : n ≤ 2) (hi : i ≤ 2) (ha : a < 1000) : (i < n ∧ w_isd b t s ∧ ∃ ν', pm_digits_L34_B R (Int32.ofNat n) K ν (Int32.ofNat a) (Int32.ofNat i) = R ν' (Int32.ofNat (10 * a + w_dv b t s)) (Int32.ofNat (i + 1)) ∧ w_PM ν0 (s + 1) 0 ν' ∧ ν' 250 = ν 250) ∨ ((n ≤ i ∨ ¬ w_isd b t s) ∧ pm_digits_L34_B R (Int32.ofNat n) K ν (Int32.ofNat a) (Int32.ofNat i) = K ν (Int32.ofNat a) (Int32.ofNat i)) := by
  unfold pm_digits_L34_B
  rw [if_pos (show ν 241 16 = 0 from h.2.1)]
  by_cases hni : n ≤ i
  · rw [if_pos ((w_le (by omega) (by omega)).mpr hni)]
    exact Or.inr ⟨Or.inl hni, rfl⟩
  · rw [if_neg (fun q => hni ((w_le (by omega) (by omega)).mp q)), w_hr hM hT h hs]
    dsimp only [Option.bind_some]
    rcases w_in01 (ν := ν) (i := w_ah b t s) (a := 48) (c := 57) with ⟨e, h2⟩ | ⟨e, h2⟩
    · obtain ⟨b1, b2, b3⟩ := w_isd_v hT h2
      rw [e]
      dsimp only [Option.bind_some]
      rw [if_neg w_10, b3, h.1, show (10 : Int32) * Int32.ofNat a = Int32.ofNat (10 * a) from w_ml, w_aa, show Int32.ofNat (10 * a + (48 + w_dv b t s)) - 48 = Int32.ofNat (10 * a + (48 + w_dv b t s) - 48) from w_sr (k := 48) (by show 48 ≤ _; omega), show 10 * a + (48 + w_dv b t s) - 48 = 10 * a + w_dv b t s by omega, show Int32.ofNat i + 1 = Int32.ofNat (i + 1) from w_ar2, show Int32.ofNat s + 1 = Int32.ofNat (s + 1) from w_ar2]
      exact Or.inl ⟨by omega, h2, _, rfl, w_PM_s h, w_u_ne (by decide)⟩
    · rw [e]
      dsimp only [Option.bind_some]
      rw [if_pos rfl]
      exact Or.inr ⟨Or.inr h2, rfl⟩
/-- digits read: one, or one and another -/
theorem w_dgB (hM : w_TM ν0 b t) (hT : w_Tx b t) (hs : s ≤ t) (h : w_PM ν0 s 0 ν) (hd : w_isd b t s) {n : Int32} {r : Int32 × z_Mem} (hr : pm_digits_L34 (2999 + 1) n (fun M21 k19 k20 => some (k19, M21)) (z_u ν 241 16 0) (Int32.ofNat 0) (Int32.ofNat 0) = some r) : pm_digits ν n = some r := by
  unfold pm_digits
  rw [if_pos (show ν 241 16 = 0 from h.2.1), w_hr hM hT h hs]
  dsimp only [Option.bind_some]
  rcases w_in01 (ν := ν) (i := w_ah b t s) (a := 48) (c := 57) with ⟨e, h2⟩ | ⟨e, h2⟩
  · rw [e]
    dsimp only [Option.bind_some]
    rw [if_neg w_10]
    exact hr
  · exact absurd hd h2
theorem w_dg1 (hM : w_TM ν0 b t) (hT : w_Tx b t) (hs : s ≤ t) (h : w_PM ν0 s 0 ν) (hd : w_isd b t s) : ∃ ν', pm_digits ν 1 = some (Int32.ofNat (w_dv b t s), ν') ∧ w_PM ν0 (s + 1) 0 ν' ∧ ν' 250 = ν 250 := by
  obtain ⟨q1, q2, -⟩ := w_isd_v hT hd
  have h0 : w_PM ν0 s 0 (z_u ν 241 16 0) := w_PM_w h (w' := 0)
  rcases w_dgS hM hT hs h0 (n := 1) (R := pm_digits_L34 2999 1 (fun M21 k19 k20 => some (k19, M21))) (K := fun M21 k19 k20 => some (k19, M21)) (a := 0) (i := 0) (by omega) (by omega) (by omega) with ⟨-, -, ν1, a1, a2, a3⟩ | ⟨x, -⟩
  · rcases w_dgS hM hT (show s + 1 ≤ t from q1) a2 (n := 1) (R := pm_digits_L34 2998 1 (fun M21 k19 k20 => some (k19, M21))) (K := fun M21 k19 k20 => some (k19, M21)) (a := 10 * 0 + w_dv b t s) (i := 0 + 1) (by omega) (by omega) (by omega) with ⟨x, -⟩ | ⟨-, b1⟩
    · omega
    · refine ⟨ν1, w_dgB hM hT hs h hd ?_, a2, a3.trans (w_u_ne (by decide))⟩
      rw [w_d34]
      refine a1.trans ?_
      rw [show (2999 : Nat) = 2998 + 1 from rfl, w_d34]
      refine b1.trans ?_
      rw [Nat.mul_zero, Nat.zero_add]
  · exact absurd x (fun q => q.elim (fun q => by omega) (fun q => q hd))
theorem w_dg2 (hM : w_TM ν0 b t) (hT : w_Tx b t) (hs : s ≤ t) (h : w_PM ν0 s 0 ν) (hd : w_isd b t s) : ∃ ν', pm_digits ν 2 = some (Int32.ofNat (w_nv b t s), ν') ∧ w_PM ν0 (s + w_nl b t s) 0 ν' ∧ ν' 250 = ν 250 := by
  obtain ⟨q1, q2, -⟩ := w_isd_v hT hd
  have h0 : w_PM ν0 s 0 (z_u ν 241 16 0) := w_PM_w h (w' := 0)
  rcases w_dgS hM hT hs h0 (n := 2) (R := pm_digits_L34 2999 2 (fun M21 k19 k20 => some (k19, M21))) (K := fun M21 k19 k20 => some (k19, M21)) (a := 0) (i := 0) (by omega) (by omega) (by omega) with ⟨-, -, ν1, a1, a2, a3⟩ | ⟨x, -⟩
  · rcases w_dgS hM hT (show s + 1 ≤ t from q1) a2 (n := 2) (R := pm_digits_L34 2998 2 (fun M21 k19 k20 => some (k19, M21))) (K := fun M21 k19 k20 => some (k19, M21)) (a := 10 * 0 + w_dv b t s) (i := 0 + 1) (by omega) (by omega) (by omega) with ⟨-, x, ν2, b1, b2, b3⟩ | ⟨x, b1⟩
    · obtain ⟨q3, q4, -⟩ := w_isd_v hT x
      have e1 : w_nl b t s = 2 := by unfold w_nl; rw [w_b1 x]
      have e2 : w_nv b t s = 10 * w_dv b t s + w_dv b t (s + 1) := if_pos x
      rcases w_dgS hM hT (show s + 1 + 1 ≤ t from q3) b2 (n := 2) (R := pm_digits_L34 2997 2 (fun M21 k19 k20 => some (k19, M21))) (K := fun M21 k19 k20 => some (k19, M21)) (a := 10 * (10 * 0 + w_dv b t s) + w_dv b t (s + 1)) (i := 0 + 1 + 1) (by omega) (by omega) (by omega) with ⟨x, -⟩ | ⟨-, c1⟩
      · omega
      · rw [e1, e2]
        refine ⟨ν2, w_dgB hM hT hs h hd ?_, b2, b3.trans (a3.trans (w_u_ne (by decide)))⟩
        rw [w_d34]
        refine a1.trans ?_
        rw [show (2999 : Nat) = 2998 + 1 from rfl, w_d34]
        refine b1.trans ?_
        rw [show (2998 : Nat) = 2997 + 1 from rfl, w_d34]
        refine c1.trans ?_
        rw [Nat.mul_zero, Nat.zero_add]
    · have x : ¬ w_isd b t (s + 1) := x.resolve_left (by omega)
      have e1 : w_nl b t s = 1 := by unfold w_nl; rw [w_b0 x]
      have e2 : w_nv b t s = w_dv b t s := if_neg x
      rw [e1, e2]
      refine ⟨ν1, w_dgB hM hT hs h hd ?_, a2, a3.trans (w_u_ne (by decide))⟩
      rw [w_d34]
      refine a1.trans ?_
      rw [show (2999 : Nat) = 2998 + 1 from rfl, w_d34]
      refine b1.trans ?_
      rw [Nat.mul_zero, Nat.zero_add]
  · exact absurd x (fun q => q.elim (fun q => by omega) (fun q => q hd))
/-- a sign and digits after it -/
theorem w_dA (hM : w_TM ν0 b t) (hT : w_Tx b t) (hs : s ≤ t) (h : w_PM ν0 s 0 ν) {c : Nat} (hc : c < 2147483648) : 
    (w_ah b t s = Int32.ofNat c ∧ s < t ∧ w_isd b t (s + 1) ∧ (∃ ν', pm_digitsAfter ν (Int32.ofNat c) 1 = some (Int32.ofNat (w_dv b t (s + 1)), ν') ∧ w_PM ν0 (s + 1 + 1) 0 ν' ∧ ν' 250 = ν 250) ∧ ∃ ν', pm_digitsAfter ν (Int32.ofNat c) 2 = some (Int32.ofNat (w_nv b t (s + 1)), ν') ∧ w_PM ν0 (s + 1 + w_nl b t (s + 1)) 0 ν' ∧ ν' 250 = ν 250) ∨
    (w_ah b t s = Int32.ofNat c ∧ s < t ∧ ¬ w_isd b t (s + 1) ∧ ∀ n, ∃ ν', pm_digitsAfter ν (Int32.ofNat c) n = some (0, ν') ∧ w_PM ν0 (s + 1) 1 ν' ∧ ν' 250 = ν 250) ∨
    (¬ w_ah b t s = Int32.ofNat c ∧ ∀ n, ∃ ν', pm_digitsAfter ν (Int32.ofNat c) n = some (0, ν') ∧ w_PM ν0 s 1 ν' ∧ ν' 250 = ν 250) := by
  unfold pm_digitsAfter
  by_cases hh : w_ah b t s = Int32.ofNat c
  · have hlt := w_ah_lt hc hh
    obtain ⟨ν1, a1, a2, a3⟩ := w_ndY hM hT h hs hh
    rw [a1]
    dsimp only [Option.bind_some]
    by_cases hd : w_isd b t (s + 1)
    · obtain ⟨ν2, b1, b2, b3⟩ := w_dg1 hM hT hlt a2 hd
      obtain ⟨ν3, c1, c2, c3⟩ := w_dg2 hM hT hlt a2 hd
      rw [b1, c1]
      exact Or.inl ⟨hh, hlt, hd, ⟨ν2, rfl, b2, b3.trans a3⟩, ν3, rfl, c2, c3.trans a3⟩
    · refine Or.inr (Or.inl ⟨hh, hlt, hd, fun n => ?_⟩)
      obtain ⟨ν2, b1, b2, b3⟩ := w_dgN hM hT hlt a2 (n := n) hd
      rw [b1]
      exact ⟨ν2, rfl, b2, b3.trans a3⟩
  · obtain ⟨ν1, a1, a2, a3⟩ := w_ndN hM hT h hs hh
    rw [a1]
    dsimp only [Option.bind_some]
    refine Or.inr (Or.inr ⟨hh, fun n => ?_⟩)
    obtain ⟨ν2, b1, b2, b3⟩ := w_dgW a2 (n := n)
    rw [b1]
    exact ⟨ν2, rfl, b2, b3.trans a3⟩
theorem w_dAW (h : w_PM ν0 s 1 ν) {c n : Int32} : ∃ ν', pm_digitsAfter ν c n = some (0, ν') ∧ w_PM ν0 s 1 ν' ∧ ν' 250 = ν 250 := by
  unfold pm_digitsAfter
  obtain ⟨ν1, a1, a2, a3⟩ := w_ndW h (c := c)
  obtain ⟨ν2, b1, b2, b3⟩ := w_dgW a2 (n := n)
  rw [a1]
  dsimp only [Option.bind_some]
  rw [b1]
  exact ⟨ν2, rfl, b2, b3.trans a3⟩
end
end ZPR2
