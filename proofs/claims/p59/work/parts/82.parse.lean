/-! Reading the text: the small steps. -/
section ZPRS
def w_ah (b : Nat → Int32) (t s : Nat) : Int32 := if s < t then b s else -1
def w_isd (b : Nat → Int32) (t s : Nat) : Prop := 48 ≤ w_ah b t s ∧ w_ah b t s ≤ 57
def w_isl (b : Nat → Int32) (t s : Nat) : Prop := 97 ≤ w_ah b t s ∧ w_ah b t s ≤ 122
def w_dv (b : Nat → Int32) (t s : Nat) : Nat := (w_ah b t s).toNatClampNeg - 48
/-- the text of m0 -/
def w_Tx (b : Nat → Int32) (t : Nat) : Prop := t ≤ 60 ∧ ∀ i, i < t → ∃ ch, ch < 65536 ∧ b i = Int32.ofNat ch
def w_PC (μ0 : z_Mem) (s k : Nat) (μ : z_Mem) : Prop := μ 34 0 = Int32.ofNat s ∧ μ 34 1 = Int32.ofNat k ∧ ∀ q, q ≠ 34 → q ≠ 35 → q ≠ 36 → μ q = μ0 q
def w_sw (b : Nat → Int32) (t : Nat) : List Nat → Nat → Bool × Nat
  | [], s => (true, s)
  | c :: l, s => @ite _ (w_ah b t s = Int32.ofNat c) (instDecidableEqInt32 _ _) (w_sw b t l (s + 1)) (false, s)
theorem w_ah_lt {b : Nat → Int32} {t s c : Nat} (hc : c < 2147483648) (h : w_ah b t s = Int32.ofNat c) : s < t := by
  unfold w_ah at h
  by_cases hs : s < t
  · exact hs
  · rw [if_neg hs] at h
    exact absurd h.symm (w_nneg (k := 1) hc (by decide) (by decide))
theorem w_ah_d {b : Nat → Int32} {t s : Nat} (h0 : ¬ w_ah b t s < 0) (hT : w_Tx b t) : s < t ∧ ∃ ch, ch < 65536 ∧ w_ah b t s = Int32.ofNat ch ∧ b s = Int32.ofNat ch := by
  unfold w_ah at *
  by_cases hs : s < t
  · rw [if_pos hs] at *
    obtain ⟨ch, h1, h2⟩ := hT.2 s hs
    exact ⟨hs, ch, h1, h2, h2⟩
  · rw [if_neg hs] at h0
    exact absurd (by decide) h0
theorem w_isd_v {b : Nat → Int32} {t s : Nat} (hT : w_Tx b t) (h : w_isd b t s) : s < t ∧ w_dv b t s ≤ 9 ∧ w_ah b t s = Int32.ofNat (48 + w_dv b t s) := by
  obtain ⟨h1, h2⟩ := h
  obtain ⟨a, ch, hc, e, -⟩ := w_ah_d (b := b) (t := t) (s := s) (fun q => by
    have := Int32.lt_iff_toInt_lt.mp q
    have h3 := Int32.le_iff_toInt_le.mp h1
    rw [show (48 : Int32).toInt = 48 from rfl] at h3
    rw [show (0 : Int32).toInt = 0 from rfl] at this
    omega) hT
  unfold w_dv
  rw [e] at h1 h2 ⊢
  have h1 : 48 ≤ ch := (w_lel (k := 48) (by decide) (by omega)).mp h1
  have h2 : ch ≤ 57 := (w_ler (k := 57) (by decide) (by omega)).mp h2
  rw [w_tn (by omega)]
  exact ⟨a, by omega, congrArg Int32.ofNat (by omega)⟩
section
variable {μ0 μ : z_Mem} {t s k : Nat}
theorem w_sA (ht : μ0 21 0 = Int32.ofNat t) (hT : w_Tx (μ0 22) t) (hs : s ≤ t) (h : w_PC μ0 s k μ) : pR_signAhead μ = some (w_ah (μ0 22) t s) := by
  obtain ⟨h1, h2, h3⟩ := h
  have := hT.1
  unfold pR_signAhead w_ah
  rw [h3 21 (by decide) (by decide) (by decide), ht, h1]
  by_cases hh : t ≤ s
  · rw [if_pos ((w_le (by omega) (by omega)).mpr hh), if_neg (by omega)]
  · rw [if_neg (fun q => hh ((w_le (by omega) (by omega)).mp q)), w_rdn (by omega) (by omega), h3 22 (by decide) (by decide) (by decide), if_pos (by omega)]
    rfl
theorem w_PC_sp (h : w_PC μ0 s k μ) {s' : Nat} : w_PC μ0 s' k (z_u μ 34 0 (Int32.ofNat s')) :=
  ⟨w_u_eq, by rw [w_u_at (by decide)]; exact h.2.1, fun q a b c => by rw [w_u_ne a]; exact h.2.2 q a b c⟩
theorem w_PC_v (h : w_PC μ0 s k μ) {j : Nat} {v : Int32} : w_PC μ0 s k (z_u μ 36 j v) :=
  ⟨by rw [w_u_ne (by decide)]; exact h.1, by rw [w_u_ne (by decide)]; exact h.2.1, fun q a b c => by rw [w_u_ne c]; exact h.2.2 q a b c⟩
theorem w_PC_k (h : w_PC μ0 s k μ) {j : Nat} {v : Int32} : w_PC μ0 s k (z_u μ 35 j v) :=
  ⟨by rw [w_u_ne (by decide)]; exact h.1, by rw [w_u_ne (by decide)]; exact h.2.1, fun q a b c => by rw [w_u_ne b]; exact h.2.2 q a b c⟩
theorem w_rdY (ht : μ0 21 0 = Int32.ofNat t) (hT : w_Tx (μ0 22) t) (hs : s ≤ t) (h : w_PC μ0 s k μ) {c : Int32} (hc : w_ah (μ0 22) t s = c) : pR_read μ c = some (1, z_u μ 34 0 (Int32.ofNat (s + 1))) := by
  unfold pR_read
  rw [w_sA ht hT hs h]
  dsimp only [Option.bind_some]
  rw [if_pos hc, h.1]
  exact congrArg (fun z => some ((1 : Int32), z_u μ 34 0 z)) w_ar2
theorem w_rdN (ht : μ0 21 0 = Int32.ofNat t) (hT : w_Tx (μ0 22) t) (hs : s ≤ t) (h : w_PC μ0 s k μ) {c : Int32} (hc : ¬ w_ah (μ0 22) t s = c) : pR_read μ c = some (0, μ) := by
  unfold pR_read
  rw [w_sA ht hT hs h]
  dsimp only [Option.bind_some]
  rw [if_neg hc]
/-- what a step of the class's reader may do to its rows -/
def w_kpR (μ μ' : z_Mem) : Prop := μ' 35 = μ 35 ∧ μ' 36 = μ 36
def w_bi (o : Bool) : Int32 := if o = true then 1 else 0
theorem w_wdL (ht : μ0 21 0 = Int32.ofNat t) (hT : w_Tx (μ0 22) t) {sj : Nat} (hj : (z_str sj).length < 100) (hcs : ∀ i, i < (z_str sj).length → (z_str sj).getD i 0 < 2147483648) : ∀ (f i : Nat) (s : Nat) (μ : z_Mem), (z_str sj).length - i < f → i ≤ (z_str sj).length → s ≤ t → w_PC μ0 s k μ → ∃ μ', pR_readWord_L2 f sj (fun M7 k6 => some (1, M7)) μ (Int32.ofNat i) = some (w_bi (w_sw (μ0 22) t ((z_str sj).drop i) s).1, μ') ∧ w_PC μ0 (w_sw (μ0 22) t ((z_str sj).drop i) s).2 k μ' ∧ w_kpR μ μ' ∧ (w_sw (μ0 22) t ((z_str sj).drop i) s).2 ≤ t := by
  intro f
  induction f with
  | zero => intro i s μ h; omega
  | succ f ih =>
    intro i s μ hf hi hs h
    show ∃ μ', pR_readWord_L2_B (pR_readWord_L2 f sj (fun M7 k6 => some (1, M7))) sj (fun M7 k6 => some (1, M7)) μ (Int32.ofNat i) = _ ∧ _
    unfold pR_readWord_L2_B
    by_cases hh : (z_str sj).length ≤ i
    · rw [if_pos ((w_le (by omega) (by omega)).mpr hh), List.drop_of_length_le hh]
      exact ⟨μ, rfl, h, ⟨rfl, rfl⟩, hs⟩
    · have e : (z_str sj).drop i = (z_str sj).getD i 0 :: (z_str sj).drop (i + 1) := by
        rw [List.getD_eq_getElem?_getD, List.getElem?_eq_getElem (by omega), List.drop_eq_getElem_cons (by omega)]
        rfl
      rw [if_neg (fun q => hh ((w_le (by omega) (by omega)).mp q)), if_pos ((w_inn (by omega)).mpr (by omega)), w_tn (by omega), e]
      unfold w_sw
      by_cases hc : w_ah (μ0 22) t s = Int32.ofNat ((z_str sj).getD i 0)
      · have hlt := w_ah_lt (hcs i (by omega)) hc
        rw [w_rdY ht hT hs h hc, if_pos hc]
        dsimp only [Option.bind_some]
        rw [if_neg w_10, show Int32.ofNat i + 1 = Int32.ofNat (i + 1) from w_ar2]
        obtain ⟨μ', a1, a2, a3, a4⟩ := ih (i + 1) (s + 1) _ (by omega) (by omega) (by omega) (w_PC_sp h (s' := s + 1))
        refine ⟨μ', a1, a2, ⟨a3.1.trans (w_u_ne (by decide)), a3.2.trans (w_u_ne (by decide))⟩, a4⟩
      · rw [w_rdN ht hT hs h hc, if_neg hc]
        dsimp only [Option.bind_some]
        rw [if_pos rfl]
        exact ⟨μ, rfl, h, ⟨rfl, rfl⟩, hs⟩
theorem w_wd (ht : μ0 21 0 = Int32.ofNat t) (hT : w_Tx (μ0 22) t) {sj : Nat} (hj : (z_str sj).length < 100) (hcs : ∀ i, i < (z_str sj).length → (z_str sj).getD i 0 < 2147483648) (hs : s ≤ t) (h : w_PC μ0 s k μ) : ∃ μ', pR_readWord sj μ = some (w_bi (w_sw (μ0 22) t (z_str sj) s).1, μ') ∧ w_PC μ0 (w_sw (μ0 22) t (z_str sj) s).2 k μ' ∧ w_kpR μ μ' ∧ (w_sw (μ0 22) t (z_str sj) s).2 ≤ t :=
  w_wdL ht hT hj hcs z_fu 0 s μ (by show _ < 3000; omega) (Nat.zero_le _) hs h
theorem w_sV (h : w_PC μ0 s k μ) (hk : k ≤ 8) {j : Nat} (hj : j ≤ 2) {v : Int32} : pR_setValue μ (Int32.ofNat j) v = some (z_u μ 36 (3 * k + j) v) := by
  unfold pR_setValue
  rw [h.2.1, show Int32.ofNat k * 3 = Int32.ofNat (k * 3) from w_mr, w_aa, if_pos ((w_inn (by omega)).mpr (by omega)), w_tn (by omega), show k * 3 + j = 3 * k + j by omega]
theorem w_gV (h : w_PC μ0 s k μ) (hk : k ≤ 8) {j : Nat} (hj : j ≤ 2) : pR_value μ (Int32.ofNat j) = some (μ 36 (3 * k + j)) := by
  unfold pR_value
  rw [h.2.1, show Int32.ofNat k * 3 = Int32.ofNat (k * 3) from w_mr, w_aa, w_rdn (by omega) (by omega), show k * 3 + j = 3 * k + j by omega]
  rfl
/-- one value is set, kinds stay -/
def w_set (μ μ' : z_Mem) (p : Nat) (v : Int32) : Prop := μ' 35 = μ 35 ∧ μ' 36 p = v ∧ ∀ j, j ≠ p → μ' 36 j = μ 36 j
theorem w_rb (ht : μ0 21 0 = Int32.ofNat t) (hT : w_Tx (μ0 22) t) (hs : s ≤ t) (h : w_PC μ0 s k μ) (hk : k ≤ 8) {j : Nat} (hj : j ≤ 2) {lo hi d : Int32} : (lo ≤ w_ah (μ0 22) t s ∧ w_ah (μ0 22) t s ≤ hi ∧ ∃ μ', pR_readBetween μ lo hi (Int32.ofNat j) d = some (1, μ') ∧ w_PC μ0 (s + 1) k μ' ∧ w_set μ μ' (3 * k + j) (w_ah (μ0 22) t s - d)) ∨ (¬ (lo ≤ w_ah (μ0 22) t s ∧ w_ah (μ0 22) t s ≤ hi) ∧ pR_readBetween μ lo hi (Int32.ofNat j) d = some (0, μ)) := by
  unfold pR_readBetween
  rw [w_sA ht hT hs h]
  dsimp only [Option.bind_some]
  by_cases h1 : w_ah (μ0 22) t s < lo
  · rw [if_pos h1]
    exact Or.inr ⟨fun q => Int32.not_le.mpr h1 q.1, rfl⟩
  · rw [if_neg h1]
    by_cases h2 : w_ah (μ0 22) t s ≤ hi
    · rw [if_pos h2, w_sV h hk hj]
      dsimp only [Option.bind_some]
      rw [w_u_ne (by decide), h.1, show Int32.ofNat s + 1 = Int32.ofNat (s + 1) from w_ar2]
      refine Or.inl ⟨Int32.not_lt.mp h1, h2, _, rfl, w_PC_sp (w_PC_v h), ?_, ?_, fun i hi => ?_⟩
      · rw [w_u_ne (by decide), w_u_ne (by decide)]
      · rw [w_u_ne (by decide), w_u_eq]
      · rw [w_u_ne (by decide), w_u_at hi]
    · rw [if_neg h2]
      exact Or.inr ⟨fun q => h2 q.2, rfl⟩
theorem w_rdg (ht : μ0 21 0 = Int32.ofNat t) (hT : w_Tx (μ0 22) t) (hs : s ≤ t) (h : w_PC μ0 s k μ) (hk : k ≤ 8) {j : Nat} (hj : j ≤ 2) : (w_isd (μ0 22) t s ∧ s < t ∧ ∃ μ', pR_readDigit μ (Int32.ofNat j) = some (1, μ') ∧ w_PC μ0 (s + 1) k μ' ∧ w_set μ μ' (3 * k + j) (Int32.ofNat (w_dv (μ0 22) t s))) ∨ (¬ w_isd (μ0 22) t s ∧ pR_readDigit μ (Int32.ofNat j) = some (0, μ)) := by
  unfold pR_readDigit
  rcases w_rb ht hT hs h hk hj (lo := 48) (hi := 57) (d := 48) with ⟨a1, a2, μ', a3, a4, a5⟩ | ⟨a1, a2⟩
  · obtain ⟨b1, b2, b3⟩ := w_isd_v hT ⟨a1, a2⟩
    rw [a3]
    dsimp only [Option.bind_some]
    rw [if_pos (by decide)]
    rw [b3, show Int32.ofNat (48 + w_dv (μ0 22) t s) - 48 = Int32.ofNat (48 + w_dv (μ0 22) t s - 48) from w_sr (k := 48) (Nat.le_add_right _ _), show 48 + w_dv (μ0 22) t s - 48 = w_dv (μ0 22) t s by omega] at a5
    exact Or.inl ⟨⟨a1, a2⟩, b1, μ', rfl, a4, a5⟩
  · rw [a2]
    dsimp only [Option.bind_some]
    rw [if_pos (by decide)]
    exact Or.inr ⟨a1, rfl⟩
end
end ZPRS
