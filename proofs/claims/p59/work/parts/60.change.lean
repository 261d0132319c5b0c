/-! A change: begin, try, settle; and the reference's. -/
section ZCHG
def z_toC (x : Int32) : Int32 := (x.toUInt32 % 65536).toInt32
/-- the answer of the class and that of the reference, with its number of the exception -/
def z_agI (es : List Nat) (r : Int32 ⊕ Nat) (b t : Int32) : Prop := match r with
  | .inl v => t = 0 ∧ v = b
  | .inr E => ∃ n, es[n]? = some E ∧ t = Int32.ofNat (n + 1)
def z_agD (es : List Nat) (r : UInt64 ⊕ Nat) (b : UInt64) (t : Int32) : Prop := match r with
  | .inl v => t = 0 ∧ v = b
  | .inr E => ∃ n, es[n]? = some E ∧ t = Int32.ofNat (n + 1)
def z_agF (es : List Nat) (r : UInt32 ⊕ Nat) (b : UInt32) (t : Int32) : Prop := match r with
  | .inl v => t = 0 ∧ v = b
  | .inr E => ∃ n, es[n]? = some E ∧ t = Int32.ofNat (n + 1)
/-- rows that no change of the state touches -/
def w_kp (μ μ' : z_Mem) : Prop := (∀ q, (q = 0 ∨ q = 21 ∨ q = 22 ∨ (37 ≤ q ∧ q < 57) ∨ q = 239 ∨ q = 240 ∨ (245 ≤ q ∧ q ≤ 247)) → μ' q = μ q) ∧ ∀ j, j ≠ 3 → j ≠ 12 → μ' 241 j = μ 241 j
theorem w_kp_rest {n : Nat} {μ μ' : z_Mem} (h : w_kp μ μ') (hS : w_Sv n μ) (hI : w_In μ) (hE : w_Er μ) (hO : w_Ou μ) : w_Sv n μ' ∧ w_In μ' ∧ w_Er μ' ∧ w_Ou μ' := by
  obtain ⟨h1, h2⟩ := h
  have e0 := h1 0 (by omega)
  have e21 := h1 21 (by omega)
  have e22 := h1 22 (by omega)
  have e239 := h1 239 (by omega)
  have e240 := h1 240 (by omega)
  have e245 := h1 245 (by omega)
  have e246 := h1 246 (by omega)
  have e247 := h1 247 (by omega)
  refine ⟨?_, ?_, ?_, ?_⟩
  · unfold w_Sv
    rw [e0, h2 5 (by decide) (by decide), e245]
    refine ⟨hS.1, hS.2.imp_right (fun q => ⟨q.1, w_Rel_same (fun k j hj => ?_) (fun _ _ => rfl) q.2⟩)⟩
    have := w_sz_lt hj
    unfold w_st
    rw [h1 (37 + k) (by omega)]
  · unfold w_In
    rw [e21, e22, e246, h2 7 (by decide) (by decide)]
    exact hI
  · unfold w_Er
    rw [e0, h2 8 (by decide) (by decide), h2 9 (by decide) (by decide)]
    exact hE
  · unfold w_Ou
    rw [e239, e240, e247, h2 11 (by decide) (by decide)]
    exact hO
theorem w_gl {μ : z_Mem} {g : Nat → Int32} {G0 G : Nat} (h : w_RG (w_st μ 1) g G0) (hG : G0 ≤ G) (hG2 : G ≤ G0 + 1) : μ 2 0 ≤ Int32.ofNat G := by
  have h1 : μ 2 0 = Int32.ofNat G0 := h.1
  have h2 := h.2.2.1
  rw [h1]
  exact (w_le (by omega) (by omega)).mpr hG
/-- one change, in both -/
def w_Core (m : Nat) (es : List Nat) (a : Int32) (μ μ' : z_Mem) (b : Int32) (ν ν' : z_Mem) : Prop :=
  w_frC μ μ' ∧ w_frM ν ν' ∧
  ((0 ≤ a ∧ a = b ∧ ν' 241 12 = 0 ∧ ∃ G M W S E, w_RelN m (w_st μ' 1) (ν' 242) G M W S E ∧ μ 2 0 ≤ Int32.ofNat G) ∨
   ∃ j E, es[j]? = some E ∧ E ≤ 3 ∧ a = -(Int32.ofNat (E + 1)) ∧ j < 10 ∧ ν' 241 12 = Int32.ofNat (j + 1) ∧ w_same (w_st μ 1) (w_st μ' 1) ∧ ν' 242 = ν 242)
theorem w_nn_ne {a : Int32} {E : Nat} (h : 0 ≤ a) (hE : E ≤ 3) : a ≠ -(Int32.ofNat (E + 1)) := by
  obtain ⟨k, hk, rfl⟩ := w_nat h
  intro hc
  have h1 := congrArg Int32.toInt hc
  rw [w_ti hk, w_ineg (by rw [w_ti (by omega)]; omega), w_ti (by omega)] at h1
  omega
theorem w_settle0 {μ : z_Mem} {a : Int32} (h : 0 ≤ a) : pG_settled μ a = (pH_keep μ).bind fun q5 => some (.inl a, q5) := by
  unfold pG_settled
  rw [if_neg (show ¬ a = -4 from w_nn_ne (E := 3) h (by decide)), if_neg (show ¬ a = -3 from w_nn_ne (E := 2) h (by decide)), if_neg (show ¬ a = -2 from w_nn_ne (E := 1) h (by decide)), if_neg (show ¬ a = -1 from w_nn_ne (E := 0) h (by decide))]
theorem w_settleE {μ : z_Mem} {E : Nat} (h : E ≤ 3) : pG_settled μ (-(Int32.ofNat (E + 1))) = some (.inr E, μ) := by
  unfold pG_settled
  rcases (show E = 0 ∨ E = 1 ∨ E = 2 ∨ E = 3 by omega) with rfl | rfl | rfl | rfl
  · rw [if_neg (by decide), if_neg (by decide), if_neg (by decide), if_pos (by decide)]
  · rw [if_neg (by decide), if_neg (by decide), if_pos (by decide)]
  · rw [if_neg (by decide), if_pos (by decide)]
  · rw [if_pos (by decide)]
/-- after a change that is kept -/
theorem w_kept_IB {n m k o : Nat} {μ μa μb μf : z_Mem} (hnm : n ≤ m) (I1 : w_Rel n (w_st μ 1) (μ 242)) (hS : w_Sv n μ) (hU : w_Un n μ k o) (hI : w_In μ) (hE : w_Er μ) (hO : w_Ou μ)
    (hkp : w_kp μ μf) (hR : w_Rel m (w_st μf 1) (μf 242)) (hs : w_same (w_st μ 1) (w_st μf (59 + 20 * o))) (hr : ∀ q, 59 ≤ q → q < 239 → (q < 59 + 20 * o ∨ 59 + 20 * o + 20 ≤ q) → μf q = μ q)
    (h1 : μf 57 0 = Int32.ofNat (if k = 8 then 8 else k + 1)) (h2 : μf 57 1 = Int32.ofNat ((o + 1) % 9)) (h3 : μf 241 3 = Int32.ofNat (if k = 8 then 8 else k + 1))
    (h4 : ∀ i j, i < (if k = 8 then 7 else k) → j < 331 → μf 244 (331 * i + j) = μ 244 (331 * (if k = 8 then i + 1 else i) + j)) (h5 : ∀ j, j < 331 → μf 244 (331 * (if k = 8 then 7 else k) + j) = μ 242 j) : w_IB m μf := by
  obtain ⟨u1, u2, u3, u4, u5, u6⟩ := hU
  obtain ⟨r1, r2, r3, r4⟩ := w_kp_rest hkp hS hI hE hO
  refine ⟨hR, ⟨r1.1, r1.2.imp_right (fun q => ⟨q.1, w_Rel_up hnm q.2⟩)⟩, ⟨(if k = 8 then 8 else k + 1), (o + 1) % 9, h1, h3, by split <;> omega, h2, by omega, fun i hi => w_Rel_up hnm ?_⟩, r2, r3, r4⟩
  have old : ∀ i', i' < k → i < (if k = 8 then 7 else k) → (if k = 8 then i + 1 else i) = i' → ((o + 1) % 9 + 9 - (if k = 8 then 8 else k + 1) + i) % 9 = (o + 9 - k + i') % 9 → w_Rel n (w_st μf (59 + 20 * (((o + 1) % 9 + 9 - (if k = 8 then 8 else k + 1) + i) % 9))) (fun j => μf 244 (331 * i + j)) := by
    intro i' g1 g2 g3 g4
    rw [g4]
    refine w_Rel_same (fun q j hj => ?_) (fun j hj => ?_) (u6 i' g1)
    · have := w_sz_lt hj
      unfold w_st
      rw [hr _ (by omega) (by omega) (by omega)]
    · rw [h4 i j g2 hj, g3]
  by_cases hk : k = 8
  · subst hk
    simp only [if_true] at *
    by_cases hi7 : i = 7
    · subst hi7
      have e : ((o + 1) % 9 + 9 - 8 + 7) % 9 = o := by omega
      rw [e]
      exact w_Rel_same hs (fun j hj => (h5 j hj).symm) I1
    · exact old (i + 1) (by omega) (by omega) rfl (by omega)
  · simp only [if_neg hk] at *
    by_cases hik : i = k
    · subst hik
      have e : ((o + 1) % 9 + 9 - (i + 1) + i) % 9 = o := by omega
      rw [e]
      exact w_Rel_same hs (fun j hj => (h5 j hj).symm) I1
    · exact old i (by omega) (by omega) rfl (by omega)
end ZCHG
