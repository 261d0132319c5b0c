/-! A change: begin, try, settle; and the reference's. -/
section ZCHG
def z_toC (x : Int32) : Int32 := (x.toUInt32 % 65536).toInt32
/-- the answer of the class and that of the reference, with its number of the exception -/
def z_agI (es : List Nat) (r : Int32 ⊕ Nat) (b t : Int32) : Prop := match r with
  | .inl v => t = 0 ∧ v = b
  | .inr E => ∃ n, es[n]? = some E ∧ t = Int32.ofNat (n + 1)
def z_agD (es : List Nat) (r : UInt64 ⊕ Nat) (b : UInt64) (t : Int32) : Prop := match r with
  | .inl v => t = 0 ∧ v = b
  | .inr E => ∃ n, es[n]? = some E ∧ t = Int32.ofNat (n + 1)
def z_agF (es : List Nat) (r : UInt32 ⊕ Nat) (b : UInt32) (t : Int32) : Prop := match r with
  | .inl v => t = 0 ∧ v = b
  | .inr E => ∃ n, es[n]? = some E ∧ t = Int32.ofNat (n + 1)
/-- rows that no change of the state touches -/
def w_kp (μ μ' : z_Mem) : Prop := (∀ q, (q = 0 ∨ q = 21 ∨ q = 22 ∨ (37 ≤ q ∧ q < 57) ∨ q = 239 ∨ q = 240 ∨ (245 ≤ q ∧ q ≤ 247)) → μ' q = μ q) ∧ ∀ j, j ≠ 3 → j ≠ 12 → μ' 241 j = μ 241 j
theorem w_kp_rest {n : Nat} {μ μ' : z_Mem} (h : w_kp μ μ') (hS : w_Sv n μ) (hI : w_In μ) (hE : w_Er μ) (hO : w_Ou μ) : w_Sv n μ' ∧ w_In μ' ∧ w_Er μ' ∧ w_Ou μ' := by
  obtain ⟨h1, h2⟩ := h
  have e0 := h1 0 (by omega)
  have e21 := h1 21 (by omega)
  have e22 := h1 22 (by omega)
  have e239 := h1 239 (by omega)
  have e240 := h1 240 (by omega)
  have e245 := h1 245 (by omega)
  have e246 := h1 246 (by omega)
  have e247 := h1 247 (by omega)
  refine ⟨?_, ?_, ?_, ?_⟩
  · unfold w_Sv
    rw [e0, h2 5 (by decide) (by decide), e245]
    refine ⟨hS.1, hS.2.imp_right (fun q => ⟨q.1, w_Rel_same (fun k j hj => ?_) (fun _ _ => rfl) q.2⟩)⟩
    have := w_sz_lt hj
    unfold w_st
    rw [h1 (37 + k) (by omega)]
  · unfold w_In
    rw [e21, e22, e246, h2 7 (by decide) (by decide)]
    exact hI
  · unfold w_Er
    rw [e0, h2 8 (by decide) (by decide), h2 9 (by decide) (by decide)]
    exact hE
  · unfold w_Ou
    rw [e239, e240, e247, h2 11 (by decide) (by decide)]
    exact hO
/-- one change, in both -/
def w_Core (m : Nat) (es : List Nat) (a : Int32) (μ μ' : z_Mem) (b : Int32) (ν ν' : z_Mem) : Prop :=
  w_frC μ μ' ∧ w_frM ν ν' ∧
  ((0 ≤ a ∧ a = b ∧ ν' 241 12 = 0 ∧ w_Rel m (w_st μ' 1) (ν' 242)) ∨
   ∃ j E, es[j]? = some E ∧ E ≤ 3 ∧ a = -(Int32.ofNat (E + 1)) ∧ j < 10 ∧ ν' 241 12 = Int32.ofNat (j + 1) ∧ w_same (w_st μ 1) (w_st μ' 1) ∧ ν' 242 = ν 242)
theorem w_nn_ne {a : Int32} {E : Nat} (h : 0 ≤ a) (hE : E ≤ 3) : a ≠ -(Int32.ofNat (E + 1)) := by
  obtain ⟨k, hk, rfl⟩ := w_nat h
  intro hc
  have h1 := congrArg Int32.toInt hc
  rw [w_ti hk, w_ineg (by rw [w_ti (by omega)]; omega), w_ti (by omega)] at h1
  omega
theorem w_settle0 {μ : z_Mem} {a : Int32} (h : 0 ≤ a) : pG_settled μ a = (pH_keep μ).bind fun q5 => some (.inl a, q5) := by
  unfold pG_settled
  rw [if_neg (show ¬ a = -4 from w_nn_ne (E := 3) h (by decide)), if_neg (show ¬ a = -3 from w_nn_ne (E := 2) h (by decide)), if_neg (show ¬ a = -2 from w_nn_ne (E := 1) h (by decide)), if_neg (show ¬ a = -1 from w_nn_ne (E := 0) h (by decide))]
theorem w_settleE {μ : z_Mem} {E : Nat} (h : E ≤ 3) : pG_settled μ (-(Int32.ofNat (E + 1))) = some (.inr E, μ) := by
  unfold pG_settled
  rcases (show E = 0 ∨ E = 1 ∨ E = 2 ∨ E = 3 by omega) with rfl | rfl | rfl | rfl
  · rw [if_neg (by decide), if_neg (by decide), if_neg (by decide), if_pos (by decide)]
  · rw [if_neg (by decide), if_neg (by decide), if_pos (by decide)]
  · rw [if_neg (by decide), if_pos (by decide)]
  · rw [if_pos (by decide)]
/-- after a change that is kept -/
theorem w_kept_IB {n m k o : Nat} {μ μa μb μf : z_Mem} (hnm : n ≤ m) (I1 : w_Rel n (w_st μ 1) (μ 242)) (hS : w_Sv n μ) (hU : w_Un n μ k o) (hI : w_In μ) (hE : w_Er μ) (hO : w_Ou μ)
    (hkp : w_kp μ μf) (hR : w_Rel m (w_st μf 1) (μf 242)) (hs : w_same (w_st μ 1) (w_st μf (59 + 20 * o))) (hr : ∀ q, 59 ≤ q → q < 239 → (q < 59 + 20 * o ∨ 59 + 20 * o + 20 ≤ q) → μf q = μ q)
    (h1 : μf 57 0 = Int32.ofNat (if k = 8 then 8 else k + 1)) (h2 : μf 57 1 = Int32.ofNat ((o + 1) % 9)) (h3 : μf 241 3 = Int32.ofNat (if k = 8 then 8 else k + 1))
    (h4 : ∀ i j, i < (if k = 8 then 7 else k) → j < 331 → μf 244 (331 * i + j) = μ 244 (331 * (if k = 8 then i + 1 else i) + j)) (h5 : ∀ j, j < 331 → μf 244 (331 * (if k = 8 then 7 else k) + j) = μ 242 j) : w_IB m μf := by
  obtain ⟨u1, u2, u3, u4, u5, u6⟩ := hU
  obtain ⟨r1, r2, r3, r4⟩ := w_kp_rest hkp hS hI hE hO
  refine ⟨hR, ⟨r1.1, r1.2.imp_right (fun q => ⟨q.1, w_Rel_up hnm q.2⟩)⟩, ⟨(if k = 8 then 8 else k + 1), (o + 1) % 9, h1, h3, by split <;> omega, h2, by omega, fun i hi => w_Rel_up hnm ?_⟩, r2, r3, r4⟩
  have old : ∀ i', i' < k → i < (if k = 8 then 7 else k) → (if k = 8 then i + 1 else i) = i' → ((o + 1) % 9 + 9 - (if k = 8 then 8 else k + 1) + i) % 9 = (o + 9 - k + i') % 9 → w_Rel n (w_st μf (59 + 20 * (((o + 1) % 9 + 9 - (if k = 8 then 8 else k + 1) + i) % 9))) (fun j => μf 244 (331 * i + j)) := by
    intro i' g1 g2 g3 g4
    rw [g4]
    refine w_Rel_same (fun q j hj => ?_) (fun j hj => ?_) (u6 i' g1)
    · have := w_sz_lt hj
      unfold w_st
      rw [hr _ (by omega) (by omega) (by omega)]
    · rw [h4 i j g2 hj, g3]
  by_cases hk : k = 8
  · subst hk
    simp only [if_true] at *
    by_cases hi7 : i = 7
    · subst hi7
      have e : ((o + 1) % 9 + 9 - 8 + 7) % 9 = o := by omega
      rw [e]
      exact w_Rel_same hs (fun j hj => (h5 j hj).symm) I1
    · exact old (i + 1) (by omega) (by omega) rfl (by omega)
  · simp only [if_neg hk] at *
    by_cases hik : i = k
    · subst hik
      have e : ((o + 1) % 9 + 9 - (i + 1) + i) % 9 = o := by omega
      rw [e]
      exact w_Rel_same hs (fun j hj => (h5 j hj).symm) I1
    · exact old i (by omega) (by omega) rfl (by omega)
theorem w_change {n m : Nat} {μ : z_Mem} {es : List Nat} {tr rf : z_Mem → Option (Int32 × z_Mem)} (I : w_IB n μ) (hnm : n ≤ m) (hc : ∀ μ ν, w_Rel n (w_st μ 1) (ν 242) → ∃ a μ' b ν', tr μ = some (a, μ') ∧ rf ν = some (b, ν') ∧ w_Core m es a μ μ' b ν ν') :
    ∃ r μ1 b μ2, ((pH_begin μ).bind fun q1 => (tr q1).bind fun q3 => (pG_settled q3.2 q3.1).bind fun q5 => (match q5.1 with | .inl x7 => some ((.inl x7), q5.2) | .inr E8 => some ((.inr E8), q5.2)) : Option ((Int32 ⊕ Nat) × z_Mem)) = some (r, μ1) ∧ ((pm_begin μ1).bind fun q1 => (rf q1).bind fun q3 => (pm_kept q3.2 q3.1).bind fun q5 => some (q5.1, q5.2) : Option (Int32 × z_Mem)) = some (b, μ2) ∧ z_agI es r b (μ2 241 12) ∧ w_IB m μ2 := by
  obtain ⟨I1, hS, ⟨k, o, hU⟩, hI, hE, hO⟩ := I
  obtain ⟨μa, ea, ra, sa⟩ := w_begin hU
  have u1 := hU.1
  have u2 := hU.2.1
  have u3 := hU.2.2.1
  have u4 := hU.2.2.2.1
  have u5 := hU.2.2.2.2.1
  have Ra : ∀ ν : z_Mem, (∀ j, j < 331 → ν 242 j = μ 242 j) → w_Rel n (w_st μa 1) (ν 242) := fun ν hν => w_Rel_same (fun q j hj => by have := w_sz_lt hj; unfold w_st; rw [ra _ (by omega)]) (fun j hj => (hν j hj).symm) I1
  obtain ⟨a, μb, b0, ν0, e1, -, C0⟩ := hc μa μ (Ra μ (fun _ _ => rfl))
  rw [ea]
  dsimp only [Option.bind_some]
  rw [e1]
  dsimp only [Option.bind_some]
  have frC : w_frC μa μb := C0.1
  rcases C0.2.2 with ⟨g1, -⟩ | ⟨j0, E, -, hE3, g1, -, -, g2, -⟩
  · obtain ⟨μc, ec, rc, c0, c1⟩ := w_keep (n := n) (μ := μb) (k := k) (o := o) (by rw [frC 57 (by omega), ra _ (by omega)]; exact u1) u3 (by rw [frC 57 (by omega), ra _ (by omega)]; exact u4) u5
    rw [w_settle0 g1, ec]
    dsimp only [Option.bind_some]
    refine ⟨.inl a, μc, ?_⟩
    have c242 : μc 242 = μ 242 := by rw [rc _ (by decide), frC 242 (by omega), ra _ (by omega)]
    have hcp : ∀ q, q ≠ 243 → z_cp μc 242 243 0 0 331 q = μc q := fun q hq => w_cp_ne hq
    obtain ⟨a', μb', b, ν', e2, e3, C⟩ := hc μa (z_cp μc 242 243 0 0 331) (Ra _ (fun j _ => by rw [hcp 242 (by decide), c242]))
    cases e1.symm.trans e2
    rw [w_mbegin]
    dsimp only [Option.bind_some]
    rw [e3]
    dsimp only [Option.bind_some]
    rcases C.2.2 with ⟨-, rfl, h12, hRel⟩ | ⟨j1, E1, -, hE1, g3, -⟩
    · have f241 : ∀ j, j ≠ 12 → ν' 241 j = μ 241 j := fun j hj => by rw [C.2.1.2 j hj, hcp 241 (by decide), rc _ (by decide), frC 241 (by omega), ra _ (by omega)]
      obtain ⟨μf, ef, rf1, rf2, rf3, rf4, rf5⟩ := w_keptO (μ := ν') (v := a) h12 (k := k) (by rw [f241 3 (by decide)]; exact u2) u3
      rw [ef]
      refine ⟨a, μf, rfl, rfl, ⟨by rw [rf2 12 (by decide)]; exact h12, rfl⟩, ?_⟩
      have low : ∀ q, q ≠ 57 → q ≠ 241 → q ≠ 242 → q ≠ 243 → q ≠ 244 → q ≠ 248 → q ≠ 249 → μf q = μb q := fun q a1 a2 a3 a4 a5 a6 a7 => by
        rw [rf1 q a5 a2, C.2.1.1 q a3 a6 a7 a2, hcp q a4, rc q a1]
      have hi244 : ∀ j, ν' 244 j = μ 244 j := fun j => by rw [C.2.1.1 244 (by decide) (by decide) (by decide) (by decide), hcp 244 (by decide), rc _ (by decide), frC 244 (by omega), ra _ (by omega)]
      have hi243 : ∀ j, j < 331 → ν' 243 j = μ 242 j := fun j hj => by rw [C.2.1.1 243 (by decide) (by decide) (by decide) (by decide), w_cp0 hj, c242]
      have e57 : μf 57 = μc 57 := by rw [rf1 57 (by decide) (by decide), C.2.1.1 57 (by decide) (by decide) (by decide) (by decide), hcp 57 (by decide)]
      refine w_kept_IB (μa := μa) (μb := μb) hnm I1 hS hU hI hE hO ⟨fun q hq => ?_, fun j j3 j12 => ?_⟩ ?_ (fun q j hj => ?_) (fun q q1 q2 q3 => ?_) (by rw [e57]; exact c0) (by rw [e57]; exact c1) rf3 (fun i j hi hj => by rw [rf4 i j hi hj, hi244]) (fun j hj => by rw [rf5 j hj, hi243 j hj])
      · rw [low q (by omega) (by omega) (by omega) (by omega) (by omega) (by omega) (by omega), frC q (by omega), ra _ (by omega)]
      · rw [rf2 j j3, f241 j j12]
      · refine w_Rel_same (fun q j hj => ?_) (fun j hj => ?_) hRel
        · have := w_sz_lt hj
          unfold w_st
          rw [low _ (by omega) (by omega) (by omega) (by omega) (by omega) (by omega) (by omega)]
        · rw [rf1 242 (by decide) (by decide)]
      · have := w_sz_lt hj
        rw [sa q j hj]
        unfold w_st
        rw [low _ (by omega) (by omega) (by omega) (by omega) (by omega) (by omega) (by omega), frC _ (by omega)]
      · rw [low _ (by omega) (by omega) (by omega) (by omega) (by omega) (by omega) (by omega), frC _ (by omega), ra _ q3]
    · exact absurd g3 (w_nn_ne g1 hE1)
  · subst g1
    rw [w_settleE hE3]
    dsimp only [Option.bind_some]
    refine ⟨.inr E, μb, ?_⟩
    have b242 : μb 242 = μ 242 := by rw [frC 242 (by omega), ra _ (by omega)]
    have hcp : ∀ q, q ≠ 243 → z_cp μb 242 243 0 0 331 q = μb q := fun q hq => w_cp_ne hq
    obtain ⟨a', μb', b, ν', e2, e3, C⟩ := hc μa (z_cp μb 242 243 0 0 331) (Ra _ (fun j _ => by rw [hcp 242 (by decide), b242]))
    cases e1.symm.trans e2
    rw [w_mbegin]
    dsimp only [Option.bind_some]
    rw [e3]
    dsimp only [Option.bind_some]
    rcases C.2.2 with ⟨g3, -⟩ | ⟨j1, E1, g3, hE1, g4, hj1, g5, g6, g7⟩
    · exact absurd rfl (w_nn_ne g3 hE3)
    · have hEE : E1 = E := by
        have h1 := Int32.neg_inj.mp g4
        have := (w_eq (by omega) (by omega)).mp h1
        omega
      subst hEE
      have hne : ¬ ν' 241 12 = 0 := by
        rw [g5]
        intro q
        have : j1 + 1 = 0 := (w_eq (a := j1 + 1) (b := 0) (by omega) (by omega)).mp q
        omega
      rw [w_keptX hne]
      have hx : ∀ q, q ≠ 242 → z_cp ν' 243 242 0 0 331 q = ν' q := fun q hq => w_cp_ne hq
      refine ⟨0, z_cp ν' 243 242 0 0 331, rfl, rfl, ⟨j1, g3, by rw [hx 241 (by decide)]; exact g5⟩, ?_⟩
      have f241 : ∀ j, j ≠ 12 → ν' 241 j = μ 241 j := fun j hj => by rw [C.2.1.2 j hj, hcp 241 (by decide), frC 241 (by omega), ra _ (by omega)]
      have low : ∀ q, q ≠ 241 → q ≠ 242 → q ≠ 243 → q ≠ 248 → q ≠ 249 → z_cp ν' 243 242 0 0 331 q = μb q := fun q a2 a3 a4 a6 a7 => by
        rw [hx q a3, C.2.1.1 q a3 a6 a7 a2, hcp q a4]
      obtain ⟨r1, r2, r3, r4⟩ := w_kp_rest (μ := μ) (μ' := z_cp ν' 243 242 0 0 331) (n := n) ⟨fun q hq => by rw [low q (by omega) (by omega) (by omega) (by omega) (by omega), frC q (by omega), ra _ (by omega)], fun j j3 j12 => by rw [hx 241 (by decide), f241 j j12]⟩ hS hI hE hO
      refine ⟨w_Rel_up hnm (w_Rel_same (fun q j hj => ?_) (fun j hj => ?_) I1), ⟨r1.1, r1.2.imp_right (fun q => ⟨q.1, w_Rel_up hnm q.2⟩)⟩, ⟨k, o, ?_, ?_, u3, ?_, u5, fun i hi => w_Rel_up hnm ?_⟩, r2, r3, r4⟩
      · have := w_sz_lt hj
        unfold w_st
        rw [low _ (by omega) (by omega) (by omega) (by omega) (by omega)]
        have h1 := g6 q j hj
        unfold w_st at h1
        rw [← h1, ra _ (by omega)]
      · rw [w_cp0 hj, C.2.1.1 243 (by decide) (by decide) (by decide) (by decide), w_cp0 hj, b242]
      · rw [low 57 (by decide) (by decide) (by decide) (by decide) (by decide), frC 57 (by omega), ra _ (by omega)]; exact u1
      · rw [hx 241 (by decide), f241 3 (by decide)]; exact u2
      · rw [low 57 (by decide) (by decide) (by decide) (by decide) (by decide), frC 57 (by omega), ra _ (by omega)]; exact u4
      · refine w_Rel_same (fun q j hj => ?_) (fun j hj => ?_) (hU.2.2.2.2.2 i hi)
        · have := w_sz_lt hj
          unfold w_st
          rw [low _ (by omega) (by omega) (by omega) (by omega) (by omega), frC _ (by omega), ra _ (by omega)]
        · rw [low 244 (by decide) (by decide) (by decide) (by decide) (by decide), frC 244 (by omega), ra _ (by omega)]
end ZCHG
