/-! One command read, in both. -/
section ZCMD
theorem w_sw_c {b : Nat → Int32} {t c s : Nat} {l : List Nat} (h : w_ah b t s = Int32.ofNat c) : w_sw b t (c :: l) s = w_sw b t l (s + 1) := if_pos h
theorem w_sw_n {b : Nat → Int32} {t c s : Nat} {l : List Nat} (h : ¬ w_ah b t s = Int32.ofNat c) : w_sw b t (c :: l) s = (false, s) := if_neg h
theorem w_sw_t {b : Nat → Int32} {t : Nat} : ∀ {l : List Nat} {s : Nat}, (w_sw b t l s).1 = true → (w_sw b t l s).2 = s + l.length := by
  intro l
  induction l with
  | nil => intro s _; rfl
  | cons c l ih =>
    intro s h
    by_cases hh : w_ah b t s = Int32.ofNat c
    · rw [w_sw_c hh] at *
      rw [ih h, List.length_cons]
      omega
    · rw [w_sw_n hh] at h
      cases h
theorem w_sw_app {b : Nat → Int32} {t : Nat} {m : List Nat} : ∀ {l : List Nat} {s : Nat}, w_sw b t (l ++ m) s = if (w_sw b t l s).1 = true then w_sw b t m (w_sw b t l s).2 else w_sw b t l s := by
  intro l
  induction l with
  | nil => intro s; rfl
  | cons c l ih =>
    intro s
    rw [List.cons_append]
    by_cases hh : w_ah b t s = Int32.ofNat c
    · rw [w_sw_c hh, w_sw_c hh]
      exact ih
    · rw [w_sw_n hh, w_sw_n hh]
      rfl
section
variable {μ0 ν0 : z_Mem} {t s k : Nat}
/-- a word, its first sign being there -/
theorem w_word (ht : μ0 21 0 = Int32.ofNat t) (hT : w_Tx (μ0 22) t) (hM : w_TM ν0 (μ0 22) t) (hs : s ≤ t) {sj c0 : Nat} {l : List Nat} (hz : z_str sj = c0 :: (l ++ [32])) (hl : l.length < 90) (hl2 : ∀ c ∈ c0 :: (l ++ [32]), c < 2147483648) (h0 : w_ah (μ0 22) t s = Int32.ofNat c0) :
    (w_ah (μ0 22) t (s + 1 + l.length) = 32 ∧ s + 1 + l.length < t ∧ (∀ μ, w_PC μ0 s k μ → ∃ μ', pR_readWord sj μ = some (1, μ') ∧ w_PC μ0 (s + 1 + l.length + 1) k μ' ∧ w_kpR μ μ') ∧ ∀ ν, w_PM ν0 (s + 1) 0 ν → ∃ ν', w_nds l ν = some ν' ∧ w_PM ν0 (s + 1 + l.length) 0 ν' ∧ ν' 250 = ν 250) ∨
    (¬ w_ah (μ0 22) t (s + 1 + l.length) = 32 ∧ s + 1 + l.length ≤ t ∧ (∀ μ, w_PC μ0 s k μ → ∃ μ', pR_readWord sj μ = some (0, μ') ∧ w_PC μ0 (s + 1 + l.length) k μ' ∧ w_kpR μ μ') ∧ ∀ ν, w_PM ν0 (s + 1) 0 ν → ∃ ν', w_nds l ν = some ν' ∧ w_PM ν0 (s + 1 + l.length) 0 ν' ∧ ν' 250 = ν 250) ∨
    ∃ s', s' ≤ t ∧ (∀ μ, w_PC μ0 s k μ → ∃ μ', pR_readWord sj μ = some (0, μ') ∧ w_PC μ0 s' k μ' ∧ w_kpR μ μ') ∧ ∀ ν, w_PM ν0 (s + 1) 0 ν → ∃ ν', w_nds l ν = some ν' ∧ w_PM ν0 s' 1 ν' ∧ ν' 250 = ν 250 := by
  have hlt := w_ah_lt (hl2 c0 List.mem_cons_self) h0
  have hlen : (z_str sj).length < 100 := by
    rw [hz, List.length_cons, List.length_append, List.length_cons, List.length_nil]
    omega
  have hcs : ∀ i, i < (z_str sj).length → (z_str sj).getD i 0 < 2147483648 := fun i hi => by
    rw [List.getD_eq_getElem?_getD, List.getElem?_eq_getElem hi]
    have := List.getElem_mem hi
    exact hl2 _ (by rw [← hz]; exact this)
  have hC : ∀ μ, w_PC μ0 s k μ → ∃ μ', pR_readWord sj μ = some (w_bi (w_sw (μ0 22) t (z_str sj) s).1, μ') ∧ w_PC μ0 (w_sw (μ0 22) t (z_str sj) s).2 k μ' ∧ w_kpR μ μ' ∧ (w_sw (μ0 22) t (z_str sj) s).2 ≤ t := fun μ h => w_wd ht hT hlen hcs hs h
  rw [hz, w_sw_c h0, w_sw_app] at hC
  have hR : ∀ ν, w_PM ν0 (s + 1) 0 ν → ∃ ν', w_nds l ν = some ν' ∧ w_PM ν0 (w_sw (μ0 22) t l (s + 1)).2 (1 - (w_sw (μ0 22) t l (s + 1)).1.toNat) ν' ∧ ν' 250 = ν 250 := fun ν h => w_ndsL hM hT (fun c hc => hl2 c (List.mem_cons_of_mem _ (List.mem_append_left _ hc))) hlt h
  have hle : (w_sw (μ0 22) t l (s + 1)).2 ≤ t := by
    have : ∀ (l : List Nat) (s : Nat), (∀ c ∈ l, c < 2147483648) → s ≤ t → (w_sw (μ0 22) t l s).2 ≤ t := by
      intro l
      induction l with
      | nil => intro s _ h; exact h
      | cons c l ih =>
        intro s hc h
        unfold w_sw
        by_cases hh : w_ah (μ0 22) t s = Int32.ofNat c
        · rw [if_pos hh]
          exact ih _ (fun x hx => hc x (List.mem_cons_of_mem _ hx)) (w_ah_lt (hc c List.mem_cons_self) hh)
        · rw [if_neg hh]
          exact h
    exact this l _ (fun c hc => hl2 c (List.mem_cons_of_mem _ (List.mem_append_left _ hc))) hlt
  cases ho : (w_sw (μ0 22) t l (s + 1)).1 with
  | false =>
    rw [ho] at hR
    rw [if_neg (by rw [ho]; decide)] at hC
    refine Or.inr (Or.inr ⟨_, hle, fun μ h => ?_, hR⟩)
    obtain ⟨μ', a1, a2, a3, -⟩ := hC μ h
    rw [ho] at a1
    exact ⟨μ', a1, a2, a3⟩
  | true =>
    have e2 := w_sw_t ho
    rw [ho, e2] at hR
    rw [if_pos ho, e2] at hC
    rw [e2] at hle
    by_cases h32 : w_ah (μ0 22) t (s + 1 + l.length) = Int32.ofNat 32
    · rw [w_sw_c h32] at hC
      refine Or.inl ⟨h32, w_ah_lt (by decide) h32, fun μ h => ?_, hR⟩
      obtain ⟨μ', a1, a2, a3, -⟩ := hC μ h
      exact ⟨μ', a1, a2, a3⟩
    · rw [show w_sw (μ0 22) t [32] (s + 1 + l.length) = (false, s + 1 + l.length) from if_neg h32] at hC
      refine Or.inr (Or.inl ⟨h32, hle, fun μ h => ?_, hR⟩)
      obtain ⟨μ', a1, a2, a3, -⟩ := hC μ h
      exact ⟨μ', a1, a2, a3⟩
/-- which command was read, with its values -/
def w_kd (kd : Int32) (a : Nat) (v : Nat → Int32) : Prop := (kd = 103 ∧ a = 1) ∨ (kd = 104 ∧ a = 1) ∨ (kd = 109 ∧ a = 3) ∨ (kd = 110 ∧ a = 2 ∧ 97 ≤ v 0 ∧ v 0 ≤ 122) ∨ (kd = 116 ∧ a = 2) ∨ (kd = 119 ∧ a = 2)
def w_ccl (μ0 : z_Mem) (k : Nat) (o : Bool) (s' : Nat) (kd : Int32) (a : Nat) (v : Nat → Int32) (μ : z_Mem) (F : Option (Int32 × z_Mem)) : Prop := ∃ μ', F = some (w_bi o, μ') ∧ w_PC μ0 s' k μ' ∧ (∀ j, j ≠ k → μ' 35 j = μ 35 j) ∧ (∀ j, j < 3 * k → μ' 36 j = μ 36 j) ∧ (o = true → μ' 35 k = kd ∧ ∀ i, i < a → μ' 36 (3 * k + i) = v i)
def w_crf (ν0 : z_Mem) (k : Nat) (o : Bool) (s' : Nat) (kd : Int32) (a : Nat) (v : Nat → Int32) (ν : z_Mem) (F : Option z_Mem) : Prop := ∃ ν', F = some ν' ∧ w_PM ν0 s' (1 - o.toNat) ν' ∧ (∀ j, j < 4 * k → ν' 250 j = ν 250 j) ∧ (o = true → ν' 250 (4 * k) = kd ∧ ∀ i, i < a → ν' 250 (4 * k + 1 + i) = v i)
def w_cmd (μ0 ν0 : z_Mem) (t s k : Nat) (P : z_Mem → Option (Int32 × z_Mem)) (Q : z_Mem → Option z_Mem) : Prop := ∃ (o : Bool) (s' : Nat) (kd : Int32) (a : Nat) (v : Nat → Int32), s' ≤ t ∧ (o = true → s + 6 ≤ s' ∧ w_kd kd a v) ∧ (∀ μ, w_PC μ0 s k μ → w_ccl μ0 k o s' kd a v μ (P μ)) ∧ ∀ ν, w_PM ν0 s 0 ν → w_crf ν0 k o s' kd a v ν (Q ν)
/-- the class's first step -/
theorem w_rcS (ht : μ0 21 0 = Int32.ofNat t) (hT : w_Tx (μ0 22) t) (hs : s ≤ t) (hk : k ≤ 8) {μ : z_Mem} (h : w_PC μ0 s k μ) : w_PC μ0 s k (z_u μ 35 k (w_ah (μ0 22) t s)) ∧ pR_readCommand μ = (let v4 := w_ah (μ0 22) t s; let M := z_u μ 35 k (w_ah (μ0 22) t s); if v4 = 103 then (pR_readWord 0 M).bind fun q7 => if q7.1 = 0 then some (0, q7.2) else (pR_readNumber q7.2 0 1).bind fun q10 => if q10.1 = 0 then some (0, q10.2) else some (1, q10.2) else if v4 = 104 then (pR_readWord 5 M).bind fun q14 => if q14.1 = 0 then some (0, q14.2) else (pR_readNumber q14.2 0 1).bind fun q17 => if q17.1 = 0 then some (0, q17.2) else some (1, q17.2) else if v4 = 109 then (pR_readWord 1 M).bind fun q21 => if q21.1 = 0 then some (0, q21.2) else (pR_readDigit q21.2 0).bind fun q24 => if q24.1 = 0 then some (0, q24.2) else (pR_read q24.2 45).bind fun q27 => if q27.1 = 0 then some (0, q27.2) else (pR_readDigit q27.2 1).bind fun q30 => if q30.1 = 0 then some (0, q30.2) else (pR_read q30.2 47).bind fun q33 => if q33.1 = 0 then some (0, q33.2) else (pR_readDigit q33.2 2).bind fun q36 => if q36.1 = 0 then some (0, q36.2) else some (1, q36.2) else if v4 = 110 then (pR_readWord 4 M).bind fun q40 => if q40.1 = 0 then some (0, q40.2) else (pR_readLetter q40.2 0).bind fun q43 => if q43.1 = 0 then some (0, q43.2) else (pR_readDigit q43.2 1).bind fun q46 => if q46.1 = 0 then some (0, q46.2) else some (1, q46.2) else if v4 = 116 then (pR_readWord 2 M).bind fun q50 => if q50.1 = 0 then some (0, q50.2) else (pR_readDigit q50.2 0).bind fun q53 => if q53.1 = 0 then some (0, q53.2) else (pR_read q53.2 43).bind fun q56 => if q56.1 = 0 then (pR_read q56.2 45).bind fun q59 => if q59.1 = 0 then some (0, q59.2) else (pR_readNumber q59.2 1 (-1)).bind fun q62 => if q62.1 = 0 then some (0, q62.2) else some (1, q62.2) else (pR_readNumber q56.2 1 1).bind fun q65 => if q65.1 = 0 then some (0, q65.2) else some (1, q65.2) else if v4 = 119 then (pR_readWord 3 M).bind fun q69 => if q69.1 = 0 then some (0, q69.2) else (pR_readDigit q69.2 0).bind fun q72 => if q72.1 = 0 then some (0, q72.2) else (pR_read q72.2 42).bind fun q75 => if q75.1 = 0 then some (0, q75.2) else (pR_readNumber q75.2 1 1).bind fun q78 => if q78.1 = 0 then some (0, q78.2) else some (1, q78.2) else some (0, M)) := by
  refine ⟨w_PC_k h, ?_⟩
  unfold pR_readCommand
  rw [w_sA ht hT hs h]
  dsimp only [Option.bind_some]
  rw [h.2.1, if_pos ((w_inn (by omega)).mpr (by omega)), w_tn (by omega), w_u_ne (by decide : (34 : Nat) ≠ 35), h.2.1, w_rdn (by omega) (by omega), w_u_eq]
  rfl
end
end ZCMD
