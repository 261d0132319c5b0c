/-! Writing a gear. -/
section ZWRT
def w_Ot (L : List Nat) (μ : z_Mem) : Prop := μ 239 0 = Int32.ofNat L.length ∧ ∀ i, i < L.length → μ 240 i = Int32.ofNat (L.getD i 0)
def w_Om (L : List Nat) (μ : z_Mem) : Prop := μ 241 11 = Int32.ofNat L.length ∧ ∀ i, i < L.length → μ 247 i = Int32.ofNat (L.getD i 0)
def w_oc (μ μ' : z_Mem) : Prop := ∀ k, k ≠ 239 → k ≠ 240 → μ' k = μ k
def w_om (μ μ' : z_Mem) : Prop := (∀ k, k ≠ 241 → k ≠ 247 → μ' k = μ k) ∧ ∀ j, j ≠ 11 → μ' 241 j = μ 241 j
theorem w_oc_t {μ μ1 μ2 : z_Mem} (h : w_oc μ μ1) (h2 : w_oc μ1 μ2) : w_oc μ μ2 := fun k a b => (h2 k a b).trans (h k a b)
theorem w_om_t {μ μ1 μ2 : z_Mem} (h : w_om μ μ1) (h2 : w_om μ1 μ2) : w_om μ μ2 := ⟨fun k a b => (h2.1 k a b).trans (h.1 k a b), fun j a => (h2.2 j a).trans (h.2 j a)⟩
theorem w_gd1 {L : List Nat} {c i : Nat} (h : i < L.length) : (L ++ [c]).getD i 0 = L.getD i 0 := by
  rw [List.getD_eq_getElem?_getD, List.getD_eq_getElem?_getD, List.getElem?_append_left h]
theorem w_gd2 {L : List Nat} {c : Nat} : (L ++ [c]).getD L.length 0 = c := by
  rw [List.getD_eq_getElem?_getD, List.getElem?_append_right (Nat.le_refl _), Nat.sub_self]
  rfl
theorem w_len1 {L : List Nat} {c : Nat} : (L ++ [c]).length = L.length + 1 := by simp
theorem w_chf : (List.range 128).all (fun c => vp_nar .char (Int32.ofNat c) = Int32.ofNat c ∧ (((Int32.ofNat c).toUInt32 % 65536).toInt32) = Int32.ofNat c) = true := by decide +kernel
theorem w_ch1 {c : Nat} (h : c < 128) : vp_nar .char (Int32.ofNat c) = Int32.ofNat c ∧ (((Int32.ofNat c).toUInt32 % 65536).toInt32) = Int32.ofNat c := by
  have h1 := List.all_eq_true.mp w_chf c (List.mem_range.mpr h)
  exact of_decide_eq_true h1
theorem w_put {L : List Nat} {c : Nat} {μ : z_Mem} (hL : L.length < 50) (hc : c < 128) (h : w_Ot L μ) : ∃ μ', pS_put 239 50 μ (Int32.ofNat c) = some (1, μ') ∧ w_Ot (L ++ [c]) μ' ∧ w_oc μ μ' := by
  obtain ⟨h1, h2⟩ := h
  unfold pS_put
  rw [h1, if_pos ((w_lt (by omega) (by omega)).mpr hL), if_pos ((w_inn (by omega)).mpr hL), w_tn (by omega), (w_ch1 hc).1]
  refine ⟨_, rfl, ⟨?_, fun i hi => ?_⟩, fun k a b => ?_⟩
  · rw [w_u_eq, w_u_ne (by decide), h1, w_len1]
    exact w_ar2
  · rw [w_u_ne (by decide)]
    rw [w_len1] at hi
    by_cases he : i = L.length
    · subst he
      rw [w_u_eq, w_gd2]
    · rw [w_u_at he, h2 i (by omega), w_gd1 (by omega)]
  · rw [w_u_ne a, w_u_ne (by simpa using b)]
theorem w_wrt {L : List Nat} {c : Nat} {μ : z_Mem} (hL : L.length < 50) (hc : c < 128) (h : w_Om L μ) : ∃ μ', pm_writes μ (Int32.ofNat c) = some μ' ∧ w_Om (L ++ [c]) μ' ∧ w_om μ μ' := by
  obtain ⟨h1, h2⟩ := h
  unfold pm_writes
  rw [h1, if_pos ((w_inn (by omega)).mpr (by omega)), w_tn (by omega), (w_ch1 hc).2, (w_ch1 hc).1]
  refine ⟨_, rfl, ⟨?_, fun i hi => ?_⟩, fun k a b => ?_, fun j hj => ?_⟩
  · rw [w_u_eq, w_u_ne (by decide), h1, w_len1]
    exact w_ar2
  · rw [w_u_ne (by decide)]
    rw [w_len1] at hi
    by_cases he : i = L.length
    · subst he
      rw [w_u_eq, w_gd2]
    · rw [w_u_at he, h2 i (by omega), w_gd1 (by omega)]
  · rw [w_u_ne a, w_u_ne b]
  · rw [w_u_at hj, w_u_ne (by decide)]
/-! digits -/
def w_un : Nat → Nat
  | 0 => 0
  | m + 1 => 10 ^ m
def w_dl (k : Nat) : Nat → List Nat
  | 0 => []
  | m + 1 => (48 + k / 10 ^ m % 10) :: w_dl k m
def w_tp (k : Nat) : Nat → List Nat
  | 0 => w_dl k 1
  | m + 1 => if 10 ^ (m + 1) ≤ k then w_dl k (m + 2) else w_tp k m
theorem w_dl_len {k : Nat} : ∀ m, (w_dl k m).length = m
  | 0 => rfl
  | m + 1 => by
    show (_ :: w_dl k m).length = _
    rw [List.length_cons, w_dl_len m]
theorem w_tp_dn {k j : Nat} (h : k < 10 ^ (j + 1)) : ∀ d, w_tp k (j + d) = w_tp k j
  | 0 => rfl
  | d + 1 => by
    show (if 10 ^ (j + d + 1) ≤ k then _ else w_tp k (j + d)) = _
    have : 10 ^ (j + 1) ≤ 10 ^ (j + d + 1) := Nat.pow_le_pow_right (by decide) (by omega)
    rw [if_neg (by omega)]
    exact w_tp_dn h d
theorem w_tp_le {k : Nat} : ∀ m, (w_tp k m).length ≤ m + 1
  | 0 => Nat.le_of_eq (w_dl_len 1)
  | m + 1 => by
    show (if 10 ^ (m + 1) ≤ k then w_dl k (m + 2) else w_tp k m).length ≤ _
    split
    · rw [w_dl_len]
      omega
    · have := w_tp_le (k := k) m
      omega
theorem w_dl_ch {k : Nat} : ∀ m, ∀ x ∈ w_dl k m, x < 128
  | 0, x, h => by cases h
  | m + 1, x, h => by
    rcases List.mem_cons.mp h with h | h
    · have := Nat.mod_lt (k / 10 ^ m) (y := 10) (by decide)
      omega
    · exact w_dl_ch m x h
theorem w_tp_ch {k : Nat} : ∀ m, ∀ x ∈ w_tp k m, x < 128
  | 0 => w_dl_ch 1
  | m + 1 => by
    show ∀ x ∈ (if 10 ^ (m + 1) ≤ k then w_dl k (m + 2) else w_tp k m), x < 128
    split
    · exact w_dl_ch _
    · exact w_tp_ch m
def w_dg (k : Nat) : List Nat := w_tp k 6
theorem w_dg_le {k j : Nat} (h : k < 10 ^ (j + 1)) (hj : j ≤ 6) : (w_dg k).length ≤ j + 1 := by
  obtain ⟨d, hd⟩ := Nat.le.dest hj
  unfold w_dg
  rw [← hd, w_tp_dn h d]
  exact w_tp_le j
theorem w_unf : (List.range 10).all (fun m => Int32.ofNat (w_un (m + 1)) / 10 = Int32.ofNat (w_un m) ∧ w_un (m + 1) < 2147483648) = true := by decide +kernel
theorem w_un1 {m : Nat} (h : m < 10) : Int32.ofNat (w_un (m + 1)) / 10 = Int32.ofNat (w_un m) ∧ w_un (m + 1) < 2147483648 := of_decide_eq_true (List.all_eq_true.mp w_unf m (List.mem_range.mpr h))
theorem w_unp {m : Nat} : 0 < w_un (m + 1) := Nat.pow_pos (by decide)
/-- n is k or its opposite -/
def w_sgn (n : Int32) (k : Nat) : Prop := n = Int32.ofNat k ∨ n = -Int32.ofNat k
theorem w_ndv {a b : Nat} (ha : a < 2147483648) (hb : b < 2147483648) : (-Int32.ofNat a) / Int32.ofNat b = -Int32.ofNat (a / b) := by
  have hle := Nat.div_le_self a b
  rw [← Int32.toInt_inj, Int32.toInt_div, Int32.toInt_neg, Int32.toInt_neg, w_ti ha, w_ti hb, w_ti (by omega)]
  rw [Int.bmod_eq_of_le (n := -(a : Int)) (by omega) (by omega), Int.neg_tdiv, ← Int.ofNat_tdiv]
theorem w_dgC {μ : z_Mem} {n : Int32} {k m : Nat} (hk : k < 2147483648) (h : w_sgn n k) (hm : m < 10) : pJ_abs μ ((n / Int32.ofNat (w_un (m + 1))) - (n / Int32.ofNat (w_un (m + 1))) / 10 * 10) = some (Int32.ofNat (k / 10 ^ m % 10)) := by
  have h1 := (w_un1 hm).2
  have hle := Nat.div_le_self k (w_un (m + 1))
  have hx := Nat.mod_lt (k / w_un (m + 1)) (y := 10) (by decide)
  have hq := Nat.div_add_mod (k / w_un (m + 1)) 10
  unfold pJ_abs
  show _ = some (Int32.ofNat (k / w_un (m + 1) % 10))
  rcases h with rfl | rfl
  · rw [w_dd hk h1, show Int32.ofNat (k / w_un (m + 1)) - Int32.ofNat (k / w_un (m + 1)) / 10 * 10 = Int32.ofNat (k / w_un (m + 1) % 10) from w_mdl (k := 10) (by omega) (by decide), if_pos (show (0 : Int32) ≤ Int32.ofNat (k / w_un (m + 1) % 10) from (w_le (a := 0) (by omega) (by omega)).mpr (Nat.zero_le _))]
  · rw [w_ndv hk h1, show (-Int32.ofNat (k / w_un (m + 1))) / 10 = -Int32.ofNat (k / w_un (m + 1) / 10) from w_ndv (b := 10) (by omega) (by decide), Int32.neg_mul, show Int32.ofNat (k / w_un (m + 1) / 10) * 10 = Int32.ofNat (k / w_un (m + 1) / 10 * 10) from w_mr]
    have e : -Int32.ofNat (k / w_un (m + 1)) - -Int32.ofNat (k / w_un (m + 1) / 10 * 10) = -Int32.ofNat (k / w_un (m + 1) % 10) := by
      have g : ∀ A B : Int32, -A - -B = -(A - B) := fun A B => by
        rw [Int32.neg_sub, Int32.sub_eq_add_neg, Int32.neg_neg, Int32.add_comm, ← Int32.sub_eq_add_neg]
      rw [g, w_ss (by omega)]
      exact congrArg (fun z => -Int32.ofNat z) (by omega)
    rw [e]
    by_cases h0 : k / w_un (m + 1) % 10 = 0
    · rw [h0, if_pos (by decide)]
      rfl
    · rw [if_neg, Int32.neg_neg]
      intro hc
      have := Int32.le_iff_toInt_le.mp hc
      rw [Int32.toInt_neg, w_ti (by omega), Int.bmod_eq_of_le (by omega) (by omega), show (0 : Int32).toInt = 0 from rfl] at this
      omega
/-- the loop of the class after the first digit -/
theorem w_pn1 {n : Int32} {k : Nat} (hk : k < 2147483648) (hn : w_sgn n k) : ∀ (m f : Nat), m ≤ 10 → m < f → ∀ (μ : z_Mem) (L : List Nat), w_Ot L μ → L.length + m ≤ 50 → ∃ μ', pS_putNumber_L16 f n (fun M k19 k20 => some M) μ 1 (Int32.ofNat (w_un m)) = some μ' ∧ w_Ot (L ++ w_dl k m) μ' ∧ w_oc μ μ' := by
  intro m
  induction m with
  | zero =>
    intro f _ hf μ L h hl
    obtain ⟨f, rfl⟩ : ∃ g, f = g + 1 := ⟨f - 1, by omega⟩
    refine ⟨μ, ?_, by rw [show w_dl k 0 = [] from rfl, List.append_nil]; exact h, fun _ _ _ => rfl⟩
    show pS_putNumber_L16_B (pS_putNumber_L16 f n (fun M k19 k20 => some M)) n (fun M k19 k20 => some M) μ 1 (Int32.ofNat 0) = _
    unfold pS_putNumber_L16_B
    rw [if_pos (show Int32.ofNat 0 ≤ 0 by decide)]
  | succ m ih =>
    intro f hm hf μ L h hl
    obtain ⟨f, rfl⟩ : ∃ g, f = g + 1 := ⟨f - 1, by omega⟩
    obtain ⟨u1, u2⟩ := w_un1 (m := m) (by omega)
    have u3 := w_unp (m := m)
    have hx := Nat.mod_lt (k / 10 ^ m) (y := 10) (by decide)
    obtain ⟨μ1, p1, p2, p3⟩ := w_put (c := 48 + k / 10 ^ m % 10) (by omega) (by omega) h
    obtain ⟨μ2, q1, q2, q3⟩ := ih f (by omega) (by omega) μ1 _ p2 (by rw [w_len1]; omega)
    refine ⟨μ2, ?_, by rw [List.append_assoc] at q2; exact q2, w_oc_t p3 q3⟩
    show pS_putNumber_L16_B (pS_putNumber_L16 f n (fun M k19 k20 => some M)) n (fun M k19 k20 => some M) μ 1 (Int32.ofNat (w_un (m + 1))) = _
    unfold pS_putNumber_L16_B
    rw [if_neg (fun hc => by have : w_un (m + 1) ≤ 0 := (w_ler (k := 0) (by decide) u2).mp hc; omega), if_neg (fun hc => by have : w_un (m + 1) = 0 := (w_eqr (k := 0) (by decide) u2).mp hc; omega), w_dgC hk hn (by omega)]
    dsimp only [Option.bind_some]
    rw [if_neg w_10, show (48 : Int32) + Int32.ofNat (k / 10 ^ m % 10) = Int32.ofNat (48 + k / 10 ^ m % 10) from w_al, (w_ch1 (by omega)).2, p1]
    dsimp only [Option.bind_some]
    rw [u1]
    exact q1
/-- and before it -/
theorem w_pn0 {n : Int32} {k : Nat} (hk : k < 2147483648) (hn : w_sgn n k) : ∀ (m f : Nat), m ≤ 9 → m + 1 < f → k < 10 ^ (m + 1) → ∀ (μ : z_Mem) (L : List Nat), w_Ot L μ → L.length + (w_tp k m).length ≤ 50 → ∃ μ', pS_putNumber_L16 f n (fun M k19 k20 => some M) μ 0 (Int32.ofNat (w_un (m + 1))) = some μ' ∧ w_Ot (L ++ w_tp k m) μ' ∧ w_oc μ μ' := by
  intro m
  induction m with
  | zero =>
    intro f _ hf hkm μ L h hl
    obtain ⟨f, rfl⟩ : ∃ g, f = g + 1 := ⟨f - 1, by omega⟩
    obtain ⟨u1, u2⟩ := w_un1 (m := 0) (by omega)
    have hx := Nat.mod_lt (k / 10 ^ 0) (y := 10) (by decide)
    have hl1 : (w_tp k 0).length = 1 := w_dl_len 1
    obtain ⟨μ1, p1, p2, p3⟩ := w_put (c := 48 + k / 10 ^ 0 % 10) (by omega) (by omega) h
    obtain ⟨μ2, q1, q2, q3⟩ := w_pn1 hk hn 0 f (by omega) (by omega) μ1 _ p2 (by rw [w_len1]; omega)
    refine ⟨μ2, ?_, by rw [List.append_assoc] at q2; exact q2, w_oc_t p3 q3⟩
    show pS_putNumber_L16_B (pS_putNumber_L16 f n (fun M k19 k20 => some M)) n (fun M k19 k20 => some M) μ 0 (Int32.ofNat (w_un (0 + 1))) = _
    unfold pS_putNumber_L16_B
    rw [if_neg (show ¬ Int32.ofNat (w_un (0 + 1)) ≤ 0 by decide), if_neg (show ¬ Int32.ofNat (w_un (0 + 1)) = 0 by decide), w_dgC hk hn (by omega)]
    dsimp only [Option.bind_some]
    rw [show (48 : Int32) + Int32.ofNat (k / 10 ^ 0 % 10) = Int32.ofNat (48 + k / 10 ^ 0 % 10) from w_al, (w_ch1 (by omega)).2, p1]
    dsimp only [Option.bind_some]
    rw [if_pos rfl, if_pos (show Int32.ofNat (w_un (0 + 1)) = 1 by decide), u1, q1]
    split <;> rfl
  | succ m ih =>
    intro f hm hf hkm μ L h hl
    obtain ⟨f, rfl⟩ : ∃ g, f = g + 1 := ⟨f - 1, by omega⟩
    obtain ⟨u1, u2⟩ := w_un1 (m := m + 1) (by omega)
    have u3 := w_unp (m := m + 1)
    have hx := Nat.mod_lt (k / 10 ^ (m + 1)) (y := 10) (by decide)
    have hd : k / 10 ^ (m + 1) % 10 = k / 10 ^ (m + 1) := Nat.mod_eq_of_lt (Nat.div_lt_of_lt_mul (by rw [← Nat.pow_succ]; exact hkm))
    have e1 : ¬ Int32.ofNat (w_un (m + 1 + 1)) ≤ 0 := fun hc => by
      have : w_un (m + 1 + 1) ≤ 0 := (w_ler (k := 0) (by decide) u2).mp hc
      omega
    have e2 : ¬ Int32.ofNat (w_un (m + 1 + 1)) = 0 := fun hc => by
      have : w_un (m + 1 + 1) = 0 := (w_eqr (k := 0) (by decide) u2).mp hc
      omega
    have e3 : ¬ Int32.ofNat (w_un (m + 1 + 1)) = 1 := fun hc => by
      have h1 : w_un (m + 1 + 1) = 1 := (w_eqr (k := 1) (by decide) u2).mp hc
      have h2 : 10 ^ 1 ≤ 10 ^ (m + 1) := Nat.pow_le_pow_right (by decide) (by omega)
      have h3 : 10 ^ (m + 1) = 1 := h1
      omega
    show ∃ μ', pS_putNumber_L16_B (pS_putNumber_L16 f n (fun M k19 k20 => some M)) n (fun M k19 k20 => some M) μ 0 (Int32.ofNat (w_un (m + 1 + 1))) = some μ' ∧ _
    unfold pS_putNumber_L16_B
    rw [if_neg e1, if_neg e2, w_dgC hk hn (by omega)]
    dsimp only [Option.bind_some]
    rw [if_pos rfl, if_neg e3, u1]
    by_cases hb : 10 ^ (m + 1) ≤ k
    · have ht : w_tp k (m + 1) = w_dl k (m + 2) := if_pos hb
      rw [ht, w_dl_len] at hl
      have hpos : 0 < k / 10 ^ (m + 1) := Nat.div_pos hb (Nat.pow_pos (by decide))
      obtain ⟨μ1, p1, p2, p3⟩ := w_put (c := 48 + k / 10 ^ (m + 1) % 10) (by omega) (by omega) h
      obtain ⟨μ2, q1, q2, q3⟩ := w_pn1 hk hn (m + 1) f (by omega) (by omega) μ1 _ p2 (by rw [w_len1]; omega)
      rw [if_neg (fun hc => by have : k / 10 ^ (m + 1) % 10 = 0 := (w_eqr (k := 0) (by decide) (by omega)).mp hc; omega), show (48 : Int32) + Int32.ofNat (k / 10 ^ (m + 1) % 10) = Int32.ofNat (48 + k / 10 ^ (m + 1) % 10) from w_al, (w_ch1 (by omega)).2, p1]
      dsimp only [Option.bind_some]
      rw [ht]
      exact ⟨μ2, q1, by rw [List.append_assoc] at q2; exact q2, w_oc_t p3 q3⟩
    · have ht : w_tp k (m + 1) = w_tp k m := if_neg hb
      rw [ht] at hl
      have hz : k / 10 ^ (m + 1) % 10 = 0 := by rw [hd]; exact Nat.div_eq_of_lt (by omega)
      rw [if_pos (show Int32.ofNat (k / 10 ^ (m + 1) % 10) = 0 by rw [hz]; rfl), ht]
      exact ih f (by omega) (by omega) (by omega) μ L h hl
/-- a number, with its sign -/
def w_nm (n : Int32) (k : Nat) : List Nat := if 0 ≤ n then w_dg k else 45 :: w_dg k
theorem w_pn {n : Int32} {k : Nat} (hk : k < 10000000) (hn : w_sgn n k) {μ : z_Mem} {L : List Nat} (h : w_Ot L μ) (hl : L.length + (w_nm n k).length ≤ 50) : ∃ μ', pS_putNumber μ n = some μ' ∧ w_Ot (L ++ w_nm n k) μ' ∧ w_oc μ μ' := by
  have e9 : w_tp k 9 = w_dg k := w_tp_dn (j := 6) (by omega) 3
  unfold pS_putNumber
  by_cases h0 : 0 ≤ n
  · have e : w_nm n k = w_dg k := if_pos h0
    rw [if_pos h0, e]
    rw [e] at hl
    have := w_pn0 (by omega) hn 9 z_fu (by omega) (by decide) (by omega) μ L h (by rw [e9]; exact hl)
    rw [e9] at this
    exact this
  · have e : w_nm n k = 45 :: w_dg k := if_neg h0
    rw [if_neg h0, e]
    rw [e, List.length_cons] at hl
    obtain ⟨μ1, p1, p2, p3⟩ := w_put (c := 45) (by omega) (by decide) h
    rw [show (45 : Int32) = Int32.ofNat 45 from rfl, p1]
    dsimp only [Option.bind_some]
    obtain ⟨μ2, q1, q2, q3⟩ := w_pn0 (by omega) hn 9 z_fu (by omega) (by decide) (by omega) μ1 _ p2 (by rw [e9, w_len1]; omega)
    rw [e9, List.append_assoc] at q2
    exact ⟨μ2, q1, q2, w_oc_t p3 q3⟩
/-- the reference's digits -/
theorem w_wn1 {k : Nat} (hk : k < 2147483648) : ∀ (m f : Nat), m ≤ 10 → m < f → ∀ (μ : z_Mem) (L : List Nat), w_Om L μ → L.length + m ≤ 50 → ∃ μ', pm_writesNumber_L21 f (Int32.ofNat k) (fun M k => some M) μ (Int32.ofNat (w_un m)) = some μ' ∧ w_Om (L ++ w_dl k m) μ' ∧ w_om μ μ' := by
  intro m
  induction m with
  | zero =>
    intro f _ hf μ L h hl
    obtain ⟨f, rfl⟩ : ∃ g, f = g + 1 := ⟨f - 1, by omega⟩
    refine ⟨μ, ?_, by rw [show w_dl k 0 = [] from rfl, List.append_nil]; exact h, fun _ _ _ => rfl, fun _ _ => rfl⟩
    show pm_writesNumber_L21_B (pm_writesNumber_L21 f (Int32.ofNat k) (fun M k => some M)) (Int32.ofNat k) (fun M k => some M) μ (Int32.ofNat 0) = _
    unfold pm_writesNumber_L21_B
    rw [if_pos (show Int32.ofNat 0 ≤ 0 by decide)]
  | succ m ih =>
    intro f hm hf μ L h hl
    obtain ⟨f, rfl⟩ : ∃ g, f = g + 1 := ⟨f - 1, by omega⟩
    obtain ⟨u1, u2⟩ := w_un1 (m := m) (by omega)
    have u3 := w_unp (m := m)
    have hx := Nat.mod_lt (k / 10 ^ m) (y := 10) (by decide)
    have hle := Nat.div_le_self k (w_un (m + 1))
    obtain ⟨μ1, p1, p2, p3⟩ := w_wrt (c := 48 + k / 10 ^ m % 10) (by omega) (by omega) h
    obtain ⟨μ2, q1, q2, q3⟩ := ih f (by omega) (by omega) μ1 _ p2 (by rw [w_len1]; omega)
    refine ⟨μ2, ?_, by rw [List.append_assoc] at q2; exact q2, w_om_t p3 q3⟩
    show pm_writesNumber_L21_B (pm_writesNumber_L21 f (Int32.ofNat k) (fun M k => some M)) (Int32.ofNat k) (fun M k => some M) μ (Int32.ofNat (w_un (m + 1))) = _
    unfold pm_writesNumber_L21_B
    rw [if_neg (fun hc => by have : w_un (m + 1) ≤ 0 := (w_ler (k := 0) (by decide) u2).mp hc; omega), if_neg (fun hc => by have : w_un (m + 1) = 0 := (w_eqr (k := 0) (by decide) u2).mp hc; omega), w_dd hk u2, show Int32.ofNat (k / w_un (m + 1)) - Int32.ofNat (k / w_un (m + 1)) / 10 * 10 = Int32.ofNat (k / 10 ^ m % 10) from w_mdl (k := 10) (by omega) (by decide), show (48 : Int32) + Int32.ofNat (k / 10 ^ m % 10) = Int32.ofNat (48 + k / 10 ^ m % 10) from w_al, p1]
    dsimp only [Option.bind_some]
    rw [u1]
    exact q1
theorem w_wn0 {k : Nat} (hk : k < 2147483648) {μ : z_Mem} {L : List Nat} (h : w_Om L μ) {K : Int32 → Option z_Mem} : ∀ (m f : Nat), m ≤ 6 → m < f → L.length + (w_tp k m).length ≤ 50 → ∃ μ', pm_writesNumber_L3 f μ (Int32.ofNat k) K (Int32.ofNat (w_un (m + 1))) = some μ' ∧ w_Om (L ++ w_tp k m) μ' ∧ w_om μ μ' := by
  intro m
  induction m with
  | zero =>
    intro f _ hf hl
    obtain ⟨f, rfl⟩ : ∃ g, f = g + 1 := ⟨f - 1, by omega⟩
    have hl1 : (w_tp k 0).length = 1 := w_dl_len 1
    obtain ⟨μ2, q1, q2, q3⟩ := w_wn1 hk 1 z_fu (by omega) (by decide) μ _ h (by omega)
    refine ⟨μ2, ?_, q2, q3⟩
    show pm_writesNumber_L3_B (pm_writesNumber_L3 f μ (Int32.ofNat k) K) μ (Int32.ofNat k) K (Int32.ofNat (w_un (0 + 1))) = _
    unfold pm_writesNumber_L3_B
    rw [if_pos (show Int32.ofNat (w_un (0 + 1)) ≤ 1 by decide)]
    exact q1
  | succ m ih =>
    intro f hm hf hl
    obtain ⟨f, rfl⟩ : ∃ g, f = g + 1 := ⟨f - 1, by omega⟩
    obtain ⟨u1, u2⟩ := w_un1 (m := m + 1) (by omega)
    have e3 : ¬ Int32.ofNat (w_un (m + 1 + 1)) ≤ 1 := fun hc => by
      have h1 : w_un (m + 1 + 1) ≤ 1 := (w_ler (k := 1) (by decide) u2).mp hc
      have h2 : 10 ^ 1 ≤ 10 ^ (m + 1) := Nat.pow_le_pow_right (by decide) (by omega)
      have h3 : 10 ^ (m + 1) ≤ 1 := h1
      omega
    show ∃ μ', pm_writesNumber_L3_B (pm_writesNumber_L3 f μ (Int32.ofNat k) K) μ (Int32.ofNat k) K (Int32.ofNat (w_un (m + 1 + 1))) = some μ' ∧ _
    unfold pm_writesNumber_L3_B
    rw [if_neg e3]
    by_cases hb : 10 ^ (m + 1) ≤ k
    · have ht : w_tp k (m + 1) = w_dl k (m + 2) := if_pos hb
      rw [ht, w_dl_len] at hl
      rw [if_pos ((w_le u2 hk).mpr (show w_un (m + 1 + 1) ≤ k from hb)), ht]
      exact w_wn1 hk (m + 2) z_fu (by omega) (by show _ < 3000; omega) μ _ h (by omega)
    · have ht : w_tp k (m + 1) = w_tp k m := if_neg hb
      rw [ht] at hl
      rw [if_neg (fun hc => hb ((w_le u2 hk).mp hc)), u1, ht]
      exact ih f (by omega) (by omega) hl
theorem w_wn {k : Nat} (hk : k < 2147483648) {μ : z_Mem} {L : List Nat} (h : w_Om L μ) (hl : L.length + (w_dg k).length ≤ 50) : ∃ μ', pm_writesNumber μ (Int32.ofNat k) = some μ' ∧ w_Om (L ++ w_dg k) μ' ∧ w_om μ μ' :=
  w_wn0 hk h 6 z_fu (by omega) (by decide) hl
theorem w_nm_p {k : Nat} (h : k < 2147483648) : w_nm (Int32.ofNat k) k = w_dg k := if_pos (show (0 : Int32) ≤ Int32.ofNat k from (w_le (a := 0) (by omega) h).mpr (Nat.zero_le _))
theorem w_pnN {k : Nat} (hk : k < 10000000) {μ : z_Mem} {L : List Nat} (h : w_Ot L μ) (hl : L.length + (w_dg k).length ≤ 50) : ∃ μ', pS_putNumber μ (Int32.ofNat k) = some μ' ∧ w_Ot (L ++ w_dg k) μ' ∧ w_oc μ μ' := by
  have := w_pn hk (Or.inl rfl) h (by rw [w_nm_p (by omega)]; exact hl)
  rw [w_nm_p (by omega)] at this
  exact this
def w_gw (g : Nat → Int32) (u i : Nat) : Nat := (g (127 + w_pr u i)).toNatClampNeg
noncomputable def w_nb (c : w_Cl) (M : Nat) (g : Nat → Int32) (u i : Nat) : List Nat := @ite _ (w_EK c M u i) (Classical.propDecidable _) (45 :: (w_dg i ++ 47 :: w_dg (w_gw g u i))) []
noncomputable def w_tl (c : w_Cl) (M : Nat) (g : Nat → Int32) (u : Nat) : Nat → Nat → List Nat
  | 0, _ => []
  | m + 1, i => w_nb c M g u i ++ w_tl c M g u m (i + 1)
section
variable {n G M W S E : Nat} {μ0 ν0 : z_Mem} {u : Nat}
theorem w_gpv (HN : w_RelN n (w_st μ0 1) (ν0 242) G M W S E) {e i : Nat} (h : w_K (w_st μ0 1) M e u i) : w_gw (ν0 242) u i ≤ 5 ∧ μ0 8 e = Int32.ofNat (w_gw (ν0 242) u i) ∧ ν0 242 (127 + w_pr u i) = Int32.ofNat (w_gw (ν0 242) u i) := by
  obtain ⟨-, -, -, -, -, s, p, a6, a7, -, a9, -, a11⟩ := HN.2.1.2.2.1 e h.1
  rw [w_K_pr h] at a11
  have e : w_gw (ν0 242) u i = p := by unfold w_gw; rw [a11, w_tn (by omega)]
  rw [e]
  exact ⟨by omega, a9, a11⟩
theorem w_nb_ch {c : w_Cl} {g : Nat → Int32} {i : Nat} : ∀ x ∈ w_nb c M g u i, x < 128 := by
  intro x h
  unfold w_nb at h
  split at h
  · rcases List.mem_cons.mp h with h | h
    · omega
    · rcases List.mem_append.mp h with h | h
      · exact w_tp_ch 6 x h
      · rcases List.mem_cons.mp h with h | h
        · omega
        · exact w_tp_ch 6 x h
  · cases h
theorem w_tl_ch {c : w_Cl} {g : Nat → Int32} : ∀ m i, ∀ x ∈ w_tl c M g u m i, x < 128
  | 0, _, x, h => by cases h
  | m + 1, i, x, h => by
    rcases List.mem_append.mp h with h | h
    · exact w_nb_ch x h
    · exact w_tl_ch m (i + 1) x h
theorem w_wgC (HN : w_RelN n (w_st μ0 1) (ν0 242) G M W S E) (hu : u < G) : ∀ (m f i : Nat), i + m = G → m < f → ∀ (μ : z_Mem) (L : List Nat), (∀ q, q < 239 → μ q = μ0 q) → w_Ot L μ → L.length + 4 * m ≤ 50 → ∃ μ', pG_writeGear_L58 f (Int32.ofNat u) (fun M32 k31 => some ((.inl (M32 239 0)), M32)) μ (Int32.ofNat i) = some (.inl (μ' 239 0), μ') ∧ w_Ot (L ++ w_tl (w_st μ0 1) M (ν0 242) u m i) μ' ∧ w_oc μ μ' ∧ (L ++ w_tl (w_st μ0 1) M (ν0 242) u m i).length ≤ 50 := by
  have H := w_CT_of HN.1 HN.2.1 HN.2.2.1
  have hG := HN.1.2.2.1
  have hM := HN.2.1.2.1
  intro m
  induction m with
  | zero =>
    intro f i hi hf μ L hq h hl
    obtain ⟨f, rfl⟩ : ∃ g, f = g + 1 := ⟨f - 1, by omega⟩
    rw [show w_tl (w_st μ0 1) M (ν0 242) u 0 i = [] from rfl, List.append_nil]
    refine ⟨μ, ?_, h, fun _ _ _ => rfl, by omega⟩
    show pG_writeGear_L58_B (pG_writeGear_L58 f (Int32.ofNat u) (fun M32 k31 => some ((.inl (M32 239 0)), M32))) (Int32.ofNat u) (fun M32 k31 => some ((.inl (M32 239 0)), M32)) μ (Int32.ofNat i) = _
    unfold pG_writeGear_L58_B
    rw [hq 2 (by decide), show μ0 2 0 = Int32.ofNat G from HN.1.1, if_pos ((w_le (by omega) (by omega)).mpr (by omega))]
  | succ m ih =>
    intro f i hi hf μ L hq h hl
    obtain ⟨f, rfl⟩ : ∃ g, f = g + 1 := ⟨f - 1, by omega⟩
    have hs : w_Str (w_st μ0 1) μ 1 := w_Str_of w_Str_st (fun q _ _ => hq q (by omega))
    show ∃ μ', pG_writeGear_L58_B (pG_writeGear_L58 f (Int32.ofNat u) (fun M32 k31 => some ((.inl (M32 239 0)), M32))) (Int32.ofNat u) (fun M32 k31 => some ((.inl (M32 239 0)), M32)) μ (Int32.ofNat i) = _ ∧ w_Ot (L ++ (w_nb (w_st μ0 1) M (ν0 242) u i ++ w_tl (w_st μ0 1) M (ν0 242) u m (i + 1))) μ' ∧ w_oc μ μ' ∧ (L ++ (w_nb (w_st μ0 1) M (ν0 242) u i ++ w_tl (w_st μ0 1) M (ν0 242) u m (i + 1))).length ≤ 50
    unfold pG_writeGear_L58_B
    rw [hq 2 (by decide), show μ0 2 0 = Int32.ofNat G from HN.1.1, if_neg (fun hc => by have := (w_le (by omega) (by omega)).mp hc; omega)]
    by_cases hE : w_EK (w_st μ0 1) M u i
    · obtain ⟨e, -, hK⟩ := id hE
      obtain ⟨p1, p2, p3⟩ := w_gpv HN hK
      have l1 := w_dg_le (k := i) (j := 0) (by omega) (by omega)
      have l2 := w_dg_le (k := w_gw (ν0 242) u i) (j := 0) (by omega) (by omega)
      have en : w_nb (w_st μ0 1) M (ν0 242) u i = 45 :: (w_dg i ++ 47 :: w_dg (w_gw (ν0 242) u i)) := if_pos hE
      obtain ⟨μ1, a1, a2, a3⟩ := w_put (c := 45) (by omega) (by decide) h
      obtain ⟨μ2, b1, b2, b3⟩ := w_pnN (k := i) (by omega) a2 (by rw [w_len1]; omega)
      obtain ⟨μ3, c1, c2, c3⟩ := w_put (c := 47) (by rw [List.length_append, w_len1]; omega) (by decide) b2
      have q3 : ∀ q, q < 239 → μ3 q = μ0 q := fun q hq' => (c3 q (by omega) (by omega)).trans ((b3 q (by omega) (by omega)).trans ((a3 q (by omega) (by omega)).trans (hq q hq')))
      obtain ⟨μ4, d1, d2, d3⟩ := w_pnN (k := w_gw (ν0 242) u i) (by omega) c2 (by rw [w_len1, List.length_append, w_len1]; omega)
      obtain ⟨μ5, e1, e2, e3, e4⟩ := ih f (i + 1) (by omega) (by omega) μ4 _ (fun q hq' => (d3 q (by omega) (by omega)).trans (q3 q hq')) d2 (by simp only [List.length_append, w_len1, List.length_cons, List.length_nil]; omega)
      rw [w_meshY H hs hK]
      dsimp only [Option.bind_some]
      rw [if_neg (show ¬ Int32.ofNat e = -1 from w_nneg (k := 1) (by have := hK.1; omega) (by decide) (by decide)), show (45 : Int32) = Int32.ofNat 45 from rfl, a1]
      dsimp only [Option.bind_some]
      rw [b1]
      dsimp only [Option.bind_some]
      rw [show (47 : Int32) = Int32.ofNat 47 from rfl, c1]
      dsimp only [Option.bind_some]
      rw [w_rdn (by have := hK.1; omega) (by have := hK.1; omega), q3 8 (by decide), p2]
      dsimp only [Option.bind_some]
      rw [d1]
      dsimp only [Option.bind_some]
      rw [show Int32.ofNat i + 1 = Int32.ofNat (i + 1) from w_ar2]
      have el : L ++ (w_nb (w_st μ0 1) M (ν0 242) u i ++ w_tl (w_st μ0 1) M (ν0 242) u m (i + 1)) = L ++ [45] ++ w_dg i ++ [47] ++ w_dg (w_gw (ν0 242) u i) ++ w_tl (w_st μ0 1) M (ν0 242) u m (i + 1) := by
        rw [en]
        simp only [List.append_assoc, List.cons_append, List.nil_append]
      rw [el]
      exact ⟨μ5, e1, e2, w_oc_t a3 (w_oc_t b3 (w_oc_t c3 (w_oc_t d3 e3))), e4⟩
    · have en : w_nb (w_st μ0 1) M (ν0 242) u i = [] := if_neg hE
      rw [w_meshN H hs hu (by omega) hE]
      dsimp only [Option.bind_some]
      rw [if_pos rfl, show Int32.ofNat i + 1 = Int32.ofNat (i + 1) from w_ar2, en, List.nil_append]
      exact ih f (i + 1) (by omega) (by omega) μ L hq h (by omega)
theorem w_wgM (HN : w_RelN n (w_st μ0 1) (ν0 242) G M W S E) (hu : u < G) : ∀ (m f i : Nat), i + m = G → m < f → ∀ (μ : z_Mem) (L : List Nat), μ 242 = ν0 242 → w_Om L μ → L.length + 4 * m ≤ 50 → ∃ μ', pm_writeGear_L74 f (Int32.ofNat u) (fun M34 k33 => (pm_done M34 (M34 241 11)).bind fun q35 => some (q35.1, q35.2)) μ (Int32.ofNat i) = some (μ' 241 11, z_u μ' 241 12 0) ∧ w_Om (L ++ w_tl (w_st μ0 1) M (ν0 242) u m i) μ' ∧ w_om μ μ' := by
  have H := w_CT_of HN.1 HN.2.1 HN.2.2.1
  have hR := w_Rf_of HN.1 HN.2.1
  have hG := HN.1.2.2.1
  intro m
  induction m with
  | zero =>
    intro f i hi hf μ L hq h hl
    obtain ⟨f, rfl⟩ : ∃ g, f = g + 1 := ⟨f - 1, by omega⟩
    rw [show w_tl (w_st μ0 1) M (ν0 242) u 0 i = [] from rfl, List.append_nil]
    refine ⟨μ, ?_, h, fun _ _ _ => rfl, fun _ _ => rfl⟩
    show pm_writeGear_L74_B (pm_writeGear_L74 f (Int32.ofNat u) (fun M34 k33 => (pm_done M34 (M34 241 11)).bind fun q35 => some (q35.1, q35.2))) (Int32.ofNat u) (fun M34 k33 => (pm_done M34 (M34 241 11)).bind fun q35 => some (q35.1, q35.2)) μ (Int32.ofNat i) = _
    unfold pm_writeGear_L74_B
    rw [hq, HN.1.2.1, if_pos ((w_le (by omega) (by omega)).mpr (by omega))]
    rfl
  | succ m ih =>
    intro f i hi hf μ L hq h hl
    obtain ⟨f, rfl⟩ : ∃ g, f = g + 1 := ⟨f - 1, by omega⟩
    show ∃ μ', pm_writeGear_L74_B (pm_writeGear_L74 f (Int32.ofNat u) (fun M34 k33 => (pm_done M34 (M34 241 11)).bind fun q35 => some (q35.1, q35.2))) (Int32.ofNat u) (fun M34 k33 => (pm_done M34 (M34 241 11)).bind fun q35 => some (q35.1, q35.2)) μ (Int32.ofNat i) = _ ∧ w_Om (L ++ (w_nb (w_st μ0 1) M (ν0 242) u i ++ w_tl (w_st μ0 1) M (ν0 242) u m (i + 1))) μ' ∧ w_om μ μ'
    unfold pm_writeGear_L74_B
    rw [hq, HN.1.2.1, if_neg (fun hc => by have := (w_le (by omega) (by omega)).mp hc; omega)]
    by_cases hE : w_EK (w_st μ0 1) M u i
    · obtain ⟨e, -, hK⟩ := id hE
      obtain ⟨p1, p2, p3⟩ := w_gpv HN hK
      have l1 := w_dg_le (k := i) (j := 0) (by omega) (by omega)
      have l2 := w_dg_le (k := w_gw (ν0 242) u i) (j := 0) (by omega) (by omega)
      have en : w_nb (w_st μ0 1) M (ν0 242) u i = 45 :: (w_dg i ++ 47 :: w_dg (w_gw (ν0 242) u i)) := if_pos hE
      obtain ⟨μ1, a1, a2, a3⟩ := w_wrt (c := 45) (by omega) (by decide) h
      obtain ⟨μ2, b1, b2, b3⟩ := w_wn (k := i) (by omega) a2 (by rw [w_len1]; omega)
      obtain ⟨μ3, c1, c2, c3⟩ := w_wrt (c := 47) (by rw [List.length_append, w_len1]; omega) (by decide) b2
      have q3 : μ3 242 = ν0 242 := (c3.1 242 (by omega) (by omega)).trans ((b3.1 242 (by omega) (by omega)).trans ((a3.1 242 (by omega) (by omega)).trans hq))
      obtain ⟨μ4, d1, d2, d3⟩ := w_wn (k := w_gw (ν0 242) u i) (by omega) c2 (by rw [w_len1, List.length_append, w_len1]; omega)
      obtain ⟨μ5, e1, e2, e3⟩ := ih f (i + 1) (by omega) (by omega) μ4 _ ((d3.1 242 (by omega) (by omega)).trans q3) d2 (by simp only [List.length_append, w_len1, List.length_cons, List.length_nil]; omega)
      rw [w_isMeshY H (by rw [hq]; exact hR) hE]
      dsimp only [Option.bind_some]
      rw [if_neg w_10, show (45 : Int32) = Int32.ofNat 45 from rfl, a1]
      dsimp only [Option.bind_some]
      rw [b1]
      dsimp only [Option.bind_some]
      rw [show (47 : Int32) = Int32.ofNat 47 from rfl, c1]
      dsimp only [Option.bind_some]
      rw [w_gapm (by omega) (by omega), q3, p3]
      dsimp only [Option.bind_some]
      rw [d1]
      dsimp only [Option.bind_some]
      rw [show Int32.ofNat i + 1 = Int32.ofNat (i + 1) from w_ar2]
      have el : L ++ (w_nb (w_st μ0 1) M (ν0 242) u i ++ w_tl (w_st μ0 1) M (ν0 242) u m (i + 1)) = L ++ [45] ++ w_dg i ++ [47] ++ w_dg (w_gw (ν0 242) u i) ++ w_tl (w_st μ0 1) M (ν0 242) u m (i + 1) := by
        rw [en]
        simp only [List.append_assoc, List.cons_append, List.nil_append]
      rw [el]
      exact ⟨μ5, e1, e2, w_om_t a3 (w_om_t b3 (w_om_t c3 (w_om_t d3 e3)))⟩
    · have en : w_nb (w_st μ0 1) M (ν0 242) u i = [] := if_neg hE
      rw [w_isMeshN H (by rw [hq]; exact hR) hu (by omega) hE]
      dsimp only [Option.bind_some]
      rw [if_pos rfl, show Int32.ofNat i + 1 = Int32.ofNat (i + 1) from w_ar2, en, List.nil_append]
      exact ih f (i + 1) (by omega) (by omega) μ L hq h (by omega)
end
theorem w_Ot0 {μ : z_Mem} : w_Ot [] (z_u μ 239 0 0) := ⟨w_u_eq, fun i hi => absurd hi (Nat.not_lt_zero i)⟩
theorem w_Om0 {μ : z_Mem} : w_Om [] (z_u μ 241 11 0) := ⟨w_u_eq, fun i hi => absurd hi (Nat.not_lt_zero i)⟩
/-- after the writing of both -/
theorem w_wrI {n : Nat} {μ μ1 μ2 : z_Mem} {L : List Nat} (I : w_Inv n μ) (hC : w_oc μ μ1) (hM : w_om μ1 μ2) (h1 : w_Ot L μ1) (h2 : w_Om L μ2) (hl : L.length ≤ 50) (hch : ∀ x ∈ L, x < 128) : w_Inv (n + 1) (z_u μ2 241 12 0) := by
  obtain ⟨I1, hS, hU, ⟨t, t1, t2, t3, t4⟩, hE, hO⟩ := w_Inv_up I
  have hk : ∀ k, k ≠ 239 → k ≠ 240 → k ≠ 241 → k ≠ 247 → z_u μ2 241 12 0 k = μ k := fun k a b c d => by
    rw [w_u_ne c, hM.1 k c d, hC k a b]
  have hj : ∀ j, j ≠ 12 → j ≠ 11 → z_u μ2 241 12 0 241 j = μ 241 j := fun j a b => by
    rw [w_u_at a, hM.2 j b, hC 241 (by decide) (by decide)]
  obtain ⟨r1, r2, r3⟩ := w_core3 (μ' := z_u μ2 241 12 0) (fun k hk' => hk k (by omega) (by omega) (by omega) (by omega)) (hj 3 (by decide) (by decide)) (hj 5 (by decide) (by decide)) (by rw [hk 0 (by decide) (by decide) (by decide) (by decide)]) I1 hS hU
  refine ⟨r1, r2, r3, ⟨t, by rw [hk 21 (by decide) (by decide) (by decide) (by decide)]; exact t1, by rw [hj 7 (by decide) (by decide)]; exact t2, t3, fun i hi => ?_⟩, ⟨?_, ?_⟩, L.length, ?_, ?_, hl, fun i hi => ?_⟩
  · rw [hk 22 (by decide) (by decide) (by decide) (by decide), hk 246 (by decide) (by decide) (by decide) (by decide)]
    exact t4 i hi
  · rw [hk 0 (by decide) (by decide) (by decide) (by decide), hj 8 (by decide) (by decide)]; exact hE.1
  · rw [hk 0 (by decide) (by decide) (by decide) (by decide), hj 9 (by decide) (by decide)]; exact hE.2
  · rw [w_u_ne (by decide), hM.1 239 (by decide) (by decide)]; exact h1.1
  · rw [w_u_at (by decide)]; exact h2.1
  · have hx : L.getD i 0 < 128 := by
      rw [List.getD_eq_getElem?_getD, List.getElem?_eq_getElem hi]
      exact hch _ (List.getElem_mem hi)
    rw [w_u_ne (by decide), w_u_ne (by decide), hM.1 240 (by decide) (by decide), h1.2 i hi, h2.2 i hi]
    exact ⟨rfl, _, by omega, rfl⟩
theorem w_sgv (p : Int32) : w_sgn p p.toInt.natAbs := by
  have h1 := Int32.toInt_lt p
  have h2 := Int32.le_toInt p
  by_cases h : 0 ≤ p.toInt
  · left
    rw [← Int32.toInt_inj, w_ti (by omega)]
    omega
  · right
    by_cases hm : p.toInt = -2147483648
    · rw [← Int32.toInt_inj, hm]
      decide
    · rw [← Int32.toInt_inj, Int32.toInt_neg, w_ti (by omega), Int.bmod_eq_of_le (by omega) (by omega)]
      omega
theorem w_S45 : z_S45 w_Inv := fun n μ c1 I hn => by
  obtain ⟨G, M, W, S, E, HN⟩ := w_get I
  obtain ⟨g1, g2, g3, g4, g5, g6, g7, g8⟩ := HN.1
  unfold pG_writeGear pG_needGear pm_writeGear
  rcases w_gear (μ := μ) (ν := μ) g1 g2 g3 c1 with ⟨e1, e2, u, hu, rfl⟩ | ⟨e1, e2⟩
  · obtain ⟨t, t1, t2, ht⟩ := g6 u hu
    have hc3 : μ 3 u = Int32.ofNat t := (g4 u (by omega)).trans ht
    have hc4 : μ 4 u = μ 242 (17 + u) := g5 u (by omega)
    obtain ⟨b1, b2⟩ := HN.2.2.2.2.2.2.1 u (by omega)
    obtain ⟨p, hp⟩ : ∃ p, p = μ 242 (17 + u) := ⟨_, rfl⟩
    rw [← hp] at b1 b2 hc4
    obtain ⟨k, hk⟩ : ∃ k, k = p.toInt.natAbs := ⟨_, rfl⟩
    have hk6 : k < 10 ^ (5 + 1) := by
      have : (10 : Nat) ^ (5 + 1) = 1000000 := rfl
      omega
    have hk7 : k < 10000000 := by
      have : (10 : Nat) ^ (5 + 1) = 1000000 := rfl
      omega
    have hsg : w_sgn p k := hk ▸ w_sgv p
    have l1 := w_dg_le (k := t) (j := 1) (by omega) (by omega)
    have l2 := w_dg_le (k := k) (j := 5) hk6 (by omega)
    have l3 : (w_nm p k).length ≤ 7 := by
      unfold w_nm
      split
      · omega
      · rw [List.length_cons]; omega
    have lc : ∀ x ∈ w_nm p k, x < 128 := by
      intro x hx
      unfold w_nm at hx
      split at hx
      · exact w_tp_ch 6 x hx
      · rcases List.mem_cons.mp hx with h | h
        · omega
        · exact w_tp_ch 6 x h
    -- the class
    obtain ⟨μ1, a1, a2, a3⟩ := w_pnN (k := t) (μ := z_u μ 239 0 0) (by omega) w_Ot0 (by rw [List.length_nil]; omega)
    obtain ⟨μ2, c1, c2, c3⟩ := w_put (c := 64) (by rw [List.nil_append]; omega) (by decide) a2
    obtain ⟨μ3, d1, d2, d3⟩ := w_pn hk7 hsg c2 (by rw [w_len1, List.nil_append]; omega)
    have oA : w_oc μ (z_u μ 239 0 0) := fun q x _ => w_u_ne x
    have o3 : w_oc μ μ3 := w_oc_t oA (w_oc_t a3 (w_oc_t c3 d3))
    obtain ⟨μ4, f1, f2, f3, f4⟩ := w_wgC (μ0 := μ) (ν0 := μ) HN hu G z_fu 0 (by omega) (by show _ < 3000; omega) μ3 _ (fun q hq => o3 q (by omega) (by omega)) d2 (by rw [List.length_append, w_len1, List.nil_append]; omega)
    have o4 : w_oc μ μ4 := w_oc_t o3 f3
    have r4 : μ4 242 = μ 242 := o4 242 (by decide) (by decide)
    -- the reference
    have oM : w_om μ4 (z_u μ4 241 11 0) := ⟨fun q x _ => w_u_ne x, fun j hj => w_u_at hj⟩
    obtain ⟨ν1, k1, k2, k3⟩ := w_wn (k := t) (μ := z_u μ4 241 11 0) (by omega) w_Om0 (by rw [List.length_nil]; omega)
    obtain ⟨ν2, m1, m2, m3⟩ := w_wrt (c := 64) (by rw [List.nil_append]; omega) (by decide) k2
    have o2 : w_om μ4 ν2 := w_om_t oM (w_om_t k3 m3)
    have r2 : ν2 242 = μ 242 := (o2.1 242 (by decide) (by decide)).trans r4
    have fin : ∃ ν3, w_Om ([] ++ w_dg t ++ [64] ++ w_nm p k) ν3 ∧ w_om ν2 ν3 ∧ ∀ (K : z_Mem → Option (Int32 × z_Mem)), (if 0 ≤ p then (pm_size ν2 p).bind fun q15 => (pm_writesNumber ν2 q15).bind K else (pm_writes ν2 45).bind fun q37 => (z_rd q37 242 331 (17 + Int32.ofNat u)).bind fun v39 => (pm_size q37 v39).bind fun q41 => (pm_writesNumber q37 q41).bind K) = K ν3 := by
      unfold pm_size
      by_cases h0 : 0 ≤ p
      · have hpk : p = Int32.ofNat k := by
          have := Int32.le_iff_toInt_le.mp h0
          rw [show (0 : Int32).toInt = 0 from rfl] at this
          rw [← Int32.toInt_inj, w_ti (by omega)]
          omega
        obtain ⟨ν3, x1, x2, x3⟩ := w_wn (k := k) (by omega) m2 (by rw [w_len1, List.nil_append]; omega)
        refine ⟨ν3, by rw [show w_nm p k = w_dg k from if_pos h0]; exact x2, x3, fun K => ?_⟩
        rw [if_pos h0, if_pos h0]
        dsimp only [Option.bind_some]
        rw [hpk, x1]
        rfl
      · have hpk : -p = Int32.ofNat k := by
          have h3 : ¬ (0 : Int) ≤ p.toInt := fun q => h0 (Int32.le_iff_toInt_le.mpr q)
          rw [← Int32.toInt_inj, w_ti (by omega), Int32.toInt_neg, Int.bmod_eq_of_le (by omega) (by omega)]
          omega
        obtain ⟨ν25, y1, y2, y3⟩ := w_wrt (c := 45) (by rw [w_len1, List.nil_append]; omega) (by decide) m2
        obtain ⟨ν3, x1, x2, x3⟩ := w_wn (k := k) (by omega) y2 (by rw [w_len1, w_len1, List.nil_append]; omega)
        refine ⟨ν3, by rw [show w_nm p k = 45 :: w_dg k from if_neg h0]; rw [List.append_assoc _ [45]] at x2; exact x2, w_om_t y3 x3, fun K => ?_⟩
        rw [if_neg h0, show (45 : Int32) = Int32.ofNat 45 from rfl, y1]
        dsimp only [Option.bind_some]
        rw [show (17 : Int32) + Int32.ofNat u = Int32.ofNat (17 + u) from w_al, w_rdn (by omega) (by omega), y3.1 242 (by decide) (by decide), r2, ← hp]
        dsimp only [Option.bind_some]
        rw [if_neg h0]
        dsimp only [Option.bind_some]
        rw [hpk, x1]
        rfl
    obtain ⟨ν3, n1, n2, n3⟩ := fin
    obtain ⟨ν4, w1, w2, w3⟩ := w_wgM (μ0 := μ) (ν0 := μ) HN hu G z_fu 0 (by omega) (by show _ < 3000; omega) ν3 _ ((n2.1 242 (by decide) (by decide)).trans r2) n1 (by rw [List.length_append, w_len1, List.nil_append]; omega)
    refine ⟨.inl (μ4 239 0), μ4, ν4 241 11, z_u ν4 241 12 0, ?_, ?_, ⟨w_u_eq, f2.1.trans w2.1.symm⟩, w_wrI I o4 (w_om_t o2 (w_om_t n2 w3)) f2 w2 f4 (fun x hx => ?_)⟩
    · rw [e1]
      dsimp only [Option.bind_some]
      rw [if_neg w_10]
      unfold pS_clear
      dsimp only [Option.bind_some]
      rw [w_rdn (by omega) (by omega), w_u_ne (by decide), hc3]
      dsimp only [Option.bind_some]
      rw [a1]
      dsimp only [Option.bind_some]
      rw [show (64 : Int32) = Int32.ofNat 64 from rfl, c1]
      dsimp only [Option.bind_some]
      rw [w_rdn (by omega) (by omega), c3 4 (by decide) (by decide), a3 4 (by decide) (by decide), w_u_ne (by decide), hc4]
      dsimp only [Option.bind_some]
      rw [d1]
      exact f1
    · have e2' : pm_isGear μ4 (Int32.ofNat u) = some 1 := by
        rcases w_gear (μ := μ) (ν := μ4) (G := G) g1 (by rw [r4]; exact g2) g3 (Int32.ofNat u) with ⟨-, q, -⟩ | ⟨q, -⟩
        · exact q
        · rw [e1] at q
          cases q
      rw [e2']
      dsimp only [Option.bind_some]
      rw [if_neg w_10, show (7 : Int32) + Int32.ofNat u = Int32.ofNat (7 + u) from w_al, w_rdn (by omega) (by omega), w_u_ne (by decide), r4, ht]
      dsimp only [Option.bind_some]
      rw [k1]
      dsimp only [Option.bind_some]
      rw [show (64 : Int32) = Int32.ofNat 64 from rfl, m1]
      dsimp only [Option.bind_some]
      rw [show z_rd ν2 242 331 (17 + Int32.ofNat u) = some p from by rw [show (17 : Int32) + Int32.ofNat u = Int32.ofNat (17 + u) from w_al, w_rdn (by omega) (by omega), r2, hp]]
      dsimp only [Option.bind_some]
      exact (n3 _).trans w1
    · rcases List.mem_append.mp hx with h | h
      · rcases List.mem_append.mp h with h | h
        · rcases List.mem_append.mp h with h | h
          · exact w_tp_ch 6 x h
          · rcases List.mem_cons.mp h with h | h
            · omega
            · cases h
        · exact lc x h
      · exact w_tl_ch _ _ x h
  · refine ⟨.inr 0, μ, 0, z_u μ 241 12 1, ?_, ?_, w_agE (j := 0) rfl w_u_eq, w_Q12 I⟩
    · rw [e1]
      rfl
    · rw [e2]
      rfl
end ZWRT
