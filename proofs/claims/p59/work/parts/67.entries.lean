/-! Entries: found, made and forgotten, in both. -/
section ZENT
theorem w_plE {μ : z_Mem} {E : Nat} (hE : E ≤ 6) (h0 : μ 16 0 = Int32.ofNat E) {x y : Int32} {K : Int32 → Option Int32} : ∀ (f q : Nat), q ≤ E → E - q < f → (∀ p, p < q → ¬ (μ 17 p = x ∧ μ 18 p = y)) → (pE_placeOf_L2 f μ x y K (Int32.ofNat q) = K (Int32.ofNat E) ∧ ∀ p, p < E → ¬ (μ 17 p = x ∧ μ 18 p = y)) ∨ ∃ p, p < E ∧ pE_placeOf_L2 f μ x y K (Int32.ofNat q) = some (Int32.ofNat p) ∧ μ 17 p = x ∧ μ 18 p = y := by
  intro f
  induction f with
  | zero => intro q _ h; omega
  | succ f ih =>
    intro q hq hf hno
    show (pE_placeOf_L2_B (pE_placeOf_L2 f μ x y K) μ x y K (Int32.ofNat q) = _ ∧ _) ∨ ∃ p, p < E ∧ pE_placeOf_L2_B (pE_placeOf_L2 f μ x y K) μ x y K (Int32.ofNat q) = _ ∧ _
    unfold pE_placeOf_L2_B
    rw [h0]
    by_cases h : E ≤ q
    · rw [if_pos ((w_le (by omega) (by omega)).mpr h)]
      have : q = E := by omega
      subst this
      exact Or.inl ⟨rfl, hno⟩
    · have nx : ¬ (μ 17 q = x ∧ μ 18 q = y) → ∀ p, p < q + 1 → ¬ (μ 17 p = x ∧ μ 18 p = y) := fun hn p hp => by
        by_cases hpq : p = q
        · subst hpq; exact hn
        · exact hno p (by omega)
      rw [if_neg (fun hc => h ((w_le (by omega) (by omega)).mp hc)), w_rdn (by omega) (by omega), w_rdn (by omega) (by omega)]
      dsimp only [Option.bind_some]
      by_cases hx : μ 17 q = x
      · rw [if_pos hx]
        by_cases hy : μ 18 q = y
        · rw [if_pos hy]
          exact Or.inr ⟨q, by omega, rfl, hx, hy⟩
        · rw [if_neg hy, w_ar2]
          exact ih (q + 1) (by omega) (by omega) (nx (fun h => hy h.2))
      · rw [if_neg hx, w_ar2]
        exact ih (q + 1) (by omega) (by omega) (nx (fun h => hx h.1))
theorem w_plF {ν : z_Mem} {E : Nat} (hE : E ≤ 6) (h0 : ν 242 4 = Int32.ofNat E) {x y : Int32} {K : Int32 → Option Int32} : ∀ (f q : Nat), q ≤ E → E - q < f → (∀ p, p < q → ν 242 (259 + p) ≠ 10 * x + y) → (pm_entryOf_L2 f ν x y K (Int32.ofNat q) = K (Int32.ofNat E) ∧ ∀ p, p < E → ν 242 (259 + p) ≠ 10 * x + y) ∨ ∃ p, p < E ∧ pm_entryOf_L2 f ν x y K (Int32.ofNat q) = some (Int32.ofNat p) ∧ ν 242 (259 + p) = 10 * x + y := by
  intro f
  induction f with
  | zero => intro q _ h; omega
  | succ f ih =>
    intro q hq hf hno
    show (pm_entryOf_L2_B (pm_entryOf_L2 f ν x y K) ν x y K (Int32.ofNat q) = _ ∧ _) ∨ ∃ p, p < E ∧ pm_entryOf_L2_B (pm_entryOf_L2 f ν x y K) ν x y K (Int32.ofNat q) = _ ∧ _
    unfold pm_entryOf_L2_B
    rw [h0]
    by_cases h : E ≤ q
    · rw [if_pos ((w_le (by omega) (by omega)).mpr h)]
      have : q = E := by omega
      subst this
      exact Or.inl ⟨rfl, hno⟩
    · rw [if_neg (fun hc => h ((w_le (by omega) (by omega)).mp hc)), w_al, w_rdn (by omega) (by omega)]
      dsimp only [Option.bind_some]
      by_cases hi : ν 242 (259 + q) = 10 * x + y
      · rw [show ν 242 ((OfNat.ofNat 259 : Nat) + q) = ν 242 (259 + q) from rfl, if_pos hi]
        exact Or.inr ⟨q, by omega, rfl, hi⟩
      · rw [show ν 242 ((OfNat.ofNat 259 : Nat) + q) = ν 242 (259 + q) from rfl, if_neg hi, w_ar2]
        exact ih (q + 1) (by omega) (by omega) (fun p hp => by
          by_cases hpq : p = q
          · subst hpq; exact hi
          · exact hno p (by omega))
theorem w_key {l d l' d' : Nat} (hl : l ≤ 122) (hl' : l' ≤ 122) (hd : d ≤ 9) (hd' : d' ≤ 9) (h : 10 * Int32.ofNat l + Int32.ofNat d = 10 * Int32.ofNat l' + Int32.ofNat d') : l = l' ∧ d = d' := by
  rw [w_ml, w_ml, w_aa, w_aa] at h
  have h2 : 10 * l + d = 10 * l' + d' := (w_eq (by show 10 * l + d < _; omega) (by show 10 * l' + d' < _; omega)).mp h
  omega
/-- the entry under a key, in both -/
theorem w_entry {μ ν : z_Mem} {E l d : Nat} (hR : w_RE (w_st μ 1) (ν 242) E) (hl : l ≤ 122) (hd : d ≤ 9) :
    (pE_placeOf μ (Int32.ofNat l) (Int32.ofNat d) = some (-1) ∧ pm_entryOf ν (Int32.ofNat l) (Int32.ofNat d) = some (-1) ∧ (∀ p, p < E → ¬ (μ 17 p = Int32.ofNat l ∧ μ 18 p = Int32.ofNat d)) ∧ ∀ q, q < E → ν 242 (259 + q) ≠ 10 * Int32.ofNat l + Int32.ofNat d) ∨
    ∃ p q, p < E ∧ q < E ∧ pE_placeOf μ (Int32.ofNat l) (Int32.ofNat d) = some (Int32.ofNat p) ∧ pm_entryOf ν (Int32.ofNat l) (Int32.ofNat d) = some (Int32.ofNat q) ∧ w_Re (w_st μ 1) (ν 242) p q ∧ μ 17 p = Int32.ofNat l ∧ μ 18 p = Int32.ofNat d ∧ ν 242 (259 + q) = 10 * Int32.ofNat l + Int32.ofNat d := by
  obtain ⟨r1, r2, r3, r4, r5, r6, r7, r8⟩ := hR
  have hC := w_plE (μ := μ) r3 r1 (x := Int32.ofNat l) (y := Int32.ofNat d) (K := fun k5 => some (-1)) z_fu 0 (Nat.zero_le _) (by show E - 0 < 3000; omega) (fun p hp => absurd hp (Nat.not_lt_zero _))
  have hM := w_plF (ν := ν) r3 r2 (x := Int32.ofNat l) (y := Int32.ofNat d) (K := fun k5 => some (-1)) z_fu 0 (Nat.zero_le _) (by show E - 0 < 3000; omega) (fun p hp => absurd hp (Nat.not_lt_zero _))
  rcases hC with ⟨c1, c2⟩ | ⟨p, c1, c2, c3, c4⟩
  · rcases hM with ⟨m1, m2⟩ | ⟨q, m1, m2, m3⟩
    · exact Or.inl ⟨c1, m1, c2, m2⟩
    · obtain ⟨p, hp, hre⟩ := r6 q m1
      obtain ⟨l', d', h', a1, a2, a3, a4, a5, a6, a7⟩ := r4 p hp
      have hk := hre.1
      rw [m3, a5, a6] at hk
      obtain ⟨rfl, rfl⟩ := w_key hl a2 hd a3 hk
      exact absurd ⟨a5, a6⟩ (c2 p hp)
  · rcases hM with ⟨-, m2⟩ | ⟨q, m1, m2, m3⟩
    · obtain ⟨q, hq, hre⟩ := r5 p c1
      have hk := hre.1
      rw [show w_st μ 1 16 p = Int32.ofNat l from c3, show w_st μ 1 17 p = Int32.ofNat d from c4] at hk
      exact absurd hk (m2 q hq)
    · obtain ⟨q', hq', hre⟩ := r5 p c1
      have hk := hre.1
      rw [show w_st μ 1 16 p = Int32.ofNat l from c3, show w_st μ 1 17 p = Int32.ofNat d from c4] at hk
      have : q' = q := r8 q' q hq' m1 (hk.trans m3.symm)
      subst this
      exact Or.inr ⟨p, q', c1, m1, c2, m2, hre, c3, c4, m3⟩
section
variable {c c' : w_Cl} {g g' : Nat → Int32} {E E' p q l d h : Nat}
/-- an entry is put -/
theorem w_RE_put (hR : w_RE c g E) (hl1 : 97 ≤ l) (hl : l ≤ 122) (hd : d ≤ 9) (hh : h ≤ 10) (hE : E ≤ E') (hE6 : E' ≤ 6) (hp : p < E') (hq : q < E') (hpo : ∀ r, r < E' → r ≠ p → r < E) (hqo : ∀ r, r < E' → r ≠ q → r < E)
    (kp : ∀ r, r < E → r ≠ p → ¬ (c 16 r = Int32.ofNat l ∧ c 17 r = Int32.ofNat d)) (kq : ∀ r, r < E → r ≠ q → g (259 + r) ≠ 10 * Int32.ofNat l + Int32.ofNat d) (kpq : p < E → c 16 p = Int32.ofNat l ∧ c 17 p = Int32.ofNat d) (kqq : q < E → g (259 + q) = 10 * Int32.ofNat l + Int32.ofNat d)
    (e15 : c' 15 0 = Int32.ofNat E') (e4 : g' 4 = Int32.ofNat E') (e16 : ∀ r, c' 16 r = if r = p then Int32.ofNat l else c 16 r) (e17 : ∀ r, c' 17 r = if r = p then Int32.ofNat d else c 17 r) (e18 : ∀ r, c' 18 r = if r = p then Int32.ofNat h else c 18 r)
    (e19 : ∀ r i, i < 10 → c' 19 (10 * r + i) = if r = p then c 3 i else c 19 (10 * r + i)) (f259 : ∀ r, r < 6 → g' (259 + r) = if r = q then 10 * Int32.ofNat l + Int32.ofNat d else g (259 + r)) (f265 : ∀ r, r < 6 → g' (265 + r) = if r = q then Int32.ofNat h else g (265 + r))
    (f271 : ∀ r i, r < 6 → i < 10 → g' (271 + 10 * r + i) = if r = q then g (17 + i) else g (271 + 10 * r + i)) (hpos : ∀ i, i < 10 → c 3 i = g (17 + i)) : w_RE c' g' E' := by
  obtain ⟨r1, r2, r3, r4, r5, r6, r7, r8⟩ := hR
  have Rpq : w_Re c' g' p q := ⟨by rw [f259 q (by omega), if_pos rfl, e16, if_pos rfl, e17, if_pos rfl], by rw [f265 q (by omega), if_pos rfl, e18, if_pos rfl], fun i hi => by rw [f271 q i (by omega) hi, if_pos rfl, e19 p i hi, if_pos rfl, hpos i hi]⟩
  have Ro : ∀ r s, r ≠ p → s ≠ q → s < 6 → w_Re c g r s → w_Re c' g' r s := fun r s hr hs h6 hre => ⟨by rw [f259 s h6, if_neg hs, e16, if_neg hr, e17, if_neg hr]; exact hre.1, by rw [f265 s h6, if_neg hs, e18, if_neg hr]; exact hre.2.1, fun i hi => by rw [f271 s i h6 hi, if_neg hs, e19 r i hi, if_neg hr]; exact hre.2.2 i hi⟩
  have keyo : ∀ r, r < E → r ≠ p → 10 * c 16 r + c 17 r ≠ 10 * Int32.ofNat l + Int32.ofNat d := by
    intro r hr hrp hk
    obtain ⟨l', d', h', a1, a2, a3, a4, a5, a6, a7⟩ := r4 r hr
    rw [a5, a6] at hk
    obtain ⟨rfl, rfl⟩ := w_key a2 hl a3 hd hk
    exact kp r hr hrp ⟨a5, a6⟩
  refine ⟨e15, e4, hE6, fun r hr => ?_, fun r hr => ?_, fun s hs => ?_, fun r s hr hs a1 a2 => ?_, fun r s hr hs a1 => ?_⟩
  · by_cases hrp : r = p
    · subst hrp
      exact ⟨l, d, h, hl1, hl, hd, hh, by rw [e16, if_pos rfl], by rw [e17, if_pos rfl], by rw [e18, if_pos rfl]⟩
    · rw [e16, if_neg hrp, e17, if_neg hrp, e18, if_neg hrp]
      exact r4 r (hpo r hr hrp)
  · by_cases hrp : r = p
    · subst hrp
      exact ⟨q, hq, Rpq⟩
    · have hrE := hpo r hr hrp
      obtain ⟨s, hs, hre⟩ := r5 r hrE
      have hsq : s ≠ q := fun z => keyo r hrE hrp (by rw [← hre.1, z]; exact kqq (by omega))
      exact ⟨s, by omega, Ro r s hrp hsq (by omega) hre⟩
  · by_cases hsq : s = q
    · subst hsq
      exact ⟨p, hp, Rpq⟩
    · have hsE := hqo s hs hsq
      obtain ⟨r, hr, hre⟩ := r6 s hsE
      have hrp : r ≠ p := fun z => kq s hsE hsq (by rw [hre.1, z, (kpq (by omega)).1, (kpq (by omega)).2])
      exact ⟨r, by omega, Ro r s hrp hsq (by omega) hre⟩
  · rw [e16, e16] at a1
    rw [e17, e17] at a2
    by_cases hrp : r = p
    · by_cases hsp : s = p
      · omega
      · rw [if_pos hrp, if_neg hsp] at a1 a2
        exact absurd ⟨a1.symm, a2.symm⟩ (kp s (hpo s hs hsp) hsp)
    · by_cases hsp : s = p
      · rw [if_neg hrp, if_pos hsp] at a1 a2
        exact absurd ⟨a1, a2⟩ (kp r (hpo r hr hrp) hrp)
      · rw [if_neg hrp, if_neg hsp] at a1 a2
        exact r7 r s (hpo r hr hrp) (hpo s hs hsp) a1 a2
  · rw [f259 r (by omega), f259 s (by omega)] at a1
    by_cases hrp : r = q
    · by_cases hsp : s = q
      · omega
      · rw [if_pos hrp, if_neg hsp] at a1
        exact absurd a1.symm (kq s (hqo s hs hsp) hsp)
    · by_cases hsp : s = q
      · rw [if_neg hrp, if_pos hsp] at a1
        exact absurd a1 (kq r (hqo r hr hrp) hrp)
      · rw [if_neg hrp, if_neg hsp] at a1
        exact r8 r s (hqo r hr hrp) (hqo s hs hsp) a1
/-- an entry is dropped -/
theorem w_RE_drop (hR : w_RE c g E) (hp : p < E) (hq : q < E) (hpq : w_Re c g p q) (e15 : c' 15 0 = Int32.ofNat (E - 1)) (e4 : g' 4 = Int32.ofNat (E - 1))
    (e16 : ∀ r, r < E - 1 → c' 16 r = c 16 (if r = p then E - 1 else r)) (e17 : ∀ r, r < E - 1 → c' 17 r = c 17 (if r = p then E - 1 else r)) (e18 : ∀ r, r < E - 1 → c' 18 r = c 18 (if r = p then E - 1 else r)) (e19 : ∀ r i, r < E - 1 → i < 10 → c' 19 (10 * r + i) = c 19 (10 * (if r = p then E - 1 else r) + i))
    (f259 : ∀ r, r < E - 1 → g' (259 + r) = g (259 + (if r < q then r else r + 1))) (f265 : ∀ r, r < E - 1 → g' (265 + r) = g (265 + (if r < q then r else r + 1))) (f271 : ∀ r i, r < E - 1 → i < 10 → g' (271 + 10 * r + i) = g (271 + 10 * (if r < q then r else r + 1) + i)) : w_RE c' g' (E - 1) := by
  obtain ⟨r1, r2, r3, r4, r5, r6, r7, r8⟩ := hR
  have hR' : ∀ r s, r < E - 1 → s < E - 1 → w_Re c g (if r = p then E - 1 else r) (if s < q then s else s + 1) → w_Re c' g' r s := fun r s hr hs hre => ⟨by rw [f259 s hs, e16 r hr, e17 r hr]; exact hre.1, by rw [f265 s hs, e18 r hr]; exact hre.2.1, fun i hi => by rw [f271 s i hs hi, e19 r i hr hi]; exact hre.2.2 i hi⟩
  have ht : ∀ r, r < E - 1 → (if r = p then E - 1 else r) < E ∧ (if r = p then E - 1 else r) ≠ p := fun r hr => by split <;> omega
  have hs' : ∀ s, s < E - 1 → (if s < q then s else s + 1) < E ∧ (if s < q then s else s + 1) ≠ q := fun s hs => by split <;> omega
  have kinj : ∀ r r', r < E → r' < E → 10 * c 16 r + c 17 r = 10 * c 16 r' + c 17 r' → r = r' := by
    intro r r' hr hr' hk
    obtain ⟨l', d', h', a1, a2, a3, a4, a5, a6, a7⟩ := r4 r hr
    obtain ⟨l2, d2, h2, b1, b2, b3, b4, b5, b6, b7⟩ := r4 r' hr'
    rw [a5, a6, b5, b6] at hk
    obtain ⟨rfl, rfl⟩ := w_key a2 b2 a3 b3 hk
    exact r7 r r' hr hr' (a5.trans b5.symm) (a6.trans b6.symm)
  refine ⟨e15, e4, by omega, fun r hr => ?_, fun r hr => ?_, fun s hs => ?_, fun r s hr hs a1 a2 => ?_, fun r s hr hs a1 => ?_⟩
  · rw [e16 r hr, e17 r hr, e18 r hr]
    exact r4 _ (ht r hr).1
  · obtain ⟨s, hs, hre⟩ := r5 _ (ht r hr).1
    have hsq : s ≠ q := fun z => (ht r hr).2 (kinj _ _ (ht r hr).1 hp (by rw [← hre.1, z]; exact hpq.1))
    refine ⟨if s < q then s else s - 1, by split <;> omega, hR' r _ hr (by split <;> omega) ?_⟩
    have : (if (if s < q then s else s - 1) < q then (if s < q then s else s - 1) else (if s < q then s else s - 1) + 1) = s := by
      by_cases h1 : s < q
      · rw [if_pos h1, if_pos h1]
      · rw [if_neg h1, if_neg (by omega)]; omega
    rw [this]
    exact hre
  · obtain ⟨r, hr, hre⟩ := r6 _ (hs' s hs).1
    have hrp : r ≠ p := fun z => (hs' s hs).2 (r8 _ _ (hs' s hs).1 hq (by rw [hre.1, z]; exact hpq.1.symm))
    by_cases hrE : r = E - 1
    · have hpE : p < E - 1 := by omega
      refine ⟨p, hpE, hR' p s hpE hs ?_⟩
      rw [if_pos rfl, ← hrE]
      exact hre
    · refine ⟨r, by omega, hR' r s (by omega) hs ?_⟩
      rw [if_neg hrp]
      exact hre
  · rw [e16 r hr, e16 s hs] at a1
    rw [e17 r hr, e17 s hs] at a2
    have := r7 _ _ (ht r hr).1 (ht s hs).1 a1 a2
    split at this <;> split at this <;> omega
  · rw [f259 r hr, f259 s hs] at a1
    have := r8 _ _ (hs' r hr).1 (hs' s hs).1 a1
    split at this <;> split at this <;> omega
end
/-- the relation of all but the entries, kept -/
theorem w_Rel_ent {n m : Nat} {μ μ' ν ν' : z_Mem} {G M W S E E' : Nat} (hnm : n ≤ m) (HH : w_RelN n (w_st μ 1) (ν 242) G M W S E) (lo : ∀ q, q < 15 → w_st μ' 1 q = w_st μ 1 q) (hi : ∀ j, j ≠ 4 → j < 259 → ν' 242 j = ν 242 j) (hE : w_RE (w_st μ' 1) (ν' 242) E') : w_RelN m (w_st μ' 1) (ν' 242) G M W S E' := by
  obtain ⟨k1, k2, k3, k4, k5, k6, k7⟩ := HH
  obtain ⟨g1, g2, g3, g4, g5, g6, g7, g8⟩ := id k1
  have l1 := lo 1 (by decide)
  refine ⟨⟨by rw [l1]; exact g1, by rw [hi 0 (by omega) (by omega)]; exact g2, g3, fun i hi2 => ?_, fun i hi2 => ?_, fun i hi2 => ?_, fun i hi1 hi2 => ?_, ?_⟩, ?_, ?_, ?_, ?_, hE, ?_⟩
  · rw [lo 2 (by decide), hi _ (by omega) (by omega)]; exact g4 i hi2
  · rw [lo 3 (by decide), hi _ (by omega) (by omega)]; exact g5 i hi2
  · rw [hi _ (by omega) (by omega)]; exact g6 i hi2
  · rw [hi _ (by omega) (by omega)]; exact g7 i hi1 hi2
  · rw [l1, hi 6 (by omega) (by omega)]; exact g8
  · exact w_RM_tr (by rw [l1]) (lo 4 (by decide)) (lo 5 (by decide)) (lo 6 (by decide)) (lo 7 (by decide)) (fun j j1 j2 => hi j (by omega) (by omega)) (Nat.le_refl _) g3 k2
  · exact w_RF_tr (lo 4 (by decide)) (lo 5 (by decide)) k3
  · exact w_RW_tr (lo 8 (by decide)) (lo 9 (by decide)) (lo 10 (by decide)) (hi 1 (by omega) (by omega)) (fun j j1 j2 => hi j (by omega) (by omega)) (Nat.le_refl _) k4
  · exact w_RY_tr (lo 11 (by decide)) (lo 12 (by decide)) (lo 13 (by decide)) (lo 14 (by decide)) (hi 2 (by omega) (by omega)) (hi 3 (by omega) (by omega)) (hi 5 (by omega) (by omega)) (fun j j1 j2 => hi j (by omega) (by omega)) k5
  · exact w_PB_tr hnm (hi 3 (by omega) (by omega)) (hi 5 (by omega) (by omega)) (fun j j1 j2 => hi j (by omega) (by omega)) k7
end ZENT
