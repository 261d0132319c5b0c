/-! Numbers: small ints as naturals. -/
section ZNUM
theorem w_tn {a : Nat} (h : a < 2147483648) : (Int32.ofNat a).toNatClampNeg = a := by
  show (Int32.ofNat a).toInt.toNat = a
  rw [Int32.toInt_ofNat_of_lt (by omega)]
  omega
theorem w_ti {a : Nat} (h : a < 2147483648) : (Int32.ofNat a).toInt = (a : Int) := Int32.toInt_ofNat_of_lt (by omega)
theorem w_lt {a b : Nat} (ha : a < 2147483648) (hb : b < 2147483648) : Int32.ofNat a < Int32.ofNat b ↔ a < b := by
  rw [Int32.lt_iff_toInt_lt, w_ti ha, w_ti hb]; omega
theorem w_le {a b : Nat} (ha : a < 2147483648) (hb : b < 2147483648) : Int32.ofNat a ≤ Int32.ofNat b ↔ a ≤ b := by
  rw [Int32.le_iff_toInt_le, w_ti ha, w_ti hb]; omega
theorem w_eq {a b : Nat} (ha : a < 2147483648) (hb : b < 2147483648) : Int32.ofNat a = Int32.ofNat b ↔ a = b := by
  rw [← Int32.toInt_inj, w_ti ha, w_ti hb]; omega
theorem w_ltl {k S : Nat} (ha : (OfNat.ofNat k : Nat) < 2147483648) (hb : S < 2147483648) : (OfNat.ofNat k : Int32) < Int32.ofNat S ↔ (OfNat.ofNat k : Nat) < S := w_lt ha hb
theorem w_ltr {k S : Nat} (ha : (OfNat.ofNat k : Nat) < 2147483648) (hb : S < 2147483648) : Int32.ofNat S < (OfNat.ofNat k : Int32) ↔ S < (OfNat.ofNat k : Nat) := w_lt hb ha
theorem w_lel {k S : Nat} (ha : (OfNat.ofNat k : Nat) < 2147483648) (hb : S < 2147483648) : (OfNat.ofNat k : Int32) ≤ Int32.ofNat S ↔ (OfNat.ofNat k : Nat) ≤ S := w_le ha hb
theorem w_ler {k S : Nat} (ha : (OfNat.ofNat k : Nat) < 2147483648) (hb : S < 2147483648) : Int32.ofNat S ≤ (OfNat.ofNat k : Int32) ↔ S ≤ (OfNat.ofNat k : Nat) := w_le hb ha
theorem w_eql {k S : Nat} (ha : (OfNat.ofNat k : Nat) < 2147483648) (hb : S < 2147483648) : (OfNat.ofNat k : Int32) = Int32.ofNat S ↔ (OfNat.ofNat k : Nat) = S := w_eq ha hb
theorem w_eqr {k S : Nat} (ha : (OfNat.ofNat k : Nat) < 2147483648) (hb : S < 2147483648) : Int32.ofNat S = (OfNat.ofNat k : Int32) ↔ S = (OfNat.ofNat k : Nat) := w_eq hb ha
theorem w_aa {a b : Nat} : Int32.ofNat a + Int32.ofNat b = Int32.ofNat (a + b) := (Int32.ofNat_add _ _).symm
theorem w_al {k S : Nat} : (OfNat.ofNat k : Int32) + Int32.ofNat S = Int32.ofNat ((OfNat.ofNat k : Nat) + S) := (Int32.ofNat_add _ _).symm
theorem w_ar2 {k S : Nat} : Int32.ofNat S + (OfNat.ofNat k : Int32) = Int32.ofNat (S + (OfNat.ofNat k : Nat)) := (Int32.ofNat_add _ _).symm
theorem w_mm {a b : Nat} : Int32.ofNat a * Int32.ofNat b = Int32.ofNat (a * b) := (Int32.ofNat_mul _ _).symm
theorem w_ml {k S : Nat} : (OfNat.ofNat k : Int32) * Int32.ofNat S = Int32.ofNat ((OfNat.ofNat k : Nat) * S) := (Int32.ofNat_mul _ _).symm
theorem w_mr {k S : Nat} : Int32.ofNat S * (OfNat.ofNat k : Int32) = Int32.ofNat (S * (OfNat.ofNat k : Nat)) := (Int32.ofNat_mul _ _).symm
theorem w_ss {a b : Nat} (h : b ≤ a) : Int32.ofNat a - Int32.ofNat b = Int32.ofNat (a - b) := by
  have : Int32.ofNat a = Int32.ofNat (a - b) + Int32.ofNat b := by rw [w_aa]; congr 1; omega
  rw [this, Int32.add_sub_cancel]
theorem w_sr {k S : Nat} (h : (OfNat.ofNat k : Nat) ≤ S) : Int32.ofNat S - (OfNat.ofNat k : Int32) = Int32.ofNat (S - (OfNat.ofNat k : Nat)) := w_ss h
theorem w_inn {a n : Nat} (h : a < 2147483648) : z_inb (Int32.ofNat a) n = true ↔ a < n := by
  unfold z_inb
  rw [Bool.and_eq_true, w_tn h, decide_eq_true_eq]
  refine ⟨fun q => q.2, fun q => ⟨?_, q⟩⟩
  rw [Bool.not_eq_true', decide_eq_false_iff_not]
  intro hc
  have := Int32.lt_iff_toInt_lt.mp hc
  rw [w_ti h, show (0 : Int32).toInt = 0 from rfl] at this
  omega
theorem w_nat {i : Int32} (h : 0 ≤ i) : ∃ a : Nat, a < 2147483648 ∧ i = Int32.ofNat a := by
  have h1 := Int32.le_iff_toInt_le.mp h
  have h2 := Int32.toInt_lt i
  rw [show (0 : Int32).toInt = 0 from rfl] at h1
  refine ⟨i.toInt.toNat, by omega, ?_⟩
  rw [← Int32.toInt_inj, w_ti (by omega)]
  omega
theorem w_rdn {μ : z_Mem} {a n j : Nat} (hj : j < 2147483648) (h : j < n) : z_rd μ a n (Int32.ofNat j) = some (μ a j) := by
  unfold z_rd
  rw [if_pos ((w_inn hj).mpr h), w_tn hj]
theorem w_n0 {S : Nat} (h : S < 2147483648) : ¬ Int32.ofNat S < 0 := by
  intro hc
  have := Int32.lt_iff_toInt_lt.mp hc
  rw [w_ti h, show (0 : Int32).toInt = 0 from rfl] at this
  omega
theorem w_nneg {S k : Nat} (h : S < 2147483648) (hk : 0 < (OfNat.ofNat k : Nat)) (hk2 : (OfNat.ofNat k : Nat) < 2147483648) : ¬ Int32.ofNat S = -(OfNat.ofNat k : Int32) := by
  intro hc
  have h1 := congrArg Int32.toInt hc
  have h2 : (OfNat.ofNat k : Int32).toInt = ((OfNat.ofNat k : Nat) : Int) := w_ti hk2
  rw [w_ti h, Int32.toInt_neg, h2] at h1
  generalize (OfNat.ofNat k : Nat) = m at h1 hk hk2
  rw [Int.bmod_eq_of_le (by omega) (by omega)] at h1
  omega
end ZNUM
/-! Class and reference: the same state in two forms. -/
section ZREL
/-- a class's state, its rows by their place behind the state's own row -/
abbrev w_Cl : Type := Nat → Nat → Int32
def w_sz : Nat → Nat
  | 1 => 3 | 2 => 10 | 3 => 10 | 4 => 9 | 5 => 9 | 6 => 9 | 7 => 9 | 8 => 1 | 9 => 4 | 10 => 4 | 11 => 3 | 12 => 8 | 13 => 8 | 14 => 8 | 15 => 1 | 16 => 6 | 17 => 6 | 18 => 6 | 19 => 60 | _ => 0
def w_same (c c' : w_Cl) : Prop := ∀ k j, j < w_sz k → c k j = c' k j
def w_gsame (g g' : Nat → Int32) : Prop := ∀ j, j < 331 → g j = g' j
def w_pr (a b : Nat) : Nat := if a < b then 10 * a + b else 10 * b + a
def w_A (c : w_Cl) (e : Nat) : Nat := (c 4 e).toNatClampNeg
def w_B (c : w_Cl) (e : Nat) : Nat := (c 5 e).toNatClampNeg
/-- gears -/
def w_RG (c : w_Cl) (g : Nat → Int32) (G : Nat) : Prop :=
  c 1 0 = Int32.ofNat G ∧ g 0 = Int32.ofNat G ∧ G ≤ 10 ∧ (∀ i, i < 10 → c 2 i = g (7 + i)) ∧ (∀ i, i < 10 → c 3 i = g (17 + i)) ∧ (∀ i, i < G → ∃ t, 8 ≤ t ∧ t ≤ 60 ∧ g (7 + i) = Int32.ofNat t) ∧ (∀ i, G ≤ i → i < 10 → g (17 + i) = 0) ∧ c 1 2 = g 6
/-- one mesh -/
def w_Rm (c : w_Cl) (g : Nat → Int32) (G e : Nat) : Prop :=
  w_A c e < G ∧ w_B c e < G ∧ w_A c e ≠ w_B c e ∧ c 4 e = Int32.ofNat (w_A c e) ∧ c 5 e = Int32.ofNat (w_B c e) ∧ ∃ s p, p ≤ s ∧ s ≤ 5 ∧ c 6 e = Int32.ofNat s ∧ c 7 e = Int32.ofNat p ∧ g (27 + w_pr (w_A c e) (w_B c e)) = Int32.ofNat (s + 1) ∧ g (127 + w_pr (w_A c e) (w_B c e)) = Int32.ofNat p
/-- meshes -/
def w_RM (c : w_Cl) (g : Nat → Int32) (G M : Nat) : Prop :=
  c 1 1 = Int32.ofNat M ∧ M ≤ 9 ∧ (∀ e, e < M → w_Rm c g G e) ∧ (∀ e f, e < M → f < M → w_pr (w_A c e) (w_B c e) = w_pr (w_A c f) (w_B c f) → e = f) ∧ ∀ a b, a < b → b < 10 → g (27 + w_pr a b) = 0 ∨ ∃ e, e < M ∧ w_pr (w_A c e) (w_B c e) = w_pr a b
/-- mesh e joins u and v -/
def w_J (c : w_Cl) (e u v : Nat) : Prop := (w_A c e = u ∧ w_B c e = v) ∨ (w_A c e = v ∧ w_B c e = u)
/-- a walk of n meshes out of those that S holds -/
def w_walk (J : Nat → Nat → Nat → Prop) (S : Nat → Prop) : Nat → Nat → Nat → Prop
  | 0, u, v => u = v
  | n + 1, u, v => ∃ e w, S e ∧ J e u w ∧ w_walk J S n w v
def w_conn (J : Nat → Nat → Nat → Prop) (S : Nat → Prop) (u v : Nat) : Prop := ∃ n, w_walk J S n u v
/-- no mesh closes a ring -/
def w_RF (c : w_Cl) (M : Nat) : Prop := ∀ e, e < M → ¬ w_conn (w_J c) (fun f => f < M ∧ f ≠ e) (w_A c e) (w_B c e)
/-- wheels -/
def w_RW (c : w_Cl) (g : Nat → Int32) (G W : Nat) : Prop :=
  c 8 0 = Int32.ofNat W ∧ g 1 = Int32.ofNat W ∧ W ≤ 4 ∧ ∀ w, w < W → c 9 w = g (227 + w) ∧ c 10 w = g (231 + w) ∧ (∃ u, u < G ∧ g (227 + w) = Int32.ofNat u) ∧ ∃ k, 3 ≤ k ∧ k ≤ 12 ∧ g (231 + w) = Int32.ofNat k
/-- stars -/
def w_RY (c : w_Cl) (g : Nat → Int32) (S : Nat) : Prop :=
  c 11 0 = Int32.ofNat S ∧ g 2 = Int32.ofNat S ∧ S ≤ 8 ∧ c 11 1 = g 3 ∧ c 11 2 = g 5 ∧ ∀ p, p < S → c 12 p = g (235 + p) ∧ c 13 p = g (243 + p) ∧ c 14 p = g (251 + p) ∧ (∃ d, d < 3600 ∧ g (243 + p) = Int32.ofNat d) ∧ -50 ≤ g (251 + p) ∧ g (251 + p) ≤ 50
/-- class's entry p is the reference's entry q -/
def w_Re (c : w_Cl) (g : Nat → Int32) (p q : Nat) : Prop :=
  g (259 + q) = 10 * c 16 p + c 17 p ∧ g (265 + q) = c 18 p ∧ ∀ i, i < 10 → g (271 + 10 * q + i) = c 19 (10 * p + i)
/-- entries -/
def w_RE (c : w_Cl) (g : Nat → Int32) (E : Nat) : Prop :=
  c 15 0 = Int32.ofNat E ∧ g 4 = Int32.ofNat E ∧ E ≤ 6 ∧ (∀ p, p < E → ∃ l d h, 97 ≤ l ∧ l ≤ 122 ∧ d ≤ 9 ∧ h ≤ 10 ∧ c 16 p = Int32.ofNat l ∧ c 17 p = Int32.ofNat d ∧ c 18 p = Int32.ofNat h) ∧ (∀ p, p < E → ∃ q, q < E ∧ w_Re c g p q) ∧ (∀ q, q < E → ∃ p, p < E ∧ w_Re c g p q) ∧ (∀ p q, p < E → q < E → c 16 p = c 16 q → c 17 p = c 17 q → p = q) ∧ ∀ p q, p < E → q < E → g (259 + p) = g (259 + q) → p = q
def w_PB (n : Nat) (g : Nat → Int32) : Prop := (∀ i, i < 10 → -(n : Int) ≤ (g (17 + i)).toInt ∧ (g (17 + i)).toInt ≤ (n : Int)) ∧ (0 ≤ (g 3).toInt ∧ (g 3).toInt ≤ (n : Int)) ∧ 0 ≤ (g 5).toInt ∧ (g 5).toInt ≤ (n : Int)
def w_RelN (n : Nat) (c : w_Cl) (g : Nat → Int32) (G M W S E : Nat) : Prop := w_RG c g G ∧ w_RM c g G M ∧ w_RF c M ∧ w_RW c g G W ∧ w_RY c g S ∧ w_RE c g E ∧ w_PB n g
def w_Rel (n : Nat) (c : w_Cl) (g : Nat → Int32) : Prop := ∃ G M W S E, w_RelN n c g G M W S E
theorem w_walk_mono {J J' : Nat → Nat → Nat → Prop} {S S' : Nat → Prop} (h : ∀ e u v, S e → J e u v → S' e ∧ J' e u v) : ∀ {n u v}, w_walk J S n u v → w_walk J' S' n u v := by
  intro n
  induction n with
  | zero => intro u v h; exact h
  | succ n ih =>
    intro u v hw
    obtain ⟨e, w, h1, h2, h3⟩ := hw
    obtain ⟨h4, h5⟩ := h e u w h1 h2
    exact ⟨e, w, h4, h5, ih h3⟩
theorem w_conn_mono {J J' : Nat → Nat → Nat → Prop} {S S' : Nat → Prop} (h : ∀ e u v, S e → J e u v → S' e ∧ J' e u v) {u v : Nat} (hc : w_conn J S u v) : w_conn J' S' u v := by
  obtain ⟨n, hn⟩ := hc
  exact ⟨n, w_walk_mono h hn⟩
section
variable {n : Nat} {c c' : w_Cl} {g g' : Nat → Int32} {G M W S E : Nat}
theorem w_AB_same (h : w_same c c') {e : Nat} (he : e < 9) : w_A c' e = w_A c e ∧ w_B c' e = w_B c e := ⟨by unfold w_A; rw [h 4 e he], by unfold w_B; rw [h 5 e he]⟩
theorem w_RG_same (h : w_same c c') (hg : w_gsame g g') (H : w_RG c g G) : w_RG c' g' G := by
  obtain ⟨h1, h2, h3, h4, h5, h6, h7, h8⟩ := H
  refine ⟨?_, ?_, h3, fun i hi => ?_, fun i hi => ?_, fun i hi => ?_, fun i h1 hi => ?_, ?_⟩
  · rw [← h 1 0 (by decide)]; exact h1
  · rw [← hg 0 (by decide)]; exact h2
  · rw [← h 2 i hi, ← hg _ (by omega)]; exact h4 i hi
  · rw [← h 3 i hi, ← hg _ (by omega)]; exact h5 i hi
  · rw [← hg _ (by omega)]; exact h6 i hi
  · rw [← hg _ (by omega)]; exact h7 i h1 hi
  · rw [← h 1 2 (by decide), ← hg 6 (by decide)]; exact h8
theorem w_pr_lt {a b : Nat} (ha : a < 10) (hb : b < 10) : w_pr a b < 100 := by unfold w_pr; split <;> omega
theorem w_Rm_same (h : w_same c c') (hg : w_gsame g g') (hG : G ≤ 10) {e : Nat} (he : e < 9) (H : w_Rm c g G e) : w_Rm c' g' G e := by
  obtain ⟨eA, eB⟩ := w_AB_same h he
  obtain ⟨h1, h2, h3, h4, h5, s, p, h6, h7, h8, h9, h10, h11⟩ := H
  have hp := w_pr_lt (a := w_A c e) (b := w_B c e) (by omega) (by omega)
  unfold w_Rm
  rw [eA, eB, ← h 4 e he, ← h 5 e he, ← h 6 e he, ← h 7 e he, ← hg (27 + _) (by omega), ← hg (127 + _) (by omega)]
  exact ⟨h1, h2, h3, h4, h5, s, p, h6, h7, h8, h9, h10, h11⟩
theorem w_RM_same (h : w_same c c') (hg : w_gsame g g') (hG : G ≤ 10) (H : w_RM c g G M) : w_RM c' g' G M := by
  obtain ⟨h1, h2, h3, h4, h5⟩ := H
  refine ⟨?_, h2, fun e he => w_Rm_same h hg hG (by omega) (h3 e he), fun e f he hf hp => h4 e f he hf ?_, fun a b hab hb => ?_⟩
  · rw [← h 1 1 (by decide)]; exact h1
  · rw [(w_AB_same h (show e < 9 by omega)).1, (w_AB_same h (show e < 9 by omega)).2, (w_AB_same h (show f < 9 by omega)).1, (w_AB_same h (show f < 9 by omega)).2] at hp
    exact hp
  · rw [← hg _ (by have := w_pr_lt (a := a) (b := b) (by omega) hb; omega)]
    rcases h5 a b hab hb with h6 | ⟨e, he, h6⟩
    · exact Or.inl h6
    · refine Or.inr ⟨e, he, ?_⟩
      rw [(w_AB_same h (show e < 9 by omega)).1, (w_AB_same h (show e < 9 by omega)).2]
      exact h6
theorem w_J_same (h : w_same c c') {e u v : Nat} (he : e < 9) (H : w_J c e u v) : w_J c' e u v := by
  unfold w_J
  rw [(w_AB_same h he).1, (w_AB_same h he).2]
  exact H
theorem w_same_symm (h : w_same c c') : w_same c' c := fun k j hj => (h k j hj).symm
theorem w_RF_same (h : w_same c c') (hM : M ≤ 9) (H : w_RF c M) : w_RF c' M := by
  intro e he hc
  rw [(w_AB_same h (show e < 9 by omega)).1, (w_AB_same h (show e < 9 by omega)).2] at hc
  refine H e he (w_conn_mono (fun f u v hf hj => ⟨hf, ?_⟩) hc)
  exact w_J_same (w_same_symm h) (by omega) hj
theorem w_RW_same (h : w_same c c') (hg : w_gsame g g') (H : w_RW c g G W) : w_RW c' g' G W := by
  obtain ⟨h1, h2, h3, h4⟩ := H
  refine ⟨?_, ?_, h3, fun w hw => ?_⟩
  · rw [← h 8 0 (by decide)]; exact h1
  · rw [← hg 1 (by decide)]; exact h2
  · rw [← h 9 w (show w < 4 by omega), ← h 10 w (show w < 4 by omega), ← hg (227 + w) (by omega), ← hg (231 + w) (by omega)]
    exact h4 w hw
theorem w_RY_same (h : w_same c c') (hg : w_gsame g g') (H : w_RY c g S) : w_RY c' g' S := by
  obtain ⟨h1, h2, h3, h4, h5, h6⟩ := H
  refine ⟨?_, ?_, h3, ?_, ?_, fun p hp => ?_⟩
  · rw [← h 11 0 (by decide)]; exact h1
  · rw [← hg 2 (by decide)]; exact h2
  · rw [← h 11 1 (by decide), ← hg 3 (by decide)]; exact h4
  · rw [← h 11 2 (by decide), ← hg 5 (by decide)]; exact h5
  · rw [← h 12 p (show p < 8 by omega), ← h 13 p (show p < 8 by omega), ← h 14 p (show p < 8 by omega), ← hg (235 + p) (by omega), ← hg (243 + p) (by omega), ← hg (251 + p) (by omega)]
    exact h6 p hp
theorem w_Re_same (h : w_same c c') (hg : w_gsame g g') {p q : Nat} (hp : p < 6) (hq : q < 6) (H : w_Re c g p q) : w_Re c' g' p q := by
  obtain ⟨h1, h2, h3⟩ := H
  refine ⟨?_, ?_, fun i hi => ?_⟩
  · rw [← hg (259 + q) (by omega), ← h 16 p hp, ← h 17 p hp]; exact h1
  · rw [← hg (265 + q) (by omega), ← h 18 p hp]; exact h2
  · rw [← hg _ (by omega), ← h 19 _ (show 10 * p + i < 60 by omega)]; exact h3 i hi
theorem w_RE_same (h : w_same c c') (hg : w_gsame g g') (H : w_RE c g E) : w_RE c' g' E := by
  obtain ⟨h1, h2, h3, h4, h5, h6, h7, h8⟩ := H
  refine ⟨?_, ?_, h3, fun p hp => ?_, fun p hp => ?_, fun q hq => ?_, fun p q hp hq e1 e2 => ?_, fun p q hp hq e1 => ?_⟩
  · rw [← h 15 0 (by decide)]; exact h1
  · rw [← hg 4 (by decide)]; exact h2
  · rw [← h 16 p (show p < 6 by omega), ← h 17 p (show p < 6 by omega), ← h 18 p (show p < 6 by omega)]; exact h4 p hp
  · obtain ⟨q, hq, hr⟩ := h5 p hp
    exact ⟨q, hq, w_Re_same h hg (by omega) (by omega) hr⟩
  · obtain ⟨p, hp, hr⟩ := h6 q hq
    exact ⟨p, hp, w_Re_same h hg (by omega) (by omega) hr⟩
  · rw [← h 16 p (show p < 6 by omega), ← h 16 q (show q < 6 by omega)] at e1
    rw [← h 17 p (show p < 6 by omega), ← h 17 q (show q < 6 by omega)] at e2
    exact h7 p q hp hq e1 e2
  · rw [← hg _ (by omega), ← hg _ (by omega)] at e1
    exact h8 p q hp hq e1
theorem w_PB_same (hg : w_gsame g g') (H : w_PB n g) : w_PB n g' := ⟨fun i hi => by rw [← hg _ (by omega)]; exact H.1 i hi, by rw [← hg 3 (by decide)]; exact H.2.1, by rw [← hg 5 (by decide)]; exact H.2.2⟩
theorem w_RelN_same (h : w_same c c') (hg : w_gsame g g') (H : w_RelN n c g G M W S E) : w_RelN n c' g' G M W S E := by
  obtain ⟨h1, h2, h3, h4, h5, h6, h7⟩ := H
  exact ⟨w_RG_same h hg h1, w_RM_same h hg h1.2.2.1 h2, w_RF_same h h2.2.1 h3, w_RW_same h hg h4, w_RY_same h hg h5, w_RE_same h hg h6, w_PB_same hg h7⟩
theorem w_Rel_same (h : w_same c c') (hg : w_gsame g g') (H : w_Rel n c g) : w_Rel n c' g' := by
  obtain ⟨G, M, W, S, E, H⟩ := H
  exact ⟨G, M, W, S, E, w_RelN_same h hg H⟩
theorem w_RelN_up {m : Nat} (hm : n ≤ m) (H : w_RelN n c g G M W S E) : w_RelN m c g G M W S E := by
  obtain ⟨h1, h2, h3, h4, h5, h6, h7⟩ := H
  exact ⟨h1, h2, h3, h4, h5, h6, ⟨fun i hi => ⟨by have := (h7.1 i hi).1; omega, by have := (h7.1 i hi).2; omega⟩, ⟨h7.2.1.1, by have := h7.2.1.2; omega⟩, h7.2.2.1, by have := h7.2.2.2; omega⟩⟩
theorem w_Rel_up {m : Nat} (hm : n ≤ m) (H : w_Rel n c g) : w_Rel m c g := by
  obtain ⟨G, M, W, S, E, h1, h2, h3, h4, h5, h6, h7⟩ := H
  exact ⟨G, M, W, S, E, h1, h2, h3, h4, h5, h6, ⟨fun i hi => ⟨by have := (h7.1 i hi).1; omega, by have := (h7.1 i hi).2; omega⟩, ⟨h7.2.1.1, by have := h7.2.1.2; omega⟩, h7.2.2.1, by have := h7.2.2.2; omega⟩⟩
end
end ZREL
