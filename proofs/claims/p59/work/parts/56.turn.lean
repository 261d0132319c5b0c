/-! Turning a gear: what each gear and each gap becomes, and the class's walk. -/
section ZTUR
def w_min (a b : Int32) : Int32 := if b < a then b else a
def w_abs (a : Int32) : Int32 := if 0 ≤ a then a else -a
/-- what a mesh with the gap p and the slack s passes on of t teeth, and its gap then -/
def w_ps (t p s : Int32) : Int32 := if t ≤ 0 then -(t + w_min (-t) (s - p)) else -(t - w_min t p)
def w_ng (t p s : Int32) : Int32 := if t ≤ 0 then p + w_min (-t) (s - p) else p - w_min t p
def w_tv (gp sl : Nat → Nat → Int32) (b : Int32) : List Nat → Int32
  | [] => 0
  | [_] => b
  | x :: y :: l => w_ps (w_tv gp sl b (y :: l)) (gp x y) (sl x y)
/-- gaps and slacks are small -/
def w_gs (E : Nat → Nat → Prop) (gp sl : Nat → Nat → Int32) : Prop := ∀ x y, E x y → ∃ s p, p ≤ s ∧ s ≤ 5 ∧ sl x y = Int32.ofNat s ∧ gp x y = Int32.ofNat p
theorem w_iadd {a b : Int32} (h1 : -2147483648 ≤ a.toInt + b.toInt) (h2 : a.toInt + b.toInt < 2147483648) : (a + b).toInt = a.toInt + b.toInt := by
  rw [Int32.toInt_add]; exact Int.bmod_eq_of_le (by omega) (by omega)
theorem w_isub {a b : Int32} (h1 : -2147483648 ≤ a.toInt - b.toInt) (h2 : a.toInt - b.toInt < 2147483648) : (a - b).toInt = a.toInt - b.toInt := by
  rw [Int32.toInt_sub]; exact Int.bmod_eq_of_le (by omega) (by omega)
theorem w_ineg {a : Int32} (h1 : -2147483648 < a.toInt) : (-a).toInt = -a.toInt := by
  have := Int32.toInt_lt a
  rw [Int32.toInt_neg]; exact Int.bmod_eq_of_le (by omega) (by omega)
theorem w_imul {a b : Int32} (h1 : -2147483648 ≤ a.toInt * b.toInt) (h2 : a.toInt * b.toInt < 2147483648) : (a * b).toInt = a.toInt * b.toInt := by
  rw [Int32.toInt_mul]; exact Int.bmod_eq_of_le (by omega) (by omega)
theorem w_imin {a b : Int32} : (w_min a b).toInt = if b.toInt < a.toInt then b.toInt else a.toInt := by
  unfold w_min
  by_cases h : b < a
  · rw [if_pos h, if_pos (Int32.lt_iff_toInt_lt.mp h)]
  · rw [if_neg h, if_neg (fun q => h (Int32.lt_iff_toInt_lt.mpr q))]
theorem w_i0 : (0 : Int32).toInt = 0 := rfl
theorem w_ps_bd {t : Int32} {p s : Nat} {B : Int} (hB : B ≤ 1000000) (h1 : -B ≤ t.toInt) (h2 : t.toInt ≤ B) (hp : p ≤ s) (hs : s ≤ 5) : -B ≤ (w_ps t (Int32.ofNat p) (Int32.ofNat s)).toInt ∧ (w_ps t (Int32.ofNat p) (Int32.ofNat s)).toInt ≤ B ∧ ∃ q, q ≤ s ∧ w_ng t (Int32.ofNat p) (Int32.ofNat s) = Int32.ofNat q := by
  have ep := w_ti (a := p) (by omega)
  unfold w_ps w_ng
  rw [w_ss hp]
  have es := w_ti (a := s - p) (by omega)
  by_cases h : t ≤ 0
  · have h0 := Int32.le_iff_toInt_le.mp h
    rw [w_i0] at h0
    have en := w_ineg (a := t) (by omega)
    have em := w_imin (a := -t) (b := Int32.ofNat (s - p))
    rw [en, es] at em
    have hm : 0 ≤ (w_min (-t) (Int32.ofNat (s - p))).toInt ∧ (w_min (-t) (Int32.ofNat (s - p))).toInt ≤ -t.toInt ∧ (w_min (-t) (Int32.ofNat (s - p))).toInt ≤ ((s - p : Nat) : Int) := by
      rw [em]; split <;> omega
    generalize w_min (-t) (Int32.ofNat (s - p)) = m at hm
    rw [if_pos h, if_pos h]
    have ea := w_iadd (a := t) (b := m) (by omega) (by omega)
    have eb := w_ineg (a := t + m) (by omega)
    refine ⟨by omega, by omega, p + m.toInt.toNat, by omega, ?_⟩
    rw [← Int32.toInt_inj, w_iadd (by omega) (by omega), ep, w_ti (by omega)]
    omega
  · have h0 : 0 < t.toInt := by
      have := Int32.not_le.mp h
      have := Int32.lt_iff_toInt_lt.mp this
      rwa [w_i0] at this
    have em := w_imin (a := t) (b := Int32.ofNat p)
    rw [ep] at em
    have hm : 0 ≤ (w_min t (Int32.ofNat p)).toInt ∧ (w_min t (Int32.ofNat p)).toInt ≤ t.toInt ∧ (w_min t (Int32.ofNat p)).toInt ≤ (p : Int) := by
      rw [em]; split <;> omega
    generalize w_min t (Int32.ofNat p) = m at hm
    rw [if_neg h, if_neg h]
    have ea := w_isub (a := t) (b := m) (by omega) (by omega)
    have eb := w_ineg (a := t - m) (by omega)
    refine ⟨by omega, by omega, p - m.toInt.toNat, by omega, ?_⟩
    rw [← Int32.toInt_inj, w_isub (by omega) (by omega), ep, w_ti (by omega)]
    omega
theorem w_ps_0 {p s : Nat} (hp : p ≤ s) (hs : s ≤ 5) : w_ps 0 (Int32.ofNat p) (Int32.ofNat s) = 0 ∧ w_ng 0 (Int32.ofNat p) (Int32.ofNat s) = Int32.ofNat p := by
  have e : w_min (-(0 : Int32)) (Int32.ofNat s - Int32.ofNat p) = 0 := by
    unfold w_min
    rw [w_ss hp, if_neg (show ¬ Int32.ofNat (s - p) < -0 from fun q => w_n0 (S := s - p) (by omega) q)]
    rfl
  unfold w_ps w_ng
  rw [if_pos (Int32.le_refl _), if_pos (Int32.le_refl _), e]
  exact ⟨rfl, Int32.add_zero _⟩
section
variable {E : Nat → Nat → Prop} {gp sl : Nat → Nat → Int32} {b : Int32} {r : Nat}
theorem w_tv_bd {B : Int} (hB : B ≤ 1000000) (hg : w_gs E gp sl) (h1 : -B ≤ b.toInt) (h2 : b.toInt ≤ B) : ∀ {l : List Nat}, w_pt E r l → -B ≤ (w_tv gp sl b l).toInt ∧ (w_tv gp sl b l).toInt ≤ B := by
  intro l
  induction l with
  | nil => intro h; exact h.elim
  | cons x l ih =>
    intro h
    cases l with
    | nil => exact ⟨h1, h2⟩
    | cons y l =>
      obtain ⟨i1, i2⟩ := ih h.2.2
      obtain ⟨s, p, g1, g2, g3, g4⟩ := hg x y h.1
      show -B ≤ (w_ps _ (gp x y) (sl x y)).toInt ∧ (w_ps _ (gp x y) (sl x y)).toInt ≤ B
      rw [g3, g4]
      have := w_ps_bd hB i1 i2 g1 g2
      exact ⟨this.1, this.2.1⟩
theorem w_tv_0 (hg : w_gs E gp sl) {l : List Nat} (h0 : w_tv gp sl b l = 0) (hl : l ≠ []) : ∀ {m : List Nat}, w_pt E r (m ++ l) → w_tv gp sl b (m ++ l) = 0 := by
  intro m
  induction m with
  | nil => intro _; exact h0
  | cons a m ih =>
    intro h
    cases hm : m ++ l with
    | nil => exact absurd (List.append_eq_nil_iff.mp hm).2 hl
    | cons y t =>
      rw [List.cons_append, hm] at h
      have h2 := ih (by rw [hm]; exact h.2.2)
      rw [hm] at h2
      rw [List.cons_append, hm]
      obtain ⟨s, p, g1, g2, g3, g4⟩ := hg a y h.1
      show w_ps (w_tv gp sl b (y :: t)) (gp a y) (sl a y) = 0
      rw [h2, g3, g4]
      exact (w_ps_0 g1 g2).1
theorem w_not_both (hu : w_uni E) {x y : Nat} {l l2 : List Nat} (h : w_pt E r (x :: y :: l)) (h2 : w_pt E r (y :: x :: l2)) : False := by
  have h3 := hu r y l (x :: l2) h.2.2 h2
  subst h3
  exact h.2.1 (List.mem_cons_of_mem _ List.mem_cons_self)
/-- gears of D have turned, gaps above gears of P have been taken -/
def w_TQ (E : Nat → Nat → Prop) (r : Nat) (gp sl : Nat → Nat → Int32) (b : Int32) (pos0 : Nat → Int32) (D P : Nat → Prop) (pos : Nat → Int32) (gap : Nat → Nat → Int32) : Prop :=
  (∀ v l, w_pt E r (v :: l) → D v → pos v = pos0 v + w_tv gp sl b (v :: l)) ∧
  (∀ v, v < 10 → ¬ (D v ∧ ∃ l, w_pt E r (v :: l)) → pos v = pos0 v) ∧
  (∀ x y l, w_pt E r (x :: y :: l) → P x → gap x y = w_ng (w_tv gp sl b (y :: l)) (gp x y) (sl x y)) ∧
  ∀ x y, E x y → ¬ (P x ∧ ∃ l, w_pt E r (x :: y :: l)) → ¬ (P y ∧ ∃ l, w_pt E r (y :: x :: l)) → gap x y = gp x y
theorem w_TQ_zero {pos0 pos : Nat → Int32} {gap : Nat → Nat → Int32} {D P : Nat → Prop} (hu : w_uni E) (hg : w_gs E gp sl) (hE : ∀ v l, w_pt E r (v :: l) → v < 10) (Q : w_TQ E r gp sl b pos0 D P pos gap) {x : Nat} {l : List Nat} (hp : w_pt E r (x :: l)) (h0 : w_tv gp sl b (x :: l) = 0) (hP : P x ∨ l = []) :
    w_TQ E r gp sl b pos0 (fun w => D w ∨ w_sub E r (x :: l) w) (fun w => P w ∨ w_sub E r (x :: l) w) pos gap := by
  obtain ⟨q1, q2, q3, q4⟩ := Q
  have hz : ∀ w l', w_pt E r (w :: l') → w_sub E r (x :: l) w → w_tv gp sl b (w :: l') = 0 := by
    rintro w l' h1 ⟨l2, h2, m, h3⟩
    have := hu r w l' l2 h1 h2
    subst this
    rw [← h3] at h1 ⊢
    exact w_tv_0 hg h0 (List.cons_ne_nil _ _) h1
  refine ⟨fun v l' h1 h2 => ?_, fun v hv h2 => q2 v hv (fun h3 => h2 ⟨Or.inl h3.1, h3.2⟩), fun a y l' h1 h2 => ?_, fun a y h1 h2 h3 => q4 a y h1 (fun h4 => h2 ⟨Or.inl h4.1, h4.2⟩) (fun h4 => h3 ⟨Or.inl h4.1, h4.2⟩)⟩
  · by_cases hD : D v
    · exact q1 v l' h1 hD
    · rcases h2 with h2 | h2
      · exact absurd h2 hD
      · rw [hz v l' h1 h2, Int32.add_zero]
        exact q2 v (hE v l' h1) (fun h3 => hD h3.1)
  · by_cases hPa : P a
    · exact q3 a y l' h1 hPa
    · rcases h2 with h2 | h2
      · exact absurd h2 hPa
      · obtain ⟨l2, h3, m, h4⟩ := h2
        have := hu r a (y :: l') l2 h1 h3
        subst this
        cases m with
        | nil =>
          obtain ⟨h5, h6⟩ := List.cons.inj h4
          subst h5
          rcases hP with hP | hP
          · exact absurd hP hPa
          · rw [hP] at h6; cases h6
        | cons a' m =>
          obtain ⟨h5, h6⟩ := List.cons.inj h4
          have h7 : w_sub E r (x :: l) y := ⟨l', h1.2.2, m, h6⟩
          obtain ⟨s, p, g1, g2, g3, g4⟩ := hg a y h1.1
          rw [hz y l' h1.2.2 h7, g3, g4, (w_ps_0 g1 g2).2, ← g4]
          exact q4 a y h1.1 (fun h8 => hPa h8.1) (fun ⟨_, l3, h8⟩ => w_not_both hu h1 h8)
theorem w_TQ_cong {pos0 pos : Nat → Int32} {gap : Nat → Nat → Int32} {D P D' P' : Nat → Prop} (hD : ∀ w, D w ↔ D' w) (hP : ∀ w, P w ↔ P' w) (Q : w_TQ E r gp sl b pos0 D P pos gap) : w_TQ E r gp sl b pos0 D' P' pos gap := by
  have e1 : D = D' := funext fun w => propext (hD w)
  have e2 : P = P' := funext fun w => propext (hP w)
  subst e1 e2
  exact Q
/-- the root's own gap does not exist -/
theorem w_TQ_root {pos0 pos : Nat → Int32} {gap : Nat → Nat → Int32} {D P : Nat → Prop} (hu : w_uni E) {x : Nat} {l : List Nat} (hp : w_pt E r (x :: l)) (hP : P x ∨ l = []) (Q : w_TQ E r gp sl b pos0 D P pos gap) : w_TQ E r gp sl b pos0 D (fun w => P w ∨ w = x) pos gap := by
  obtain ⟨q1, q2, q3, q4⟩ := Q
  refine ⟨q1, q2, fun a y l' h1 h2 => ?_, fun a y h1 h2 h3 => q4 a y h1 (fun h4 => h2 ⟨Or.inl h4.1, h4.2⟩) (fun h4 => h3 ⟨Or.inl h4.1, h4.2⟩)⟩
  rcases h2 with h2 | rfl
  · exact q3 a y l' h1 h2
  · rcases hP with hP | rfl
    · exact q3 a y l' h1 hP
    · have := hu r a _ _ h1 hp
      cases this
/-- one gear turns -/
theorem w_TQ_pos {pos0 pos : Nat → Int32} {gap : Nat → Nat → Int32} {D P : Nat → Prop} (hu : w_uni E) (Q : w_TQ E r gp sl b pos0 D P pos gap) {x : Nat} {l : List Nat} (hp : w_pt E r (x :: l)) (hx : x < 10) (hD : ¬ D x) : w_TQ E r gp sl b pos0 (fun w => D w ∨ w = x) P (upd pos x (pos x + w_tv gp sl b (x :: l))) gap := by
  obtain ⟨q1, q2, q3, q4⟩ := Q
  have hx0 := q2 x hx (fun h => hD h.1)
  refine ⟨fun v l' h1 h2 => ?_, fun v hv h2 => ?_, q3, q4⟩
  · unfold upd
    by_cases hv : v = x
    · subst hv
      rw [if_pos rfl, hx0, hu r v l' l h1 hp]
    · rw [if_neg hv]
      exact q1 v l' h1 (h2.resolve_right hv)
  · unfold upd
    by_cases hv' : v = x
    · subst hv'
      exact absurd ⟨Or.inr rfl, l, hp⟩ h2
    · rw [if_neg hv']
      exact q2 v hv (fun h3 => h2 ⟨Or.inl h3.1, h3.2⟩)
/-- one gap is taken -/
theorem w_TQ_gap {pos0 pos : Nat → Int32} {gap gap' : Nat → Nat → Int32} {D P : Nat → Prop} (hu : w_uni E) (Q : w_TQ E r gp sl b pos0 D P pos gap) {z x : Nat} {l : List Nat} (hp : w_pt E r (z :: x :: l)) (h1 : gap' z x = w_ng (w_tv gp sl b (x :: l)) (gp z x) (sl z x)) (h2 : ∀ a y, E a y → ¬ (a = z ∧ y = x) → ¬ (a = x ∧ y = z) → gap' a y = gap a y) : w_TQ E r gp sl b pos0 D (fun w => P w ∨ w = z) pos gap' := by
  obtain ⟨q1, q2, q3, q4⟩ := Q
  refine ⟨q1, q2, fun a y l' g1 g2 => ?_, fun a y g1 g2 g3 => ?_⟩
  · by_cases haz : a = z
    · subst haz
      have := hu r a _ _ g1 hp
      cases this
      exact h1
    · rw [h2 a y g1.1 (fun h => haz h.1) (fun h => by
        obtain ⟨rfl, rfl⟩ := h
        exact w_not_both hu g1 hp)]
      exact q3 a y l' g1 (g2.resolve_right haz)
  · rw [h2 a y g1 (fun h => by
      obtain ⟨rfl, rfl⟩ := h
      exact g2 ⟨Or.inr rfl, l, hp⟩) (fun h => by
      obtain ⟨rfl, rfl⟩ := h
      exact g3 ⟨Or.inr rfl, l, hp⟩)]
    exact q4 a y g1 (fun h4 => g2 ⟨Or.inl h4.1, h4.2⟩) (fun h4 => g3 ⟨Or.inl h4.1, h4.2⟩)
theorem w_TQ_gap0 {pos0 pos : Nat → Int32} {gap : Nat → Nat → Int32} {D P : Nat → Prop} (hu : w_uni E) (Q : w_TQ E r gp sl b pos0 D P pos gap) {z x : Nat} {l : List Nat} (hp : w_pt E r (z :: x :: l)) (hP : ¬ P z) : gap z x = gp z x :=
  Q.2.2.2 z x hp.1 (fun h => hP h.1) (fun ⟨_, l3, h8⟩ => w_not_both hu hp h8)
/-- all has turned: the end does not depend on the way -/
theorem w_TQ_eq {pos0 pos pos0' pos' : Nat → Int32} {gap gap' : Nat → Nat → Int32} {D P D' P' : Nat → Prop} (hu : w_uni E) (hg : w_gs E gp sl) (h0 : ∀ v, v < 10 → pos0 v = pos0' v) (Q : w_TQ E r gp sl b pos0 D P pos gap) (Q' : w_TQ E r gp sl b pos0' D' P' pos' gap') (hE : ∀ v l, w_pt E r (v :: l) → v < 10)
    (hD : ∀ v l, w_pt E r (v :: l) → D v ∨ w_tv gp sl b (v :: l) = 0) (hP : ∀ x y l, w_pt E r (x :: y :: l) → P x ∨ w_tv gp sl b (y :: l) = 0)
    (hD' : ∀ v l, w_pt E r (v :: l) → D' v ∨ w_tv gp sl b (v :: l) = 0) (hP' : ∀ x y l, w_pt E r (x :: y :: l) → P' x ∨ w_tv gp sl b (y :: l) = 0) (hsy : ∀ x y, E x y → gap x y = gap y x) (hsy' : ∀ x y, E x y → gap' x y = gap' y x) :
    (∀ v, v < 10 → pos v = pos' v) ∧ ∀ x y, E x y → gap x y = gap' x y := by
  have val : ∀ {pos0 pos : Nat → Int32} {gap : Nat → Nat → Int32} {D P : Nat → Prop}, w_TQ E r gp sl b pos0 D P pos gap → (∀ v l, w_pt E r (v :: l) → D v ∨ w_tv gp sl b (v :: l) = 0) → ∀ v l, w_pt E r (v :: l) → pos v = pos0 v + w_tv gp sl b (v :: l) := by
    intro pos0 pos gap D P Q hD v l hp
    by_cases h : D v
    · exact Q.1 v l hp h
    · rw [(hD v l hp).resolve_left h, Int32.add_zero]
      exact Q.2.1 v (hE v l hp) (fun h2 => h h2.1)
  have gal : ∀ {pos0 pos : Nat → Int32} {gap : Nat → Nat → Int32} {D P : Nat → Prop}, w_TQ E r gp sl b pos0 D P pos gap → (∀ x y l, w_pt E r (x :: y :: l) → P x ∨ w_tv gp sl b (y :: l) = 0) → ∀ x y l, w_pt E r (x :: y :: l) → gap x y = w_ng (w_tv gp sl b (y :: l)) (gp x y) (sl x y) := by
    intro pos0 pos gap D P Q hP x y l hp
    by_cases h : P x
    · exact Q.2.2.1 x y l hp h
    · obtain ⟨s, p, g1, g2, g3, g4⟩ := hg x y hp.1
      rw [(hP x y l hp).resolve_left h, g3, g4, (w_ps_0 g1 g2).2, ← g4]
      exact w_TQ_gap0 hu Q hp h
  refine ⟨fun v hv => ?_, fun x y hxy => ?_⟩
  · by_cases h : ∃ l, w_pt E r (v :: l)
    · obtain ⟨l, hp⟩ := h
      rw [val Q hD v l hp, val Q' hD' v l hp, h0 v hv]
    · rw [Q.2.1 v hv (fun h2 => h h2.2), Q'.2.1 v hv (fun h2 => h h2.2), h0 v hv]
  · by_cases h : ∃ l, w_pt E r (x :: y :: l)
    · obtain ⟨l, hp⟩ := h
      rw [gal Q hP x y l hp, gal Q' hP' x y l hp]
    · by_cases h2 : ∃ l, w_pt E r (y :: x :: l)
      · obtain ⟨l, hp⟩ := h2
        rw [hsy x y hxy, hsy' x y hxy, gal Q hP y x l hp, gal Q' hP' y x l hp]
      · rw [Q.2.2.2 x y hxy (fun h3 => h h3.2) (fun h3 => h2 h3.2), Q'.2.2.2 x y hxy (fun h3 => h h3.2) (fun h3 => h2 h3.2)]
end
/-- sums over the ten gears -/
def w_S (f : Nat → Int32) : Nat → Int32
  | 0 => 0
  | n + 1 => w_S f n + f n
theorem w_S_cong {f f' : Nat → Int32} : ∀ {n : Nat}, (∀ i, i < n → f i = f' i) → w_S f n = w_S f' n := by
  intro n
  induction n with
  | zero => intro _; rfl
  | succ n ih =>
    intro h
    show w_S f n + f n = w_S f' n + f' n
    rw [ih (fun i hi => h i (by omega)), h n (by omega)]
theorem w_S_one {f f' : Nat → Int32} {x : Nat} : ∀ {n : Nat}, x < n → (∀ i, i < n → i ≠ x → f' i = f i) → f x = 0 → w_S f' n = w_S f n + f' x := by
  intro n
  induction n with
  | zero => intro h; omega
  | succ n ih =>
    intro hx h h0
    show w_S f' n + f' n = w_S f n + f n + f' x
    by_cases hxn : x = n
    · subst hxn
      rw [h0, Int32.add_zero, w_S_cong (fun i hi => h i (by omega) (by omega))]
    · rw [ih (by omega) (fun i hi => h i (by omega)) h0, h n (by omega) (fun q => hxn q.symm), Int32.add_assoc, Int32.add_assoc, Int32.add_comm (f' x)]
theorem w_S_0 {n : Nat} : w_S (fun _ => 0) n = 0 := by
  induction n with
  | zero => rfl
  | succ n ih => show w_S _ n + 0 = 0; rw [ih]; rfl
def w_fs (pos0 pos : Nat → Int32) (v : Nat) : Int32 := w_abs (pos v - pos0 v)
def w_fc (pos0 pos : Nat → Int32) (v : Nat) : Int32 := if pos v = pos0 v then 0 else 1
theorem w_fs_0 {pos0 : Nat → Int32} : w_S (w_fs pos0 pos0) 10 = 0 := by
  rw [w_S_cong (f' := fun _ => 0) (fun i _ => by unfold w_fs; rw [Int32.sub_self]; rfl)]
  exact w_S_0
theorem w_fc_0 {pos0 : Nat → Int32} : w_S (w_fc pos0 pos0) 10 = 0 := by
  rw [w_S_cong (f' := fun _ => 0) (fun i _ => by unfold w_fc; rw [if_pos rfl])]
  exact w_S_0
theorem w_fs_one {pos0 pos : Nat → Int32} {x : Nat} {t : Int32} (hx : x < 10) (h : pos x = pos0 x) : w_S (w_fs pos0 (upd pos x (pos x + t))) 10 = w_S (w_fs pos0 pos) 10 + w_abs t := by
  rw [w_S_one (f := w_fs pos0 pos) hx (fun i _ hi => by unfold w_fs upd; rw [if_neg hi]) (by unfold w_fs; rw [h, Int32.sub_self]; rfl)]
  congr 1
  unfold w_fs upd
  rw [if_pos rfl, h, Int32.add_comm, Int32.add_sub_cancel]
theorem w_fc_one {pos0 pos : Nat → Int32} {x : Nat} {t : Int32} (hx : x < 10) (h : pos x = pos0 x) (ht : t ≠ 0) : w_S (w_fc pos0 (upd pos x (pos x + t))) 10 = w_S (w_fc pos0 pos) 10 + 1 := by
  rw [w_S_one (f := w_fc pos0 pos) hx (fun i _ hi => by unfold w_fc upd; rw [if_neg hi]) (by unfold w_fc; rw [if_pos h])]
  congr 1
  unfold w_fc upd
  rw [if_pos rfl, if_neg (fun q => ht ?_)]
  rw [h] at q
  have h2 : pos0 x + t - pos0 x = pos0 x - pos0 x := by rw [q]
  rwa [Int32.add_comm, Int32.add_sub_cancel, Int32.sub_self] at h2
end ZTUR
