/-! Forests: paths as lists, the newest gear first, the root last. -/
section ZFOR
def w_pt (E : Nat → Nat → Prop) (r : Nat) : List Nat → Prop
  | [] => False
  | [x] => x = r
  | x :: y :: l => E x y ∧ ¬ x ∈ y :: l ∧ w_pt E r (y :: l)
theorem w_pt_nd {E : Nat → Nat → Prop} {r : Nat} : ∀ {l : List Nat}, w_pt E r l → l.Nodup := by
  intro l
  induction l with
  | nil => intro h; exact h.elim
  | cons x l ih =>
    intro h
    cases l with
    | nil => exact List.nodup_cons.mpr ⟨List.not_mem_nil, List.nodup_nil⟩
    | cons y l => exact List.nodup_cons.mpr ⟨h.2.1, ih h.2.2⟩
theorem w_pt_r {E : Nat → Nat → Prop} {r : Nat} : ∀ {l : List Nat}, w_pt E r l → r ∈ l := by
  intro l
  induction l with
  | nil => intro h; exact h.elim
  | cons x l ih =>
    intro h
    cases l with
    | nil =>
      have h2 : x = r := h
      subst h2
      exact List.mem_cons_self
    | cons y l => exact List.mem_cons_of_mem _ (ih h.2.2)
theorem w_pt_suf {E : Nat → Nat → Prop} {r x : Nat} {l : List Nat} : ∀ {m : List Nat}, w_pt E r (m ++ x :: l) → w_pt E r (x :: l) := by
  intro m
  induction m with
  | nil => exact id
  | cons a m ih =>
    intro h
    cases m with
    | nil => exact h.2.2
    | cons b m => exact ih h.2.2
theorem w_pt_pre {E : Nat → Nat → Prop} {r w : Nat} {l : List Nat} : ∀ {m : List Nat}, w_pt E r (m ++ w :: l) → w_pt E w (m ++ [w]) := by
  intro m
  induction m with
  | nil => intro _; exact rfl
  | cons a m ih =>
    intro h
    cases m with
    | nil =>
      refine ⟨h.1, fun hc => h.2.1 ?_, rfl⟩
      rw [List.mem_singleton] at hc
      subst hc
      exact List.mem_cons_self
    | cons b m =>
      refine ⟨h.1, fun hc => h.2.1 ?_, ih h.2.2⟩
      simp only [List.mem_cons, List.mem_append, List.not_mem_nil, or_false, List.append_eq, List.cons_append] at hc ⊢
      rcases hc with hc | hc | hc
      · exact Or.inl hc
      · exact Or.inr (Or.inl hc)
      · exact Or.inr (Or.inr (Or.inl hc))
theorem w_pt_lt {E : Nat → Nat → Prop} {r G : Nat} (hE : ∀ u v, E u v → u < G ∧ v < G) (hr : r < G) : ∀ {l : List Nat}, w_pt E r l → ∀ x, x ∈ l → x < G := by
  intro l
  induction l with
  | nil => intro h; exact h.elim
  | cons x l ih =>
    intro h z hz
    cases l with
    | nil =>
      have h2 : x = r := h
      rw [List.mem_singleton] at hz
      omega
    | cons y l =>
      rcases List.mem_cons.mp hz with rfl | hz
      · exact (hE _ _ h.1).1
      · exact ih h.2.2 z hz
theorem w_pt_len {E : Nat → Nat → Prop} {r G : Nat} (hE : ∀ u v, E u v → u < G ∧ v < G) (hr : r < G) {l : List Nat} (h : w_pt E r l) : l.length ≤ G := by
  have h1 := List.Nodup.length_le_of_subset (w_pt_nd h) (l₂ := List.range G) (fun x hx => List.mem_range.mpr (w_pt_lt hE hr h x hx))
  rwa [List.length_range] at h1
/-- paths are unique -/
def w_uni (E : Nat → Nat → Prop) : Prop := ∀ (r x : Nat) (l1 l2 : List Nat), w_pt E r (x :: l1) → w_pt E r (x :: l2) → l1 = l2
theorem w_ext {E : Nat → Nat → Prop} {r x w : Nat} {l : List Nat} (hu : w_uni E) (hs : ∀ u v, E u v → E v u) (hi : ∀ u, ¬ E u u) (h : w_pt E r (x :: l)) (hw : E w x) (hp : l.head? ≠ some w) : ¬ w ∈ x :: l := by
  intro hc
  rcases List.mem_cons.mp hc with rfl | hc
  · exact hi _ hw
  · obtain ⟨m, l2, rfl⟩ := List.append_of_mem hc
    have h1 : w_pt E w ((x :: m) ++ [w]) := w_pt_pre (m := x :: m) h
    have h2 : w_pt E w [x, w] := ⟨hs _ _ hw, fun hc => by
      rw [List.mem_singleton] at hc
      subst hc
      exact hi _ hw, rfl⟩
    have h3 := hu w x (m ++ [w]) [w] h1 h2
    cases m with
    | nil => exact hp rfl
    | cons a m =>
      have := congrArg List.length h3
      simp at this
theorem w_grow {E : Nat → Nat → Prop} {r x w : Nat} {l : List Nat} (h : w_pt E r (x :: l)) (hw : E w x) : ∃ l', w_pt E r (w :: l') := by
  by_cases hc : w ∈ x :: l
  · obtain ⟨m, l2, h2⟩ := List.append_of_mem hc
    rw [h2] at h
    exact ⟨l2, w_pt_suf h⟩
  · exact ⟨x :: l, hw, hc, h⟩
/-- edges as a relation -/
def w_E (J : Nat → Nat → Nat → Prop) (S : Nat → Prop) (u v : Nat) : Prop := ∃ e, S e ∧ J e u v
theorem w_walk_pt {J : Nat → Nat → Nat → Prop} {S : Nat → Prop} : ∀ {n u v : Nat}, w_walk J S n u v → ∃ l, w_pt (w_E J S) v (u :: l) := by
  intro n
  induction n with
  | zero => intro u v h; exact ⟨[], h⟩
  | succ n ih =>
    intro u v h
    obtain ⟨e, w, h1, h2, h3⟩ := h
    obtain ⟨l, hl⟩ := ih h3
    exact w_grow hl ⟨e, h1, h2⟩
theorem w_pt_walk {J : Nat → Nat → Nat → Prop} {S : Nat → Prop} {r : Nat} : ∀ {l : List Nat} {x : Nat}, w_pt (w_E J S) r (x :: l) → w_walk J S l.length x r := by
  intro l
  induction l with
  | nil => intro x h; exact h
  | cons y l ih =>
    intro x h
    obtain ⟨e, h1, h2⟩ := h.1
    exact ⟨e, y, h1, h2, ih h.2.2⟩
theorem w_conn_pt {J : Nat → Nat → Nat → Prop} {S : Nat → Prop} {u v : Nat} : w_conn J S u v ↔ ∃ l, w_pt (w_E J S) v (u :: l) :=
  ⟨fun ⟨_, h⟩ => w_walk_pt h, fun ⟨l, h⟩ => ⟨l.length, w_pt_walk h⟩⟩
theorem w_conn_rfl {J : Nat → Nat → Nat → Prop} {S : Nat → Prop} {u : Nat} : w_conn J S u u := ⟨0, rfl⟩
theorem w_walk_app {J : Nat → Nat → Nat → Prop} {S : Nat → Prop} {m v w : Nat} : ∀ {n u : Nat}, w_walk J S n u v → w_walk J S m v w → w_walk J S (m + n) u w := by
  intro n
  induction n with
  | zero =>
    intro u h h2
    have h3 : u = v := h
    subst h3
    exact h2
  | succ n ih =>
    intro u h h2
    obtain ⟨e, x, h3, h4, h5⟩ := h
    exact ⟨e, x, h3, h4, ih h5 h2⟩
theorem w_conn_trans {J : Nat → Nat → Nat → Prop} {S : Nat → Prop} {u v w : Nat} (h : w_conn J S u v) (h2 : w_conn J S v w) : w_conn J S u w := by
  obtain ⟨n, h⟩ := h
  obtain ⟨m, h2⟩ := h2
  exact ⟨_, w_walk_app h h2⟩
theorem w_conn_one {J : Nat → Nat → Nat → Prop} {S : Nat → Prop} {e u v : Nat} (h : S e) (h2 : J e u v) : w_conn J S u v := ⟨1, e, v, h, h2, rfl⟩
theorem w_conn_symm {J : Nat → Nat → Nat → Prop} {S : Nat → Prop} (hs : ∀ e u v, J e u v → J e v u) {u v : Nat} (h : w_conn J S u v) : w_conn J S v u := by
  obtain ⟨n, h⟩ := h
  induction n generalizing u with
  | zero =>
    have h3 : u = v := h
    subst h3
    exact w_conn_rfl
  | succ n ih =>
    obtain ⟨e, x, h3, h4, h5⟩ := h
    exact w_conn_trans (ih h5) (w_conn_one h3 (hs _ _ _ h4))
theorem w_conn_sub {J : Nat → Nat → Nat → Prop} {S S' : Nat → Prop} (h : ∀ e, S e → S' e) {u v : Nat} (hc : w_conn J S u v) : w_conn J S' u v := w_conn_mono (fun e u v h1 h2 => ⟨h e h1, h2⟩) hc
/-- a mesh has two ends -/
def w_Jd (J : Nat → Nat → Nat → Prop) : Prop := (∀ e u v, J e u v → J e v u) ∧ (∀ e u v, J e u v → u ≠ v) ∧ ∀ e u v a b, J e u v → J e a b → (a = u ∧ b = v) ∨ (a = v ∧ b = u)
theorem w_pt_avoid {J : Nat → Nat → Nat → Prop} {S : Nat → Prop} (hJ : w_Jd J) {r x z e : Nat} (he : J e x z) : ∀ {t : List Nat} {y : Nat}, w_pt (w_E J S) r (y :: t) → ¬ x ∈ y :: t → w_conn J (fun f => S f ∧ f ≠ e) y r := by
  intro t
  induction t with
  | nil =>
    intro y h _
    have h3 : y = r := h
    subst h3
    exact w_conn_rfl
  | cons a t ih =>
    intro y h hx
    obtain ⟨f, h1, h2⟩ := h.1
    have hxy : x ≠ y := fun q => hx (by rw [q]; exact List.mem_cons_self)
    have hxa : x ≠ a := fun q => hx (by rw [q]; exact List.mem_cons_of_mem _ List.mem_cons_self)
    have hf : f ≠ e := by
      intro q
      subst q
      rcases hJ.2.2 _ _ _ _ _ h2 he with ⟨h3, -⟩ | ⟨h3, -⟩
      · exact hxy h3
      · exact hxa h3
    exact w_conn_trans (w_conn_one ⟨h1, hf⟩ h2) (ih h.2.2 (fun q => hx (List.mem_cons_of_mem _ q)))
/-- no ring: a mesh's ends are not joined without it -/
def w_nr (J : Nat → Nat → Nat → Prop) (S : Nat → Prop) : Prop := ∀ e u v, S e → J e u v → ¬ w_conn J (fun f => S f ∧ f ≠ e) u v
theorem w_nr_uni {J : Nat → Nat → Nat → Prop} {S : Nat → Prop} (hJ : w_Jd J) (hn : w_nr J S) : w_uni (w_E J S) := by
  intro r x l1
  induction l1 generalizing x with
  | nil =>
    intro l2 h1 h2
    cases l2 with
    | nil => rfl
    | cons y l2 =>
      have h3 : x = r := h1
      subst h3
      exact absurd (w_pt_r h2.2.2) h2.2.1
  | cons y1 t1 ih =>
    intro l2 h1 h2
    cases l2 with
    | nil =>
      have h3 : x = r := h2
      subst h3
      exact absurd (w_pt_r h1.2.2) h1.2.1
    | cons y2 t2 =>
      by_cases hy : y1 = y2
      · subst hy
        rw [ih y1 t2 h1.2.2 h2.2.2]
      · exfalso
        obtain ⟨e, he1, he2⟩ := h1.1
        obtain ⟨f, hf1, hf2⟩ := h2.1
        have hf : f ≠ e := by
          intro q
          subst q
          rcases hJ.2.2 _ _ _ _ _ he2 hf2 with ⟨-, h3⟩ | ⟨h3, -⟩
          · exact hy h3.symm
          · exact hJ.2.1 _ _ _ he2 h3
        have c1 := w_pt_avoid hJ he2 h1.2.2 h1.2.1
        have c2 := w_pt_avoid hJ he2 h2.2.2 h2.2.1
        have c3 : w_conn J (fun f => S f ∧ f ≠ e) x y2 := w_conn_one ⟨hf1, hf⟩ hf2
        exact hn e x y1 he1 he2 (w_conn_trans c3 (w_conn_trans c2 (w_conn_symm hJ.1 c1)))
/-- one mesh more -/
theorem w_conn_add {J : Nat → Nat → Nat → Prop} {S : Nat → Prop} (hJ : w_Jd J) {e u v x y : Nat} (he : J e u v) (h : w_conn J (fun f => S f ∨ f = e) x y) : w_conn J S x y ∨ (w_conn J S x u ∧ w_conn J S v y) ∨ (w_conn J S x v ∧ w_conn J S u y) := by
  obtain ⟨n, h⟩ := h
  induction n generalizing x with
  | zero =>
    have h3 : x = y := h
    subst h3
    exact Or.inl w_conn_rfl
  | succ n ih =>
    obtain ⟨f, w, h3, h4, h5⟩ := h
    have h6 := ih h5
    rcases h3 with h3 | h3
    · have c := w_conn_one h3 h4
      rcases h6 with h6 | ⟨h6, h7⟩ | ⟨h6, h7⟩
      · exact Or.inl (w_conn_trans c h6)
      · exact Or.inr (Or.inl ⟨w_conn_trans c h6, h7⟩)
      · exact Or.inr (Or.inr ⟨w_conn_trans c h6, h7⟩)
    · subst h3
      rcases hJ.2.2 _ _ _ _ _ he h4 with ⟨rfl, rfl⟩ | ⟨rfl, rfl⟩
      · rcases h6 with h6 | ⟨h6, h7⟩ | ⟨h6, h7⟩
        · exact Or.inr (Or.inl ⟨w_conn_rfl, h6⟩)
        · exact Or.inr (Or.inl ⟨w_conn_rfl, h7⟩)
        · exact Or.inl h7
      · rcases h6 with h6 | ⟨h6, h7⟩ | ⟨h6, h7⟩
        · exact Or.inr (Or.inr ⟨w_conn_rfl, h6⟩)
        · exact Or.inl h7
        · exact Or.inr (Or.inr ⟨w_conn_rfl, h7⟩)
/-- .. between two trains closes no ring -/
theorem w_nr_add {J : Nat → Nat → Nat → Prop} {S : Nat → Prop} (hJ : w_Jd J) (hn : w_nr J S) {e u v : Nat} (he : J e u v) (hS : ¬ S e) (hc : ¬ w_conn J S u v) : w_nr J (fun f => S f ∨ f = e) := by
  intro f a b hf hab hcon
  rcases hf with hf | rfl
  · have hfe : f ≠ e := fun q => hS (q ▸ hf)
    have h1 : w_conn J (fun g => (S g ∧ g ≠ f) ∨ g = e) a b := w_conn_sub (fun g hg => by
      rcases hg.1 with h | h
      · exact Or.inl ⟨h, hg.2⟩
      · exact Or.inr h) hcon
    have hsub : ∀ {p q : Nat}, w_conn J (fun g => S g ∧ g ≠ f) p q → w_conn J S p q := fun h => w_conn_sub (fun g hg => hg.1) h
    have hab1 : w_conn J S a b := w_conn_one hf hab
    rcases w_conn_add hJ he h1 with h2 | ⟨h2, h3⟩ | ⟨h2, h3⟩
    · exact hn f a b hf hab h2
    · exact hc (w_conn_trans (w_conn_symm hJ.1 (hsub h2)) (w_conn_trans hab1 (w_conn_symm hJ.1 (hsub h3))))
    · exact hc (w_conn_trans (hsub h3) (w_conn_trans (w_conn_symm hJ.1 hab1) (hsub h2)))
  · have h1 : w_conn J S a b := w_conn_sub (fun g hg => by
      rcases hg.1 with h | h
      · exact h
      · exact absurd h hg.2) hcon
    rcases hJ.2.2 _ _ _ _ _ he hab with ⟨rfl, rfl⟩ | ⟨rfl, rfl⟩
    · exact hc h1
    · exact hc (w_conn_symm hJ.1 h1)
theorem w_nr_sub {J : Nat → Nat → Nat → Prop} {S S' : Nat → Prop} (hn : w_nr J S) (h : ∀ e, S' e → S e) : w_nr J S' := fun e u v h1 h2 h3 => hn e u v (h e h1) h2 (w_conn_sub (fun g hg => ⟨h g hg.1, hg.2⟩) h3)
/-- what hangs on the gear at the head of l, seen from the root -/
def w_sub (E : Nat → Nat → Prop) (r : Nat) (l : List Nat) (w : Nat) : Prop := ∃ l', w_pt E r (w :: l') ∧ l <:+ w :: l'
theorem w_sub_self {E : Nat → Nat → Prop} {r x : Nat} {l : List Nat} (h : w_pt E r (x :: l)) : w_sub E r (x :: l) x := ⟨l, h, List.suffix_refl _⟩
theorem w_sub_pt {E : Nat → Nat → Prop} {r x w : Nat} {l : List Nat} (h : w_sub E r (x :: l) w) : w_pt E r (x :: l) := by
  obtain ⟨l', h1, m, h2⟩ := h
  rw [← h2] at h1
  exact w_pt_suf h1
theorem w_sub_up {E : Nat → Nat → Prop} {r c x w : Nat} {l : List Nat} (h : w_sub E r (c :: x :: l) w) : w_sub E r (x :: l) w := by
  obtain ⟨l', h1, h2⟩ := h
  exact ⟨l', h1, List.IsSuffix.trans (List.suffix_cons c (x :: l)) h2⟩
theorem w_sub_ne {E : Nat → Nat → Prop} {r c x w : Nat} {l : List Nat} (hu : w_uni E) (h : w_sub E r (c :: x :: l) w) : w ≠ x := by
  rintro rfl
  obtain ⟨l', h1, h2⟩ := h
  have h3 := w_sub_pt (w := w) ⟨l', h1, List.IsSuffix.trans (List.suffix_cons c (w :: l)) h2⟩
  have h4 := hu r w l' l h1 h3
  subst h4
  have := h2.length_le
  simp only [List.length_cons] at this
  omega
theorem w_sub_one {E : Nat → Nat → Prop} {r c c' w : Nat} {l : List Nat} (hu : w_uni E) (h : w_sub E r (c :: l) w) (h' : w_sub E r (c' :: l) w) : c = c' := by
  obtain ⟨l1, h1, h2⟩ := h
  obtain ⟨l2, h3, h4⟩ := h'
  have h5 := hu r w l1 l2 h1 h3
  subst h5
  have h6 := List.suffix_of_suffix_length_le h2 h4 (by simp)
  have h7 := h6.eq_of_length (by simp)
  exact (List.cons.inj h7).1
theorem w_sub_child {E : Nat → Nat → Prop} {r x w : Nat} {l : List Nat} (h : w_sub E r (x :: l) w) (hw : w ≠ x) : ∃ c, E c x ∧ ¬ c ∈ x :: l ∧ w_sub E r (c :: x :: l) w := by
  obtain ⟨l', h1, m, h2⟩ := h
  rcases List.eq_nil_or_concat m with rfl | ⟨m', c, rfl⟩
  · exact absurd (List.cons.inj h2).1.symm hw
  · have h3 : m' ++ c :: x :: l = w :: l' := by rw [← h2]; simp
    have h4 : w_pt E r (c :: x :: l) := w_pt_suf (m := m') (by rw [h3]; exact h1)
    exact ⟨c, h4.1, h4.2.1, l', h1, m', h3⟩
theorem w_sub_root {E : Nat → Nat → Prop} {r w : Nat} {l : List Nat} (h : w_pt E r (w :: l)) : w_sub E r [r] w := by
  have h1 := w_pt_r h
  obtain ⟨m, l2, h2⟩ := List.append_of_mem h1
  have h3 : w_pt E r (r :: l2) := by rw [h2] at h; exact w_pt_suf h
  cases l2 with
  | nil => exact ⟨l, h, m, h2.symm⟩
  | cons y l2 => exact absurd (w_pt_r h3.2.2) h3.2.1
end ZFOR
