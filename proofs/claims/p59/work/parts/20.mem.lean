/-! The heap once the constructors have run: its shape never changes; what changes is a memory of ints by row and place. -/
section ZMEM
abbrev z_Mem : Type := Nat → Nat → Int32
/-- a cell's shape: an array of ints, chars, booleans (tag, length); an object (class, its fields: a reference that stays, or an int); an array of references that stay -/
abbrev z_Sh : Type := (Nat × Nat) ⊕ ((Nat × List (Option Nat)) ⊕ List Nat)
def z_bc (m : Nat → Int32) (s : z_Sh) : va_E := match s with
  | .inl q => .inl (q.1, q.2, .inl m)
  | .inr (.inl q) => .inr (q.1, q.2.mapIdx (fun j o => match o with
    | some a => Value.ref a
    | none => Value.int (m j)))
  | .inr (.inr l) => .inl (5, l.length, .inr (.inr (.inr (.inr z_rgF))))
noncomputable def z_bl (μ : z_Mem) : List va_E := z_shl.mapIdx (fun k s => z_bc (μ k) s)
theorem z_bl_len {μ : z_Mem} : (z_bl μ).length = z_shl.length := by unfold z_bl; rw [List.length_mapIdx]
/-- a place is written -/
def z_u (μ : z_Mem) (a j : Nat) (v : Int32) : z_Mem := fun k i => if k = a then (if i = j then v else μ k i) else μ k i
/-- a row is copied onto another -/
def z_cp (μ : z_Mem) (b a sp dp n : Nat) : z_Mem := fun k i => if k = a then (if dp ≤ i ∧ i < dp + n then μ b (sp + (i - dp)) else μ a i) else μ k i
noncomputable def z_hp (μ : z_Mem) (ext : List va_E) (j sl : Nat) : z_H := (z_bl μ ++ ext, j, sl)
theorem z_cok_hp {μ μ1 : z_Mem} {ext : List va_E} {j sl j1 sl1 : Nat} {ls : z_Ls} {rr : List Value} {v : Option Value} (h : z_rvi v = true) : z_cok (z_hp μ ext j sl) (z_hp μ1 ext j1 sl1) ls rr v = true := by
  unfold z_cok z_hp
  dsimp only
  rw [List.length_append, List.length_append, z_bl_len, z_bl_len, Nat.beq_refl, h]
  rfl
/-- field j of the cell a is an int of an object of class ci -/
noncomputable def z_fi (a ci j : Nat) : Bool := match z_shl[a]? with
  | some (.inr (.inl (c, fs))) => Nat.beq c ci && (match fs[j]? with
    | some none => true
    | _ => false)
  | _ => false
noncomputable def z_fr (a ci j b : Nat) : Bool := match z_shl[a]? with
  | some (.inr (.inl (c, fs))) => Nat.beq c ci && (match fs[j]? with
    | some (some x) => Nat.beq x b
    | _ => false)
  | _ => false
noncomputable def z_ar (a t n : Nat) : Bool := match z_shl[a]? with
  | some (.inl (t', n')) => Nat.beq t' t && Nat.beq n' n
  | _ => false
noncomputable def z_ci (a ci : Nat) : Bool := match z_shl[a]? with
  | some (.inr (.inl (c, _))) => Nat.beq c ci
  | _ => false
theorem z_fi_eq {a ci j : Nat} (h : z_fi a ci j = true) : ∃ fs, z_shl[a]? = some (.inr (.inl (ci, fs))) ∧ fs[j]? = some none := by
  unfold z_fi at h
  split at h
  · rename_i c fs hc
    simp only [Bool.and_eq_true] at h
    obtain ⟨h1, h2⟩ := h
    have h3 := Nat.eq_of_beq_eq_true h1
    subst h3
    refine ⟨fs, hc, ?_⟩
    split at h2
    · assumption
    · cases h2
  · cases h
theorem z_fr_eq {a ci j b : Nat} (h : z_fr a ci j b = true) : ∃ fs, z_shl[a]? = some (.inr (.inl (ci, fs))) ∧ fs[j]? = some (some b) := by
  unfold z_fr at h
  split at h
  · rename_i c fs hc
    simp only [Bool.and_eq_true] at h
    obtain ⟨h1, h2⟩ := h
    have h3 := Nat.eq_of_beq_eq_true h1
    subst h3
    refine ⟨fs, hc, ?_⟩
    split at h2
    · rename_i x hx
      rw [hx, Nat.eq_of_beq_eq_true h2]
    · cases h2
  · cases h
theorem z_ar_eq {a t n : Nat} (h : z_ar a t n = true) : z_shl[a]? = some (.inl (t, n)) := by
  unfold z_ar at h
  split at h
  · rename_i t' n' hc
    simp only [Bool.and_eq_true] at h
    rw [hc, Nat.eq_of_beq_eq_true h.1, Nat.eq_of_beq_eq_true h.2]
  · cases h
theorem z_ci_eq {a ci : Nat} (h : z_ci a ci = true) : ∃ fs, z_shl[a]? = some (.inr (.inl (ci, fs))) := by
  unfold z_ci at h
  split at h
  · rename_i c fs hc
    exact ⟨fs, by rw [hc, Nat.eq_of_beq_eq_true h]⟩
  · cases h
theorem z_bl_get {μ : z_Mem} {ext : List va_E} {a : Nat} {s : z_Sh} (h : z_shl[a]? = some s) : (z_bl μ ++ ext)[a]? = some (z_bc (μ a) s) := by
  have hl : a < (z_bl μ).length := by unfold z_bl; rw [List.length_mapIdx]; exact (List.getElem?_eq_some_iff.mp h).1
  rw [List.getElem?_append_left hl]
  unfold z_bl
  rw [List.getElem?_mapIdx, h]
  rfl
theorem z_bl_set {μ : z_Mem} {ext : List va_E} {a : Nat} {s : z_Sh} {m : Nat → Int32} {x : va_E} (h : z_shl[a]? = some s) (hx : x = z_bc m s) : (z_bl μ ++ ext).set a x = z_bl (fun k => if k = a then m else μ k) ++ ext := by
  have hl : a < (z_bl μ).length := by unfold z_bl; rw [List.length_mapIdx]; exact (List.getElem?_eq_some_iff.mp h).1
  rw [List.set_append_left _ _ hl]
  congr 1
  apply List.ext_getElem?
  intro k
  rw [List.getElem?_set]
  unfold z_bl
  rw [List.getElem?_mapIdx, List.getElem?_mapIdx]
  by_cases hk : a = k
  · subst hk
    have hl2 : a < (z_shl.mapIdx (fun k s => z_bc (μ k) s)).length := hl
    rw [if_pos rfl, if_pos hl2, h, hx]
    simp
  · rw [if_neg hk]
    have hk2 : ¬ k = a := fun q => hk q.symm
    cases z_shl[k]? with
    | none => rfl
    | some s' => simp [hk2]
theorem z_u_eq (μ : z_Mem) (a j : Nat) (v : Int32) : z_u μ a j v = fun k => if k = a then upd (μ a) j v else μ k := by
  funext k i
  unfold z_u upd
  by_cases hk : k = a
  · subst hk; simp
  · simp [hk]
theorem z_cp_eq (μ : z_Mem) (b a sp dp n : Nat) : z_cp μ b a sp dp n = fun k => if k = a then va_cpy (μ b) (μ a) sp dp n else μ k := by
  funext k i
  unfold z_cp va_cpy
  by_cases hk : k = a
  · subst hk; simp
  · simp [hk]
theorem z_bl_arr {μ : z_Mem} {ext : List va_E} {a t n j : Nat} {v : Int32} (h : z_shl[a]? = some (.inl (t, n))) : (z_bl μ ++ ext).set a (.inl (t, n, .inl (upd (μ a) j v))) = z_bl (z_u μ a j v) ++ ext := by
  rw [z_u_eq]
  exact z_bl_set h rfl
theorem z_bl_cp {μ : z_Mem} {ext : List va_E} {a b t n sp dp c : Nat} (h : z_shl[a]? = some (.inl (t, n))) : (z_bl μ ++ ext).set a (.inl (t, n, .inl (va_cpy (μ b) (μ a) sp dp c))) = z_bl (z_cp μ b a sp dp c) ++ ext := by
  rw [z_cp_eq]
  exact z_bl_set h rfl
theorem z_bl_obj {μ : z_Mem} {ext : List va_E} {a ci j : Nat} {fs : List (Option Nat)} {v : Int32} (h : z_shl[a]? = some (.inr (.inl (ci, fs)))) (hj : fs[j]? = some none) : (z_bl μ ++ ext).set a (.inr (ci, (fs.mapIdx (fun j o => match o with
    | some a => Value.ref a
    | none => Value.int (μ a j))).set j (.int v))) = z_bl (z_u μ a j v) ++ ext := by
  rw [z_u_eq]
  refine z_bl_set h ?_
  show Sum.inr (ci, _) = Sum.inr (ci, _)
  congr 2
  apply List.ext_getElem?
  intro i
  rw [List.getElem?_set, List.getElem?_mapIdx, List.getElem?_mapIdx, List.length_mapIdx]
  by_cases hi : j = i
  · subst hi
    have hl := (List.getElem?_eq_some_iff.mp hj).1
    rw [if_pos rfl, if_pos hl, hj]
    simp [upd]
  · rw [if_neg hi]
    have hi2 : ¬ i = j := fun q => hi q.symm
    cases fs[i]? with
    | none => rfl
    | some o => cases o <;> simp [upd, hi2]
/-- the method's maximal locals, the instruction, its links; all closed facts in one -/
def z_pt (k pc : Nat) : Option (Nat × Instr × List Nat) := match z_rec k with
  | some r => match z_find r.2.2.2.2.2.2.2.2 pc with
    | some (i, len, ax) => bif z_lok i len then some (r.2.2.2.2.1, i, ax) else none
    | none => none
  | none => none
theorem z_pt_eq {k pc nL : Nat} {i : Instr} {ax : List Nat} (h : z_pt k pc = some (nL, i, ax)) : ∃ (r : z_Rec) (len : Nat), z_rec k = some r ∧ z_find r.2.2.2.2.2.2.2.2 pc = some (i, len, ax) ∧ z_lok i len = true ∧ r.2.2.2.2.1 = nL := by
  unfold z_pt at h
  split at h
  · rename_i r hr
    split at h
    · rename_i i' len ax' hf
      cases hl : z_lok i' len with
      | false => rw [hl] at h; cases h
      | true =>
        rw [hl] at h
        cases h
        exact ⟨r, len, hr, hf, hl, rfl⟩
    · cases h
  · cases h
def z_xx : z_R → Nat
  | .inl _ => 0
  | .inr _ => 1
/-- from this point the method ends with o, the memory being μ' then -/
def Rn (D k pc : Nat) (ls : z_Ls) (st : List Value) (μ : z_Mem) (o : z_R) (μ' : z_Mem) : Prop :=
  ∀ (ext : List va_E) (j sl : Nat), ∃ f0, ∀ (sc : Nat × (Nat → Int32)) (f d : Nat), f0 ≤ f → D ≤ d → z_ex sc f d k pc ls st (z_hp μ ext j sl) = some (o, z_hp μ' ext (j + z_xx o) (sl + 6 * z_xx o))
section Rows
variable {D k pc nL : Nat} {ls ls' : z_Ls} {st st' : List Value} {μ μ1 μ2 : z_Mem} {o : z_R} {i : Instr} {ax : List Nat}
theorem z_ex_loc {sc : Nat × (Nat → Int32)} {f d len : Nat} {r : z_Rec} {hp : z_H} {C : z_C} (hr : z_rec k = some r) (hf : z_find r.2.2.2.2.2.2.2.2 pc = some (i, len, ax)) (hl : z_lok i len = true) (hk : z_kd i ax = 0) (h : z_loc sc d r.2.2.2.2.1 i ax pc ls st hp = some C) : z_ex sc (f + 1) d k pc ls st hp = z_ex sc f d k C.1 C.2.1 C.2.2.1 C.2.2.2 := by
  conv => lhs; unfold z_ex
  rw [hr]
  dsimp only
  rw [hf]
  dsimp only
  rw [hl, hk, h]
  rfl
/-- a step within the frame -/
theorem R_gen {pc' : Nat} (hp : z_pt k pc = some (nL, i, ax)) (hk : z_kd i ax = 0) (D0 : Nat) (hD : D0 ≤ D) (h : ∀ (ext : List va_E) (j sl : Nat) (sc : Nat × (Nat → Int32)) (d : Nat), D0 ≤ d → z_loc sc d nL i ax pc ls st (z_hp μ ext j sl) = some (pc', ls', st', z_hp μ1 ext j sl)) (kk : Rn D k pc' ls' st' μ1 o μ2) : Rn D k pc ls st μ o μ2 := by
  intro ext j sl
  obtain ⟨r, len, hr, hf, hl, rfl⟩ := z_pt_eq hp
  obtain ⟨f0, hf0⟩ := kk ext j sl
  refine ⟨f0 + 1, fun sc f d h1 h2 => ?_⟩
  obtain ⟨f, rfl⟩ : ∃ f', f = f' + 1 := ⟨f - 1, by omega⟩
  rw [z_ex_loc hr hf hl hk (h ext j sl sc d (Nat.le_trans hD h2))]
  exact hf0 sc f d (by omega) h2
/-- .. that doesn't look at the heap -/
theorem R_pure {pc' : Nat} (hp : z_pt k pc = some (nL, i, ax)) (hk : z_kd i ax = 0) (h : ∀ (sc : Nat × (Nat → Int32)) (d : Nat) (hp : z_H), z_loc sc d nL i ax pc ls st hp = some (pc', ls', st', hp)) (kk : Rn D k pc' ls' st' μ o μ2) : Rn D k pc ls st μ o μ2 :=
  R_gen hp hk 0 (Nat.zero_le _) (fun ext j sl sc d _ => h sc d _) kk
theorem R_if {c : ClassFile.Cond} {off : Int} {t : Nat} {x : Int32} (hp : z_pt k pc = some (nL, .ifCond c off, ax)) (ht : z_tgt pc off = some t) (kt : z_cmp0 c x = true → Rn D k t ls st μ o μ2) (kf : z_cmp0 c x = false → Rn D k (pc + 3) ls st μ o μ2) : Rn D k pc ls (.int x :: st) μ o μ2 := by
  cases hx : z_cmp0 c x with
  | true => exact R_pure hp rfl (fun sc d hp => by show z_ifc c pc off ls (.int x :: st) hp = _; unfold z_ifc; dsimp only; rw [ht]; dsimp only; rw [hx]; rfl) (kt hx)
  | false => exact R_pure hp rfl (fun sc d hp => by show z_ifc c pc off ls (.int x :: st) hp = _; unfold z_ifc; dsimp only; rw [ht]; dsimp only; rw [hx]; rfl) (kf hx)
theorem R_icm {c : ClassFile.Cond} {off : Int} {t : Nat} {x y : Int32} (hp : z_pt k pc = some (nL, .if_icmp c off, ax)) (ht : z_tgt pc off = some t) (kt : z_cmp2 c x y = true → Rn D k t ls st μ o μ2) (kf : z_cmp2 c x y = false → Rn D k (pc + 3) ls st μ o μ2) : Rn D k pc ls (.int y :: .int x :: st) μ o μ2 := by
  cases hx : z_cmp2 c x y with
  | true => exact R_pure hp rfl (fun sc d hp => by show z_icm c pc off ls (.int y :: .int x :: st) hp = _; unfold z_icm; dsimp only; rw [ht]; dsimp only; rw [hx]; rfl) (kt hx)
  | false => exact R_pure hp rfl (fun sc d hp => by show z_icm c pc off ls (.int y :: .int x :: st) hp = _; unfold z_icm; dsimp only; rw [ht]; dsimp only; rw [hx]; rfl) (kf hx)
theorem R_ifeq {off : Int} {t : Nat} {x : Int32} (hp : z_pt k pc = some (nL, .ifCond .eq off, ax)) (ht : z_tgt pc off = some t) (kt : x = 0 → Rn D k t ls st μ o μ2) (kf : ¬ x = 0 → Rn D k (pc + 3) ls st μ o μ2) : Rn D k pc ls (.int x :: st) μ o μ2 :=
  R_if hp ht (fun h => kt (of_decide_eq_true h)) (fun h => kf (of_decide_eq_false h))
theorem R_ifne {off : Int} {t : Nat} {x : Int32} (hp : z_pt k pc = some (nL, .ifCond .ne off, ax)) (ht : z_tgt pc off = some t) (kt : ¬ x = 0 → Rn D k t ls st μ o μ2) (kf : x = 0 → Rn D k (pc + 3) ls st μ o μ2) : Rn D k pc ls (.int x :: st) μ o μ2 :=
  R_if hp ht (fun h => kt (of_decide_eq_true h)) (fun h => kf (Decidable.not_not.mp (of_decide_eq_false h)))
theorem R_iflt {off : Int} {t : Nat} {x : Int32} (hp : z_pt k pc = some (nL, .ifCond .lt off, ax)) (ht : z_tgt pc off = some t) (kt : x < 0 → Rn D k t ls st μ o μ2) (kf : ¬ x < 0 → Rn D k (pc + 3) ls st μ o μ2) : Rn D k pc ls (.int x :: st) μ o μ2 :=
  R_if hp ht (fun h => kt (of_decide_eq_true h)) (fun h => kf (of_decide_eq_false h))
theorem R_ifge {off : Int} {t : Nat} {x : Int32} (hp : z_pt k pc = some (nL, .ifCond .ge off, ax)) (ht : z_tgt pc off = some t) (kt : 0 ≤ x → Rn D k t ls st μ o μ2) (kf : ¬ 0 ≤ x → Rn D k (pc + 3) ls st μ o μ2) : Rn D k pc ls (.int x :: st) μ o μ2 :=
  R_if hp ht (fun h => kt (of_decide_eq_true h)) (fun h => kf (of_decide_eq_false h))
theorem R_ifgt {off : Int} {t : Nat} {x : Int32} (hp : z_pt k pc = some (nL, .ifCond .gt off, ax)) (ht : z_tgt pc off = some t) (kt : 0 < x → Rn D k t ls st μ o μ2) (kf : ¬ 0 < x → Rn D k (pc + 3) ls st μ o μ2) : Rn D k pc ls (.int x :: st) μ o μ2 :=
  R_if hp ht (fun h => kt (of_decide_eq_true h)) (fun h => kf (of_decide_eq_false h))
theorem R_ifle {off : Int} {t : Nat} {x : Int32} (hp : z_pt k pc = some (nL, .ifCond .le off, ax)) (ht : z_tgt pc off = some t) (kt : x ≤ 0 → Rn D k t ls st μ o μ2) (kf : ¬ x ≤ 0 → Rn D k (pc + 3) ls st μ o μ2) : Rn D k pc ls (.int x :: st) μ o μ2 :=
  R_if hp ht (fun h => kt (of_decide_eq_true h)) (fun h => kf (of_decide_eq_false h))
theorem R_icmeq {off : Int} {t : Nat} {x y : Int32} (hp : z_pt k pc = some (nL, .if_icmp .eq off, ax)) (ht : z_tgt pc off = some t) (kt : x = y → Rn D k t ls st μ o μ2) (kf : ¬ x = y → Rn D k (pc + 3) ls st μ o μ2) : Rn D k pc ls (.int y :: .int x :: st) μ o μ2 :=
  R_icm hp ht (fun h => kt (of_decide_eq_true h)) (fun h => kf (of_decide_eq_false h))
theorem R_icmne {off : Int} {t : Nat} {x y : Int32} (hp : z_pt k pc = some (nL, .if_icmp .ne off, ax)) (ht : z_tgt pc off = some t) (kt : ¬ x = y → Rn D k t ls st μ o μ2) (kf : x = y → Rn D k (pc + 3) ls st μ o μ2) : Rn D k pc ls (.int y :: .int x :: st) μ o μ2 :=
  R_icm hp ht (fun h => kt (of_decide_eq_true h)) (fun h => kf (Decidable.not_not.mp (of_decide_eq_false h)))
theorem R_icmlt {off : Int} {t : Nat} {x y : Int32} (hp : z_pt k pc = some (nL, .if_icmp .lt off, ax)) (ht : z_tgt pc off = some t) (kt : x < y → Rn D k t ls st μ o μ2) (kf : ¬ x < y → Rn D k (pc + 3) ls st μ o μ2) : Rn D k pc ls (.int y :: .int x :: st) μ o μ2 :=
  R_icm hp ht (fun h => kt (of_decide_eq_true h)) (fun h => kf (of_decide_eq_false h))
theorem R_icmge {off : Int} {t : Nat} {x y : Int32} (hp : z_pt k pc = some (nL, .if_icmp .ge off, ax)) (ht : z_tgt pc off = some t) (kt : y ≤ x → Rn D k t ls st μ o μ2) (kf : ¬ y ≤ x → Rn D k (pc + 3) ls st μ o μ2) : Rn D k pc ls (.int y :: .int x :: st) μ o μ2 :=
  R_icm hp ht (fun h => kt (of_decide_eq_true h)) (fun h => kf (of_decide_eq_false h))
theorem R_icmgt {off : Int} {t : Nat} {x y : Int32} (hp : z_pt k pc = some (nL, .if_icmp .gt off, ax)) (ht : z_tgt pc off = some t) (kt : y < x → Rn D k t ls st μ o μ2) (kf : ¬ y < x → Rn D k (pc + 3) ls st μ o μ2) : Rn D k pc ls (.int y :: .int x :: st) μ o μ2 :=
  R_icm hp ht (fun h => kt (of_decide_eq_true h)) (fun h => kf (of_decide_eq_false h))
theorem R_icmle {off : Int} {t : Nat} {x y : Int32} (hp : z_pt k pc = some (nL, .if_icmp .le off, ax)) (ht : z_tgt pc off = some t) (kt : x ≤ y → Rn D k t ls st μ o μ2) (kf : ¬ x ≤ y → Rn D k (pc + 3) ls st μ o μ2) : Rn D k pc ls (.int y :: .int x :: st) μ o μ2 :=
  R_icm hp ht (fun h => kt (of_decide_eq_true h)) (fun h => kf (of_decide_eq_false h))
theorem R_div {x y : Int32} (hp : z_pt k pc = some (nL, .idiv, ax)) (hy : ¬ y = 0) (kk : Rn D k (pc + 1) ls (.int (x / y) :: st) μ o μ2) : Rn D k pc ls (.int y :: .int x :: st) μ o μ2 :=
  R_pure hp rfl (fun sc d hp => by show z_mk (pc + 1) ls hp (z_i2 _ (.int y :: .int x :: st)) = _; unfold z_i2; dsimp only; rw [if_neg hy]; rfl) kk
theorem R_rem {x y : Int32} (hp : z_pt k pc = some (nL, .irem, ax)) (hy : ¬ y = 0) (kk : Rn D k (pc + 1) ls (.int (x - x / y * y) :: st) μ o μ2) : Rn D k pc ls (.int y :: .int x :: st) μ o μ2 :=
  R_pure hp rfl (fun sc d hp => by show z_mk (pc + 1) ls hp (z_i2 _ (.int y :: .int x :: st)) = _; unfold z_i2; dsimp only; rw [if_neg hy]; rfl) kk
def z_fv (v : Int32) : Option Nat → Value
  | some b => .ref b
  | none => .int v
theorem z_gf_at {μ : z_Mem} {ext : List va_E} {j0 sl a ci j : Nat} {tl : List Nat} {fs : List (Option Nat)} {x : Option Nat} (h1 : z_shl[a]? = some (.inr (.inl (ci, fs)))) (h2 : fs[j]? = some x) : z_gf (ci :: j :: tl) (.ref a :: st) (z_hp μ ext j0 sl) = some (z_fv (μ a j) x :: st) := by
  unfold z_gf z_hp
  dsimp only
  rw [z_bl_get h1]
  dsimp only [z_bc]
  rw [if_pos rfl, List.getElem?_mapIdx, h2]
  cases x <;> rfl
theorem R_getI {idx a ci j : Nat} {tl : List Nat} (hp : z_pt k pc = some (nL, .getfield idx, ci :: j :: tl)) (hs : z_fi a ci j = true) (kk : Rn D k (pc + 3) ls (.int (μ a j) :: st) μ o μ2) : Rn D k pc ls (.ref a :: st) μ o μ2 := by
  obtain ⟨fs, h1, h2⟩ := z_fi_eq hs
  exact R_gen hp rfl 0 (Nat.zero_le _) (fun ext j0 sl sc d _ => by
    show z_mk (pc + 3) ls _ (z_gf (ci :: j :: tl) (.ref a :: st) (z_hp μ ext j0 sl)) = _
    rw [z_gf_at h1 h2]; rfl) kk
theorem R_getR {idx a ci j b : Nat} {tl : List Nat} (hp : z_pt k pc = some (nL, .getfield idx, ci :: j :: tl)) (hs : z_fr a ci j b = true) (kk : Rn D k (pc + 3) ls (.ref b :: st) μ o μ2) : Rn D k pc ls (.ref a :: st) μ o μ2 := by
  obtain ⟨fs, h1, h2⟩ := z_fr_eq hs
  exact R_gen hp rfl 0 (Nat.zero_le _) (fun ext j0 sl sc d _ => by
    show z_mk (pc + 3) ls _ (z_gf (ci :: j :: tl) (.ref a :: st) (z_hp μ ext j0 sl)) = _
    rw [z_gf_at h1 h2]; rfl) kk
theorem R_putI {idx a ci j : Nat} {tl : List Nat} {v : Int32} (hp : z_pt k pc = some (nL, .putfield idx, ci :: j :: tl)) (hs : z_fi a ci j = true) (hn : narrow (z_ty ci j) (.int v) = .int v ∧ fits (z_ty ci j) (.int v) = true) (kk : Rn D k (pc + 3) ls st (z_u μ a j v) o μ2) : Rn D k pc ls (.int v :: .ref a :: st) μ o μ2 := by
  obtain ⟨fs, h1, h2⟩ := z_fi_eq hs
  exact R_gen hp rfl 0 (Nat.zero_le _) (fun ext j0 sl sc d _ => by
    show z_pf (ci :: j :: tl) pc ls (.int v :: .ref a :: st) (z_hp μ ext j0 sl) = _
    unfold z_pf z_hp
    dsimp only
    rw [z_bl_get h1]
    dsimp only [z_bc]
    have hl := (List.getElem?_eq_some_iff.mp h2).1
    rw [if_pos ⟨rfl, by rw [List.length_mapIdx]; exact hl, hn.1, hn.2, rfl⟩, z_bl_obj h1 h2]) kk
theorem z_ald_at {sc : Nat × (Nat → Int32)} {μ : z_Mem} {ext : List va_E} {j0 sl a t n : Nat} {x : Int32} (h1 : z_ar a t n = true) (h2 : z_inb x n = true) (h3 : Nat.beq a 2000 = false) : z_ald sc t (.int x :: .ref a :: st) (z_hp μ ext j0 sl) = some (.int (μ a x.toNatClampNeg) :: st) := by
  unfold z_ald z_hg z_hp
  dsimp only
  rw [h3]
  dsimp only [cond_false]
  rw [z_bl_get (z_ar_eq h1)]
  dsimp only [z_bc]
  rw [Nat.beq_refl, h2]
  rfl
theorem z_ar_2000 {a t n : Nat} (h : z_ar a t n = true) : Nat.beq a 2000 = false := by
  cases hb : Nat.beq a 2000 with
  | false => rfl
  | true =>
    have h2 := Nat.eq_of_beq_eq_true hb
    subst h2
    have h3 := (List.getElem?_eq_some_iff.mp (z_ar_eq h)).1
    exact absurd h3 (by decide +kernel)
theorem R_iald {a n : Nat} {x : Int32} (hp : z_pt k pc = some (nL, .iaload, ax)) (hs : z_ar a 0 n = true) (hx : z_inb x n = true) (kk : Rn D k (pc + 1) ls (.int (μ a x.toNatClampNeg) :: st) μ o μ2) : Rn D k pc ls (.int x :: .ref a :: st) μ o μ2 :=
  R_gen hp rfl 0 (Nat.zero_le _) (fun ext j0 sl sc d _ => by
    show z_mk (pc + 1) ls _ (z_ald sc 0 (.int x :: .ref a :: st) (z_hp μ ext j0 sl)) = _
    rw [z_ald_at hs hx (z_ar_2000 hs)]; rfl) kk
theorem R_cald {a n : Nat} {x : Int32} (hp : z_pt k pc = some (nL, .caload, ax)) (hs : z_ar a 1 n = true) (hx : z_inb x n = true) (kk : Rn D k (pc + 1) ls (.int (μ a x.toNatClampNeg) :: st) μ o μ2) : Rn D k pc ls (.int x :: .ref a :: st) μ o μ2 :=
  R_gen hp rfl 0 (Nat.zero_le _) (fun ext j0 sl sc d _ => by
    show z_mk (pc + 1) ls _ (z_ald sc 1 (.int x :: .ref a :: st) (z_hp μ ext j0 sl)) = _
    rw [z_ald_at hs hx (z_ar_2000 hs)]; rfl) kk
theorem R_bald {a n : Nat} {x : Int32} (hp : z_pt k pc = some (nL, .baload, ax)) (hs : z_ar a 2 n = true) (hx : z_inb x n = true) (kk : Rn D k (pc + 1) ls (.int (μ a x.toNatClampNeg) :: st) μ o μ2) : Rn D k pc ls (.int x :: .ref a :: st) μ o μ2 :=
  R_gen hp rfl 0 (Nat.zero_le _) (fun ext j0 sl sc d _ => by
    show z_mk (pc + 1) ls _ (z_ald sc 2 (.int x :: .ref a :: st) (z_hp μ ext j0 sl)) = _
    rw [z_ald_at hs hx (z_ar_2000 hs)]; rfl) kk
theorem z_ast_at {g : Int32 → Int32} {μ : z_Mem} {ext : List va_E} {j0 sl a t n : Nat} {x v : Int32} (h1 : z_ar a t n = true) (h2 : z_inb x n = true) : z_ast t g pc ls (.int v :: .int x :: .ref a :: st) (z_hp μ ext j0 sl) = some (pc + 1, ls, st, z_hp (z_u μ a x.toNatClampNeg (g v)) ext j0 sl) := by
  unfold z_ast z_hp
  dsimp only
  rw [z_bl_get (z_ar_eq h1)]
  dsimp only [z_bc]
  rw [Nat.beq_refl, h2]
  simp only [Bool.and_self, cond_true]
  rw [z_bl_arr (z_ar_eq h1)]
theorem R_iast {a n : Nat} {x v : Int32} (hp : z_pt k pc = some (nL, .iastore, ax)) (hs : z_ar a 0 n = true) (hx : z_inb x n = true) (kk : Rn D k (pc + 1) ls st (z_u μ a x.toNatClampNeg v) o μ2) : Rn D k pc ls (.int v :: .int x :: .ref a :: st) μ o μ2 :=
  R_gen hp rfl 0 (Nat.zero_le _) (fun ext j0 sl sc d _ => z_ast_at (g := id) hs hx) kk
theorem R_cast {a n : Nat} {x v : Int32} (hp : z_pt k pc = some (nL, .castore, ax)) (hs : z_ar a 1 n = true) (hx : z_inb x n = true) (kk : Rn D k (pc + 1) ls st (z_u μ a x.toNatClampNeg (vp_nar .char v)) o μ2) : Rn D k pc ls (.int v :: .int x :: .ref a :: st) μ o μ2 :=
  R_gen hp rfl 0 (Nat.zero_le _) (fun ext j0 sl sc d _ => z_ast_at (g := vp_nar .char) hs hx) kk
theorem R_bast {a n : Nat} {x v : Int32} (hp : z_pt k pc = some (nL, .bastore, ax)) (hs : z_ar a 2 n = true) (hx : z_inb x n = true) (kk : Rn D k (pc + 1) ls st (z_u μ a x.toNatClampNeg (vp_nar .boolean v)) o μ2) : Rn D k pc ls (.int v :: .int x :: .ref a :: st) μ o μ2 :=
  R_gen hp rfl 0 (Nat.zero_le _) (fun ext j0 sl sc d _ => z_ast_at (g := vp_nar .boolean) hs hx) kk
theorem R_len {a t n : Nat} (hp : z_pt k pc = some (nL, .arraylength, ax)) (hs : z_ar a t n = true) (ht : Nat.blt t 6 = true) (kk : Rn D k (pc + 1) ls (.int (Int32.ofNat n) :: st) μ o μ2) : Rn D k pc ls (.ref a :: st) μ o μ2 :=
  R_gen hp rfl 0 (Nat.zero_le _) (fun ext j0 sl sc d _ => by
    show z_mk (pc + 1) ls _ (z_len sc (.ref a :: st) (z_hp μ ext j0 sl)) = _
    unfold z_len z_hg z_hp
    dsimp only
    rw [z_ar_2000 hs]
    dsimp only [cond_false]
    rw [z_bl_get (z_ar_eq hs)]
    dsimp only [z_bc]
    rw [ht]
    rfl) kk
theorem R_cpy {a b t0 t1 n0 n1 idx : Nat} {tl : List Nat} {n dp sp : Int32} (hp : z_pt k pc = some (nL, .invokestatic idx, 7 :: tl)) (hk : z_kd (.invokestatic idx) (7 :: tl) = 0) (hD : 1 ≤ D) (hb : z_ar b 0 n0 = true) (ha : z_ar a 0 n1 = true) (hc : Nat.ble (z_cat (.int n :: .int dp :: .ref a :: .int sp :: .ref b :: st)) 8 = true) (h : ¬ sp < 0 ∧ ¬ dp < 0 ∧ ¬ n < 0 ∧ sp.toNatClampNeg + n.toNatClampNeg ≤ n0 ∧ dp.toNatClampNeg + n.toNatClampNeg ≤ n1) (kk : Rn D k (pc + 3) ls st (z_cp μ b a sp.toNatClampNeg dp.toNatClampNeg n.toNatClampNeg) o μ2) : Rn D k pc ls (.int n :: .int dp :: .ref a :: .int sp :: .ref b :: st) μ o μ2 :=
  R_gen hp hk 1 hD (fun ext j0 sl sc d hd => by
    show z_jc d pc ls _ _ = _
    unfold z_jc
    rw [if_pos ⟨hd, Nat.le_of_ble_eq_true hc⟩]
    unfold z_cpy z_hp
    dsimp only
    rw [z_bl_get (z_ar_eq hb), z_bl_get (z_ar_eq ha)]
    dsimp only [z_bc]
    rw [if_pos ⟨rfl, rfl, h⟩, z_bl_cp (z_ar_eq ha)]) kk
theorem z_ex_fin {sc : Nat × (Nat → Int32)} {f d len : Nat} {r : z_Rec} {hp : z_H} {v : Option Value} (hr : z_rec k = some r) (hf : z_find r.2.2.2.2.2.2.2.2 pc = some (i, len, ax)) (hl : z_lok i len = true) (hk : z_kd i ax = 1) (h : z_fin r.2.2.2.2.2.1 i st = some v) : z_ex sc (f + 1) d k pc ls st hp = some (.inl v, hp) := by
  conv => lhs; unfold z_ex
  rw [hr]
  dsimp only
  rw [hf]
  dsimp only
  rw [hl, hk]
  dsimp only [cond_true]
  rw [h]
  rfl
/-- what a method ends with, by its table row -/
def z_rt (k : Nat) : Option (Option FieldType) := (z_rec k).map (fun r => r.2.2.2.2.2.1)
theorem R_fin {v : Option Value} {ret : Option FieldType} (hp : z_pt k pc = some (nL, i, ax)) (hk : z_kd i ax = 1) (hr : z_rt k = some ret) (h : z_fin ret i st = some v) : Rn D k pc ls st μ (.inl v) μ := by
  intro ext j sl
  obtain ⟨r, len, hrr, hf, hl, rfl⟩ := z_pt_eq hp
  have hret : r.2.2.2.2.2.1 = ret := by
    unfold z_rt at hr
    rw [hrr] at hr
    exact Option.some.inj hr
  subst hret
  refine ⟨1, fun sc f d h1 h2 => ?_⟩
  obtain ⟨f, rfl⟩ : ∃ f', f = f' + 1 := ⟨f - 1, by omega⟩
  rw [z_ex_fin hrr hf hl hk h]
  rfl
theorem R_retI {v : Int32} (hp : z_pt k pc = some (nL, .ireturn, ax)) (hr : z_rt k = some (some .int)) : Rn D k pc ls [.int v] μ (.inl (some (.int v))) μ :=
  R_fin hp rfl hr (by unfold z_fin; dsimp only; rw [if_pos (show narrow .int (.int v) = .int v from rfl)])
theorem R_retZ {v : Int32} {t : FieldType} (hp : z_pt k pc = some (nL, .ireturn, ax)) (hr : z_rt k = some (some t)) (hn : narrow t (.int v) = .int v) : Rn D k pc ls [.int v] μ (.inl (some (.int v))) μ :=
  R_fin hp rfl hr (by unfold z_fin; dsimp only; rw [if_pos hn])
theorem R_retV (hp : z_pt k pc = some (nL, .return_, ax)) (hr : z_rt k = some none) : Rn D k pc ls [] μ (.inl none) μ :=
  R_fin hp rfl hr rfl
theorem R_retD {v : UInt64} (hp : z_pt k pc = some (nL, .dreturn, ax)) (hr : z_rt k = some (some .double)) : Rn D k pc ls [.double v] μ (.inl (some (.double v))) μ :=
  R_fin hp rfl hr rfl
theorem R_retF {v : UInt32} (hp : z_pt k pc = some (nL, .freturn, ax)) (hr : z_rt k = some (some .float)) : Rn D k pc ls [.float v] μ (.inl (some (.float v))) μ :=
  R_fin hp rfl hr rfl
end Rows
end ZMEM
