/-! A new object's heap, as a memory. -/
section ZBEG
def z_cX : Option va_E → Nat → Int32
  | some (.inl (_, _, .inl f)) => f
  | some (.inr (_, fs)) => fun j => match fs[j]? with
    | some (.int v) => v
    | _ => 0
  | _ => fun _ => 0
/-- the memory of a new object; the model's rows behind it, as the model begins -/
def z_mu0 : z_Mem := fun k => if k < 241 then z_cX (z_I0.2.1[k]?) else (fun j => if k = 241 ∧ (j = 8 ∨ j = 9) then -1 else 0)
def z_fm : Option Value → Option (Option Nat) → Bool
  | some (.ref a), some (some b) => Nat.beq a b
  | some (.int _), some none => true
  | _, _ => false
def z_cm : Option va_E → Option z_Sh → Bool
  | some (.inl (t, n, .inl _)), some (.inl (t', n')) => Nat.beq t t' && Nat.beq n n'
  | some (.inr (c, fs)), some (.inr (.inl (c', os))) => Nat.beq c c' && (Nat.beq fs.length os.length && (List.range os.length).all (fun j => z_fm fs[j]? os[j]?))
  | some (.inl (t, n, .inr (.inr (.inr (.inr _))))), some (.inr (.inr l)) => Nat.beq t 5 && Nat.beq n l.length
  | _, _ => false
def z_bcg (g : Nat → Option Nat) (m : Nat → Int32) (s : z_Sh) : va_E := match s with
  | .inl q => .inl (q.1, q.2, .inl m)
  | .inr (.inl q) => .inr (q.1, q.2.mapIdx (fun j o => match o with
    | some a => Value.ref a
    | none => Value.int (m j)))
  | .inr (.inr l) => .inl (5, l.length, .inr (.inr (.inr (.inr g))))
theorem z_cm_ok {c : Option va_E} {s : Option z_Sh} (h : z_cm c s = true) : c = s.map (z_bcg (z_rgX c) (z_cX c)) := by
  unfold z_cm at h
  split at h
  · simp only [Bool.and_eq_true] at h
    rw [Nat.eq_of_beq_eq_true h.1, Nat.eq_of_beq_eq_true h.2]
    rfl
  · rename_i cc fs cc' os
    simp only [Bool.and_eq_true] at h
    obtain ⟨h1, h2, h3⟩ := h
    rw [Nat.eq_of_beq_eq_true h1]
    show some (Sum.inr (cc', fs)) = some (Sum.inr (cc', _))
    congr 3
    apply List.ext_getElem?
    intro j
    have hl := Nat.eq_of_beq_eq_true h2
    by_cases hj : j < os.length
    · have h4 := List.all_eq_true.mp h3 j (List.mem_range.mpr hj)
      rw [List.getElem?_mapIdx]
      unfold z_fm at h4
      split at h4
      · rename_i a b e1 e2
        rw [e1, e2, Nat.eq_of_beq_eq_true h4]
        rfl
      · rename_i v e1 e2
        rw [e1, e2]
        show some (Value.int v) = some (Value.int (z_cX (some (.inr (cc, fs))) j))
        unfold z_cX
        dsimp only
        rw [e1]
      · cases h4
    · have hj2 : os.length ≤ j := Nat.le_of_not_lt hj
      rw [List.getElem?_eq_none (by omega), List.getElem?_eq_none (by rw [List.length_mapIdx]; exact hj2)]
  · simp only [Bool.and_eq_true] at h
    rw [Nat.eq_of_beq_eq_true h.1, Nat.eq_of_beq_eq_true h.2]
    rfl
  · cases h
theorem z_cm_all : (List.range 241).all (fun k => z_cm (z_I0.2.1[k]?) (z_shl[k]?) && (Nat.beq k 58 || (match z_shl[k]? with
    | some (.inr (.inr _)) => false
    | _ => true))) = true := by decide +kernel
theorem z_I0_len : Nat.beq z_I0.2.1.length 241 = true := by decide +kernel
theorem z_shl_len : z_shl.length = 241 := by decide +kernel
theorem z_bcg_bc {m : Nat → Int32} {s : z_Sh} : z_bcg z_rgF m s = z_bc m s := rfl
theorem z_bcg1 {s : z_Sh} (g : Nat → Option Nat) (m : Nat → Int32) (h : ∀ l, s = .inr (.inr l) → False) : z_bcg g m s = z_bc m s := by
  unfold z_bcg z_bc
  split
  · rfl
  · rfl
  · rename_i l; exact (h l rfl).elim
theorem z_bcg_q {k : Nat} {c : Option va_E} {s : z_Sh} (hr : k = 58 → z_rgX c = z_rgF) (h3 : c = (some s).map (z_bcg (z_rgX c) (z_cX c))) (h2 : (Nat.beq k 58 || (match some s with
    | some (.inr (.inr _)) => false
    | _ => true)) = true) : c = (some s).map (z_bc (z_cX c)) := by
  generalize hg : z_rgX c = g at hr h3
  generalize z_cX c = m at h3 ⊢
  rw [h3]
  rcases s with s | s | s
  · exact congrArg some (z_bcg1 (s := .inl s) g m (fun _ q => by cases q))
  · exact congrArg some (z_bcg1 (s := .inr (.inl s)) g m (fun _ q => by cases q))
  · rw [Bool.or_eq_true] at h2
    rcases h2 with h2 | h2
    · rw [hr (Nat.eq_of_beq_eq_true h2)]; rfl
    · cases h2
theorem z_I0_heap : z_I0.2.1 = z_bl z_mu0 := by
  apply List.ext_getElem?
  intro k
  by_cases h1 : k < 241
  · have h2 := List.all_eq_true.mp z_cm_all k (List.mem_range.mpr h1)
    rw [Bool.and_eq_true] at h2
    have h3 := z_cm_ok h2.1
    have hl : k < z_shl.length := by rw [z_shl_len]; exact h1
    unfold z_bl
    rw [List.getElem?_mapIdx]
    have hs : z_shl[k]? = some z_shl[k] := List.getElem?_eq_getElem hl
    have hm : z_mu0 k = z_cX (z_I0.2.1[k]?) := by unfold z_mu0; rw [if_pos h1]
    rw [hm]
    have hr : k = 58 → z_rgX (z_I0.2.1[k]?) = z_rgF := fun hk => by rw [hk]; rfl
    rw [hs] at h3 h2 ⊢
    exact z_bcg_q hr h3 h2.2
  · have hl := Nat.eq_of_beq_eq_true z_I0_len
    rw [List.getElem?_eq_none (by omega), List.getElem?_eq_none (by rw [z_bl_len, z_shl_len]; omega)]
def z_isn : z_R → Bool
  | .inl none => true
  | _ => false
theorem z_I0_R : z_isn z_I0.1 = true := by decide +kernel
theorem z_I0_j1 : z_I0.2.2.1 = 0 := by decide +kernel
theorem z_I0_j2 : z_I0.2.2.2 ≤ 5000 := by decide +kernel
end ZBEG
