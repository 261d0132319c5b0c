/-! The heap at the law's loop, as a memory. -/
section ZBEG
def z_cX : Option va_E → Nat → Int32
  | some (.inl (_, _, .inl f)) => f
  | some (.inr (_, fs)) => fun j => match fs[j]? with
    | some (.int v) => v
    | _ => 0
  | _ => fun _ => 0
def z_aX : Option va_E → Nat → Int64
  | some (.inl (_, _, .inr (.inl f))) => f
  | _ => fun _ => 0
def z_qX : Option va_E → Nat → UInt64
  | some (.inl (_, _, .inr (.inr (.inr (.inl f))))) => f
  | _ => fun _ => 0
/-- the memory at the loop's begin -/
def z_mu0 : z_Mem := fun k => z_cX (z_I0.2.1[k]?)
def z_a0 : Nat → Int64 := z_aX (z_I0.2.1[251]?)
def z_q0 : Nat → UInt64 := z_qX (z_I0.2.1[252]?)
def z_fm : Option Value → Option (Option Nat) → Bool
  | some (.ref a), some (some b) => Nat.beq a b
  | some (.int _), some none => true
  | _, _ => false
def z_cm : Option va_E → Option z_Sh → Bool
  | some (.inl (t, n, .inl _)), some (.inl (t', n')) => Nat.beq t t' && Nat.beq n n'
  | some (.inr (c, fs)), some (.inr (.inl (c', os))) => Nat.beq c c' && (Nat.beq fs.length os.length && (List.range os.length).all (fun j => z_fm fs[j]? os[j]?))
  | some (.inl (t, n, .inr (.inr (.inr (.inr _))))), some (.inr (.inr l)) => Nat.beq t 5 && Nat.beq n l.length
  | _, _ => false
def z_bcg (g : Nat → Option Nat) (m : Nat → Int32) (s : z_Sh) : va_E := match s with
  | .inl q => .inl (q.1, q.2, .inl m)
  | .inr (.inl q) => .inr (q.1, q.2.mapIdx (fun j o => match o with
    | some a => Value.ref a
    | none => Value.int (m j)))
  | .inr (.inr l) => .inl (5, l.length, .inr (.inr (.inr (.inr g))))
theorem z_cm_ok {c : Option va_E} {s : Option z_Sh} (h : z_cm c s = true) : c = s.map (z_bcg (z_rgX c) (z_cX c)) := by
  unfold z_cm at h
  split at h
  · simp only [Bool.and_eq_true] at h
    rw [Nat.eq_of_beq_eq_true h.1, Nat.eq_of_beq_eq_true h.2]
    rfl
  · rename_i cc fs cc' os
    simp only [Bool.and_eq_true] at h
    obtain ⟨h1, h2, h3⟩ := h
    rw [Nat.eq_of_beq_eq_true h1]
    show some (Sum.inr (cc', fs)) = some (Sum.inr (cc', _))
    congr 3
    apply List.ext_getElem?
    intro j
    have hl := Nat.eq_of_beq_eq_true h2
    by_cases hj : j < os.length
    · have h4 := List.all_eq_true.mp h3 j (List.mem_range.mpr hj)
      rw [List.getElem?_mapIdx]
      unfold z_fm at h4
      split at h4
      · rename_i a b e1 e2
        rw [e1, e2, Nat.eq_of_beq_eq_true h4]
        rfl
      · rename_i v e1 e2
        rw [e1, e2]
        show some (Value.int v) = some (Value.int (z_cX (some (.inr (cc, fs))) j))
        unfold z_cX
        dsimp only
        rw [e1]
      · cases h4
    · have hj2 : os.length ≤ j := Nat.le_of_not_lt hj
      rw [List.getElem?_eq_none (by omega), List.getElem?_eq_none (by rw [List.length_mapIdx]; exact hj2)]
  · simp only [Bool.and_eq_true] at h
    rw [Nat.eq_of_beq_eq_true h.1, Nat.eq_of_beq_eq_true h.2]
    rfl
  · cases h
theorem z_cm_all : (List.range 251).all (fun k => z_cm (z_I0.2.1[k]?) (z_shl[k]?) && (Nat.beq k 58 || (match z_shl[k]? with
    | some (.inr (.inr _)) => false
    | _ => true))) = true := by decide +kernel
theorem z_I0_len : Nat.beq z_I0.2.1.length 253 = true := by decide +kernel
def z_isl : Option va_E → Bool
  | some (.inl (3, 1, .inr (.inl _))) => true
  | _ => false
def z_isd : Option va_E → Bool
  | some (.inl (4, 1, .inr (.inr (.inr (.inl _))))) => true
  | _ => false
theorem z_isl_ok {c : Option va_E} (h : z_isl c = true) : c = some (.inl (3, 1, .inr (.inl (z_aX c)))) := by
  unfold z_isl at h
  split at h
  · rfl
  · cases h
theorem z_isd_ok {c : Option va_E} (h : z_isd c = true) : c = some (.inl (4, 1, .inr (.inr (.inr (.inl (z_qX c)))))) := by
  unfold z_isd at h
  split at h
  · rfl
  · cases h
theorem z_I0_251 : z_isl (z_I0.2.1[251]?) = true := by decide +kernel
theorem z_I0_252 : z_isd (z_I0.2.1[252]?) = true := by decide +kernel
theorem z_bcg_bc {m : Nat → Int32} {s : z_Sh} : z_bcg z_rgF m s = z_bc m s := rfl
theorem z_I0_heap : z_I0.2.1 = z_bl z_mu0 ++ z_OE z_a0 z_q0 := by
  apply List.ext_getElem?
  intro k
  by_cases h1 : k < 251
  · have h2 := List.all_eq_true.mp z_cm_all k (List.mem_range.mpr h1)
    rw [Bool.and_eq_true] at h2
    have h3 := z_cm_ok h2.1
    have hl : k < z_shl.length := by rw [z_shl_len]; exact h1
    rw [List.getElem?_append_left (by rw [z_bl_len]; exact h1)]
    unfold z_bl
    rw [List.getElem?_mapIdx]
    have hs : z_shl[k]? = some z_shl[k] := List.getElem?_eq_getElem hl
    rw [hs] at h3 h2 ⊢
    rw [h3]
    show some (z_bcg (z_rgX (z_I0.2.1[k]?)) (z_mu0 k) z_shl[k]) = some (z_bc (z_mu0 k) z_shl[k])
    rcases Nat.decEq k 58 with hk | hk
    · have h5 : Nat.beq k 58 = false := by
        cases hb : Nat.beq k 58 with
        | false => rfl
        | true => exact absurd (Nat.eq_of_beq_eq_true hb) hk
      rw [h5, Bool.false_or] at h2
      generalize z_shl[k] = s at h2
      rcases s with s | s | s
      · rfl
      · rfl
      · cases h2.2
    · subst hk
      rfl
  · rw [List.getElem?_append_right (by rw [z_bl_len]; omega), z_bl_len]
    by_cases h2 : k = 251
    · subst h2
      exact z_isl_ok z_I0_251
    · by_cases h3 : k = 252
      · subst h3
        exact z_isd_ok z_I0_252
      · have hl := Nat.eq_of_beq_eq_true z_I0_len
        rw [List.getElem?_eq_none (by omega)]
        show none = [_, _][k - 251]?
        rw [List.getElem?_eq_none (by show 2 ≤ k - 251; omega)]
/-- the locals at the loop's begin -/
def z_lsm : Nat → Value → Bool
  | 0, .ref 2000 | 1, .ref 0 | 2, .ref 241 | 3, .ref 251 | 4, .ref 252 => true
  | 5, .int v => decide (v = 0)
  | _, _ => false
theorem z_I0_ls : (z_I0.1.map (fun q => (q.1, z_lsm q.1 q.2))) = [(0, true), (1, true), (2, true), (3, true), (4, true), (5, true)] := by decide +kernel
theorem z_lsm_ok : ∀ (i : Nat) (v : Value), z_lsm i v = true → (i = 0 ∧ v = .ref 2000) ∨ (i = 1 ∧ v = .ref 0) ∨ (i = 2 ∧ v = .ref 241) ∨ (i = 3 ∧ v = .ref 251) ∨ (i = 4 ∧ v = .ref 252) ∨ (i = 5 ∧ v = .int 0) := by
  intro i v h
  unfold z_lsm at h
  split at h
  all_goals first | (cases h; done) | simp_all
theorem z_I0_loc : z_I0.1 = [(0, .ref 2000), (1, .ref 0), (2, .ref 241), (3, .ref 251), (4, .ref 252), (5, .int 0)] := by
  have h := z_I0_ls
  generalize z_I0.1 = l at h
  match l, h with
  | [a, b, c, d, e, f], h =>
    simp only [List.map_cons, List.map_nil, List.cons.injEq, Prod.mk.injEq, and_true] at h
    obtain ⟨⟨a1, a2⟩, ⟨b1, b2⟩, ⟨c1, c2⟩, ⟨d1, d2⟩, ⟨e1, e2⟩, f1, f2⟩ := h
    obtain ⟨x0, y0⟩ := a
    obtain ⟨x1, y1⟩ := b
    obtain ⟨x2, y2⟩ := c
    obtain ⟨x3, y3⟩ := d
    obtain ⟨x4, y4⟩ := e
    obtain ⟨x5, y5⟩ := f
    dsimp only at *
    subst a1 b1 c1 d1 e1 f1
    have := z_lsm_ok _ _ a2
    have := z_lsm_ok _ _ b2
    have := z_lsm_ok _ _ c2
    have := z_lsm_ok _ _ d2
    have := z_lsm_ok _ _ e2
    have := z_lsm_ok _ _ f2
    simp_all
  | [], h => simp at h
  | [_], h => simp at h
  | [_, _], h => simp at h
  | [_, _, _], h => simp at h
  | [_, _, _, _], h => simp at h
  | [_, _, _, _, _], h => simp at h
  | _ :: _ :: _ :: _ :: _ :: _ :: _ :: _, h => simp at h
theorem z_I0_j1 : z_I0.2.2.1 = 0 := by decide +kernel
theorem z_I0_j2 : z_I0.2.2.2 ≤ 20000 := by decide +kernel
theorem z_run_gen {f0 : Nat} {I : z_Ls × z_H} {μ0 : z_Mem} {a0 : Nat → Int64} {q0 : Nat → UInt64} (hz : z_exh f0 0 [(0, .ref 2000)] [] ([], 0, 0) = some I) (hl : I.1 = [(0, .ref 2000), (1, .ref 0), (2, .ref 241), (3, .ref 251), (4, .ref 252), (5, .int 0)]) (hh : I.2.1 = z_bl μ0 ++ z_OE a0 q0) (h1 : I.2.2.1 = 0) (h4 : I.2.2.2 ≤ 20000)
    (hlp : ∀ (sc : Nat × (Nat → Int32)), sc.1 ≤ 2048 → Rl sc 21 320 28 [(0, .ref 2000), (1, .ref 0), (2, .ref 241), (3, .ref 251), (4, .ref 252), (5, .int 0)] [] μ0 a0 q0 (.inl (some (.int 1))) (fun _ _ _ => True) 512) {sc : Nat × (Nat → Int32)} (hL : sc.1 ≤ 2048) : ∃ (f : Nat) (hp' : z_H), z_ex sc f 100 320 0 [(0, .ref 2000)] [] ([], 0, 0) = some (.inl (some (.int 1)), hp') ∧ z_n hp' ≤ 800 ∧ hp'.2.2 ≤ 40000 := by
  obtain ⟨il, ih, ij, isl⟩ := I
  dsimp only at hl hh h1 h4
  subst hl
  subst hh
  subst h1
  obtain ⟨f1, jx, μ', a', q', hj, -, hf⟩ := hlp sc hL 0 isl
  obtain ⟨f2, h2⟩ := z_exh_ok sc f0 0 _ _ _ _ _ (.inl (some (.int 1)), z_hp μ' (z_OE a' q') (0 + jx) (isl + 6 * jx)) hz ⟨f1, fun f h => hf f 100 h (by decide)⟩
  refine ⟨f2, _, h2 f2 (Nat.le_refl _), ?_, ?_⟩
  · show (z_bl μ' ++ z_OE a' q').length + (0 + jx) ≤ 800
    rw [List.length_append, z_bl_len]
    show 251 + 2 + (0 + jx) ≤ 800
    omega
  · show isl + 6 * jx ≤ 40000
    omega
/-- THE LAW'S RUN, out of an invariant -/
theorem z_run (hlp : ∀ (sc : Nat × (Nat → Int32)), sc.1 ≤ 2048 → Rl sc 21 320 28 [(0, .ref 2000), (1, .ref 0), (2, .ref 241), (3, .ref 251), (4, .ref 252), (5, .int 0)] [] z_mu0 z_a0 z_q0 (.inl (some (.int 1))) (fun _ _ _ => True) 512) {sc : Nat × (Nat → Int32)} (hL : sc.1 ≤ 2048) : ∃ (f : Nat) (hp' : z_H), z_ex sc f 100 320 0 [(0, .ref 2000)] [] ([], 0, 0) = some (.inl (some (.int 1)), hp') ∧ z_n hp' ≤ 800 ∧ hp'.2.2 ≤ 40000 :=
  z_run_gen z_I0_is z_I0_loc z_I0_heap z_I0_j1 z_I0_j2 hlp hL
end ZBEG
