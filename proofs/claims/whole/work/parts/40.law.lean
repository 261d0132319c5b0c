/-! The law's own steps: over the memory, its two answer arrays, and its script. -/
section ZLAW
abbrev z_OE (a : Nat → Int64) (q : Nat → UInt64) : List va_E := [.inl (3, 1, .inr (.inl a)), .inl (4, 1, .inr (.inr (.inr (.inl q))))]
theorem z_shl_len : z_shl.length = 251 := by decide +kernel
theorem z_bl_len (μ : z_Mem) : (z_bl μ).length = 251 := by
  unfold z_bl
  rw [List.length_mapIdx]
  decide +kernel
theorem z_oe_0 {μ : z_Mem} {a : Nat → Int64} {q : Nat → UInt64} : (z_bl μ ++ z_OE a q)[251]? = some (.inl (3, 1, .inr (.inl a))) := by
  rw [List.getElem?_append_right (by rw [z_bl_len]; exact Nat.le_refl _), z_bl_len]
  rfl
theorem z_oe_1 {μ : z_Mem} {a : Nat → Int64} {q : Nat → UInt64} : (z_bl μ ++ z_OE a q)[252]? = some (.inl (4, 1, .inr (.inr (.inr (.inl q))))) := by
  rw [List.getElem?_append_right (by rw [z_bl_len]; decide), z_bl_len]
  rfl
theorem z_oe_s0 {μ : z_Mem} {a b : Nat → Int64} {q : Nat → UInt64} : (z_bl μ ++ z_OE a q).set 251 (.inl (3, 1, .inr (.inl b))) = z_bl μ ++ z_OE b q := by
  rw [List.set_append_right _ _ (by rw [z_bl_len]; exact Nat.le_refl _), z_bl_len]
  rfl
theorem z_oe_s1 {μ : z_Mem} {a : Nat → Int64} {q r : Nat → UInt64} : (z_bl μ ++ z_OE a q).set 252 (.inl (4, 1, .inr (.inr (.inr (.inl r))))) = z_bl μ ++ z_OE a r := by
  rw [List.set_append_right _ _ (by rw [z_bl_len]; decide), z_bl_len]
  rfl
abbrev z_LP : Type := z_Mem → (Nat → Int64) → (Nat → UInt64) → Prop
def Rl (sc : Nat × (Nat → Int32)) (D k pc : Nat) (ls : z_Ls) (st : List Value) (μ : z_Mem) (a : Nat → Int64) (q : Nat → UInt64) (o : z_R) (P : z_LP) (J : Nat) : Prop :=
  ∀ (j sl : Nat), ∃ (f0 jx : Nat) (μ' : z_Mem) (a' : Nat → Int64) (q' : Nat → UInt64), jx ≤ J ∧ P μ' a' q' ∧ ∀ (f d : Nat), f0 ≤ f → D ≤ d → z_ex sc f d k pc ls st (z_hp μ (z_OE a q) j sl) = some (o, z_hp μ' (z_OE a' q') (j + jx) (sl + 6 * jx))
section Rows
variable {sc : Nat × (Nat → Int32)} {D k pc nL J : Nat} {ls ls' : z_Ls} {st st' : List Value} {μ μ1 : z_Mem} {a a1 : Nat → Int64} {q q1 : Nat → UInt64} {o : z_R} {P : z_LP} {i : Instr} {ax : List Nat}
theorem L_at (kk : Rl sc D k pc ls st μ a q o P J) : Rl sc D k pc ls st μ a q o P J := kk
theorem L_gen {pc' : Nat} (hp : z_pt k pc = some (nL, i, ax)) (hk : z_kd i ax = 0) (h : ∀ (j sl d : Nat), z_loc sc d nL i ax pc ls st (z_hp μ (z_OE a q) j sl) = some (pc', ls', st', z_hp μ1 (z_OE a1 q1) j sl)) (kk : Rl sc D k pc' ls' st' μ1 a1 q1 o P J) : Rl sc D k pc ls st μ a q o P J := by
  intro j sl
  obtain ⟨r, len, hr, hf, hl, rfl⟩ := z_pt_eq hp
  obtain ⟨f0, jx, μ', a', q', hj, hP, hf0⟩ := kk j sl
  refine ⟨f0 + 1, jx, μ', a', q', hj, hP, fun f d h1 h2 => ?_⟩
  obtain ⟨f, rfl⟩ : ∃ f', f = f' + 1 := ⟨f - 1, by omega⟩
  rw [z_ex_loc hr hf hl hk (h j sl d)]
  exact hf0 f d (by omega) h2
theorem L_pure {pc' : Nat} (hp : z_pt k pc = some (nL, i, ax)) (hk : z_kd i ax = 0) (h : ∀ (d : Nat) (hp : z_H), z_loc sc d nL i ax pc ls st hp = some (pc', ls', st', hp)) (kk : Rl sc D k pc' ls' st' μ a q o P J) : Rl sc D k pc ls st μ a q o P J :=
  L_gen hp hk (fun j sl d => h d _) kk
theorem L_const {pc' : Nat} {v : Int32} (h : z_ptc k pc = some (pc', v)) (kk : Rl sc D k pc' ls (.int v :: st) μ a q o P J) : Rl sc D k pc ls st μ a q o P J := by
  unfold z_ptc at h
  split at h
  · rename_i nL i ax hp
    split at h
    · cases h; exact L_pure hp rfl (fun _ _ => rfl) kk
    · cases h; exact L_pure hp rfl (fun _ _ => rfl) kk
    · cases h; exact L_pure hp rfl (fun _ _ => rfl) kk
    · split at h
      · cases h; exact L_pure hp rfl (fun _ _ => rfl) kk
      · cases h
    · cases h
  · cases h
theorem L_inc {w pc' : Nat} {n : Int} {c x : Int32} (hp : z_pt k pc = some (nL, .iinc w n, ax)) (hi : w < nL ∧ Int32.ofInt n = c ∧ pc' = pc + 3) (hx : z_get ls w = some (.int x)) (hl : z_st1 ls w (.int (x + c)) = ls') (kk : Rl sc D k pc' ls' st μ a q o P J) : Rl sc D k pc ls st μ a q o P J := by
  obtain ⟨h1, rfl, rfl⟩ := hi
  subst hl
  refine L_pure hp rfl (fun d hp => ?_) kk
  show z_inc nL (pc + 3) ls w n st hp = _
  unfold z_inc
  rw [hx]
  dsimp only
  rw [if_pos h1]
theorem L_if {c : ClassFile.Cond} {off : Int} {t : Nat} {x : Int32} (hp : z_pt k pc = some (nL, .ifCond c off, ax)) (ht : z_tgt pc off = some t) (kt : z_cmp0 c x = true → Rl sc D k t ls st μ a q o P J) (kf : z_cmp0 c x = false → Rl sc D k (pc + 3) ls st μ a q o P J) : Rl sc D k pc ls (.int x :: st) μ a q o P J := by
  cases hx : z_cmp0 c x with
  | true => exact L_pure hp rfl (fun d hp => by show z_ifc c pc off ls (.int x :: st) hp = _; unfold z_ifc; dsimp only; rw [ht]; dsimp only; rw [hx]; rfl) (kt hx)
  | false => exact L_pure hp rfl (fun d hp => by show z_ifc c pc off ls (.int x :: st) hp = _; unfold z_ifc; dsimp only; rw [ht]; dsimp only; rw [hx]; rfl) (kf hx)
theorem L_icm {c : ClassFile.Cond} {off : Int} {t : Nat} {x y : Int32} (hp : z_pt k pc = some (nL, .if_icmp c off, ax)) (ht : z_tgt pc off = some t) (kt : z_cmp2 c x y = true → Rl sc D k t ls st μ a q o P J) (kf : z_cmp2 c x y = false → Rl sc D k (pc + 3) ls st μ a q o P J) : Rl sc D k pc ls (.int y :: .int x :: st) μ a q o P J := by
  cases hx : z_cmp2 c x y with
  | true => exact L_pure hp rfl (fun d hp => by show z_icm c pc off ls (.int y :: .int x :: st) hp = _; unfold z_icm; dsimp only; rw [ht]; dsimp only; rw [hx]; rfl) (kt hx)
  | false => exact L_pure hp rfl (fun d hp => by show z_icm c pc off ls (.int y :: .int x :: st) hp = _; unfold z_icm; dsimp only; rw [ht]; dsimp only; rw [hx]; rfl) (kf hx)
/-- a jump whose way is known -/
theorem L_ifT {c : ClassFile.Cond} {off : Int} {t : Nat} {x : Int32} (hp : z_pt k pc = some (nL, .ifCond c off, ax)) (ht : z_tgt pc off = some t) (hx : z_cmp0 c x = true) (kt : Rl sc D k t ls st μ a q o P J) : Rl sc D k pc ls (.int x :: st) μ a q o P J :=
  L_if hp ht (fun _ => kt) (fun h => by rw [hx] at h; cases h)
theorem L_ifF {c : ClassFile.Cond} {off : Int} {t : Nat} {x : Int32} (hp : z_pt k pc = some (nL, .ifCond c off, ax)) (ht : z_tgt pc off = some t) (hx : z_cmp0 c x = false) (kf : Rl sc D k (pc + 3) ls st μ a q o P J) : Rl sc D k pc ls (.int x :: st) μ a q o P J :=
  L_if hp ht (fun h => by rw [hx] at h; cases h) (fun _ => kf)
theorem L_icT {c : ClassFile.Cond} {off : Int} {t : Nat} {x y : Int32} (hp : z_pt k pc = some (nL, .if_icmp c off, ax)) (ht : z_tgt pc off = some t) (hx : z_cmp2 c x y = true) (kt : Rl sc D k t ls st μ a q o P J) : Rl sc D k pc ls (.int y :: .int x :: st) μ a q o P J :=
  L_icm hp ht (fun _ => kt) (fun h => by rw [hx] at h; cases h)
theorem L_icF {c : ClassFile.Cond} {off : Int} {t : Nat} {x y : Int32} (hp : z_pt k pc = some (nL, .if_icmp c off, ax)) (ht : z_tgt pc off = some t) (hx : z_cmp2 c x y = false) (kf : Rl sc D k (pc + 3) ls st μ a q o P J) : Rl sc D k pc ls (.int y :: .int x :: st) μ a q o P J :=
  L_icm hp ht (fun h => by rw [hx] at h; cases h) (fun _ => kf)
theorem L_sw {x v : Int32} {t : Nat} (hp : z_pt k pc = some (nL, i, ax)) (hx : x = v) (h : z_swt k pc v = some t) (kk : Rl sc D k t ls st μ a q o P J) : Rl sc D k pc ls (.int x :: st) μ a q o P J := by
  subst hx
  unfold z_swt at h
  rw [hp] at h
  dsimp only at h
  split at h
  · rename_i off ho
    exact L_pure hp (z_kd_off ho) (fun d hp => z_off_loc ho h) kk
  · cases h
theorem L_scr {x v : Int32} (hp : z_pt k pc = some (nL, .iaload, ax)) (hx : z_inb x sc.1 = true) (hv : sc.2 x.toNatClampNeg = v) (kk : Rl sc D k (pc + 1) ls (.int v :: st) μ a q o P J) : Rl sc D k pc ls (.int x :: .ref 2000 :: st) μ a q o P J := by
  subst hv
  refine L_pure hp rfl (fun d hp => ?_) kk
  show z_mk (pc + 1) ls hp (z_ald sc 0 (.int x :: .ref 2000 :: st) hp) = _
  unfold z_ald z_hg
  dsimp only [Nat.beq_refl]
  rw [show Nat.beq 2000 2000 = true from rfl]
  dsimp only [cond_true]
  rw [hx]
  rfl
theorem L_scl (hp : z_pt k pc = some (nL, .arraylength, ax)) (kk : Rl sc D k (pc + 1) ls (.int (Int32.ofNat sc.1) :: st) μ a q o P J) : Rl sc D k pc ls (.ref 2000 :: st) μ a q o P J :=
  L_pure hp rfl (fun d hp => rfl) kk
theorem L_last {x : Int64} (hp : z_pt k pc = some (nL, .lastore, ax)) (kk : Rl sc D k (pc + 1) ls st μ (vp_updL a 0 x) q o P J) : Rl sc D k pc ls (.long x :: .int 0 :: .ref 251 :: st) μ a q o P J :=
  L_gen hp rfl (fun j sl d => by
    show z_last pc ls (.long x :: .int 0 :: .ref 251 :: st) (z_hp μ (z_OE a q) j sl) = _
    unfold z_last z_hp
    dsimp only
    rw [z_oe_0]
    dsimp only
    rw [show (Nat.beq 3 3 && z_inb 0 1) = true by decide]
    dsimp only [cond_true]
    rw [show (0 : Int32).toNatClampNeg = 0 from rfl, z_oe_s0]) kk
theorem L_dast {x : UInt64} (hp : z_pt k pc = some (nL, .dastore, ax)) (kk : Rl sc D k (pc + 1) ls st μ a (vf_upd q 0 x) o P J) : Rl sc D k pc ls (.double x :: .int 0 :: .ref 252 :: st) μ a q o P J :=
  L_gen hp rfl (fun j sl d => by
    show z_dast pc ls (.double x :: .int 0 :: .ref 252 :: st) (z_hp μ (z_OE a q) j sl) = _
    unfold z_dast z_hp
    dsimp only
    rw [z_oe_1]
    dsimp only
    rw [show (Nat.beq 4 4 && z_inb 0 1) = true by decide]
    dsimp only [cond_true]
    rw [show (0 : Int32).toNatClampNeg = 0 from rfl, z_oe_s1]) kk
theorem L_lald (hp : z_pt k pc = some (nL, .laload, ax)) (kk : Rl sc D k (pc + 1) ls (.long (a 0) :: st) μ a q o P J) : Rl sc D k pc ls (.int 0 :: .ref 251 :: st) μ a q o P J :=
  L_gen hp rfl (fun j sl d => by
    show z_mk (pc + 1) ls _ (z_lald _ _) = _
    unfold z_lald z_hp
    dsimp only
    rw [z_oe_0]
    rfl) kk
theorem L_dald (hp : z_pt k pc = some (nL, .daload, ax)) (kk : Rl sc D k (pc + 1) ls (.double (q 0) :: st) μ a q o P J) : Rl sc D k pc ls (.int 0 :: .ref 252 :: st) μ a q o P J :=
  L_gen hp rfl (fun j sl d => by
    show z_mk (pc + 1) ls _ (z_dald _ _) = _
    unfold z_dald z_hp
    dsimp only
    rw [z_oe_1]
    rfl) kk
theorem L_ret {v : Option Value} {ret : Option FieldType} (hp : z_pt k pc = some (nL, i, ax)) (hk : z_kd i ax = 1) (hr : z_rt k = some ret) (h : z_fin ret i st = some v) (hP : P μ a q) : Rl sc D k pc ls st μ a q (.inl v) P J := by
  intro j sl
  obtain ⟨r, len, hrr, hf, hl, rfl⟩ := z_pt_eq hp
  have hret : r.2.2.2.2.2.1 = ret := by
    unfold z_rt at hr
    rw [hrr] at hr
    exact Option.some.inj hr
  subst hret
  refine ⟨1, 0, μ, a, q, Nat.zero_le _, hP, fun f d h1 h2 => ?_⟩
  obtain ⟨f, rfl⟩ : ∃ f', f = f' + 1 := ⟨f - 1, by omega⟩
  rw [z_ex_fin hrr hf hl hk h]
  rfl
theorem L_retI {v : Int32} (hp : z_pt k pc = some (nL, .ireturn, ax)) (hr : z_rt k = some (some .int)) (hP : P μ a q) : Rl sc D k pc ls [.int v] μ a q (.inl (some (.int v))) P J :=
  L_ret hp rfl hr (by unfold z_fin; dsimp only; rw [if_pos (show narrow .int (.int v) = .int v from rfl)]) hP
theorem L_retZ {v : Int32} (hp : z_pt k pc = some (nL, .ireturn, ax)) (hr : z_rt k = some (some .boolean)) (hn : narrow .boolean (.int v) = .int v) (hP : P μ a q) : Rl sc D k pc ls [.int v] μ a q (.inl (some (.int v))) P J :=
  L_ret hp rfl hr (by unfold z_fin; dsimp only; rw [if_pos hn]) hP
theorem L_call {kd k2 n c2 nl2 : Nat} {as rr : List Value} {D2 : Nat} {v : Option Value} {q1 q2 q3 q4 q5 : Nat} (hp : z_pt k pc = some (nL, i, [kd, k2, n, q1, q2, q3, q4, q5])) (hk : z_kd i [kd, k2, n, q1, q2, q3, q4, q5] = 3) (h2 : z_r2 k2 = some (c2, nl2, true)) (ha : z_args kd n st = some (as, rr)) (hb : (Nat.ble (lg_sl as).length nl2 && Nat.ble (z_cat rr) 8) = true) (hrc : Nat.beq kd 0 = false ∨ ∃ b rest, as = .ref b :: rest ∧ z_ci b c2 = true) (hr : Rn D2 k2 0 (lv_args 0 as) [] μ (.inl v) μ1) (hd : D2 + 1 ≤ D) (kk : Rl sc D k (pc + 3) ls (v.toList ++ rr) μ1 a q o P J) : Rl sc D k pc ls st μ a q o P J := by
  intro j sl
  obtain ⟨r, f0, -, h⟩ := z_ex_call (ls := ls) (tl := []) hp rfl hk h2 ha hb hrc hr hd (z_OE a q) j sl
  obtain ⟨f1, jx, μ', a', q', hj, hP, h1⟩ := kk j sl
  refine ⟨f0 + f1 + 1, jx, μ', a', q', hj, hP, fun f d h3 h4 => ?_⟩
  obtain ⟨f, rfl⟩ : ∃ f', f = f' + 1 := ⟨f - 1, by omega⟩
  rw [h sc f d (by omega) h4]
  exact h1 f d (by omega) h4
/-- where a thrown exception is caught: behind the handler's first instruction, and the local that it takes -/
def z_hx (k pc E : Nat) : Option (Nat × Nat) := match z_rec k with
  | some r => match z_hd r.1 pc E r.2.2.2.2.2.2.1 with
    | some (some h) => match z_find r.2.2.2.2.2.2.2.2 h with
      | some (j, m, _) => match z_hs j with
        | some x => bif z_lok j m && Nat.blt x r.2.2.2.2.1 then some (h + m, x) else none
        | none => none
      | none => none
    | _ => none
  | none => none
theorem L_callX {kd k2 n c2 nl2 E h x : Nat} {as rr : List Value} {D2 : Nat} {q1 q2 q3 q4 q5 : Nat} (hp : z_pt k pc = some (nL, i, [kd, k2, n, q1, q2, q3, q4, q5])) (hk : z_kd i [kd, k2, n, q1, q2, q3, q4, q5] = 3) (h2 : z_r2 k2 = some (c2, nl2, true)) (ha : z_args kd n st = some (as, rr)) (hb : (Nat.ble (lg_sl as).length nl2 && Nat.ble (z_cat rr) 8) = true) (hrc : Nat.beq kd 0 = false ∨ ∃ b rest, as = .ref b :: rest ∧ z_ci b c2 = true) (hr : Rn D2 k2 0 (lv_args 0 as) [] μ (.inr E) μ1) (hkd : Nat.ble kd 1 = true) (hx : z_hx k pc E = some (h, x)) (hd : D2 + 1 ≤ D) (hls : z_rm ls x = ls') (kk : Rl sc D k h ls' [] μ1 a q o P J) : Rl sc D k pc ls st μ a q o P (J + 1) := by
  subst hls
  intro j sl
  obtain ⟨r, f0, hrr, hh⟩ := z_ex_call (ls := ls) (tl := []) hp rfl hk h2 ha hb hrc hr hd (z_OE a q) j sl
  obtain ⟨f1, jx, μ', a', q', hj, hP, h1⟩ := kk (j + 1) (sl + 6)
  refine ⟨f0 + f1 + 1, jx + 1, μ', a', q', by omega, hP, fun f d h3 h4 => ?_⟩
  obtain ⟨f, rfl⟩ : ∃ f', f = f' + 1 := ⟨f - 1, by omega⟩
  rw [hh sc f d (by omega) h4]
  have e1 : j + (jx + 1) = j + 1 + jx := by omega
  have e2 : sl + 6 * (jx + 1) = sl + 6 + 6 * jx := by omega
  rw [e1, e2, ← h1 f d (by omega) h4]
  unfold z_hx at hx
  rw [hrr] at hx
  dsimp only at hx ⊢
  rw [hkd]
  split at hx
  · rename_i h0 hh0
    rw [hh0]
    split at hx
    · rename_i j0 m0 w0 hf0
      dsimp only [cond_true]
      rw [hf0]
      dsimp only
      split at hx
      · rename_i x0 hs0
        rw [hs0]
        dsimp only
        cases hbb : z_lok j0 m0 && Nat.blt x0 r.2.2.2.2.1 with
        | false => rw [hbb] at hx; cases hx
        | true => rw [hbb] at hx; cases hx; rfl
      · cases hx
    · cases hx
  · cases hx
/-- a method of the law's own -/
def z_r3 (k : Nat) : Option (Nat × Nat × Bool) := match z_rec k with
  | some r => some (r.1, r.2.2.2.2.1, Nat.ble r.2.2.2.2.1 20)
  | none => none
theorem L_callE {k2 n c2 nl2 J2 : Nat} {as rr : List Value} {D2 : Nat} {v : Option Value} {q1 q2 q3 q4 q5 : Nat} {P2 : z_LP} (hp : z_pt k pc = some (nL, i, [5, k2, n, q1, q2, q3, q4, q5])) (hk : z_kd i [5, k2, n, q1, q2, q3, q4, q5] = 3) (h2 : z_r3 k2 = some (c2, nl2, true)) (ha : z_args 5 n st = some (as, rr)) (hb : (Nat.ble (lg_sl as).length nl2 && Nat.ble (z_cat rr) 8) = true) (hr : Rl sc D2 k2 0 (lv_args 0 as) [] μ a q (.inl v) P2 J2) (hd : D2 + 1 ≤ D) (kk : ∀ μ1 a1 q1, P2 μ1 a1 q1 → Rl sc D k (pc + 3) ls (v.toList ++ rr) μ1 a1 q1 o P J) : Rl sc D k pc ls st μ a q o P (J2 + J) := by
  intro j sl
  obtain ⟨r, len, hrr, hf, hl, rfl⟩ := z_pt_eq hp
  obtain ⟨f0, jx, μ1, a1, q1', hj, hP2, hf0⟩ := hr j sl
  obtain ⟨f1, jx1, μ', a', q', hj1, hP, h1⟩ := kk μ1 a1 q1' hP2 (j + jx) (sl + 6 * jx)
  refine ⟨f0 + f1 + 1, jx + jx1, μ', a', q', by omega, hP, fun f d h3 h4 => ?_⟩
  obtain ⟨f, rfl⟩ : ∃ f', f = f' + 1 := ⟨f - 1, by omega⟩
  unfold z_r3 at h2
  split at h2
  · rename_i r2 hr2
    have h5 := Option.some.inj h2
    have e1 : r2.1 = c2 := congrArg (fun q => q.1) h5
    have e2 : r2.2.2.2.2.1 = nl2 := congrArg (fun q => q.2.1) h5
    have e3 : Nat.ble r2.2.2.2.2.1 20 = true := congrArg (fun q => q.2.2) h5
    rw [Bool.and_eq_true] at hb
    conv => lhs; unfold z_ex
    rw [hrr]
    dsimp only
    rw [hf]
    dsimp only
    rw [hl, hk]
    dsimp only [cond_true]
    rw [hr2, ha]
    dsimp only
    rw [e2, hb.1, ← e2, e3, hb.2, show z_rcv 5 r2.1 as (z_hp μ (z_OE a q) j sl) = true from rfl, show Nat.beq 5 5 = true from rfl, Bool.true_or, Nat.ble_eq.mpr (show 1 ≤ d by omega), hf0 f (d - 1) (by omega) (by omega)]
    simp only [Bool.and_self, cond_true]
    rw [h1 f d (by omega) h4, Nat.add_assoc, Nat.mul_add, Nat.add_assoc]
  · cases h2
theorem L_mono {J' : Nat} (h : Rl sc D k pc ls st μ a q o P J) (hJ : J ≤ J') : Rl sc D k pc ls st μ a q o P J' := by
  intro j sl
  obtain ⟨f0, jx, μ', a', q', hj, hP, hf0⟩ := h j sl
  exact ⟨f0, jx, μ', a', q', Nat.le_trans hj hJ, hP, hf0⟩
end Rows
end ZLAW
