/-! Steps of the interpreter over the memory, for the methods' runs. -/
section ZROWS
theorem z_bs {α β : Type} {o : Option α} {f : α → Option β} {r : β} (h : o.bind f = some r) : ∃ x, o = some x ∧ f x = some r := by
  cases o with
  | none => cases h
  | some x => exact ⟨x, rfl, h⟩
theorem z_ig {α : Type} {c : Prop} [Decidable c] {T : Option α} {r : α} (h : (if c then T else none) = some r) : c ∧ T = some r := by
  by_cases hc : c
  · rw [if_pos hc] at h; exact ⟨hc, h⟩
  · rw [if_neg hc] at h; cases h
theorem z_ng {α : Type} {c : Prop} [Decidable c] {T : Option α} {r : α} (h : (if c then none else T) = some r) : ¬ c ∧ T = some r := by
  by_cases hc : c
  · rw [if_pos hc] at h; cases h
  · rw [if_neg hc] at h; exact ⟨hc, h⟩
/-- a read of an array -/
def z_rd (μ : z_Mem) (a n : Nat) (i : Int32) : Option Int32 := if z_inb i n = true then some (μ a i.toNatClampNeg) else none
theorem z_rd_ok {μ : z_Mem} {a n : Nat} {i v : Int32} (h : z_rd μ a n i = some v) : z_inb i n = true ∧ μ a i.toNatClampNeg = v := by
  unfold z_rd at h
  obtain ⟨h1, h2⟩ := z_ig h
  exact ⟨h1, Option.some.inj h2⟩
/-- a constant's value, and what follows it -/
def z_ptc (k pc : Nat) : Option (Nat × Int32) := match z_pt k pc with
  | some (_, i, ax) => (match i with
    | .iconst n => some (pc + 1, Int32.ofInt n)
    | .bipush n => some (pc + 2, (Int8.ofInt n).toInt32)
    | .sipush n => some (pc + 3, (Int16.ofInt n).toInt32)
    | .ldc _ => (match ax with
      | [0, _, v] => some (pc + 2, Int32.ofNat v)
      | _ => none)
    | _ => none)
  | none => none
/-- where a switch goes -/
def z_off (i : Instr) (x : Int32) : Option Int := match i with
  | .tableswitch dflt lo hi offs => if x.toInt < lo ∨ hi < x.toInt then some dflt else offs[(x.toInt - lo).toNat]?
  | .lookupswitch dflt ps => bif (ps.toList.zip (ps.toList.drop 1)).all (fun (a, next) => a.1 < next.1) then some (Op.lookupswitch.offset ps.toList dflt x.toInt) else none
  | _ => none
def z_swt (k pc : Nat) (x : Int32) : Option Nat := match z_pt k pc with
  | some (_, i, _) => (match z_off i x with
    | some o => z_tgt pc o
    | none => none)
  | none => none
def z_swd (k pc : Nat) (cs : List Int32) : Option Nat := match z_pt k pc with
  | some (_, i, _) => (match i with
    | .tableswitch dflt lo hi offs => bif (List.range (hi - lo + 1).toNat).all (fun q => cs.contains (Int32.ofInt (lo + q)) || decide (offs[q]? = some dflt)) then z_tgt pc dflt else none
    | .lookupswitch dflt ps => bif (ps.toList.zip (ps.toList.drop 1)).all (fun (a, next) => a.1 < next.1) && ps.toList.all (fun q => cs.contains (Int32.ofInt q.1)) then z_tgt pc dflt else none
    | _ => none)
  | none => none
def z_nin (x : Int32) (cs : List Int32) : Prop := ∀ v ∈ cs, ¬ x = v
theorem z_nn (x : Int32) : z_nin x [] := fun _ h => by cases h
theorem z_nc {x v : Int32} {l : List Int32} (h : ¬ x = v) (hl : z_nin x l) : z_nin x (v :: l) := fun w hw => by
  rcases List.mem_cons.mp hw with rfl | hw
  · exact h
  · exact hl w hw
/-- a method that may be called: its class, its locals, no handlers -/
def z_r2 (k : Nat) : Option (Nat × Nat × Bool) := match z_rec k with
  | some r => some (r.1, r.2.2.2.2.1, Nat.ble r.2.2.2.2.1 20 && r.2.2.2.2.2.2.1.isEmpty)
  | none => none
def z_thx (k pc : Nat) : Option Nat := match z_rec k with
  | some r => match z_find r.2.2.2.2.2.2.2.2 pc with
    | some (i, len, ax) => bif z_lok i len && Nat.beq (z_kd i ax) 2 then (z_thr r 6 pc i ax [] ([], 0, 0)).map (·.1) else none
    | none => none
  | none => none
def z_oX (x : Int32 ⊕ Nat) : z_R := match x with
  | .inl v => .inl (some (.int v))
  | .inr e => .inr e
def z_oU (x : Option Nat) : z_R := match x with
  | none => .inl none
  | some e => .inr e
def z_oD (x : UInt64 ⊕ Nat) : z_R := match x with
  | .inl v => .inl (some (.double v))
  | .inr e => .inr e
def z_oF (x : UInt32 ⊕ Nat) : z_R := match x with
  | .inl v => .inl (some (.float v))
  | .inr e => .inr e
/-- no loop of these methods turns more often -/
def z_fu : Nat := 3000
/-- nor does a chain of calls to itself go deeper -/
def z_rf : Nat := 12
def z_n64 (x : UInt64) : Bool := decide (x &&& 0x7fffffffffffffff ≤ 0x7ff0000000000000)
def z_n32 (x : UInt32) : Bool := decide (x &&& 0x7fffffff ≤ 0x7f800000)
/-- the states of the ring -/
def z_rg (i : Int32) : Nat := 59 + 20 * i.toNatClampNeg
theorem z_nrZ {v : Int32} (h : vp_nar .boolean v = v) : narrow .boolean (.int v) = .int v := by
  unfold vp_nar at h
  have e : narrow .boolean (.int v) = .int (match narrow .boolean (.int v) with
    | .int y => y
    | _ => 0) := rfl
  rw [e]
  exact congrArg Value.int h
theorem z_nrC {v : Int32} (h : vp_nar .char v = v) : narrow .char (.int v) = .int v := by
  unfold vp_nar at h
  have e : narrow .char (.int v) = .int (match narrow .char (.int v) with
    | .int y => y
    | _ => 0) := rfl
  rw [e]
  exact congrArg Value.int h
section Rows
variable {D k pc nL : Nat} {ls ls' : z_Ls} {st st' : List Value} {μ μ1 μ2 : z_Mem} {o : z_R} {i : Instr} {ax : List Nat}
theorem R_at (kk : Rn D k pc ls st μ o μ2) : Rn D k pc ls st μ o μ2 := kk
theorem R_at2 (kk : Rn D k pc ls st μ o μ2) : Rn D k pc ls st μ o μ2 := kk
theorem R_const {pc' : Nat} {v : Int32} (h : z_ptc k pc = some (pc', v)) (kk : Rn D k pc' ls (.int v :: st) μ o μ2) : Rn D k pc ls st μ o μ2 := by
  unfold z_ptc at h
  split at h
  · rename_i nL i ax hp
    split at h
    · cases h; exact R_pure hp rfl (fun _ _ _ => rfl) kk
    · cases h; exact R_pure hp rfl (fun _ _ _ => rfl) kk
    · cases h; exact R_pure hp rfl (fun _ _ _ => rfl) kk
    · split at h
      · cases h; exact R_pure hp rfl (fun _ _ _ => rfl) kk
      · cases h
    · cases h
  · cases h
theorem R_inc {q pc' : Nat} {n : Int} {c x : Int32} (hp : z_pt k pc = some (nL, .iinc q n, ax)) (hi : q < nL ∧ Int32.ofInt n = c ∧ pc' = pc + 3) (hx : z_get ls q = some (.int x)) (hl : z_st1 ls q (.int (x + c)) = ls') (kk : Rn D k pc' ls' st μ o μ2) : Rn D k pc ls st μ o μ2 := by
  obtain ⟨h1, rfl, rfl⟩ := hi
  subst hl
  refine R_pure hp rfl (fun sc d hp => ?_) kk
  show z_inc nL (pc + 3) ls q n st hp = _
  unfold z_inc
  rw [hx]
  dsimp only
  rw [if_pos h1]
theorem R_ialdR {a n : Nat} {x v : Int32} (hp : z_pt k pc = some (nL, .iaload, ax)) (hs : z_ar a 0 n = true) (hx : z_rd μ a n x = some v) (kk : Rn D k (pc + 1) ls (.int v :: st) μ o μ2) : Rn D k pc ls (.int x :: .ref a :: st) μ o μ2 := by
  obtain ⟨h1, rfl⟩ := z_rd_ok hx
  exact R_iald hp hs h1 kk
theorem R_caldR {a n : Nat} {x v : Int32} (hp : z_pt k pc = some (nL, .caload, ax)) (hs : z_ar a 1 n = true) (hx : z_rd μ a n x = some v) (kk : Rn D k (pc + 1) ls (.int v :: st) μ o μ2) : Rn D k pc ls (.int x :: .ref a :: st) μ o μ2 := by
  obtain ⟨h1, rfl⟩ := z_rd_ok hx
  exact R_cald hp hs h1 kk
theorem R_baldR {a n : Nat} {x v : Int32} (hp : z_pt k pc = some (nL, .baload, ax)) (hs : z_ar a 2 n = true) (hx : z_rd μ a n x = some v) (kk : Rn D k (pc + 1) ls (.int v :: st) μ o μ2) : Rn D k pc ls (.int x :: .ref a :: st) μ o μ2 := by
  obtain ⟨h1, rfl⟩ := z_rd_ok hx
  exact R_bald hp hs h1 kk
theorem R_ialdK {a n jn : Nat} {x : Int32} (hp : z_pt k pc = some (nL, .iaload, ax)) (hs : z_ar a 0 n = true) (hx : z_inb x n = true) (hj : x.toNatClampNeg = jn) (kk : Rn D k (pc + 1) ls (.int (μ a jn) :: st) μ o μ2) : Rn D k pc ls (.int x :: .ref a :: st) μ o μ2 := by
  subst hj; exact R_iald hp hs hx kk
theorem R_caldK {a n jn : Nat} {x : Int32} (hp : z_pt k pc = some (nL, .caload, ax)) (hs : z_ar a 1 n = true) (hx : z_inb x n = true) (hj : x.toNatClampNeg = jn) (kk : Rn D k (pc + 1) ls (.int (μ a jn) :: st) μ o μ2) : Rn D k pc ls (.int x :: .ref a :: st) μ o μ2 := by
  subst hj; exact R_cald hp hs hx kk
theorem R_baldK {a n jn : Nat} {x : Int32} (hp : z_pt k pc = some (nL, .baload, ax)) (hs : z_ar a 2 n = true) (hx : z_inb x n = true) (hj : x.toNatClampNeg = jn) (kk : Rn D k (pc + 1) ls (.int (μ a jn) :: st) μ o μ2) : Rn D k pc ls (.int x :: .ref a :: st) μ o μ2 := by
  subst hj; exact R_bald hp hs hx kk
theorem R_iastK {a n jn : Nat} {x v : Int32} (hp : z_pt k pc = some (nL, .iastore, ax)) (hs : z_ar a 0 n = true) (hx : z_inb x n = true) (hj : x.toNatClampNeg = jn) (kk : Rn D k (pc + 1) ls st (z_u μ a jn v) o μ2) : Rn D k pc ls (.int v :: .int x :: .ref a :: st) μ o μ2 := by
  subst hj; exact R_iast hp hs hx kk
theorem R_castK {a n jn : Nat} {x v : Int32} (hp : z_pt k pc = some (nL, .castore, ax)) (hs : z_ar a 1 n = true) (hx : z_inb x n = true) (hj : x.toNatClampNeg = jn) (kk : Rn D k (pc + 1) ls st (z_u μ a jn (vp_nar .char v)) o μ2) : Rn D k pc ls (.int v :: .int x :: .ref a :: st) μ o μ2 := by
  subst hj; exact R_cast hp hs hx kk
theorem R_bastK {a n jn : Nat} {x v : Int32} (hp : z_pt k pc = some (nL, .bastore, ax)) (hs : z_ar a 2 n = true) (hx : z_inb x n = true) (hj : x.toNatClampNeg = jn) (kk : Rn D k (pc + 1) ls st (z_u μ a jn (vp_nar .boolean v)) o μ2) : Rn D k pc ls (.int v :: .int x :: .ref a :: st) μ o μ2 := by
  subst hj; exact R_bast hp hs hx kk
theorem R_cpyK {a b t0 t1 n0 n1 idx sn dn nn : Nat} {tl : List Nat} {n dp sp : Int32} (hp : z_pt k pc = some (nL, .invokestatic idx, 7 :: tl)) (hk : z_kd (.invokestatic idx) (7 :: tl) = 0) (hD : 1 ≤ D) (hb : z_ar b 0 n0 = true) (ha : z_ar a 0 n1 = true) (hc : Nat.ble (z_cat (.int n :: .int dp :: .ref a :: .int sp :: .ref b :: st)) 8 = true) (h : sp.toNatClampNeg = sn ∧ dp.toNatClampNeg = dn ∧ n.toNatClampNeg = nn ∧ ¬ sp < 0 ∧ ¬ dp < 0 ∧ ¬ n < 0 ∧ sn + nn ≤ n0 ∧ dn + nn ≤ n1) (kk : Rn D k (pc + 3) ls st (z_cp μ b a sn dn nn) o μ2) : Rn D k pc ls (.int n :: .int dp :: .ref a :: .int sp :: .ref b :: st) μ o μ2 := by
  obtain ⟨rfl, rfl, rfl, h⟩ := h
  exact R_cpy (t0 := 0) (t1 := 0) hp hk hD hb ha hc h kk
theorem R_slen {sj idx : Nat} {tl : List Nat} (hp : z_pt k pc = some (nL, .invokevirtual idx, 8 :: tl)) (hk : z_kd (.invokevirtual idx) (8 :: tl) = 0) (hs : Nat.blt sj 21 = true) (hD : 6 ≤ D) (hc : Nat.ble (z_cat (.ref (1000 + sj) :: st)) 8 = true) (kk : Rn D k (pc + 3) ls (.int (Int32.ofNat (z_str sj).length) :: st) μ o μ2) : Rn D k pc ls (.ref (1000 + sj) :: st) μ o μ2 :=
  R_gen hp hk 6 hD (fun ext j sl sc d hd => by
    show z_jl d pc ls _ _ = _
    unfold z_jl
    rw [if_pos ⟨hd, Nat.le_of_ble_eq_true hc⟩]
    have h1 : Nat.ble 1000 (1000 + sj) = true := Nat.ble_eq.mpr (Nat.le_add_right _ _)
    have h2 : Nat.blt (1000 + sj) 1021 = true := by
      have := Nat.blt_eq.mp hs
      exact Nat.blt_eq.mpr (by omega)
    unfold z_slen
    dsimp only
    rw [h1, h2, Nat.add_sub_cancel_left]
    rfl) kk
theorem R_sch {sj idx : Nat} {tl : List Nat} {x : Int32} (hp : z_pt k pc = some (nL, .invokevirtual idx, 9 :: tl)) (hk : z_kd (.invokevirtual idx) (9 :: tl) = 0) (hs : Nat.blt sj 21 = true) (hx : z_inb x (z_str sj).length = true) (hD : 6 ≤ D) (hc : Nat.ble (z_cat (.int x :: .ref (1000 + sj) :: st)) 8 = true) (kk : Rn D k (pc + 3) ls (.int (Int32.ofNat ((z_str sj).getD x.toNatClampNeg 0)) :: st) μ o μ2) : Rn D k pc ls (.int x :: .ref (1000 + sj) :: st) μ o μ2 :=
  R_gen hp hk 6 hD (fun ext j sl sc d hd => by
    show z_jx d pc ls _ _ = _
    unfold z_jx
    rw [if_pos ⟨hd, Nat.le_of_ble_eq_true hc⟩]
    have h1 : Nat.ble 1000 (1000 + sj) = true := Nat.ble_eq.mpr (Nat.le_add_right _ _)
    have h2 : Nat.blt (1000 + sj) 1021 = true := by
      have := Nat.blt_eq.mp hs
      exact Nat.blt_eq.mpr (by omega)
    unfold z_sch
    dsimp only
    rw [h1, h2, Nat.add_sub_cancel_left, hx]
    rfl) kk
theorem R_ddiv {x y : UInt64} (hp : z_pt k pc = some (nL, .ddiv, ax)) (h : z_n64 (FP.ddiv x y) = true) (kk : Rn D k (pc + 1) ls (.double (FP.ddiv x y) :: st) μ o μ2) : Rn D k pc ls (.double y :: .double x :: st) μ o μ2 :=
  R_pure hp rfl (fun sc d hp => by
    show (if FP.ddiv x y &&& 0x7fffffffffffffff ≤ 0x7ff0000000000000 then _ else _) = _
    rw [if_pos (of_decide_eq_true h)]) kk
theorem R_fdiv {x y : UInt32} (hp : z_pt k pc = some (nL, .fdiv, ax)) (h : z_n32 (FP.fdiv x y) = true) (kk : Rn D k (pc + 1) ls (.float (FP.fdiv x y) :: st) μ o μ2) : Rn D k pc ls (.float y :: .float x :: st) μ o μ2 :=
  R_pure hp rfl (fun sc d hp => by
    show (if FP.fdiv x y &&& 0x7fffffff ≤ 0x7f800000 then _ else _) = _
    rw [if_pos (of_decide_eq_true h)]) kk
theorem z_tgt_gto {t : Nat} {off : Int} {hp : z_H} (h : z_tgt pc off = some t) : z_gto pc off ls st hp = some (t, ls, st, hp) := by
  unfold z_gto; rw [h]
theorem z_kd_off {x : Int32} {off : Int} (h : z_off i x = some off) : z_kd i ax = 0 := by
  unfold z_off at h
  split at h
  · rfl
  · rfl
  · cases h
theorem z_off_loc {x : Int32} {off : Int} {t : Nat} {sc : Nat × (Nat → Int32)} {d : Nat} {hp : z_H} (h : z_off i x = some off) (ht : z_tgt pc off = some t) : z_loc sc d nL i ax pc ls (.int x :: st) hp = some (t, ls, st, hp) := by
  unfold z_off at h
  split at h
  · show z_tsw pc _ _ _ _ ls (.int x :: st) hp = _
    unfold z_tsw
    dsimp only
    split at h
    · rename_i hc; cases h; rw [if_pos hc]; exact z_tgt_gto ht
    · rename_i hc; rw [if_neg hc, h]; exact z_tgt_gto ht
  · show z_lsw pc _ _ ls (.int x :: st) hp = _
    unfold z_lsw
    dsimp only
    rename_i ps
    cases hb : (ps.toList.zip (ps.toList.drop 1)).all (fun (a, next) => a.1 < next.1) with
    | false => rw [hb] at h; cases h
    | true =>
      rw [hb] at h
      cases h
      exact z_tgt_gto ht
  · cases h
theorem R_sw {x v : Int32} {t : Nat} (hp : z_pt k pc = some (nL, i, ax)) (hx : x = v) (h : z_swt k pc v = some t) (kk : Rn D k t ls st μ o μ2) : Rn D k pc ls (.int x :: st) μ o μ2 := by
  subst hx
  unfold z_swt at h
  rw [hp] at h
  dsimp only at h
  split at h
  · rename_i off ho
    exact R_pure hp (z_kd_off ho) (fun sc d hp => z_off_loc ho h) kk
  · cases h
theorem z_i32_int (x : Int32) : Int32.ofInt x.toInt = x := Int32.ofInt_toInt x
theorem R_swd {x : Int32} {t : Nat} {cs : List Int32} (hp : z_pt k pc = some (nL, i, ax)) (h : z_swd k pc cs = some t) (hx : z_nin x cs) (kk : Rn D k t ls st μ o μ2) : Rn D k pc ls (.int x :: st) μ o μ2 := by
  have hcon : cs.contains x = false := by
    cases hc : cs.contains x with
    | false => rfl
    | true => exact absurd rfl (hx x (List.contains_iff_mem.mp hc))
  unfold z_swd at h
  rw [hp] at h
  dsimp only at h
  split at h
  · rename_i dflt lo hi offs
    cases hb : (List.range (hi - lo + 1).toNat).all (fun q => cs.contains (Int32.ofInt (lo + q)) || decide (offs[q]? = some dflt)) with
    | false => rw [hb] at h; cases h
    | true =>
      rw [hb] at h
      have ho : z_off (.tableswitch dflt lo hi offs) x = some dflt := by
        unfold z_off
        dsimp only
        split
        · rfl
        · rename_i hc
          have h1 : lo ≤ x.toInt := by omega
          have h2 : x.toInt ≤ hi := by omega
          have h3 := List.all_eq_true.mp hb (x.toInt - lo).toNat (List.mem_range.mpr (by omega))
          have h4 : lo + ((x.toInt - lo).toNat : Int) = x.toInt := by omega
          rw [h4, z_i32_int, hcon] at h3
          simpa using h3
      exact R_pure hp (z_kd_off ho) (fun sc d hp => z_off_loc ho h) kk
  · rename_i dflt ps
    cases hb : (ps.toList.zip (ps.toList.drop 1)).all (fun (a, next) => a.1 < next.1) with
    | false => rw [hb] at h; cases h
    | true =>
      rw [hb] at h
      cases hc : ps.toList.all (fun q => cs.contains (Int32.ofInt q.1)) with
      | false => rw [hc] at h; cases h
      | true =>
        rw [hc] at h
        have hof : ∀ l : List (Int × Int), l.all (fun q => cs.contains (Int32.ofInt q.1)) = true → Op.lookupswitch.offset l dflt x.toInt = dflt := by
          intro l
          induction l with
          | nil => intro _; rfl
          | cons q l ih =>
            intro hl
            rw [List.all_cons, Bool.and_eq_true] at hl
            rw [Op.lookupswitch.offset_cons, if_neg, ih hl.2]
            intro hq
            have h5 := hl.1
            rw [hq, z_i32_int, hcon] at h5
            cases h5
        have ho : z_off (.lookupswitch dflt ps) x = some dflt := by
          unfold z_off
          dsimp only
          rw [hb, hof _ hc]
          rfl
        exact R_pure hp (z_kd_off ho) (fun sc d hp => z_off_loc ho h) kk
  · cases h
theorem z_thr_mn {r : z_Rec} {d E : Nat} {hp hp0 hp1 : z_H} (h : z_thr r 6 pc i ax [] hp0 = some (E, hp1)) (hd : 6 ≤ d) : z_thr r d pc i ax [] hp = some (E, (hp.1, hp.2.1 + 1, hp.2.2 + 6)) := by
  unfold z_thr at h ⊢
  split at h
  · rename_i e
    have h6 : Nat.ble 6 d = Nat.ble 6 6 := by rw [Nat.ble_eq.mpr hd]; rfl
    rw [h6]
    generalize hb : (Nat.ble 100 e && (Nat.blt e 106 && (Nat.beq r.1 9 && (r.2.2.2.2.2.2.1.isEmpty && (([] : List Value).isEmpty && (Nat.ble 6 6 && (decide (i = .new (z_xl (e - 100)).1) && (z_isI r.2.2.2.2.2.2.2.2 (pc + 3) .dup 1 && (z_isI r.2.2.2.2.2.2.2.2 (pc + 4) (.invokespecial (z_xl (e - 100)).2) 3 && z_isI r.2.2.2.2.2.2.2.2 (pc + 7) .athrow 1))))))))) = b at h ⊢
    cases b with
    | false => cases h
    | true => cases h; rfl
  · cases h
theorem R_thr {E : Nat} (h : z_thx k pc = some E) (hD : 6 ≤ D) : Rn D k pc ls [] μ (.inr E) μ := by
  intro ext j sl
  unfold z_thx at h
  split at h
  · rename_i r hr
    split at h
    · rename_i i len ax hf
      cases hb : z_lok i len && Nat.beq (z_kd i ax) 2 with
      | false => rw [hb] at h; cases h
      | true =>
        rw [hb] at h
        rw [Bool.and_eq_true] at hb
        obtain ⟨q, hq, rfl⟩ := Option.map_eq_some_iff.mp h
        obtain ⟨E, hp1⟩ := q
        refine ⟨1, fun sc f d h1 h2 => ?_⟩
        obtain ⟨f, rfl⟩ : ∃ f', f = f' + 1 := ⟨f - 1, by omega⟩
        unfold z_ex
        rw [hr]
        dsimp only
        rw [hf]
        dsimp only
        rw [hb.1, Nat.eq_of_beq_eq_true hb.2, z_thr_mn (hp := z_hp μ ext j sl) hq (Nat.le_trans hD h2)]
        rfl
    · cases h
  · cases h
theorem z_rcv_ok {kd c : Nat} {as : List Value} {ext : List va_E} {j sl : Nat} (h : Nat.beq kd 0 = false ∨ ∃ b rest, as = .ref b :: rest ∧ z_ci b c = true) : z_rcv kd c as (z_hp μ ext j sl) = true := by
  unfold z_rcv
  split
  · rcases h with h | ⟨b, rest, rfl, hb⟩
    · cases h
    · obtain ⟨fs, hfs⟩ := z_ci_eq hb
      unfold z_hp
      dsimp only
      rw [z_bl_get hfs]
      exact Nat.beq_refl _
  · rfl
/-- a call of a method that ends -/
theorem z_ex_call {kd k2 n c2 nl2 : Nat} {tl : List Nat} {as rr : List Value} {D2 : Nat} {v : z_R} {q1 q2 q3 q4 q5 : Nat} (hp : z_pt k pc = some (nL, i, ax)) (hax : ax = [kd, k2, n, q1, q2, q3, q4, q5]) (hk : z_kd i ax = 3) (h2 : z_r2 k2 = some (c2, nl2, true)) (ha : z_args kd n st = some (as, rr)) (hb : (Nat.ble (lg_sl as).length nl2 && Nat.ble (z_cat rr) 8) = true) (hrc : Nat.beq kd 0 = false ∨ ∃ b rest, as = .ref b :: rest ∧ z_ci b c2 = true) (hr : Rn D2 k2 0 (lv_args 0 as) [] μ v μ1) (hd : D2 + 1 ≤ D) (hv : ∀ w, v = .inl w → z_rvi w = true) : ∀ (ext : List va_E) (j sl : Nat), ∃ (r : z_Rec) (f0 : Nat), z_rec k = some r ∧ ∀ (sc : Nat × (Nat → Int32)) (f d : Nat), f0 ≤ f → D ≤ d → z_ex sc (f + 1) d k pc ls st (z_hp μ ext j sl) = (match (v, z_hp μ1 ext (j + z_xx v) (sl + 6 * z_xx v)) with
    | (.inl w, hp') => z_ex sc f d k (pc + 3) ls (w.toList ++ rr) hp'
    | (.inr E, hp') => bif Nat.ble kd 1 then (match z_hd r.1 pc E r.2.2.2.2.2.2.1 with
      | some none => some (.inr E, hp')
      | some (some h) => match z_find r.2.2.2.2.2.2.2.2 h with
        | some (j, m, _) => match z_hs j with
          | some x => bif z_lok j m && Nat.blt x r.2.2.2.2.1 then z_ex sc f d k (h + m) (z_rm ls x) [] hp' else none
          | none => none
        | none => none
      | none => none) else none) := by
  intro ext j sl
  subst hax
  obtain ⟨r, len, hrr, hf, hl, rfl⟩ := z_pt_eq hp
  obtain ⟨f0, hf0⟩ := hr ext j sl
  refine ⟨r, f0, hrr, fun sc f d h1 h3 => ?_⟩
  unfold z_r2 at h2
  split at h2
  · rename_i r2 hr2
    have h4 := Option.some.inj h2
    have e1 : r2.1 = c2 := congrArg (fun q => q.1) h4
    have e2 : r2.2.2.2.2.1 = nl2 := congrArg (fun q => q.2.1) h4
    have e3 : (Nat.ble r2.2.2.2.2.1 20 && r2.2.2.2.2.2.2.1.isEmpty) = true := congrArg (fun q => q.2.2) h4
    rw [Bool.and_eq_true] at e3 hb
    conv => lhs; unfold z_ex
    rw [hrr]
    dsimp only
    rw [hf]
    dsimp only
    rw [hl, hk]
    dsimp only [cond_true]
    rw [hr2, ha]
    dsimp only
    rw [e2, hb.1, ← e2, e3.1, hb.2, e1, z_rcv_ok hrc, e3.2, Bool.or_true, Nat.ble_eq.mpr (show 1 ≤ d by omega), hf0 sc f (d - 1) h1 (by omega)]
    simp only [Bool.and_self, cond_true]
    cases v with
    | inl w =>
      dsimp only
      rw [z_cok_hp (hv w rfl)]
      rfl
    | inr E =>
      have hck : ∀ ls' : z_Ls, z_cok (z_hp μ ext j sl) (z_hp μ1 ext (j + z_xx (.inr E)) (sl + 6 * z_xx (.inr E))) ls' [] none = true := fun _ => z_cok_hp rfl
      dsimp only
      simp only [hck, Bool.and_true]
      rfl
  · cases h2
theorem R_call {kd k2 n c2 nl2 : Nat} {as rr : List Value} {D2 : Nat} {v : Option Value} {q1 q2 q3 q4 q5 : Nat} (hp : z_pt k pc = some (nL, i, [kd, k2, n, q1, q2, q3, q4, q5])) (hk : z_kd i [kd, k2, n, q1, q2, q3, q4, q5] = 3) (h2 : z_r2 k2 = some (c2, nl2, true)) (ha : z_args kd n st = some (as, rr)) (hb : (Nat.ble (lg_sl as).length nl2 && Nat.ble (z_cat rr) 8) = true) (hrc : Nat.beq kd 0 = false ∨ ∃ b rest, as = .ref b :: rest ∧ z_ci b c2 = true) (hr : Rn D2 k2 0 (lv_args 0 as) [] μ (.inl v) μ1) (hd : D2 + 1 ≤ D) (kk : Rn D k (pc + 3) ls (v.toList ++ rr) μ1 o μ2) (hv : z_rvi v = true := by rfl) : Rn D k pc ls st μ o μ2 := by
  intro ext j sl
  obtain ⟨r, f0, -, h⟩ := z_ex_call (ls := ls) (tl := []) hp rfl hk h2 ha hb hrc hr hd (fun w hw => by cases hw; exact hv) ext j sl
  obtain ⟨f1, h1⟩ := kk ext j sl
  refine ⟨f0 + f1 + 1, fun sc f d h3 h4 => ?_⟩
  obtain ⟨f, rfl⟩ : ∃ f', f = f' + 1 := ⟨f - 1, by omega⟩
  rw [h sc f d (by omega) h4]
  exact h1 sc f d (by omega) h4
/-- the method has no handlers -/
def z_nh (k : Nat) : Bool := match z_rec k with
  | some r => r.2.2.2.2.2.2.1.isEmpty
  | none => false
theorem R_callX {kd k2 n c2 nl2 E : Nat} {as rr : List Value} {D2 : Nat} {q1 q2 q3 q4 q5 : Nat} (hp : z_pt k pc = some (nL, i, [kd, k2, n, q1, q2, q3, q4, q5])) (hk : z_kd i [kd, k2, n, q1, q2, q3, q4, q5] = 3) (h2 : z_r2 k2 = some (c2, nl2, true)) (ha : z_args kd n st = some (as, rr)) (hb : (Nat.ble (lg_sl as).length nl2 && Nat.ble (z_cat rr) 8) = true) (hrc : Nat.beq kd 0 = false ∨ ∃ b rest, as = .ref b :: rest ∧ z_ci b c2 = true) (hr : Rn D2 k2 0 (lv_args 0 as) [] μ (.inr E) μ1) (hkd : Nat.ble kd 1 = true) (hnh : z_nh k = true) (hd : D2 + 1 ≤ D) : Rn D k pc ls st μ (.inr E) μ1 := by
  intro ext j sl
  obtain ⟨r, f0, hrr, h⟩ := z_ex_call (ls := ls) (tl := []) hp rfl hk h2 ha hb hrc hr hd (fun w hw => by cases hw) ext j sl
  refine ⟨f0 + 1, fun sc f d h3 h4 => ?_⟩
  obtain ⟨f, rfl⟩ : ∃ f', f = f' + 1 := ⟨f - 1, by omega⟩
  rw [h sc f d (by omega) h4]
  unfold z_nh at hnh
  rw [hrr] at hnh
  dsimp only at hnh ⊢
  rw [hkd, List.isEmpty_iff.mp hnh]
  rfl
end Rows
end ZROWS
