/-! Runs of the law's own methods: an exception may be thrown and caught on the way; e counts them. -/
section ZORUN
def Ro (sc : Nat × (Nat → Int32)) (E D k pc : Nat) (ls : z_Ls) (st : List Value) (μ : z_Mem) (o : z_R) (μ' : z_Mem) : Prop :=
  ∀ (ext : List va_E) (j sl : Nat), ∃ f0 e, e ≤ E ∧ ∀ (f d : Nat), f0 ≤ f → D ≤ d → z_ex sc f d k pc ls st (z_hp μ ext j sl) = some (o, z_hp μ' ext (j + e) (sl + 6 * e))
section Rows
variable {sc0 : Nat × (Nat → Int32)} {E D k pc nL : Nat} {ls ls' : z_Ls} {st st' : List Value} {μ μ1 μ2 : z_Mem} {o : z_R} {i : Instr} {ax : List Nat}
theorem Ro_of (h : Rn D k pc ls st μ o μ2) (hE : z_xx o ≤ E) : Ro sc0 E D k pc ls st μ o μ2 := fun ext j sl => by
  obtain ⟨f0, hf⟩ := h ext j sl
  exact ⟨f0, z_xx o, hE, fun f d h1 h2 => hf sc0 f d h1 h2⟩
theorem Ro_of0 {v : Option Value} (h : Rn D k pc ls st μ (.inl v) μ2) : Ro sc0 E D k pc ls st μ (.inl v) μ2 := Ro_of h (Nat.zero_le _)
theorem Ro_up {E' D' : Nat} (hE : E ≤ E') (hD : D ≤ D') (h : Ro sc0 E D k pc ls st μ o μ2) : Ro sc0 E' D' k pc ls st μ o μ2 := fun ext j sl => by
  obtain ⟨f0, e, he, hf⟩ := h ext j sl
  exact ⟨f0, e, Nat.le_trans he hE, fun f d h1 h2 => hf f d h1 (Nat.le_trans hD h2)⟩
theorem O_gen {pc' : Nat} (hp : z_pt k pc = some (nL, i, ax)) (hk : z_kd i ax = 0) (D0 : Nat) (hD : D0 ≤ D) (h : ∀ (ext : List va_E) (j sl : Nat) (sc : Nat × (Nat → Int32)) (d : Nat), D0 ≤ d → z_loc sc d nL i ax pc ls st (z_hp μ ext j sl) = some (pc', ls', st', z_hp μ1 ext j sl)) (kk : Ro sc0 E D k pc' ls' st' μ1 o μ2) : Ro sc0 E D k pc ls st μ o μ2 := by
  intro ext j sl
  obtain ⟨r, len, hr, hf, hl, rfl⟩ := z_pt_eq hp
  obtain ⟨f0, e, he, hf0⟩ := kk ext j sl
  refine ⟨f0 + 1, e, he, fun f d h1 h2 => ?_⟩
  obtain ⟨f, rfl⟩ : ∃ f', f = f' + 1 := ⟨f - 1, by omega⟩
  rw [z_ex_loc hr hf hl hk (h ext j sl sc0 d (Nat.le_trans hD h2))]
  exact hf0 f d (by omega) h2
theorem O_fin {v : Option Value} {ret : Option FieldType} (hp : z_pt k pc = some (nL, i, ax)) (hk : z_kd i ax = 1) (hr : z_rt k = some ret) (h : z_fin ret i st = some v) : Ro sc0 E D k pc ls st μ (.inl v) μ := Ro_of0 (R_fin hp hk hr h)
/-- the law's script is read -/
theorem O_slen0 (hp : z_pt k pc = some (nL, .arraylength, ax)) (kk : Ro sc0 E D k (pc + 1) ls (.int (Int32.ofNat sc0.1) :: st) μ o μ2) : Ro sc0 E D k pc ls (.ref 2000 :: st) μ o μ2 := by
  intro ext j sl
  obtain ⟨r, len, hr, hf, hl, rfl⟩ := z_pt_eq hp
  obtain ⟨f0, e, he, hf0⟩ := kk ext j sl
  refine ⟨f0 + 1, e, he, fun f d h1 h2 => ?_⟩
  obtain ⟨f, rfl⟩ : ∃ f', f = f' + 1 := ⟨f - 1, by omega⟩
  rw [z_ex_loc (C := (pc + 1, ls, .int (Int32.ofNat sc0.1) :: st, z_hp μ ext j sl)) hr hf hl rfl rfl]
  exact hf0 f d (by omega) h2
theorem O_sald {x : Int32} (hp : z_pt k pc = some (nL, .iaload, ax)) (hx : z_inb x sc0.1 = true) (kk : Ro sc0 E D k (pc + 1) ls (.int (sc0.2 x.toNatClampNeg) :: st) μ o μ2) : Ro sc0 E D k pc ls (.int x :: .ref 2000 :: st) μ o μ2 := by
  intro ext j sl
  obtain ⟨r, len, hr, hf, hl, rfl⟩ := z_pt_eq hp
  obtain ⟨f0, e, he, hf0⟩ := kk ext j sl
  refine ⟨f0 + 1, e, he, fun f d h1 h2 => ?_⟩
  obtain ⟨f, rfl⟩ : ∃ f', f = f' + 1 := ⟨f - 1, by omega⟩
  rw [z_ex_loc (C := (pc + 1, ls, .int (sc0.2 x.toNatClampNeg) :: st, z_hp μ ext j sl)) hr hf hl rfl (by
    show z_mk (pc + 1) ls (z_hp μ ext j sl) (bif Nat.beq 0 0 && z_inb x sc0.1 then some (Value.int (sc0.2 x.toNatClampNeg) :: st) else none) = _
    rw [hx]; rfl)]
  exact hf0 f d (by omega) h2
theorem O_pure {pc' : Nat} (hp : z_pt k pc = some (nL, i, ax)) (hk : z_kd i ax = 0) (h : ∀ (sc : Nat × (Nat → Int32)) (d : Nat) (hp : z_H), z_loc sc d nL i ax pc ls st hp = some (pc', ls', st', hp)) (kk : Ro sc0 E D k pc' ls' st' μ o μ2) : Ro sc0 E D k pc ls st μ o μ2 :=
  O_gen hp hk 0 (Nat.zero_le _) (fun ext j sl sc d _ => h sc d _) kk
theorem O_if {c : ClassFile.Cond} {off : Int} {t : Nat} {x : Int32} (hp : z_pt k pc = some (nL, .ifCond c off, ax)) (ht : z_tgt pc off = some t) (kt : z_cmp0 c x = true → Ro sc0 E D k t ls st μ o μ2) (kf : z_cmp0 c x = false → Ro sc0 E D k (pc + 3) ls st μ o μ2) : Ro sc0 E D k pc ls (.int x :: st) μ o μ2 := by
  cases hx : z_cmp0 c x with
  | true => exact O_pure hp rfl (fun sc d hp => by show z_ifc c pc off ls (.int x :: st) hp = _; unfold z_ifc; dsimp only; rw [ht]; dsimp only; rw [hx]; rfl) (kt hx)
  | false => exact O_pure hp rfl (fun sc d hp => by show z_ifc c pc off ls (.int x :: st) hp = _; unfold z_ifc; dsimp only; rw [ht]; dsimp only; rw [hx]; rfl) (kf hx)
theorem O_icm {c : ClassFile.Cond} {off : Int} {t : Nat} {x y : Int32} (hp : z_pt k pc = some (nL, .if_icmp c off, ax)) (ht : z_tgt pc off = some t) (kt : z_cmp2 c x y = true → Ro sc0 E D k t ls st μ o μ2) (kf : z_cmp2 c x y = false → Ro sc0 E D k (pc + 3) ls st μ o μ2) : Ro sc0 E D k pc ls (.int y :: .int x :: st) μ o μ2 := by
  cases hx : z_cmp2 c x y with
  | true => exact O_pure hp rfl (fun sc d hp => by show z_icm c pc off ls (.int y :: .int x :: st) hp = _; unfold z_icm; dsimp only; rw [ht]; dsimp only; rw [hx]; rfl) (kt hx)
  | false => exact O_pure hp rfl (fun sc d hp => by show z_icm c pc off ls (.int y :: .int x :: st) hp = _; unfold z_icm; dsimp only; rw [ht]; dsimp only; rw [hx]; rfl) (kf hx)
theorem O_ifeq {off : Int} {t : Nat} {x : Int32} (hp : z_pt k pc = some (nL, .ifCond .eq off, ax)) (ht : z_tgt pc off = some t) (kt : x = 0 → Ro sc0 E D k t ls st μ o μ2) (kf : ¬ x = 0 → Ro sc0 E D k (pc + 3) ls st μ o μ2) : Ro sc0 E D k pc ls (.int x :: st) μ o μ2 :=
  O_if hp ht (fun h => kt (of_decide_eq_true h)) (fun h => kf (of_decide_eq_false h))
theorem O_ifne {off : Int} {t : Nat} {x : Int32} (hp : z_pt k pc = some (nL, .ifCond .ne off, ax)) (ht : z_tgt pc off = some t) (kt : ¬ x = 0 → Ro sc0 E D k t ls st μ o μ2) (kf : x = 0 → Ro sc0 E D k (pc + 3) ls st μ o μ2) : Ro sc0 E D k pc ls (.int x :: st) μ o μ2 :=
  O_if hp ht (fun h => kt (of_decide_eq_true h)) (fun h => kf (Decidable.not_not.mp (of_decide_eq_false h)))
theorem O_iflt {off : Int} {t : Nat} {x : Int32} (hp : z_pt k pc = some (nL, .ifCond .lt off, ax)) (ht : z_tgt pc off = some t) (kt : x < 0 → Ro sc0 E D k t ls st μ o μ2) (kf : ¬ x < 0 → Ro sc0 E D k (pc + 3) ls st μ o μ2) : Ro sc0 E D k pc ls (.int x :: st) μ o μ2 :=
  O_if hp ht (fun h => kt (of_decide_eq_true h)) (fun h => kf (of_decide_eq_false h))
theorem O_ifge {off : Int} {t : Nat} {x : Int32} (hp : z_pt k pc = some (nL, .ifCond .ge off, ax)) (ht : z_tgt pc off = some t) (kt : 0 ≤ x → Ro sc0 E D k t ls st μ o μ2) (kf : ¬ 0 ≤ x → Ro sc0 E D k (pc + 3) ls st μ o μ2) : Ro sc0 E D k pc ls (.int x :: st) μ o μ2 :=
  O_if hp ht (fun h => kt (of_decide_eq_true h)) (fun h => kf (of_decide_eq_false h))
theorem O_ifgt {off : Int} {t : Nat} {x : Int32} (hp : z_pt k pc = some (nL, .ifCond .gt off, ax)) (ht : z_tgt pc off = some t) (kt : 0 < x → Ro sc0 E D k t ls st μ o μ2) (kf : ¬ 0 < x → Ro sc0 E D k (pc + 3) ls st μ o μ2) : Ro sc0 E D k pc ls (.int x :: st) μ o μ2 :=
  O_if hp ht (fun h => kt (of_decide_eq_true h)) (fun h => kf (of_decide_eq_false h))
theorem O_ifle {off : Int} {t : Nat} {x : Int32} (hp : z_pt k pc = some (nL, .ifCond .le off, ax)) (ht : z_tgt pc off = some t) (kt : x ≤ 0 → Ro sc0 E D k t ls st μ o μ2) (kf : ¬ x ≤ 0 → Ro sc0 E D k (pc + 3) ls st μ o μ2) : Ro sc0 E D k pc ls (.int x :: st) μ o μ2 :=
  O_if hp ht (fun h => kt (of_decide_eq_true h)) (fun h => kf (of_decide_eq_false h))
theorem O_icmeq {off : Int} {t : Nat} {x y : Int32} (hp : z_pt k pc = some (nL, .if_icmp .eq off, ax)) (ht : z_tgt pc off = some t) (kt : x = y → Ro sc0 E D k t ls st μ o μ2) (kf : ¬ x = y → Ro sc0 E D k (pc + 3) ls st μ o μ2) : Ro sc0 E D k pc ls (.int y :: .int x :: st) μ o μ2 :=
  O_icm hp ht (fun h => kt (of_decide_eq_true h)) (fun h => kf (of_decide_eq_false h))
theorem O_icmne {off : Int} {t : Nat} {x y : Int32} (hp : z_pt k pc = some (nL, .if_icmp .ne off, ax)) (ht : z_tgt pc off = some t) (kt : ¬ x = y → Ro sc0 E D k t ls st μ o μ2) (kf : x = y → Ro sc0 E D k (pc + 3) ls st μ o μ2) : Ro sc0 E D k pc ls (.int y :: .int x :: st) μ o μ2 :=
  O_icm hp ht (fun h => kt (of_decide_eq_true h)) (fun h => kf (Decidable.not_not.mp (of_decide_eq_false h)))
theorem O_icmlt {off : Int} {t : Nat} {x y : Int32} (hp : z_pt k pc = some (nL, .if_icmp .lt off, ax)) (ht : z_tgt pc off = some t) (kt : x < y → Ro sc0 E D k t ls st μ o μ2) (kf : ¬ x < y → Ro sc0 E D k (pc + 3) ls st μ o μ2) : Ro sc0 E D k pc ls (.int y :: .int x :: st) μ o μ2 :=
  O_icm hp ht (fun h => kt (of_decide_eq_true h)) (fun h => kf (of_decide_eq_false h))
theorem O_icmge {off : Int} {t : Nat} {x y : Int32} (hp : z_pt k pc = some (nL, .if_icmp .ge off, ax)) (ht : z_tgt pc off = some t) (kt : y ≤ x → Ro sc0 E D k t ls st μ o μ2) (kf : ¬ y ≤ x → Ro sc0 E D k (pc + 3) ls st μ o μ2) : Ro sc0 E D k pc ls (.int y :: .int x :: st) μ o μ2 :=
  O_icm hp ht (fun h => kt (of_decide_eq_true h)) (fun h => kf (of_decide_eq_false h))
theorem O_icmgt {off : Int} {t : Nat} {x y : Int32} (hp : z_pt k pc = some (nL, .if_icmp .gt off, ax)) (ht : z_tgt pc off = some t) (kt : y < x → Ro sc0 E D k t ls st μ o μ2) (kf : ¬ y < x → Ro sc0 E D k (pc + 3) ls st μ o μ2) : Ro sc0 E D k pc ls (.int y :: .int x :: st) μ o μ2 :=
  O_icm hp ht (fun h => kt (of_decide_eq_true h)) (fun h => kf (of_decide_eq_false h))
theorem O_icmle {off : Int} {t : Nat} {x y : Int32} (hp : z_pt k pc = some (nL, .if_icmp .le off, ax)) (ht : z_tgt pc off = some t) (kt : x ≤ y → Ro sc0 E D k t ls st μ o μ2) (kf : ¬ x ≤ y → Ro sc0 E D k (pc + 3) ls st μ o μ2) : Ro sc0 E D k pc ls (.int y :: .int x :: st) μ o μ2 :=
  O_icm hp ht (fun h => kt (of_decide_eq_true h)) (fun h => kf (of_decide_eq_false h))
theorem O_div {x y : Int32} (hp : z_pt k pc = some (nL, .idiv, ax)) (hy : ¬ y = 0) (kk : Ro sc0 E D k (pc + 1) ls (.int (x / y) :: st) μ o μ2) : Ro sc0 E D k pc ls (.int y :: .int x :: st) μ o μ2 :=
  O_pure hp rfl (fun sc d hp => by show z_mk (pc + 1) ls hp (z_i2 _ (.int y :: .int x :: st)) = _; unfold z_i2; dsimp only; rw [if_neg hy]; rfl) kk
theorem O_rem {x y : Int32} (hp : z_pt k pc = some (nL, .irem, ax)) (hy : ¬ y = 0) (kk : Ro sc0 E D k (pc + 1) ls (.int (x - x / y * y) :: st) μ o μ2) : Ro sc0 E D k pc ls (.int y :: .int x :: st) μ o μ2 :=
  O_pure hp rfl (fun sc d hp => by show z_mk (pc + 1) ls hp (z_i2 _ (.int y :: .int x :: st)) = _; unfold z_i2; dsimp only; rw [if_neg hy]; rfl) kk
theorem O_getI {idx a ci j : Nat} {tl : List Nat} (hp : z_pt k pc = some (nL, .getfield idx, ci :: j :: tl)) (hs : z_fi a ci j = true) (kk : Ro sc0 E D k (pc + 3) ls (.int (μ a j) :: st) μ o μ2) : Ro sc0 E D k pc ls (.ref a :: st) μ o μ2 := by
  obtain ⟨fs, h1, h2⟩ := z_fi_eq hs
  exact O_gen hp rfl 0 (Nat.zero_le _) (fun ext j0 sl sc d _ => by
    show z_mk (pc + 3) ls _ (z_gf (ci :: j :: tl) (.ref a :: st) (z_hp μ ext j0 sl)) = _
    rw [z_gf_at h1 h2]; rfl) kk
theorem O_getR {idx a ci j b : Nat} {tl : List Nat} (hp : z_pt k pc = some (nL, .getfield idx, ci :: j :: tl)) (hs : z_fr a ci j b = true) (kk : Ro sc0 E D k (pc + 3) ls (.ref b :: st) μ o μ2) : Ro sc0 E D k pc ls (.ref a :: st) μ o μ2 := by
  obtain ⟨fs, h1, h2⟩ := z_fr_eq hs
  exact O_gen hp rfl 0 (Nat.zero_le _) (fun ext j0 sl sc d _ => by
    show z_mk (pc + 3) ls _ (z_gf (ci :: j :: tl) (.ref a :: st) (z_hp μ ext j0 sl)) = _
    rw [z_gf_at h1 h2]; rfl) kk
theorem O_putI {idx a ci j : Nat} {tl : List Nat} {v : Int32} (hp : z_pt k pc = some (nL, .putfield idx, ci :: j :: tl)) (hs : z_fi a ci j = true) (hn : narrow (z_ty ci j) (.int v) = .int v ∧ fits (z_ty ci j) (.int v) = true) (kk : Ro sc0 E D k (pc + 3) ls st (z_u μ a j v) o μ2) : Ro sc0 E D k pc ls (.int v :: .ref a :: st) μ o μ2 := by
  obtain ⟨fs, h1, h2⟩ := z_fi_eq hs
  exact O_gen hp rfl 0 (Nat.zero_le _) (fun ext j0 sl sc d _ => by
    show z_pf (ci :: j :: tl) pc ls (.int v :: .ref a :: st) (z_hp μ ext j0 sl) = _
    unfold z_pf z_hp
    dsimp only
    rw [z_bl_get h1]
    dsimp only [z_bc]
    have hl := (List.getElem?_eq_some_iff.mp h2).1
    rw [if_pos ⟨rfl, by rw [List.length_mapIdx]; exact hl, hn.1, hn.2, rfl⟩, z_bl_obj h1 h2]) kk
theorem O_iald {a n : Nat} {x : Int32} (hp : z_pt k pc = some (nL, .iaload, ax)) (hs : z_ar a 0 n = true) (hx : z_inb x n = true) (kk : Ro sc0 E D k (pc + 1) ls (.int (μ a x.toNatClampNeg) :: st) μ o μ2) : Ro sc0 E D k pc ls (.int x :: .ref a :: st) μ o μ2 :=
  O_gen hp rfl 0 (Nat.zero_le _) (fun ext j0 sl sc d _ => by
    show z_mk (pc + 1) ls _ (z_ald sc 0 (.int x :: .ref a :: st) (z_hp μ ext j0 sl)) = _
    rw [z_ald_at hs hx (z_ar_2000 hs)]; rfl) kk
theorem O_cald {a n : Nat} {x : Int32} (hp : z_pt k pc = some (nL, .caload, ax)) (hs : z_ar a 1 n = true) (hx : z_inb x n = true) (kk : Ro sc0 E D k (pc + 1) ls (.int (μ a x.toNatClampNeg) :: st) μ o μ2) : Ro sc0 E D k pc ls (.int x :: .ref a :: st) μ o μ2 :=
  O_gen hp rfl 0 (Nat.zero_le _) (fun ext j0 sl sc d _ => by
    show z_mk (pc + 1) ls _ (z_ald sc 1 (.int x :: .ref a :: st) (z_hp μ ext j0 sl)) = _
    rw [z_ald_at hs hx (z_ar_2000 hs)]; rfl) kk
theorem O_iast {a n : Nat} {x v : Int32} (hp : z_pt k pc = some (nL, .iastore, ax)) (hs : z_ar a 0 n = true) (hx : z_inb x n = true) (kk : Ro sc0 E D k (pc + 1) ls st (z_u μ a x.toNatClampNeg v) o μ2) : Ro sc0 E D k pc ls (.int v :: .int x :: .ref a :: st) μ o μ2 :=
  O_gen hp rfl 0 (Nat.zero_le _) (fun ext j0 sl sc d _ => z_ast_at (g := id) hs hx) kk
theorem O_cast {a n : Nat} {x v : Int32} (hp : z_pt k pc = some (nL, .castore, ax)) (hs : z_ar a 1 n = true) (hx : z_inb x n = true) (kk : Ro sc0 E D k (pc + 1) ls st (z_u μ a x.toNatClampNeg (vp_nar .char v)) o μ2) : Ro sc0 E D k pc ls (.int v :: .int x :: .ref a :: st) μ o μ2 :=
  O_gen hp rfl 0 (Nat.zero_le _) (fun ext j0 sl sc d _ => z_ast_at (g := vp_nar .char) hs hx) kk
theorem O_bast {a n : Nat} {x v : Int32} (hp : z_pt k pc = some (nL, .bastore, ax)) (hs : z_ar a 2 n = true) (hx : z_inb x n = true) (kk : Ro sc0 E D k (pc + 1) ls st (z_u μ a x.toNatClampNeg (vp_nar .boolean v)) o μ2) : Ro sc0 E D k pc ls (.int v :: .int x :: .ref a :: st) μ o μ2 :=
  O_gen hp rfl 0 (Nat.zero_le _) (fun ext j0 sl sc d _ => z_ast_at (g := vp_nar .boolean) hs hx) kk
theorem O_len {a t n : Nat} (hp : z_pt k pc = some (nL, .arraylength, ax)) (hs : z_ar a t n = true) (ht : Nat.blt t 6 = true) (kk : Ro sc0 E D k (pc + 1) ls (.int (Int32.ofNat n) :: st) μ o μ2) : Ro sc0 E D k pc ls (.ref a :: st) μ o μ2 :=
  O_gen hp rfl 0 (Nat.zero_le _) (fun ext j0 sl sc d _ => by
    show z_mk (pc + 1) ls _ (z_len sc (.ref a :: st) (z_hp μ ext j0 sl)) = _
    unfold z_len z_hg z_hp
    dsimp only
    rw [z_ar_2000 hs]
    dsimp only [cond_false]
    rw [z_bl_get (z_ar_eq hs)]
    dsimp only [z_bc]
    rw [ht]
    rfl) kk
theorem O_cpy {a b t0 t1 n0 n1 idx : Nat} {tl : List Nat} {n dp sp : Int32} (hp : z_pt k pc = some (nL, .invokestatic idx, 7 :: tl)) (hk : z_kd (.invokestatic idx) (7 :: tl) = 0) (hD : 1 ≤ D) (hb : z_ar b 0 n0 = true) (ha : z_ar a 0 n1 = true) (hc : Nat.ble (z_cat (.int n :: .int dp :: .ref a :: .int sp :: .ref b :: st)) 8 = true) (h : ¬ sp < 0 ∧ ¬ dp < 0 ∧ ¬ n < 0 ∧ sp.toNatClampNeg + n.toNatClampNeg ≤ n0 ∧ dp.toNatClampNeg + n.toNatClampNeg ≤ n1) (kk : Ro sc0 E D k (pc + 3) ls st (z_cp μ b a sp.toNatClampNeg dp.toNatClampNeg n.toNatClampNeg) o μ2) : Ro sc0 E D k pc ls (.int n :: .int dp :: .ref a :: .int sp :: .ref b :: st) μ o μ2 :=
  O_gen hp hk 1 hD (fun ext j0 sl sc d hd => by
    show z_jc d pc ls _ _ = _
    unfold z_jc
    rw [if_pos ⟨hd, Nat.le_of_ble_eq_true hc⟩]
    unfold z_cpy z_hp
    dsimp only
    rw [z_bl_get (z_ar_eq hb), z_bl_get (z_ar_eq ha)]
    dsimp only [z_bc]
    rw [if_pos ⟨rfl, rfl, h⟩, z_bl_cp (z_ar_eq ha)]) kk
theorem O_retI {v : Int32} (hp : z_pt k pc = some (nL, .ireturn, ax)) (hr : z_rt k = some (some .int)) : Ro sc0 E D k pc ls [.int v] μ (.inl (some (.int v))) μ :=
  O_fin hp rfl hr (by unfold z_fin; dsimp only; rw [if_pos (show narrow .int (.int v) = .int v from rfl)])
theorem O_retZ {v : Int32} {t : FieldType} (hp : z_pt k pc = some (nL, .ireturn, ax)) (hr : z_rt k = some (some t)) (hn : narrow t (.int v) = .int v) : Ro sc0 E D k pc ls [.int v] μ (.inl (some (.int v))) μ :=
  O_fin hp rfl hr (by unfold z_fin; dsimp only; rw [if_pos hn])
theorem O_retV (hp : z_pt k pc = some (nL, .return_, ax)) (hr : z_rt k = some none) : Ro sc0 E D k pc ls [] μ (.inl none) μ :=
  O_fin hp rfl hr rfl
theorem O_retD {v : UInt64} (hp : z_pt k pc = some (nL, .dreturn, ax)) (hr : z_rt k = some (some .double)) : Ro sc0 E D k pc ls [.double v] μ (.inl (some (.double v))) μ :=
  O_fin hp rfl hr rfl
theorem O_retF {v : UInt32} (hp : z_pt k pc = some (nL, .freturn, ax)) (hr : z_rt k = some (some .float)) : Ro sc0 E D k pc ls [.float v] μ (.inl (some (.float v))) μ :=
  O_fin hp rfl hr rfl
theorem O_at (kk : Ro sc0 E D k pc ls st μ o μ2) : Ro sc0 E D k pc ls st μ o μ2 := kk
theorem O_at2 (kk : Ro sc0 E D k pc ls st μ o μ2) : Ro sc0 E D k pc ls st μ o μ2 := kk
theorem O_const {pc' : Nat} {v : Int32} (h : z_ptc k pc = some (pc', v)) (kk : Ro sc0 E D k pc' ls (.int v :: st) μ o μ2) : Ro sc0 E D k pc ls st μ o μ2 := by
  unfold z_ptc at h
  split at h
  · rename_i nL i ax hp
    split at h
    · cases h; exact O_pure hp rfl (fun _ _ _ => rfl) kk
    · cases h; exact O_pure hp rfl (fun _ _ _ => rfl) kk
    · cases h; exact O_pure hp rfl (fun _ _ _ => rfl) kk
    · split at h
      · cases h; exact O_pure hp rfl (fun _ _ _ => rfl) kk
      · cases h
    · cases h
  · cases h
theorem O_inc {q pc' : Nat} {n : Int} {c x : Int32} (hp : z_pt k pc = some (nL, .iinc q n, ax)) (hi : q < nL ∧ Int32.ofInt n = c ∧ pc' = pc + 3) (hx : z_get ls q = some (.int x)) (hl : z_st1 ls q (.int (x + c)) = ls') (kk : Ro sc0 E D k pc' ls' st μ o μ2) : Ro sc0 E D k pc ls st μ o μ2 := by
  obtain ⟨h1, rfl, rfl⟩ := hi
  subst hl
  refine O_pure hp rfl (fun sc d hp => ?_) kk
  show z_inc nL (pc + 3) ls q n st hp = _
  unfold z_inc
  rw [hx]
  dsimp only
  rw [if_pos h1]
theorem O_ialdR {a n : Nat} {x v : Int32} (hp : z_pt k pc = some (nL, .iaload, ax)) (hs : z_ar a 0 n = true) (hx : z_rd μ a n x = some v) (kk : Ro sc0 E D k (pc + 1) ls (.int v :: st) μ o μ2) : Ro sc0 E D k pc ls (.int x :: .ref a :: st) μ o μ2 := by
  obtain ⟨h1, rfl⟩ := z_rd_ok hx
  exact O_iald hp hs h1 kk
theorem O_caldR {a n : Nat} {x v : Int32} (hp : z_pt k pc = some (nL, .caload, ax)) (hs : z_ar a 1 n = true) (hx : z_rd μ a n x = some v) (kk : Ro sc0 E D k (pc + 1) ls (.int v :: st) μ o μ2) : Ro sc0 E D k pc ls (.int x :: .ref a :: st) μ o μ2 := by
  obtain ⟨h1, rfl⟩ := z_rd_ok hx
  exact O_cald hp hs h1 kk
theorem O_ialdK {a n jn : Nat} {x : Int32} (hp : z_pt k pc = some (nL, .iaload, ax)) (hs : z_ar a 0 n = true) (hx : z_inb x n = true) (hj : x.toNatClampNeg = jn) (kk : Ro sc0 E D k (pc + 1) ls (.int (μ a jn) :: st) μ o μ2) : Ro sc0 E D k pc ls (.int x :: .ref a :: st) μ o μ2 := by
  subst hj; exact O_iald hp hs hx kk
theorem O_caldK {a n jn : Nat} {x : Int32} (hp : z_pt k pc = some (nL, .caload, ax)) (hs : z_ar a 1 n = true) (hx : z_inb x n = true) (hj : x.toNatClampNeg = jn) (kk : Ro sc0 E D k (pc + 1) ls (.int (μ a jn) :: st) μ o μ2) : Ro sc0 E D k pc ls (.int x :: .ref a :: st) μ o μ2 := by
  subst hj; exact O_cald hp hs hx kk
theorem O_iastK {a n jn : Nat} {x v : Int32} (hp : z_pt k pc = some (nL, .iastore, ax)) (hs : z_ar a 0 n = true) (hx : z_inb x n = true) (hj : x.toNatClampNeg = jn) (kk : Ro sc0 E D k (pc + 1) ls st (z_u μ a jn v) o μ2) : Ro sc0 E D k pc ls (.int v :: .int x :: .ref a :: st) μ o μ2 := by
  subst hj; exact O_iast hp hs hx kk
theorem O_castK {a n jn : Nat} {x v : Int32} (hp : z_pt k pc = some (nL, .castore, ax)) (hs : z_ar a 1 n = true) (hx : z_inb x n = true) (hj : x.toNatClampNeg = jn) (kk : Ro sc0 E D k (pc + 1) ls st (z_u μ a jn (vp_nar .char v)) o μ2) : Ro sc0 E D k pc ls (.int v :: .int x :: .ref a :: st) μ o μ2 := by
  subst hj; exact O_cast hp hs hx kk
theorem O_bastK {a n jn : Nat} {x v : Int32} (hp : z_pt k pc = some (nL, .bastore, ax)) (hs : z_ar a 2 n = true) (hx : z_inb x n = true) (hj : x.toNatClampNeg = jn) (kk : Ro sc0 E D k (pc + 1) ls st (z_u μ a jn (vp_nar .boolean v)) o μ2) : Ro sc0 E D k pc ls (.int v :: .int x :: .ref a :: st) μ o μ2 := by
  subst hj; exact O_bast hp hs hx kk
theorem O_cpyK {a b t0 t1 n0 n1 idx sn dn nn : Nat} {tl : List Nat} {n dp sp : Int32} (hp : z_pt k pc = some (nL, .invokestatic idx, 7 :: tl)) (hk : z_kd (.invokestatic idx) (7 :: tl) = 0) (hD : 1 ≤ D) (hb : z_ar b 0 n0 = true) (ha : z_ar a 0 n1 = true) (hc : Nat.ble (z_cat (.int n :: .int dp :: .ref a :: .int sp :: .ref b :: st)) 8 = true) (h : sp.toNatClampNeg = sn ∧ dp.toNatClampNeg = dn ∧ n.toNatClampNeg = nn ∧ ¬ sp < 0 ∧ ¬ dp < 0 ∧ ¬ n < 0 ∧ sn + nn ≤ n0 ∧ dn + nn ≤ n1) (kk : Ro sc0 E D k (pc + 3) ls st (z_cp μ b a sn dn nn) o μ2) : Ro sc0 E D k pc ls (.int n :: .int dp :: .ref a :: .int sp :: .ref b :: st) μ o μ2 := by
  obtain ⟨rfl, rfl, rfl, h⟩ := h
  exact O_cpy (t0 := 0) (t1 := 0) hp hk hD hb ha hc h kk
theorem O_slen {sj idx : Nat} {tl : List Nat} (hp : z_pt k pc = some (nL, .invokevirtual idx, 8 :: tl)) (hk : z_kd (.invokevirtual idx) (8 :: tl) = 0) (hs : Nat.blt sj 21 = true) (hD : 6 ≤ D) (hc : Nat.ble (z_cat (.ref (1000 + sj) :: st)) 8 = true) (kk : Ro sc0 E D k (pc + 3) ls (.int (Int32.ofNat (z_str sj).length) :: st) μ o μ2) : Ro sc0 E D k pc ls (.ref (1000 + sj) :: st) μ o μ2 :=
  O_gen hp hk 6 hD (fun ext j sl sc d hd => by
    show z_jl d pc ls _ _ = _
    unfold z_jl
    rw [if_pos ⟨hd, Nat.le_of_ble_eq_true hc⟩]
    have h1 : Nat.ble 1000 (1000 + sj) = true := Nat.ble_eq.mpr (Nat.le_add_right _ _)
    have h2 : Nat.blt (1000 + sj) 1021 = true := by
      have := Nat.blt_eq.mp hs
      exact Nat.blt_eq.mpr (by omega)
    unfold z_slen
    dsimp only
    rw [h1, h2, Nat.add_sub_cancel_left]
    rfl) kk
theorem O_sch {sj idx : Nat} {tl : List Nat} {x : Int32} (hp : z_pt k pc = some (nL, .invokevirtual idx, 9 :: tl)) (hk : z_kd (.invokevirtual idx) (9 :: tl) = 0) (hs : Nat.blt sj 21 = true) (hx : z_inb x (z_str sj).length = true) (hD : 6 ≤ D) (hc : Nat.ble (z_cat (.int x :: .ref (1000 + sj) :: st)) 8 = true) (kk : Ro sc0 E D k (pc + 3) ls (.int (Int32.ofNat ((z_str sj).getD x.toNatClampNeg 0)) :: st) μ o μ2) : Ro sc0 E D k pc ls (.int x :: .ref (1000 + sj) :: st) μ o μ2 :=
  O_gen hp hk 6 hD (fun ext j sl sc d hd => by
    show z_jx d pc ls _ _ = _
    unfold z_jx
    rw [if_pos ⟨hd, Nat.le_of_ble_eq_true hc⟩]
    have h1 : Nat.ble 1000 (1000 + sj) = true := Nat.ble_eq.mpr (Nat.le_add_right _ _)
    have h2 : Nat.blt (1000 + sj) 1021 = true := by
      have := Nat.blt_eq.mp hs
      exact Nat.blt_eq.mpr (by omega)
    unfold z_sch
    dsimp only
    rw [h1, h2, Nat.add_sub_cancel_left, hx]
    rfl) kk
theorem O_ddiv {x y : UInt64} (hp : z_pt k pc = some (nL, .ddiv, ax)) (h : z_n64 (FP.ddiv x y) = true) (kk : Ro sc0 E D k (pc + 1) ls (.double (FP.ddiv x y) :: st) μ o μ2) : Ro sc0 E D k pc ls (.double y :: .double x :: st) μ o μ2 :=
  O_pure hp rfl (fun sc d hp => by
    show (if FP.ddiv x y &&& 0x7fffffffffffffff ≤ 0x7ff0000000000000 then _ else _) = _
    rw [if_pos (of_decide_eq_true h)]) kk
theorem O_fdiv {x y : UInt32} (hp : z_pt k pc = some (nL, .fdiv, ax)) (h : z_n32 (FP.fdiv x y) = true) (kk : Ro sc0 E D k (pc + 1) ls (.float (FP.fdiv x y) :: st) μ o μ2) : Ro sc0 E D k pc ls (.float y :: .float x :: st) μ o μ2 :=
  O_pure hp rfl (fun sc d hp => by
    show (if FP.fdiv x y &&& 0x7fffffff ≤ 0x7f800000 then _ else _) = _
    rw [if_pos (of_decide_eq_true h)]) kk
theorem O_sw {x v : Int32} {t : Nat} (hp : z_pt k pc = some (nL, i, ax)) (hx : x = v) (h : z_swt k pc v = some t) (kk : Ro sc0 E D k t ls st μ o μ2) : Ro sc0 E D k pc ls (.int x :: st) μ o μ2 := by
  subst hx
  unfold z_swt at h
  rw [hp] at h
  dsimp only at h
  split at h
  · rename_i off ho
    exact O_pure hp (z_kd_off ho) (fun sc d hp => z_off_loc ho h) kk
  · cases h
theorem O_swd {x : Int32} {t : Nat} {cs : List Int32} (hp : z_pt k pc = some (nL, i, ax)) (h : z_swd k pc cs = some t) (hx : z_nin x cs) (kk : Ro sc0 E D k t ls st μ o μ2) : Ro sc0 E D k pc ls (.int x :: st) μ o μ2 := by
  have hcon : cs.contains x = false := by
    cases hc : cs.contains x with
    | false => rfl
    | true => exact absurd rfl (hx x (List.contains_iff_mem.mp hc))
  unfold z_swd at h
  rw [hp] at h
  dsimp only at h
  split at h
  · rename_i dflt lo hi offs
    cases hb : (List.range (hi - lo + 1).toNat).all (fun q => cs.contains (Int32.ofInt (lo + q)) || decide (offs[q]? = some dflt)) with
    | false => rw [hb] at h; cases h
    | true =>
      rw [hb] at h
      have ho : z_off (.tableswitch dflt lo hi offs) x = some dflt := by
        unfold z_off
        dsimp only
        split
        · rfl
        · rename_i hc
          have h1 : lo ≤ x.toInt := by omega
          have h2 : x.toInt ≤ hi := by omega
          have h3 := List.all_eq_true.mp hb (x.toInt - lo).toNat (List.mem_range.mpr (by omega))
          have h4 : lo + ((x.toInt - lo).toNat : Int) = x.toInt := by omega
          rw [h4, z_i32_int, hcon] at h3
          simpa using h3
      exact O_pure hp (z_kd_off ho) (fun sc d hp => z_off_loc ho h) kk
  · rename_i dflt ps
    cases hb : (ps.toList.zip (ps.toList.drop 1)).all (fun (a, next) => a.1 < next.1) with
    | false => rw [hb] at h; cases h
    | true =>
      rw [hb] at h
      cases hc : ps.toList.all (fun q => cs.contains (Int32.ofInt q.1)) with
      | false => rw [hc] at h; cases h
      | true =>
        rw [hc] at h
        have hof : ∀ l : List (Int × Int), l.all (fun q => cs.contains (Int32.ofInt q.1)) = true → Op.lookupswitch.offset l dflt x.toInt = dflt := by
          intro l
          induction l with
          | nil => intro _; rfl
          | cons q l ih =>
            intro hl
            rw [List.all_cons, Bool.and_eq_true] at hl
            rw [Op.lookupswitch.offset_cons, if_neg, ih hl.2]
            intro hq
            have h5 := hl.1
            rw [hq, z_i32_int, hcon] at h5
            cases h5
        have ho : z_off (.lookupswitch dflt ps) x = some dflt := by
          unfold z_off
          dsimp only
          rw [hb, hof _ hc]
          rfl
        exact O_pure hp (z_kd_off ho) (fun sc d hp => z_off_loc ho h) kk
  · cases h
/-- a method that may be called: its class, its locals, its handlers -/
def z_r3 (kd k : Nat) : Option (Nat × Nat × Bool) := match z_rec k with
  | some r => some (r.1, r.2.2.2.2.1, Nat.ble r.2.2.2.2.1 20 && (Nat.beq kd 5 || r.2.2.2.2.2.2.1.isEmpty))
  | none => none
/-- where a caught exception goes on, and the local that takes it -/
def z_hdx (k pc E : Nat) : Option (Nat × Nat) := match z_rec k with
  | some r => match z_hd r.1 pc E r.2.2.2.2.2.2.1 with
    | some (some h) => match z_find r.2.2.2.2.2.2.2.2 h with
      | some (j, m, _) => match z_hs j with
        | some x => bif z_lok j m && Nat.blt x r.2.2.2.2.1 then some (h + m, x) else none
        | none => none
      | none => none
    | _ => none
  | none => none
theorem O_ex {kd k2 n c2 nl2 : Nat} {as rr : List Value} {D2 E1 : Nat} {v : z_R} {q1 q2 q3 q4 q5 : Nat} (hp : z_pt k pc = some (nL, i, [kd, k2, n, q1, q2, q3, q4, q5])) (hk : z_kd i [kd, k2, n, q1, q2, q3, q4, q5] = 3) (h2 : z_r3 kd k2 = some (c2, nl2, true)) (ha : z_args kd n st = some (as, rr)) (hb : (Nat.ble (lg_sl as).length nl2 && Nat.ble (z_cat rr) 8) = true) (hrc : Nat.beq kd 0 = false ∨ ∃ b rest, as = .ref b :: rest ∧ z_ci b c2 = true) (hr : Ro sc0 E1 D2 k2 0 (lv_args 0 as) [] μ v μ1) (hd : D2 + 1 ≤ D) (ext : List va_E) (j sl : Nat) : ∃ (r : z_Rec) (f0 e : Nat), z_rec k = some r ∧ e ≤ E1 ∧ ∀ (f d : Nat), f0 ≤ f → D ≤ d → z_ex sc0 (f + 1) d k pc ls st (z_hp μ ext j sl) = (match (v, z_hp μ1 ext (j + e) (sl + 6 * e)) with
    | (.inl w, hp') => bif z_cok (z_hp μ ext j sl) hp' ls rr w then z_ex sc0 f d k (pc + 3) ls (w.toList ++ rr) hp' else none
    | (.inr E, hp') => bif Nat.ble kd 1 then (match z_hd r.1 pc E r.2.2.2.2.2.2.1 with
      | some none => some (.inr E, hp')
      | some (some h) => match z_find r.2.2.2.2.2.2.2.2 h with
        | some (j0, m, _) => match z_hs j0 with
          | some x => bif z_lok j0 m && (Nat.blt x r.2.2.2.2.1 && z_cok (z_hp μ ext j sl) hp' (z_rm ls x) [] none) then z_ex sc0 f d k (h + m) (z_rm ls x) [] hp' else none
          | none => none
        | none => none
      | none => none) else none) := by
  obtain ⟨r, len, hrr, hf, hl, rfl⟩ := z_pt_eq hp
  obtain ⟨f0, e, he, hf0⟩ := hr ext j sl
  refine ⟨r, f0, e, hrr, he, fun f d h1 h3 => ?_⟩
  unfold z_r3 at h2
  split at h2
  · rename_i r2 hr2
    have h4 := Option.some.inj h2
    have e1 : r2.1 = c2 := congrArg (fun q => q.1) h4
    have e2 : r2.2.2.2.2.1 = nl2 := congrArg (fun q => q.2.1) h4
    have e3 : (Nat.ble r2.2.2.2.2.1 20 && (Nat.beq kd 5 || r2.2.2.2.2.2.2.1.isEmpty)) = true := congrArg (fun q => q.2.2) h4
    rw [Bool.and_eq_true] at e3 hb
    conv => lhs; unfold z_ex
    rw [hrr]
    dsimp only
    rw [hf]
    dsimp only
    rw [hl, hk]
    dsimp only [cond_true]
    rw [hr2, ha]
    dsimp only
    rw [e2, hb.1, ← e2, e3.1, hb.2, e1, z_rcv_ok hrc, e3.2, Nat.ble_eq.mpr (show 1 ≤ d by omega), hf0 f (d - 1) h1 (by omega)]
    simp only [Bool.and_self, cond_true]
    cases v <;> rfl
  · cases h2
theorem O_call {kd k2 n c2 nl2 E1 E2 : Nat} {as rr : List Value} {D2 : Nat} {v : Option Value} {q1 q2 q3 q4 q5 : Nat} (hp : z_pt k pc = some (nL, i, [kd, k2, n, q1, q2, q3, q4, q5])) (hk : z_kd i [kd, k2, n, q1, q2, q3, q4, q5] = 3) (h2 : z_r3 kd k2 = some (c2, nl2, true)) (ha : z_args kd n st = some (as, rr)) (hb : (Nat.ble (lg_sl as).length nl2 && Nat.ble (z_cat rr) 8) = true) (hrc : Nat.beq kd 0 = false ∨ ∃ b rest, as = .ref b :: rest ∧ z_ci b c2 = true) (hr : Ro sc0 E1 D2 k2 0 (lv_args 0 as) [] μ (.inl v) μ1) (hd : D2 + 1 ≤ D) (hE : E1 + E2 ≤ E) (kk : Ro sc0 E2 D k (pc + 3) ls (v.toList ++ rr) μ1 o μ2) (hv : z_rvi v = true := by rfl) : Ro sc0 E D k pc ls st μ o μ2 := by
  intro ext j sl
  obtain ⟨r, f0, e, -, he, h⟩ := O_ex (ls := ls) hp hk h2 ha hb hrc hr hd ext j sl
  obtain ⟨f1, e1, he1, h1⟩ := kk ext (j + e) (sl + 6 * e)
  refine ⟨f0 + f1 + 1, e + e1, by omega, fun f d h3 h4 => ?_⟩
  obtain ⟨f, rfl⟩ : ∃ f', f = f' + 1 := ⟨f - 1, by omega⟩
  rw [h f d (by omega) h4]
  dsimp only
  rw [z_cok_hp hv]
  dsimp only [cond_true]
  rw [h1 f d (by omega) h4]
  rw [show j + e + e1 = j + (e + e1) by omega, show sl + 6 * e + 6 * e1 = sl + 6 * (e + e1) by omega]
/-- a call whose exception is caught here -/
theorem O_callC {kd k2 n c2 nl2 E1 E2 X pc' x : Nat} {as rr : List Value} {D2 : Nat} {q1 q2 q3 q4 q5 : Nat} (hp : z_pt k pc = some (nL, i, [kd, k2, n, q1, q2, q3, q4, q5])) (hk : z_kd i [kd, k2, n, q1, q2, q3, q4, q5] = 3) (h2 : z_r3 kd k2 = some (c2, nl2, true)) (ha : z_args kd n st = some (as, rr)) (hb : (Nat.ble (lg_sl as).length nl2 && Nat.ble (z_cat rr) 8) = true) (hrc : Nat.beq kd 0 = false ∨ ∃ b rest, as = .ref b :: rest ∧ z_ci b c2 = true) (hr : Ro sc0 E1 D2 k2 0 (lv_args 0 as) [] μ (.inr X) μ1) (hd : D2 + 1 ≤ D) (hE : E1 + E2 ≤ E) (hkd : Nat.ble kd 1 = true) (hx : z_hdx k pc X = some (pc', x)) (kk : Ro sc0 E2 D k pc' (z_rm ls x) [] μ1 o μ2) : Ro sc0 E D k pc ls st μ o μ2 := by
  intro ext j sl
  obtain ⟨r, f0, e, hrr, he, h⟩ := O_ex (ls := ls) hp hk h2 ha hb hrc hr hd ext j sl
  obtain ⟨f1, e1, he1, h1⟩ := kk ext (j + e) (sl + 6 * e)
  refine ⟨f0 + f1 + 1, e + e1, by omega, fun f d h3 h4 => ?_⟩
  obtain ⟨f, rfl⟩ : ∃ f', f = f' + 1 := ⟨f - 1, by omega⟩
  rw [h f d (by omega) h4]
  unfold z_hdx at hx
  rw [hrr] at hx
  dsimp only at hx ⊢
  rw [hkd]
  dsimp only [cond_true]
  split at hx
  · rename_i h0 hhd
    rw [hhd]
    dsimp only
    split at hx
    · rename_i j0 m ax2 hf2
      split at hx
      · rename_i x0 hx0
        cases hbx : (z_lok j0 m && Nat.blt x0 r.2.2.2.2.1) with
        | false => rw [hbx] at hx; cases hx
        | true =>
          rw [hbx] at hx
          cases hx
          rw [Bool.and_eq_true] at hbx
          rw [hbx.1, hbx.2, z_cok_hp rfl]
          show z_ex sc0 f d k _ (z_rm ls _) [] _ = _
          rw [h1 f d (by omega) h4]
          rw [show j + e + e1 = j + (e + e1) by omega, show sl + 6 * e + 6 * e1 = sl + 6 * (e + e1) by omega]
      · cases hx
    · cases hx
  · cases hx
end Rows
end ZORUN
