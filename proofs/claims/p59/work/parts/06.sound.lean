/-! A run of the small interpreter is a run of the machine: what lies where, and the steps within a frame. -/
section ZS
def z_ad (aA sA : Nat → Nat) (k : Nat) : Nat := if k < 1000 then aA k else sA (k - 1000)
def z_V (ad : Nat → Nat) : Value → Value
  | .ref k => .ref (ad k)
  | v => v
def z_A (ad : Nat → Nat) (a : vp_A) : vp_A := match a with
  | (n, .inr (.inr (.inr (.inr f)))) => (n, .inr (.inr (.inr (.inr (fun j => (f j).map ad)))))
  | a => a
def z_E (ad : Nat → Nat) (cA : Nat → ClassId) (e : va_E) : va_E := match e with
  | .inl q => .inl (cA q.1, z_A ad q.2)
  | .inr o => .inr (o.1, o.2.map (z_V ad))
def z_W (ad : Nat → Nat) (cA : Nat → ClassId) (h : List va_E) : va_W := h.mapIdx (fun k e => (ad k, z_E ad cA e))
def z_L (ad : Nat → Nat) (ls : z_Ls) : z_Ls := ls.map (fun q => (q.1, z_V ad q.2))
def z_A0 (b0 : Nat) : Nat → Prop := fun q => b0 ≤ q
def z_tys (cA : Nat → ClassId) : List (ClassId × FieldType) := [(cA 0, .int), (cA 1, .char), (cA 2, .boolean), (cA 3, .int), (cA 4, .int), (cA 5, .object RX7)]
def z_txt : Nat → String
  | 0 => "gear " | 1 => "mesh " | 2 => "turn " | 3 => "wheel " | 4 => "note " | 5 => "hour " | 6 => "turn 0+7;turn 1-30;hour 5" | 7 => "hour 1;turn 0+0" | 8 => "gear 7" | 9 => "turn 0" | 10 => "mesh 0-1" | 11 => "wheel 0*" | 12 => "note a" | 13 => "gear 123" | 14 => "" | 15 => "hour 9;" | 16 => "note A0" | 17 => "turn 0*5" | 18 => "g" | 19 => "z" | _ => "gear 40;gear 20;gear 30;mesh 0-1/3;mesh 2-1/2"
/-- the String constants -/
def z_Str (b0 : Nat) (sA : Nat → Nat) (U : State) (H : Heap) : Prop :=
  (∀ j : Nat, j < 21 → vk_R (z_scl j) (z_sidx j) (z_txt j) (sA j) U) ∧ (∃ adV : Nat → Nat, vk_S 21 ((List.range 21).map (fun j => (z_str j).length)) ((List.range 21).map (fun j => (z_str j).map Int32.ofNat)) sA adV (z_A0 b0) U H) ∧ va_Z "java/lang/String" "COMPACT_STRINGS" "Z" (.int 1) (z_A0 b0) U H ∧ va_Zq "jdk/internal/util/Preconditions" "SIOOBE_FORMATTER" "Ljava/util/function/BiFunction;" (z_A0 b0) U H
def z_dec : List String := ["java/lang/RuntimeException", "java/lang/Exception", "java/lang/Throwable"]
/-- what holds of the machine all through the run -/
def z_G (sc : Nat × (Nat → Int32)) (D : va_G) (b0 : Nat) (sA : Nat → Nat) (cA : Nat → ClassId) (U : State) (H : Heap) : Prop :=
  va_K D z_cl (z_tys cA) U ∧ (∀ w ∈ z_nest, va_Nw w U) ∧ va_AO RX7 U ∧ vx_Zq Bundle.tN "UNASSIGNED_STACK" Bundle.steD (z_A0 b0) U H ∧ vx_Zq Bundle.tN "SUPPRESSED_SENTINEL" Bundle.listD (z_A0 b0) U H ∧ z_Str b0 sA U H ∧
  ((∀ i j : Nat, i < 6 → j < 6 → i ≠ j → j ≠ 4 → va_Nc (z_xn i) (z_xn j) U) ∧ (∀ j : Nat, j < 6 → va_Nw (.castable (z_xn j) (z_xn j)) U) ∧ (∀ C ∈ z_dec, va_Nw (.declares ⟨C, "<init>", "()V"⟩) U)) ∧ va_X (sA 1000) sc.1 sc.2 U H ∧ sA 1000 < H.size ∧ ¬ z_A0 b0 (sA 1000)
theorem z_V_cat (ad : Nat → Nat) (v : Value) : (z_V ad v).category = v.category := by cases v <;> rfl
theorem z_W_get (ad : Nat → Nat) (cA : Nat → ClassId) (h : List va_E) (k : Nat) : (z_W ad cA h)[k]? = (h[k]?).map (fun e => (ad k, z_E ad cA e)) := by
  unfold z_W; rw [List.getElem?_mapIdx]
theorem z_W_at {ad : Nat → Nat} {cA : Nat → ClassId} {h : List va_E} {k : Nat} {e : va_E} (hk : h[k]? = some e) : (z_W ad cA h)[k]? = some (ad k, z_E ad cA e) := by
  rw [z_W_get, hk]; rfl
theorem z_W_set (ad : Nat → Nat) (cA : Nat → ClassId) (h : List va_E) (k : Nat) (e : va_E) : z_W ad cA (h.set k e) = (z_W ad cA h).set k (ad k, z_E ad cA e) := by
  apply List.ext_getElem?
  intro i
  rw [z_W_get, List.getElem?_set, List.getElem?_set, z_W_get]
  have hlen : (z_W ad cA h).length = h.length := by unfold z_W; rw [List.length_mapIdx]
  by_cases e1 : k = i
  · subst e1
    by_cases e2 : k < h.length
    · simp [e2, hlen]
    · simp [e2, hlen]
  · simp [e1]
theorem z_W_push (ad : Nat → Nat) (cA : Nat → ClassId) (h : List va_E) (e : va_E) : z_W ad cA (h ++ [e]) = z_W ad cA h ++ [(ad h.length, z_E ad cA e)] := by
  unfold z_W; rw [List.mapIdx_append]; simp
theorem z_cat_map (ad : Nat → Nat) (st : List Value) : ((st.map (z_V ad)).map fun v => v.category).sum = z_cat st := by
  unfold z_cat
  rw [List.map_map]
  congr 1
  apply List.map_congr_left
  intro v _
  exact z_V_cat ad v
theorem z_get_mem {ls : z_Ls} {i : Nat} {v : Value} (h : z_get ls i = some v) : (i, v) ∈ ls := by
  induction ls with
  | nil => cases h
  | cons a l ih =>
    unfold z_get at h
    by_cases e : Nat.beq a.1 i = true
    · rw [e] at h
      have e2 : a.1 = i := Nat.eq_of_beq_eq_true e
      have e3 : a.2 = v := Option.some.inj h
      rw [← e2, ← e3]
      exact List.mem_cons_self
    · have e1 : Nat.beq a.1 i = false := Bool.eq_false_iff.mpr e
      rw [e1] at h
      exact List.mem_cons_of_mem _ (ih h)
theorem z_L_mem {ad : Nat → Nat} {ls : z_Ls} {i : Nat} {v : Value} (h : (i, v) ∈ ls) : (i, z_V ad v) ∈ z_L ad ls := List.mem_map.mpr ⟨(i, v), h, rfl⟩
theorem z_ins_mem {q x : Nat × Value} {l : z_Ls} (h : x ∈ z_ins q l) : x = q ∨ x ∈ l := by
  induction l with
  | nil => exact Or.inl (List.mem_singleton.mp h)
  | cons a l ih =>
    unfold z_ins at h
    by_cases e : Nat.ble q.1 a.1 = true
    · rw [e] at h
      exact List.mem_cons.mp h
    · have e1 : Nat.ble q.1 a.1 = false := Bool.eq_false_iff.mpr e
      rw [e1] at h
      rcases List.mem_cons.mp h with h | h
      · exact Or.inr (by rw [h]; exact List.mem_cons_self)
      · rcases ih h with h | h
        · exact Or.inl h
        · exact Or.inr (List.mem_cons_of_mem _ h)
theorem z_has_sub {lsM : Array Slot} {nL : Nat} {l l' : z_Ls} (h : lv_has lsM nL l) (hs : ∀ q ∈ l', q ∈ l) : lv_has lsM nL l' := ⟨h.1, h.2.1, fun q hq => h.2.2 q (hs q hq)⟩
theorem z_lget {ad : Nat → Nat} {lsM : Array Slot} {nL : Nat} {ls : z_Ls} {i : Nat} {v : Value} (hl : lv_has lsM nL (z_L ad ls)) (h : z_get ls i = some v) : lsM[i]? = some (.val (z_V ad v)) := hl.2.2 _ (z_L_mem (z_get_mem h))
theorem z_L_filter (ad : Nat → Nat) (ls : z_Ls) (p : Nat × Value → Bool) (hp : ∀ q : Nat × Value, p (q.1, z_V ad q.2) = p q) : (z_L ad ls).filter p = z_L ad (ls.filter p) := by
  unfold z_L
  rw [List.filter_map]
  congr 1
  apply List.filter_congr
  intro q _
  exact hp q
theorem z_has1 {ad : Nat → Nat} {lsM : Array Slot} {nL : Nat} {ls : z_Ls} {i : Nat} {v : Value} (h : lv_has lsM nL ((i, z_V ad v) :: (z_L ad ls).filter (fun q => !(q.1 == i) && !(q.1 + 1 == i && q.2.category == 2)))) : lv_has lsM nL (z_L ad (z_st1 ls i v)) := by
  refine z_has_sub h (fun q hq => ?_)
  rw [z_L_filter _ _ _ (fun q => by simp only [z_V_cat])]
  obtain ⟨x, hx, rfl⟩ := List.mem_map.mp hq
  rcases z_ins_mem hx with rfl | hx
  · exact List.mem_cons_self
  · exact List.mem_cons_of_mem _ (List.mem_map.mpr ⟨x, hx, rfl⟩)
theorem z_has2 {ad : Nat → Nat} {lsM : Array Slot} {nL : Nat} {ls : z_Ls} {i : Nat} {v : Value} (h : lv_has lsM nL ((i, z_V ad v) :: (z_L ad ls).filter (fun q => !(q.1 == i) && (!(q.1 == i + 1) && !(q.1 + 1 == i && q.2.category == 2))))) : lv_has lsM nL (z_L ad (z_st2 ls i v)) := by
  refine z_has_sub h (fun q hq => ?_)
  rw [z_L_filter _ _ _ (fun q => by simp only [z_V_cat])]
  obtain ⟨x, hx, rfl⟩ := List.mem_map.mp hq
  rcases z_ins_mem hx with rfl | hx
  · exact List.mem_cons_self
  · exact List.mem_cons_of_mem _ (List.mem_map.mpr ⟨x, hx, rfl⟩)
theorem z_inb_in {i : Int32} {n : Nat} (h : z_inb i n = true) : vp_in i n := by
  simp only [z_inb, Bool.and_eq_true, Bool.not_eq_true', decide_eq_false_iff_not, decide_eq_true_eq] at h
  intro q
  rcases q with q | q
  · exact h.1 q
  · exact absurd h.2 (Nat.not_lt.mpr q)
theorem z_tgt_eq {pc t : Nat} {off : Int} (h : z_tgt pc off = some t) : (pc : Int) + off = (t : Int) := by
  unfold z_tgt at h
  split at h
  · rename_i h0
    cases h
    exact (Int.toNat_of_nonneg h0).symm
  · cases h
/-- what holds at a frame: the machine's parts, the code by the table, the words -/
def z_F (sc : Nat × (Nat → Int32)) (D : va_G) (b0 : Nat) (sA : Nat → Nat) (cA : Nat → ClassId) (r : z_Rec) (p : Program) (l : Launch) (s : State) (m : MethodId) (args : Array Value) (meth : Method) (c : Code) : Prop :=
  p.tables.exec = Jvm.exec ∧ c.code = r.2.2.2.1 ∧ meth.sig.returnType = r.2.2.2.2.2.1 ∧ c.maxLocals = r.2.2.2.2.1 ∧ s.vm.findClass (z_own r.1) = some m.cls ∧ (∀ w ∈ z_gt, w.before args s = true) ∧ meth.locks = false ∧ c.exceptionTable.toList = tableOf r.2.2.2.2.2.2.1 ∧ meth.name = r.2.1 ∧ l.stackTraces = false ∧ z_G sc D b0 sA cA s s.heap
/-- the heap holds the cells; what was there before the frame is as it was -/
def z_I (D : va_G) (b0 : Nat) (aA sA : Nat → Nat) (cA : Nat → ClassId) (n0 sl0 : Nat) (s : State) (hp : z_H) (H : Heap) (locs : List Loc) : Prop :=
  va_P D z_cl (z_W (z_ad aA sA) cA hp.1) H ∧ va_D (z_A0 b0) (z_W (z_ad aA sA) cA hp.1) ∧ va_S (z_A0 b0) s.heap H locs ∧ (H.size ≤ b0 + z_n hp ∧ b0 ≤ H.size) ∧ s.heap.size ≤ b0 + n0 ∧ n0 ≤ z_n hp ∧ sl0 ≤ hp.2.2
def z_K (p : Program) (l : Launch) (e : Env) (R : Room) (s : State) (m : MethodId) (args : Array Value) (below : List Frame) (meth : Method) (c : Code) (Q : State → Prop) (D : va_G) (b0 : Nat) (aA sA : Nat → Nat) (cA : Nat → ClassId) (nL n0 sl0 : Nat) (C : z_C) : Prop :=
  ∀ (lsM : Array Slot) (H : Heap) (locs : List Loc), lv_has lsM nL (z_L (z_ad aA sA) C.2.1) → z_I D b0 aA sA cA n0 sl0 s C.2.2.2 H locs → W p l e R s m args below meth c H locs (z_n C.2.2.2 - n0) (C.2.2.2.2.2 - sl0) Q (F0 m C.1 lsM (C.2.2.1.map (z_V (z_ad aA sA))))
/-- rows are only added -/
def z_ag (n : Nat) (aA aA' : Nat → Nat) : Prop := ∀ k, k < n → aA' k = aA k
theorem z_ag_rfl {n : Nat} {aA : Nat → Nat} : z_ag n aA aA := fun _ _ => rfl
theorem z_ag_trans {n m : Nat} {a1 a2 a3 : Nat → Nat} (h : z_ag n a1 a2) (hm : n ≤ m) (h2 : z_ag m a2 a3) : z_ag n a1 a3 := fun k hk => (h2 k (by omega)).trans (h k hk)
def z_upA (aA : Nat → Nat) (n a : Nat) : Nat → Nat := fun k => if k = n then a else aA k
theorem z_upA_ag {aA : Nat → Nat} {n a : Nat} : z_ag n aA (z_upA aA n a) := fun k hk => if_neg (by omega)
/-- a cell's references name rows that stand -/
def z_ewf (n : Nat) (e : va_E) : Prop := match e with
  | .inl (_, _, .inr (.inr (.inr (.inr f)))) => ∀ j b, f j = some b → z_vwf n (.ref b) = true
  | .inl _ => True
  | .inr o => ∀ v ∈ o.2, z_vwf n v = true
def z_hwf (hp : z_H) : Prop := ∀ (k : Nat) (e : va_E), hp.1[k]? = some e → z_ewf hp.1.length e
theorem z_vwf_up {n m : Nat} (h : n ≤ m) {v : Value} (hv : z_vwf n v = true) : z_vwf m v = true := by
  cases v <;> first | rfl | skip
  rename_i k
  have h1 : (Nat.blt k n || Nat.ble 1000 k) = true := hv
  show (Nat.blt k m || Nat.ble 1000 k) = true
  rw [Bool.or_eq_true] at h1 ⊢
  rcases h1 with h1 | h1
  · have h2 : k + 1 ≤ n := Nat.le_of_ble_eq_true h1
    exact Or.inl (Nat.ble_eq_true_of_le (Nat.le_trans h2 h))
  · exact Or.inr h1
theorem z_ewf_up {n m : Nat} (h : n ≤ m) {e : va_E} (he : z_ewf n e) : z_ewf m e := by
  unfold z_ewf at he ⊢
  split at he
  · exact fun j b hb => z_vwf_up h (he j b hb)
  · trivial
  · exact fun v hv => z_vwf_up h (he v hv)
theorem z_ad_ag {n : Nat} {aA aA' sA : Nat → Nat} (h : z_ag n aA aA') {k : Nat} (hk : k < n ∨ 1000 ≤ k) : z_ad aA' sA k = z_ad aA sA k := by
  unfold z_ad
  by_cases h1 : k < 1000
  · rw [if_pos h1, if_pos h1]
    rcases hk with hk | hk
    · exact h k hk
    · omega
  · rw [if_neg h1, if_neg h1]
theorem z_vwf_k {n k : Nat} (h : z_vwf n (.ref k) = true) : k < n ∨ 1000 ≤ k := by
  have h1 : (Nat.blt k n || Nat.ble 1000 k) = true := h
  rw [Bool.or_eq_true] at h1
  exact h1.imp (fun q => Nat.le_of_ble_eq_true (show Nat.ble (k + 1) n = true from q)) Nat.le_of_ble_eq_true
theorem z_V_ag {n : Nat} {aA aA' sA : Nat → Nat} (h : z_ag n aA aA') {v : Value} (hv : z_vwf n v = true) : z_V (z_ad aA' sA) v = z_V (z_ad aA sA) v := by
  cases v <;> first | rfl | skip
  show Value.ref _ = Value.ref _
  rw [z_ad_ag h (z_vwf_k hv)]
theorem z_st_ag {n : Nat} {aA aA' sA : Nat → Nat} (h : z_ag n aA aA') {st : List Value} (hv : st.all (z_vwf n) = true) : st.map (z_V (z_ad aA' sA)) = st.map (z_V (z_ad aA sA)) :=
  List.map_congr_left (fun v hq => z_V_ag h (List.all_eq_true.mp hv v hq))
theorem z_L_ag {n : Nat} {aA aA' sA : Nat → Nat} (h : z_ag n aA aA') {ls : z_Ls} (hv : ls.all (fun q => z_vwf n q.2) = true) : z_L (z_ad aA' sA) ls = z_L (z_ad aA sA) ls :=
  List.map_congr_left (fun q hq => by rw [z_V_ag h (List.all_eq_true.mp hv q hq)])
theorem z_E_ag {n : Nat} {aA aA' sA : Nat → Nat} {cA : Nat → ClassId} (h : z_ag n aA aA') {e : va_E} (he : z_ewf n e) : z_E (z_ad aA' sA) cA e = z_E (z_ad aA sA) cA e := by
  rcases e with ⟨t, m, f | f | f | f | f⟩ | o
  · rfl
  · rfl
  · rfl
  · rfl
  · have he2 : ∀ j b, f j = some b → z_vwf n (.ref b) = true := he
    show Sum.inl (cA t, m, Sum.inr (Sum.inr (Sum.inr (Sum.inr (fun j => (f j).map (z_ad aA' sA)))))) = Sum.inl (cA t, m, Sum.inr (Sum.inr (Sum.inr (Sum.inr (fun j => (f j).map (z_ad aA sA))))))
    have : (fun j => (f j).map (z_ad aA' sA)) = (fun j => (f j).map (z_ad aA sA)) := by
      funext j
      cases hf : f j with
      | none => rfl
      | some b => exact congrArg some (z_ad_ag h (z_vwf_k (he2 j b hf)))
    rw [this]
  · exact congrArg Sum.inr (Prod.ext rfl (List.map_congr_left (fun v hq => z_V_ag h (he v hq))))
theorem z_W_ag {aA aA' sA : Nat → Nat} {cA : Nat → ClassId} {hp : z_H} (hw : z_hwf hp) (h : z_ag hp.1.length aA aA') : z_W (z_ad aA' sA) cA hp.1 = z_W (z_ad aA sA) cA hp.1 := by
  apply List.ext_getElem?
  intro k
  rw [z_W_get, z_W_get]
  cases hk : hp.1[k]? with
  | none => rfl
  | some e =>
    have hl := (List.getElem?_eq_some_iff.mp hk).1
    show some (z_ad aA' sA k, z_E (z_ad aA' sA) cA e) = some (z_ad aA sA k, z_E (z_ad aA sA) cA e)
    rw [z_E_ag h (hw k e hk), z_ad_ag h (Or.inl hl)]
end ZS
