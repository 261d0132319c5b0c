/-! A run of the interpreter is a run of the machine: the frames, the calls, the throws. -/
section ZM
theorem z_G_warm {sc : Nat × (Nat → Int32)} {D : va_G} {b0 : Nat} {sA : Nat → Nat} {cA : Nat → ClassId} {s U : State} {H0 H1 : Heap} (h : z_G sc D b0 sA cA s H0) (hW : s.WarmedH U.vm) (hz : H0.size ≤ H1.size) (hq : ∀ a : Nat, a < H0.size → ¬ z_A0 b0 a → H1[a]? = H0[a]?) : z_G sc D b0 sA cA U H1 := by
  obtain ⟨h1, h2, h3, h4, h5, ⟨h6, ⟨adV, h7⟩, h8, h8b⟩, ⟨h9, h10, h11⟩, h12, h13, h14⟩ := h
  have hA := hW.alike
  refine ⟨h1.moved hA, ?_, h3.moved hA, (h4.moved hA).kept hq, (h5.moved hA).kept hq, ⟨fun j hj => (h6 j hj).warm hW, ⟨adV, (h7.moved hA).kept hq⟩, (h8.moved hA).kept hq, (h8b.moved hA).kept hq⟩, ⟨fun i j hi hj hij h4 => (h9 i j hi hj hij h4).moved hA, fun j hj => (h10 j hj).warmC hW, fun C hC => (h11 C hC).warmD hW⟩, (h12.moved hA).kept (hq _ h13 h14), Nat.lt_of_lt_of_le h13 hz, h14⟩
  intro w hw
  have hx := h2 w hw
  simp only [z_nest, List.mem_cons, List.not_mem_nil, or_false] at hw
  rcases hw with rfl | rfl | rfl | rfl | rfl | rfl | rfl | rfl | rfl <;> exact hx.warmM hW
theorem z_lgsl (ad : Nat → Nat) (as : List Value) : (lg_sl (as.map (z_V ad))).length = (lg_sl as).length := by
  induction as with
  | nil => rfl
  | cons v l ih =>
    have e : ∀ (w : Value) (ws : List Value), lg_sl (w :: ws) = (if w.category = 2 then [.val w, .second] else [.val w]) ++ lg_sl ws := fun w ws => by unfold lg_sl; rw [List.flatMap_cons]
    rw [List.map_cons, e, e, List.length_append, List.length_append, ih, z_V_cat]
    split <;> rfl
theorem z_lvargs (ad : Nat → Nat) (as : List Value) : ∀ i : Nat, lv_args i (as.map (z_V ad)) = z_L ad (lv_args i as) := by
  induction as with
  | nil => intro i; rfl
  | cons v l ih =>
    intro i
    show (i, z_V ad v) :: lv_args (if (z_V ad v).category = 2 then i + 2 else i + 1) (l.map (z_V ad)) = (i, z_V ad v) :: z_L ad (lv_args (if v.category = 2 then i + 2 else i + 1) l)
    rw [z_V_cat, ih]
def z_Hq (D : va_G) (b0 : Nat) (aA sA : Nat → Nat) (cA : Nat → ClassId) (hp : z_H) (H : Heap) : Prop :=
  va_P D z_cl (z_W (z_ad aA sA) cA hp.1) H ∧ va_D (z_A0 b0) (z_W (z_ad aA sA) cA hp.1) ∧ b0 ≤ H.size
def z_Qc (n1 : Nat) (D : va_G) (b0 : Nat) (aA sA : Nat → Nat) (cA : Nat → ClassId) (res : z_R) (hp' : z_H) : Array Value → State → Outcome → State → Prop := fun _ st o t =>
  ∃ (v : Option Value) (aA' : Nat → Nat), res = .inl v ∧ z_ag n1 aA aA' ∧ o = .returned (v.map (z_V (z_ad aA' sA))) ∧ z_Hq D b0 aA' sA cA hp' t.heap ∧ va_F (z_A0 b0) st t
def z_XC (n1 : Nat) (D : va_G) (b0 : Nat) (aA sA : Nat → Nat) (cA : Nat → ClassId) (res : z_R) (hp' : z_H) : String → State → State → Prop := fun E st t =>
  ∃ (j : Nat) (aA' : Nat → Nat), res = .inr j ∧ z_ag n1 aA aA' ∧ E = z_xn j ∧ j < 6 ∧ z_Hq D b0 aA' sA cA hp' t.heap ∧ va_F (z_A0 b0) st t
def z_QE (n1 : Nat) (D : va_G) (b0 : Nat) (aA sA : Nat → Nat) (cA : Nat → ClassId) (below : List Frame) (args : Array Value) (s : State) (res : z_R) (hp' : z_H) (n0 sl0 : Nat) : State → Prop :=
  vx_MQ below (z_Qc n1 D b0 aA sA cA res hp') (z_XC n1 D b0 aA sA cA res hp') args s (z_n hp' - n0) (hp'.2.2 - sl0) (z_A0 b0)
def z_Pc (sc : Nat × (Nat → Int32)) (D : va_G) (b0 : Nat) (aA sA : Nat → Nat) (cA : Nat → ClassId) (as : List Value) (hp : z_H) : Array Value → State → Prop := fun a U =>
  a = (as.map (z_V (z_ad aA sA))).toArray ∧ z_Hq D b0 aA sA cA hp U.heap ∧ U.heap.size ≤ b0 + z_n hp ∧ z_G sc D b0 sA cA U U.heap
/-- what a run says of the machine -/
def z_WS (sc : Nat × (Nat → Int32)) (D : va_G) (b0 : Nat) (aA sA : Nat → Nat) (cA : Nat → ClassId) (l : Launch) (d k pc : Nat) (ls : z_Ls) (st : List Value) (hp : z_H) (res : z_R) (hp' : z_H) : Prop :=
  ∀ (r : z_Rec), z_rec k = some r → ∀ (p : Program) (e : Env) (R : Room) (s : State) (m : MethodId) (args : Array Value) (below : List Frame) (meth : Method) (c : Code) (n0 sl0 n1 : Nat) (aA0 : Nat → Nat), z_hwf hp → n1 ≤ hp.1.length → z_ag n1 aA0 aA → z_F sc D b0 sA cA r p l s m args meth c → d ≤ R.frames → 46 * d ≤ R.locals → z_n hp' - n0 ≤ R.cells → hp'.2.2 - sl0 ≤ R.slots →
    z_K p l e R s m args below meth c (z_QE n1 D b0 aA0 sA cA below args s res hp' n0 sl0) D b0 aA sA cA r.2.2.2.2.1 n0 sl0 (pc, ls, st, hp)
section Calls
variable {l : Launch} {sc : Nat × (Nat → Int32)} {D : va_G} {b0 : Nat} {aA sA : Nat → Nat} {cA : Nat → ClassId}
theorem z_plain : ∀ o : Nat, z_own o ≠ "java/lang/invoke/MethodHandle" ∧ z_own o ≠ "java/lang/invoke/VarHandle" := by
  intro o
  unfold z_own
  split <;> decide +kernel
theorem z_ofW {y : MethodName} {ws ws' : List Jvm.Cond} {rm : Room} {Pc : Array Value → State → Prop} {Qc : Array Value → State → Outcome → State → Prop} {XC : String → State → State → Prop} {mc ms : Nat} {free : Addr → Prop} {cc : ByteArray} {maxL : Nat} {ret : Option FieldType}
    (hy : plainFor y = true) (hw : ws = Jvm.Cond.code y cc maxL ret :: ws')
    (body : ∀ p e s m args below meth c s₁, BodyLoose p l y (headSpec ws rm) cc maxL ret e s m args below meth c s₁ → c.maxLocals = maxL → (∀ x ∈ c.exceptionTable.toList, False) → Pc args s →
      W p l e (headSpec ws rm).room s m args below meth c s.heap [] 0 0 (vx_MQ below Qc XC args s mc ms free) (entryFrame m args maxL)) : vx_Met l y ws rm Pc Qc XC mc ms free := by
  refine MetFree.of_bodySF (code := cc) (maxLocals := maxL) (ret := ret) hy ?_ ?_
  · intro args s m h hn
    obtain ⟨meth, c, h1, h2, h3, h4, h5, h6, -, -⟩ := Cond.code_spec hn (atoms_spec (ws := ws) h _ (by rw [hw]; exact List.mem_cons_self))
    exact ⟨meth, c, h1, h2, h3, h4, h5, h6⟩
  · intro p e s m args below meth c s₁ B hml hP _
    have hh0 : s₁.heap = s.heap := by rw [B.state]; rfl
    have ht : ∀ x ∈ c.exceptionTable.toList, False := by
      obtain ⟨meth9, c9, h1, h2, -, -, -, -, h7, -⟩ := Cond.code_spec B.named (atoms_spec (ws := ws) B.pre _ (by rw [hw]; exact List.mem_cons_self))
      cases Option.some.inj (h1.symm.trans B.method)
      cases Option.some.inj (h2.symm.trans (Stand.of_body B).code)
      intro x hx
      rw [Array.isEmpty_iff.mp h7] at hx
      cases hx
    obtain ⟨t, a1, o, b1, b2, b3⟩ := body p e s m args below meth c s₁ B hml ht hP s₁ hh0 (Stand.of_body B)
    exact ⟨t, o, a1, b1, b2, b3⟩
def z_rm0 (d : Nat) (hp hp' : z_H) : Room := { frames := d, cells := z_n hp' - z_n hp, slots := hp'.2.2 - hp.2.2, locals := 46 * d }
/-- the body of a method, from the entry -/
theorem z_body {d k : Nat} {as : List Value} {hp hp' : z_H} {res : z_R} {r : z_Rec} {ws : List Jvm.Cond} (hr : z_rec k = some r) (hw : z_hwf hp) (IH : z_WS sc D b0 aA sA cA l d k 0 (lv_args 0 as) [] hp res hp') (hlg : (lg_sl as).length ≤ r.2.2.2.2.1) (hl : l.stackTraces = false) (hgt : ∀ w ∈ z_gt, w ∈ ws)
    {p : Program} {e : Env} {s : State} {m : MethodId} {args : Array Value} {below : List Frame} {meth : Method} {c : Code} {s₁ : State} (B : BodyLoose p l (z_y r) (headSpec ws (z_rm0 d hp hp')) r.2.2.2.1 r.2.2.2.2.1 r.2.2.2.2.2.1 e s m args below meth c s₁) (hml : c.maxLocals = r.2.2.2.2.1) (ht : c.exceptionTable.toList = tableOf r.2.2.2.2.2.2.1) (hP : z_Pc sc D b0 aA sA cA as hp args s) :
    W p l e (headSpec ws (z_rm0 d hp hp')).room s m args below meth c s.heap [] 0 0 (vx_MQ below (z_Qc hp.1.length D b0 aA sA cA res hp') (z_XC hp.1.length D b0 aA sA cA res hp') args s (z_n hp' - z_n hp) (hp'.2.2 - hp.2.2) (z_A0 b0)) (entryFrame m args r.2.2.2.2.1) := by
  obtain ⟨rfl, ⟨hq1, hq2, hq3⟩, hsz, hG⟩ := hP
  have hts := atoms_spec (ws := ws) B.pre
  have F : z_F sc D b0 sA cA r p l s m _ meth c := ⟨B.exec, B.bytes, B.returns, hml, findClass_of_methodNamed B.named, fun w hw => hts w (hgt w hw), B.notSynchronized, ht, (name_of_methodNamed B.named B.method).1, hl, hG⟩
  have K := IH r hr p e (z_rm0 d hp hp') s m _ below meth c (z_n hp) hp.2.2 hp.1.length aA hw (Nat.le_refl _) z_ag_rfl F (Nat.le_refl _) (Nat.le_refl _) (Nat.le_refl _) (Nat.le_refl _)
  rw [lg_entry_eq]
  have hlv := lv_entry (as.map (z_V (z_ad aA sA))) (n := r.2.2.2.2.1) (by rw [z_lgsl]; exact hlg)
  rw [z_lvargs] at hlv
  have hk := K _ s.heap [] hlv ⟨hq1, hq2, va_S.rf, ⟨hsz, hq3⟩, hsz, Nat.le_refl _, Nat.le_refl _⟩
  rw [show z_n ((0, lv_args 0 as, ([] : List Value), hp) : z_C).2.2.2 - z_n hp = 0 from Nat.sub_self _, show ((0, lv_args 0 as, ([] : List Value), hp) : z_C).2.2.2.2.2 - hp.2.2 = 0 from Nat.sub_self _] at hk
  exact hk
def z_ws (r : z_Rec) : List Jvm.Cond := Jvm.Cond.code (z_y r) r.2.2.2.1 r.2.2.2.2.1 r.2.2.2.2.2.1 :: z_gt
def z_wsH (r : z_Rec) : List Jvm.Cond := Jvm.Cond.codeWith (z_y r) r.2.2.2.1 r.2.2.2.2.1 r.2.2.2.2.2.1 r.2.2.2.2.2.2.1 :: z_gt
theorem z_met {d k : Nat} {as : List Value} {hp hp' : z_H} {res : z_R} {r : z_Rec} (hr : z_rec k = some r) (hw : z_hwf hp) (IH : z_WS sc D b0 aA sA cA l d k 0 (lv_args 0 as) [] hp res hp') (hlg : (lg_sl as).length ≤ r.2.2.2.2.1) (hl : l.stackTraces = false) (hh : r.2.2.2.2.2.2.1 = []) (hy : plainFor (z_y r) = true) : vx_Met l (z_y r) (z_ws r) (z_rm0 d hp hp') (z_Pc sc D b0 aA sA cA as hp) (z_Qc hp.1.length D b0 aA sA cA res hp') (z_XC hp.1.length D b0 aA sA cA res hp') (z_n hp' - z_n hp) (hp'.2.2 - hp.2.2) (z_A0 b0) := by
  refine z_ofW (cc := r.2.2.2.1) (maxL := r.2.2.2.2.1) (ret := r.2.2.2.2.2.1) hy rfl ?_
  intro p e s m args below meth c s₁ B hml ht hP
  exact z_body hr hw IH hlg hl (fun w hw => List.mem_cons_of_mem _ hw) B hml (by rw [hh]; exact List.eq_nil_iff_forall_not_mem.mpr (fun x hx => ht x hx)) hP
theorem z_metH {d k : Nat} {as : List Value} {hp hp' : z_H} {res : z_R} {r : z_Rec} (hr : z_rec k = some r) (hw : z_hwf hp) (IH : z_WS sc D b0 aA sA cA l d k 0 (lv_args 0 as) [] hp res hp') (hlg : (lg_sl as).length ≤ r.2.2.2.2.1) (hl : l.stackTraces = false) (hy : plainName (z_own r.1) = true) : vx_Met l (z_y r) (z_wsH r) (z_rm0 d hp hp') (z_Pc sc D b0 aA sA cA as hp) (z_Qc hp.1.length D b0 aA sA cA res hp') (z_XC hp.1.length D b0 aA sA cA res hp') (z_n hp' - z_n hp) (hp'.2.2 - hp.2.2) (z_A0 b0) := by
  refine vx_ofWH (cc := r.2.2.2.1) (maxL := r.2.2.2.2.1) (ret := r.2.2.2.2.2.1) (hh := r.2.2.2.2.2.2.1) hy rfl ?_
  intro p e s m args below meth c s₁ B hml hP
  exact z_body hr hw IH hlg hl (fun w hw => List.mem_cons_of_mem _ hw) B hml (vx_table (x := z_y r) B (atoms_spec (ws := z_wsH r) B.pre _ List.mem_cons_self)) hP
/-- a callee that returns -/
theorem z_met_ret {y : MethodName} {ws : List Jvm.Cond} {rm : Room} {Pc : Array Value → State → Prop} {n1 : Nat} {v : Option Value} {hp' : z_H} {mc ms : Nat} {free : Addr → Prop} (h : vx_Met l y ws rm Pc (z_Qc n1 D b0 aA sA cA (.inl v) hp') (z_XC n1 D b0 aA sA cA (.inl v) hp') mc ms free) : Met l y ws rm Pc (z_Qc n1 D b0 aA sA cA (.inl v) hp') mc ms free := by
  intro p e ha hc hk s m args below hf happ hP hK
  obtain ⟨n, o, h1, h2, h3, h4⟩ := h p e ha hc hk s m args below hf happ hP hK
  refine ⟨n, o, h1, h2, h3, ?_⟩
  rcases h4 with h4 | ⟨q, -, E, ce, L, ⟨j, aX, hj, -⟩, -⟩
  · exact h4
  · cases hj
theorem z_blind {as : List Value} {hp : z_H} : FrameBlind (z_Pc sc D b0 aA sA cA as hp) := by
  intro a U g mk h
  obtain ⟨h1, h2, h3, h4⟩ := h
  exact ⟨h1, h2, h3, z_G_warm (U := U.calling g mk a) h4 (State.WarmedH.refl U) (Nat.le_refl _) (fun _ _ _ => rfl)⟩
theorem z_good : GoodIn z_gt z_gt := fun w hw => ⟨hw, good_of_word (List.mem_filter.mp hw).2⟩
theorem z_goodl {ws : List Jvm.Cond} (h : ∀ w ∈ ws, w ∈ z_gt) : GoodIn z_gt ws := fun w hw => z_good w (h w hw)
end Calls
end ZM
