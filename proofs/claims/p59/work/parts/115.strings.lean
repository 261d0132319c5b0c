/-! String.length and String.charAt, on the String constants. -/
section ZSTR
section
variable {p : Program} {l : Launch} {e : Env} {R : Room} {s : State} {m : MethodId} {args : Array Value} {below : List Frame} {meth : Method} {c : Code} {Q : State → Prop}
theorem j_ofM {y : MethodName} {ws ws' : List Jvm.Cond} {rm : Room} {Pc : Array Value → State → Prop} {Qc : Array Value → State → Outcome → State → Prop} {mc ms : Nat} {free : Addr → Prop} {cc : ByteArray} {maxL : Nat} {ret : Option FieldType}
    (hy : plainFor y = true) (hw : ws = Jvm.Cond.code y cc maxL ret :: ws')
    (body : ∀ p e s m args below meth c s₁, BodyLoose p l y (headSpec ws rm) cc maxL ret e s m args below meth c s₁ → c.maxLocals = maxL → Pc args s →
      W p l e (headSpec ws rm).room s m args below meth c s.heap [] 0 0 (MQ below Qc args s mc ms free) (entryFrame m args maxL)) : Met l y ws rm Pc Qc mc ms free := by
  refine MetFree.of_bodySF (code := cc) (maxLocals := maxL) (ret := ret) hy ?_ ?_
  · intro args s m h hn
    obtain ⟨meth, c, h1, h2, h3, h4, h5, h6, -, -⟩ := Cond.code_spec hn (atoms_spec (ws := ws) h _ (by rw [hw]; exact List.mem_cons_self))
    exact ⟨meth, c, h1, h2, h3, h4, h5, h6⟩
  · intro p e s m args below meth c s₁ B hml hP _
    have hh0 : s₁.heap = s.heap := by rw [B.state]; rfl
    obtain ⟨t, a1, o, b1, b2, b3⟩ := body p e s m args below meth c s₁ B hml hP s₁ hh0 (Stand.of_body B)
    exact ⟨t, o, a1, b1, b2, ⟨b3.1, b3.2⟩⟩
/-- such a callee writes nothing -/
def j_Q (v : Option Value) : Array Value → State → Outcome → State → Prop := fun _ st o t => o = .returned v ∧ t.heap = st.heap
theorem j_run {pc : Nat} {H : Heap} {locs : List Loc} {cells slots : Nat} {ls : Array Slot} {st0 rest : List Value} {v : Option Value} {a : Array Value} (hr : va_Run p l e R s m args below meth c H locs cells slots 0 0 (F0 m pc ls st0) rest (j_Q v a) (fun _ => False)) (kk : W p l e R s m args below meth c H locs cells slots Q (F0 m (pc + 3) ls (v.toList ++ rest))) : W p l e R s m args below meth c H locs cells slots Q (F0 m pc ls st0) := by
  intro T hT X
  obtain ⟨v', st₀, t, T', L, h0, X', hL, e1, e2, ⟨hv, hh⟩, stp⟩ := hr T hT X
  cases hv
  have hn : L = [] := List.eq_nil_iff_forall_not_mem.mpr (fun q hq => hL q hq)
  subst hn
  rw [List.append_nil] at X'
  obtain ⟨t2, a1, b1⟩ := kk T' (by rw [e1, hh, h0]) X'
  exact ⟨t2, stp t2 a1, b1⟩
theorem j_good (w : Jvm.Cond) (h : w ∈ z_gt) : w ∈ z_gt ∧ ((w.onTables && w.keeps) = true ∨ ∃ ty, w = .arrayClass ty) := ⟨h, good_of_word (List.mem_filter.mp h).2⟩
theorem j_goodl {ws : List Jvm.Cond} (h : ∀ w ∈ ws, w ∈ z_gt) : GoodIn z_gt ws := fun w hw => j_good w (h w hw)
end
def j_len : MethodName := ⟨"java/lang/String", "length", "()I"⟩
def j_cod : MethodName := ⟨"java/lang/String", "coder", "()B"⟩
def j_chr : MethodName := ⟨"java/lang/String", "charAt", "(I)C"⟩
def j_lat : MethodName := ⟨"java/lang/String", "isLatin1", "()Z"⟩
def j_chk : MethodName := ⟨"java/lang/String", "checkIndex", "(II)V"⟩
def j_lch : MethodName := ⟨"java/lang/StringLatin1", "charAt", "([BI)C"⟩
def j_pre : MethodName := ⟨"jdk/internal/util/Preconditions", "checkIndex", "(IILjava/util/function/BiFunction;)I"⟩
abbrev j_BF : String := "Ljava/util/function/BiFunction;"
def j_ws (y : MethodName) (cc : ByteArray) (n : Nat) (ret : Option FieldType) : List Jvm.Cond := Jvm.Cond.code y cc n ret :: z_gt
theorem j_ws_in {y : MethodName} {cc : ByteArray} {n : Nat} {ret : Option FieldType} (h : Jvm.Cond.code y cc n ret ∈ z_gt) : ∀ w ∈ j_ws y cc n ret, w ∈ z_gt := fun w hw => by
  rcases List.mem_cons.mp hw with rfl | hw
  · exact h
  · exact hw
theorem j_w1 : Jvm.Cond.methodLink RX0 77 j_len ∈ z_gt := z_at_mem (p := 4182) (by decide +kernel)
theorem j_w33 : Jvm.Cond.methodLink RL 7 j_len ∈ z_gt := z_at_mem (p := 5099) (by decide +kernel)
theorem j_w34 : Jvm.Cond.methodLink RL 13 j_chr ∈ z_gt := z_at_mem (p := 5100) (by decide +kernel)
theorem j_w2 : Jvm.Cond.instanceMethod j_len ∈ z_gt := z_at_mem (p := 4183) (by decide +kernel)
theorem j_w3 : Jvm.Cond.selects "java/lang/String" j_len j_len ∈ z_gt := z_at_mem (p := 4184) (by decide +kernel)
theorem j_w4 : Jvm.Cond.code j_len prog_24_method_54_code 1 (some .int) ∈ z_gt := z_at_mem (p := 4185) (by decide +kernel)
theorem j_w5 : Jvm.Cond.methodLink "java/lang/String" 335 j_cod ∈ z_gt := z_at_mem (p := 4186) (by decide +kernel)
theorem j_w6 : Jvm.Cond.instanceMethod j_cod ∈ z_gt := z_at_mem (p := 4187) (by decide +kernel)
theorem j_w7 : Jvm.Cond.selects "java/lang/String" j_cod j_cod ∈ z_gt := z_at_mem (p := 4188) (by decide +kernel)
theorem j_w8 : Jvm.Cond.code j_cod prog_24_method_152_code 1 (some .byte) ∈ z_gt := z_at_mem (p := 4189) (by decide +kernel)
theorem j_w9 : Jvm.Cond.fieldLink "java/lang/String" 38 "java/lang/String" "COMPACT_STRINGS" "Z" ∈ z_gt := z_at_mem (p := 4190) (by decide +kernel)
theorem j_w10 : Jvm.Cond.methodLink RX0 81 j_chr ∈ z_gt := z_at_mem (p := 4192) (by decide +kernel)
theorem j_w11 : Jvm.Cond.instanceMethod j_chr ∈ z_gt := z_at_mem (p := 4193) (by decide +kernel)
theorem j_w12 : Jvm.Cond.selects "java/lang/String" j_chr j_chr ∈ z_gt := z_at_mem (p := 4194) (by decide +kernel)
theorem j_w13 : Jvm.Cond.code j_chr prog_24_method_56_code 2 (some .char) ∈ z_gt := z_at_mem (p := 4195) (by decide +kernel)
theorem j_w14 : Jvm.Cond.methodLink "java/lang/String" 492 j_lat ∈ z_gt := z_at_mem (p := 4196) (by decide +kernel)
theorem j_w15 : Jvm.Cond.instanceMethod j_lat ∈ z_gt := z_at_mem (p := 4197) (by decide +kernel)
theorem j_w16 : Jvm.Cond.selects "java/lang/String" j_lat j_lat ∈ z_gt := z_at_mem (p := 4198) (by decide +kernel)
theorem j_w17 : Jvm.Cond.code j_lat prog_24_method_154_code 1 (some .boolean) ∈ z_gt := z_at_mem (p := 4199) (by decide +kernel)
theorem j_w18 : Jvm.Cond.methodLink "java/lang/String" 495 j_lch ∈ z_gt := z_at_mem (p := 4200) (by decide +kernel)
theorem j_w19 : Jvm.Cond.static j_lch ∈ z_gt := z_at_mem (p := 4201) (by decide +kernel)
theorem j_w20 : Jvm.Cond.code j_lch prog_25_method_2_code 2 (some .char) ∈ z_gt := z_at_mem (p := 4202) (by decide +kernel)
theorem j_w21 : Jvm.Cond.methodLink "java/lang/StringLatin1" 9 j_chk ∈ z_gt := z_at_mem (p := 4203) (by decide +kernel)
theorem j_w22 : Jvm.Cond.static j_chk ∈ z_gt := z_at_mem (p := 4204) (by decide +kernel)
theorem j_w23 : Jvm.Cond.code j_chk prog_24_method_155_code 2 none ∈ z_gt := z_at_mem (p := 4205) (by decide +kernel)
theorem j_w24 : Jvm.Cond.fieldLink "java/lang/String" 1053 "jdk/internal/util/Preconditions" "SIOOBE_FORMATTER" j_BF ∈ z_gt := z_at_mem (p := 4206) (by decide +kernel)
theorem j_w25 : Jvm.Cond.methodLink "java/lang/String" 1059 j_pre ∈ z_gt := z_at_mem (p := 4208) (by decide +kernel)
theorem j_w26 : Jvm.Cond.static j_pre ∈ z_gt := z_at_mem (p := 4209) (by decide +kernel)
theorem j_w27 : Jvm.Cond.code j_pre prog_33_method_11_code 3 (some .int) ∈ z_gt := z_at_mem (p := 4210) (by decide +kernel)
theorem j_w28 : Jvm.Cond.fieldLink "java/lang/String" 9 "java/lang/String" "value" "[B" ∈ z_gt := z_at_mem (p := 5233) (by decide +kernel)
theorem j_w29 : Jvm.Cond.fieldLink "java/lang/String" 15 "java/lang/String" "coder" "B" ∈ z_gt := z_at_mem (p := 5234) (by decide +kernel)
theorem j_w30 : Jvm.Cond.initialized "java/lang/String" ∈ z_gt := z_at_mem (p := 1017) (by decide +kernel)
theorem j_w31 : Jvm.Cond.initialized "java/lang/StringLatin1" ∈ z_gt := z_at_mem (p := 1022) (by decide +kernel)
theorem j_w32 : Jvm.Cond.initialized "jdk/internal/util/Preconditions" ∈ z_gt := z_at_mem (p := 1023) (by decide +kernel)
theorem jd_cod_0 : decode prog_24_method_152_code 0 = .ok (.getstatic 38, 3) := by decide +kernel
theorem jd_cod_3 : decode prog_24_method_152_code 3 = .ok (.ifCond .eq 10, 3) := by decide +kernel
theorem jd_cod_6 : decode prog_24_method_152_code 6 = .ok (.aload_n 0, 1) := by decide +kernel
theorem jd_cod_7 : decode prog_24_method_152_code 7 = .ok (.getfield 15, 3) := by decide +kernel
theorem jd_cod_10 : decode prog_24_method_152_code 10 = .ok (.goto 4, 3) := by decide +kernel
theorem jd_cod_14 : decode prog_24_method_152_code 14 = .ok (.ireturn, 1) := by decide +kernel
theorem jd_lat_0 : decode prog_24_method_154_code 0 = .ok (.getstatic 38, 3) := by decide +kernel
theorem jd_lat_3 : decode prog_24_method_154_code 3 = .ok (.ifCond .eq 14, 3) := by decide +kernel
theorem jd_lat_6 : decode prog_24_method_154_code 6 = .ok (.aload_n 0, 1) := by decide +kernel
theorem jd_lat_7 : decode prog_24_method_154_code 7 = .ok (.getfield 15, 3) := by decide +kernel
theorem jd_lat_10 : decode prog_24_method_154_code 10 = .ok (.ifCond .ne 7, 3) := by decide +kernel
theorem jd_lat_13 : decode prog_24_method_154_code 13 = .ok (.iconst 1, 1) := by decide +kernel
theorem jd_lat_14 : decode prog_24_method_154_code 14 = .ok (.goto 4, 3) := by decide +kernel
theorem jd_lat_18 : decode prog_24_method_154_code 18 = .ok (.ireturn, 1) := by decide +kernel
theorem jd_len_0 : decode prog_24_method_54_code 0 = .ok (.aload_n 0, 1) := by decide +kernel
theorem jd_len_1 : decode prog_24_method_54_code 1 = .ok (.getfield 9, 3) := by decide +kernel
theorem jd_len_4 : decode prog_24_method_54_code 4 = .ok (.arraylength, 1) := by decide +kernel
theorem jd_len_5 : decode prog_24_method_54_code 5 = .ok (.aload_n 0, 1) := by decide +kernel
theorem jd_len_6 : decode prog_24_method_54_code 6 = .ok (.invokevirtual 335, 3) := by decide +kernel
theorem jd_len_9 : decode prog_24_method_54_code 9 = .ok (.ishr, 1) := by decide +kernel
theorem jd_len_10 : decode prog_24_method_54_code 10 = .ok (.ireturn, 1) := by decide +kernel
theorem jd_pre_0 : decode prog_33_method_11_code 0 = .ok (.iload_n 0, 1) := by decide +kernel
theorem jd_pre_1 : decode prog_33_method_11_code 1 = .ok (.ifCond .lt 8, 3) := by decide +kernel
theorem jd_pre_4 : decode prog_33_method_11_code 4 = .ok (.iload_n 0, 1) := by decide +kernel
theorem jd_pre_5 : decode prog_33_method_11_code 5 = .ok (.iload_n 1, 1) := by decide +kernel
theorem jd_pre_6 : decode prog_33_method_11_code 6 = .ok (.if_icmp .lt 10, 3) := by decide +kernel
theorem jd_pre_16 : decode prog_33_method_11_code 16 = .ok (.iload_n 0, 1) := by decide +kernel
theorem jd_pre_17 : decode prog_33_method_11_code 17 = .ok (.ireturn, 1) := by decide +kernel
theorem jd_chk_0 : decode prog_24_method_155_code 0 = .ok (.iload_n 0, 1) := by decide +kernel
theorem jd_chk_1 : decode prog_24_method_155_code 1 = .ok (.iload_n 1, 1) := by decide +kernel
theorem jd_chk_2 : decode prog_24_method_155_code 2 = .ok (.getstatic 1053, 3) := by decide +kernel
theorem jd_chk_5 : decode prog_24_method_155_code 5 = .ok (.invokestatic 1059, 3) := by decide +kernel
theorem jd_chk_8 : decode prog_24_method_155_code 8 = .ok (.pop, 1) := by decide +kernel
theorem jd_chk_9 : decode prog_24_method_155_code 9 = .ok (.return_, 1) := by decide +kernel
theorem jd_lch_0 : decode prog_25_method_2_code 0 = .ok (.iload_n 1, 1) := by decide +kernel
theorem jd_lch_1 : decode prog_25_method_2_code 1 = .ok (.aload_n 0, 1) := by decide +kernel
theorem jd_lch_2 : decode prog_25_method_2_code 2 = .ok (.arraylength, 1) := by decide +kernel
theorem jd_lch_3 : decode prog_25_method_2_code 3 = .ok (.invokestatic 9, 3) := by decide +kernel
theorem jd_lch_6 : decode prog_25_method_2_code 6 = .ok (.aload_n 0, 1) := by decide +kernel
theorem jd_lch_7 : decode prog_25_method_2_code 7 = .ok (.iload_n 1, 1) := by decide +kernel
theorem jd_lch_8 : decode prog_25_method_2_code 8 = .ok (.baload, 1) := by decide +kernel
theorem jd_lch_9 : decode prog_25_method_2_code 9 = .ok (.sipush 255, 3) := by decide +kernel
theorem jd_lch_12 : decode prog_25_method_2_code 12 = .ok (.iand, 1) := by decide +kernel
theorem jd_lch_13 : decode prog_25_method_2_code 13 = .ok (.i2c, 1) := by decide +kernel
theorem jd_lch_14 : decode prog_25_method_2_code 14 = .ok (.ireturn, 1) := by decide +kernel
theorem jd_chr_0 : decode prog_24_method_56_code 0 = .ok (.aload_n 0, 1) := by decide +kernel
theorem jd_chr_1 : decode prog_24_method_56_code 1 = .ok (.invokevirtual 492, 3) := by decide +kernel
theorem jd_chr_4 : decode prog_24_method_56_code 4 = .ok (.ifCond .eq 12, 3) := by decide +kernel
theorem jd_chr_7 : decode prog_24_method_56_code 7 = .ok (.aload_n 0, 1) := by decide +kernel
theorem jd_chr_8 : decode prog_24_method_56_code 8 = .ok (.getfield 9, 3) := by decide +kernel
theorem jd_chr_11 : decode prog_24_method_56_code 11 = .ok (.iload_n 1, 1) := by decide +kernel
theorem jd_chr_12 : decode prog_24_method_56_code 12 = .ok (.invokestatic 495, 3) := by decide +kernel
theorem jd_chr_15 : decode prog_24_method_56_code 15 = .ok (.ireturn, 1) := by decide +kernel
/-- a String constant: its cell a, its bytes' cell v, n bytes f -/
def j_S (A : Nat → Prop) (a v n : Nat) (f : Nat → Int32) (U : State) (H : Heap) : Prop := va_O "java/lang/String" a A U H ∧ va_OF "java/lang/String" "coder" "B" (.int 0) a A U H ∧ va_OF "java/lang/String" "value" "[B" (.ref v) a A U H ∧ va_T .byte v n (fun j => .int (f j)) A U H ∧ va_Z "java/lang/String" "COMPACT_STRINGS" "Z" (.int 1) A U H ∧ va_Zq "jdk/internal/util/Preconditions" "SIOOBE_FORMATTER" j_BF A U H
section
variable {A : Nat → Prop} {a v n : Nat} {f : Nat → Int32} {u U : State} {H H1 : Heap}
theorem j_S_moved (hvm : u.vm.Alike U.vm) (h : j_S A a v n f u H) : j_S A a v n f U H := ⟨h.1.moved hvm, h.2.1.moved hvm, h.2.2.1.moved hvm, h.2.2.2.1.moved hvm, h.2.2.2.2.1.moved hvm, h.2.2.2.2.2.moved hvm⟩
theorem j_S_kept (h : j_S A a v n f U H) (hq : ∀ a : Nat, a < H.size → ¬ A a → H1[a]? = H[a]?) : j_S A a v n f U H1 := ⟨h.1.kept hq, h.2.1.kept hq, h.2.2.1.kept hq, h.2.2.2.1.kept hq, h.2.2.2.2.1.kept hq, h.2.2.2.2.2.kept hq⟩
abbrev j_rm (fr lo : Nat) : Room := { frames := fr, cells := 0, slots := 0, locals := lo }
/-- what a String's method starts from -/
def j_P (av : List Value) (A : Nat → Prop) (a v n : Nat) (f : Nat → Int32) : Array Value → State → Prop := fun w U => w = av.toArray ∧ j_S A a v n f U U.heap
theorem j_P_blind {av : List Value} : FrameBlind (j_P av A a v n f) := fun w U g mk q => ⟨q.1, j_S_moved (u := U) (U := U.calling g mk w) (Vm.Alike.refl U.vm) q.2⟩
end
section
variable {l : Launch} {A : Nat → Prop} {a v n : Nat} {f : Nat → Int32}
theorem j_coder : Met l j_cod (j_ws j_cod prog_24_method_152_code 1 (some .byte)) (j_rm 0 0) (j_P [.ref a] A a v n f) (j_Q (some (.int 0))) 0 0 (fun _ => False) := by
  refine j_ofM (cc := prog_24_method_152_code) (maxL := 1) (ret := some .byte) (by decide +kernel) rfl ?_
  intro p e s m args below meth c s₁ B hml hv
  obtain ⟨rfl, hO, hC, hV, hT, hZ, hX⟩ := hv
  have hx := B.exec
  have hb := B.bytes
  have hr := B.returns
  have hts := atoms_spec (ws := j_ws j_cod prog_24_method_152_code 1 (some .byte)) B.pre
  have hg : ∀ w ∈ z_gt, w.before _ s = true := fun w hw => hts w (List.mem_cons_of_mem _ hw)
  have hown : s.vm.findClass "java/lang/String" = some m.cls := findClass_of_methodNamed B.named
  have hlocks := B.notSynchronized
  have hS : va_S A s.heap s.heap [] := va_S.rf
  have hl := lv_entry ([.ref a]) (n := 1) (Nat.le_of_ble_eq_true rfl)
  rw [lg_entry_eq]
  generalize (lg_sl ([.ref a]) ++ List.replicate (1 - (lg_sl ([.ref a])).length) Slot.unset).toArray = ls at hl ⊢
  have hl : lv_has ls 1 [(0, .ref a)] := hl
  refine va_gets hx hb hZ hS hown (hg _ j_w9) (fun _ h => h) jd_cod_0 ?_
  refine lv_if_eq hx hb jd_cod_3 (tgt := 13) rfl (fun h => absurd h (by decide)) (fun _ => ?_)
  refine lv_aload_n hx hb jd_cod_6 rfl (lv_at hl 0 rfl) ?_
  refine vk_getf hx hb hC hS hown (hg _ j_w29) (fun _ h => h) jd_cod_7 ?_
  refine lv_goto hx hb jd_cod_10 (tgt := 14) rfl ?_
  exact W.zret (v := 0) hx hb hr (congrArg Value.int (by decide : (0 : Int32).toInt8.toInt32 = 0)) (fun t ht _ => ⟨rfl, ht⟩) (fun _ h => absurd h List.not_mem_nil) jd_cod_14
theorem j_latin : Met l j_lat (j_ws j_lat prog_24_method_154_code 1 (some .boolean)) (j_rm 0 0) (j_P [.ref a] A a v n f) (j_Q (some (.int 1))) 0 0 (fun _ => False) := by
  refine j_ofM (cc := prog_24_method_154_code) (maxL := 1) (ret := some .boolean) (by decide +kernel) rfl ?_
  intro p e s m args below meth c s₁ B hml hv
  obtain ⟨rfl, hO, hC, hV, hT, hZ, hX⟩ := hv
  have hx := B.exec
  have hb := B.bytes
  have hr := B.returns
  have hts := atoms_spec (ws := j_ws j_lat prog_24_method_154_code 1 (some .boolean)) B.pre
  have hg : ∀ w ∈ z_gt, w.before _ s = true := fun w hw => hts w (List.mem_cons_of_mem _ hw)
  have hown : s.vm.findClass "java/lang/String" = some m.cls := findClass_of_methodNamed B.named
  have hlocks := B.notSynchronized
  have hS : va_S A s.heap s.heap [] := va_S.rf
  have hl := lv_entry ([.ref a]) (n := 1) (Nat.le_of_ble_eq_true rfl)
  rw [lg_entry_eq]
  generalize (lg_sl ([.ref a]) ++ List.replicate (1 - (lg_sl ([.ref a])).length) Slot.unset).toArray = ls at hl ⊢
  have hl : lv_has ls 1 [(0, .ref a)] := hl
  refine va_gets hx hb hZ hS hown (hg _ j_w9) (fun _ h => h) jd_lat_0 ?_
  refine lv_if_eq hx hb jd_lat_3 (tgt := 17) rfl (fun h => absurd h (by decide)) (fun _ => ?_)
  refine lv_aload_n hx hb jd_lat_6 rfl (lv_at hl 0 rfl) ?_
  refine vk_getf hx hb hC hS hown (hg _ j_w29) (fun _ h => h) jd_lat_7 ?_
  refine lv_if_ne hx hb jd_lat_10 (tgt := 17) rfl (fun h => absurd rfl h) (fun _ => ?_)
  refine lv_iconst (v := 1) hx hb jd_lat_13 (by decide) ?_
  refine lv_goto hx hb jd_lat_14 (tgt := 18) rfl ?_
  exact W.zret (v := 1) hx hb hr (congrArg Value.int (by decide : (1 : Int32) &&& 1 = 1)) (fun t ht _ => ⟨rfl, ht⟩) (fun _ h => absurd h List.not_mem_nil) jd_lat_18
theorem j_length (hn : n < 2147483648) : Met l j_len (j_ws j_len prog_24_method_54_code 1 (some .int)) (j_rm 1 20) (j_P [.ref a] A a v n f) (j_Q (some (.int (Int32.ofNat n)))) 0 0 (fun _ => False) := by
  refine j_ofM (cc := prog_24_method_54_code) (maxL := 1) (ret := some .int) (by decide +kernel) rfl ?_
  intro p e s m args below meth c s₁ B hml hv
  obtain ⟨rfl, hJ⟩ := hv
  obtain ⟨hO, hC, hV, hT, hZ, hX⟩ := id hJ
  have hx := B.exec
  have hb := B.bytes
  have hr := B.returns
  have hts := atoms_spec (ws := j_ws j_len prog_24_method_54_code 1 (some .int)) B.pre
  have hg : ∀ w ∈ z_gt, w.before _ s = true := fun w hw => hts w (List.mem_cons_of_mem _ hw)
  have hown : s.vm.findClass "java/lang/String" = some m.cls := findClass_of_methodNamed B.named
  have hlocks := B.notSynchronized
  have hS : va_S A s.heap s.heap [] := va_S.rf
  have hl := lv_entry ([.ref a]) (n := 1) (Nat.le_of_ble_eq_true rfl)
  rw [lg_entry_eq]
  generalize (lg_sl ([.ref a]) ++ List.replicate (1 - (lg_sl ([.ref a])).length) Slot.unset).toArray = ls at hl ⊢
  have hl : lv_has ls 1 [(0, .ref a)] := hl
  refine lv_aload_n hx hb jd_len_0 rfl (lv_at hl 0 rfl) ?_
  refine vk_getf hx hb hV hS hown (hg _ j_w28) (fun _ h => h) jd_len_1 ?_
  refine va_tlen hx hb hT hS rfl jd_len_4 ?_
  refine lv_aload_n hx hb jd_len_5 rfl (lv_at hl 0 rfl) ?_
  obtain ⟨cell, r1, r2, r3, -⟩ := hO
  refine j_run (va_runV (As := []) (rest := [.int (Int32.ofNat n)]) (b := a) (C := "java/lang/String") ⟨hx, hb, hml, hown, hg⟩ (j_coder (A := A) (a := a) (v := v) (n := n) (f := f)) (cwV 0 hg (j_goodl (fun w hw => ?_)) rfl rfl rfl ⟨rfl, by decide +kernel⟩ ⟨Nat.le_of_ble_eq_true rfl, Nat.le_of_ble_eq_true rfl⟩) ⟨j_P_blind, ⟨cell, r1, r2, r3⟩, fun U hU hW => ⟨rfl, by rw [hU]; exact j_S_moved hW.alike hJ⟩⟩ rfl rfl hl.1 rfl (lv_room (Nat.le_of_ble_eq_true rfl)) jd_len_6 ⟨Nat.zero_le _, Nat.zero_le _⟩) ?_
  · simp only [wsV, List.mem_append, List.mem_cons, List.not_mem_nil, or_false] at hw
    rcases hw with (rfl | rfl | rfl | rfl) | hw
    · exact j_w5
    · exact j_w6
    · exact j_w7
    · exact j_w30
    · exact j_ws_in j_w8 _ hw
  · refine lv_ishr hx hb jd_len_9 ?_
    have e0 : Int32.ofNat n >>> ((0 : Int32) &&& 31) = Int32.ofNat n := by
      rw [show (0 : Int32) &&& 31 = 0 by decide]
      exact Int32.shiftRight_zero
    rw [e0]
    exact W.iret (v := Int32.ofNat n) hx hb hr (fun t ht _ => ⟨rfl, ht⟩) (fun _ h => absurd h List.not_mem_nil) jd_len_10
/-- Preconditions.checkIndex, within -/
theorem j_precond {i k : Int32} {w : Value} (h0 : ¬ i < 0) (h1 : i < k) (hw : w.category = 1) : Met l j_pre (j_ws j_pre prog_33_method_11_code 3 (some .int)) (j_rm 0 0) (fun z _ => z = [.int i, .int k, w].toArray) (j_Q (some (.int i))) 0 0 (fun _ => False) := by
  refine j_ofM (cc := prog_33_method_11_code) (maxL := 3) (ret := some .int) (by decide +kernel) rfl ?_
  intro p e s m args below meth c s₁ B hml hv
  subst hv
  have hx := B.exec
  have hb := B.bytes
  have hr := B.returns
  have hlocks := B.notSynchronized
  have hl := lv_entry ([.int i, .int k, w]) (n := 3) (by cases w <;> first | exact Nat.le_of_ble_eq_true rfl | exact absurd (show (2 : Nat) = 1 from hw) (by decide))
  rw [lg_entry_eq]
  generalize (lg_sl ([.int i, .int k, w]) ++ List.replicate (3 - (lg_sl ([.int i, .int k, w])).length) Slot.unset).toArray = ls at hl ⊢
  have hl : lv_has ls 3 [(0, .int i), (1, .int k), (2, w)] := hl
  refine lv_iload_n hx hb jd_pre_0 rfl (lv_at hl 0 rfl) ?_
  refine lv_if_lt hx hb jd_pre_1 (tgt := 9) rfl (fun h => absurd h h0) (fun _ => ?_)
  refine lv_iload_n hx hb jd_pre_4 rfl (lv_at hl 0 rfl) ?_
  refine lv_iload_n hx hb jd_pre_5 rfl (lv_at hl 1 rfl) ?_
  refine lv_icmp_lt hx hb jd_pre_6 (tgt := 16) rfl (fun _ => ?_) (fun h => absurd h1 h)
  refine lv_iload_n hx hb jd_pre_16 rfl (lv_at hl 0 rfl) ?_
  exact W.iret (v := i) hx hb hr (fun t ht _ => ⟨rfl, ht⟩) (fun _ h => absurd h List.not_mem_nil) jd_pre_17
theorem j_check {i k : Int32} (h0 : ¬ i < 0) (h1 : i < k) : Met l j_chk (j_ws j_chk prog_24_method_155_code 2 none) (j_rm 1 22) (j_P [.int i, .int k] A a v n f) (j_Q none) 0 0 (fun _ => False) := by
  refine j_ofM (cc := prog_24_method_155_code) (maxL := 2) (ret := none) (by decide +kernel) rfl ?_
  intro p e s m args below meth c s₁ B hml hv
  obtain ⟨rfl, hJ⟩ := hv
  obtain ⟨hO, hC, hV, hT, hZ, hX⟩ := id hJ
  have hx := B.exec
  have hb := B.bytes
  have hr := B.returns
  have hts := atoms_spec (ws := j_ws j_chk prog_24_method_155_code 2 none) B.pre
  have hg : ∀ w ∈ z_gt, w.before _ s = true := fun w hw => hts w (List.mem_cons_of_mem _ hw)
  have hown : s.vm.findClass "java/lang/String" = some m.cls := findClass_of_methodNamed B.named
  have hlocks := B.notSynchronized
  have hS : va_S A s.heap s.heap [] := va_S.rf
  have hl := lv_entry ([.int i, .int k]) (n := 2) (Nat.le_of_ble_eq_true rfl)
  rw [lg_entry_eq]
  generalize (lg_sl ([.int i, .int k]) ++ List.replicate (2 - (lg_sl ([.int i, .int k])).length) Slot.unset).toArray = ls at hl ⊢
  have hl : lv_has ls 2 [(0, .int i), (1, .int k)] := hl
  obtain ⟨w, hw, hZw⟩ : ∃ w : Value, w.category = 1 ∧ va_Z "jdk/internal/util/Preconditions" "SIOOBE_FORMATTER" j_BF w A s s.heap := by
    rcases hX with h | ⟨t, h⟩
    · exact ⟨_, rfl, h⟩
    · exact ⟨_, rfl, h⟩
  refine lv_iload_n hx hb jd_chk_0 rfl (lv_at hl 0 rfl) ?_
  refine lv_iload_n hx hb jd_chk_1 rfl (lv_at hl 1 rfl) ?_
  refine va_gets hx hb hZw hS hown (hg _ j_w24) (fun _ h => h) jd_chk_2 ?_
  refine j_run (va_runS (As := [.int i, .int k, w]) (rest := []) ⟨hx, hb, hml, hown, hg⟩ (j_precond (w := w) h0 h1 hw) ⟨callB_of 3 hg (j_goodl (j_ws_in j_w27)) rfl rfl rfl (hg _ j_w32) (hg _ j_w25) (by decide +kernel) ⟨Nat.le_of_ble_eq_true rfl, Nat.le_of_ble_eq_true rfl⟩, hg _ j_w26⟩ ⟨fun _ _ _ _ q => q, fun U hU hW => rfl⟩ rfl rfl hl.1 rfl (lv_room (Nat.le_of_ble_eq_true rfl)) jd_chk_5 ⟨Nat.zero_le _, Nat.zero_le _⟩) ?_
  refine lv_pop hx hb jd_chk_8 rfl ?_
  exact W.vret hx hb hr (fun t ht _ => ⟨rfl, ht⟩) (fun _ h => absurd h List.not_mem_nil) jd_chk_9
theorem j_lcharAt {i : Int32} {x : Int32} (h0 : ¬ i < 0) (h1 : i < Int32.ofNat n) (hin : vp_in i n) (hx1 : ((f i.toNatClampNeg &&& 255).toUInt32 % 65536).toInt32 = x) (hx2 : narrow .char (.int x) = .int x) : Met l j_lch (j_ws j_lch prog_25_method_2_code 2 (some .char)) (j_rm 2 43) (j_P [.ref v, .int i] A a v n f) (j_Q (some (.int x))) 0 0 (fun _ => False) := by
  refine j_ofM (cc := prog_25_method_2_code) (maxL := 2) (ret := some .char) (by decide +kernel) rfl ?_
  intro p e s m args below meth c s₁ B hml hv
  obtain ⟨rfl, hJ⟩ := hv
  obtain ⟨hO, hC, hV, hT, hZ, hX⟩ := id hJ
  have hx := B.exec
  have hb := B.bytes
  have hr := B.returns
  have hts := atoms_spec (ws := j_ws j_lch prog_25_method_2_code 2 (some .char)) B.pre
  have hg : ∀ w ∈ z_gt, w.before _ s = true := fun w hw => hts w (List.mem_cons_of_mem _ hw)
  have hown : s.vm.findClass "java/lang/StringLatin1" = some m.cls := findClass_of_methodNamed B.named
  have hlocks := B.notSynchronized
  have hS : va_S A s.heap s.heap [] := va_S.rf
  have hl := lv_entry ([.ref v, .int i]) (n := 2) (Nat.le_of_ble_eq_true rfl)
  rw [lg_entry_eq]
  generalize (lg_sl ([.ref v, .int i]) ++ List.replicate (2 - (lg_sl ([.ref v, .int i])).length) Slot.unset).toArray = ls at hl ⊢
  have hl : lv_has ls 2 [(0, .ref v), (1, .int i)] := hl
  refine lv_iload_n hx hb jd_lch_0 rfl (lv_at hl 1 rfl) ?_
  refine lv_aload_n hx hb jd_lch_1 rfl (lv_at hl 0 rfl) ?_
  refine va_tlen hx hb hT hS rfl jd_lch_2 ?_
  refine j_run (va_runS (As := [.int i, .int (Int32.ofNat n)]) (rest := []) ⟨hx, hb, hml, hown, hg⟩ (j_check (A := A) (a := a) (v := v) (n := n) (f := f) h0 h1) ⟨callB_of 2 hg (j_goodl (j_ws_in j_w23)) rfl rfl rfl (hg _ j_w30) (hg _ j_w21) (by decide +kernel) ⟨Nat.le_of_ble_eq_true rfl, Nat.le_of_ble_eq_true rfl⟩, hg _ j_w22⟩ ⟨j_P_blind, fun U hU hW => ⟨rfl, by rw [hU]; exact j_S_moved hW.alike hJ⟩⟩ rfl rfl hl.1 rfl (lv_room (Nat.le_of_ble_eq_true rfl)) jd_lch_3 ⟨Nat.zero_le _, Nat.zero_le _⟩) ?_
  refine lv_aload_n hx hb jd_lch_6 rfl (lv_at hl 0 rfl) ?_
  refine lv_iload_n hx hb jd_lch_7 rfl (lv_at hl 1 rfl) ?_
  refine va_tb hx hb hT hS hin (v := .int (f i.toNatClampNeg)) rfl jd_lch_8 ?_
  refine lv_sipush (v := 255) hx hb jd_lch_9 (by decide) ?_
  refine lv_iand hx hb jd_lch_12 ?_
  refine lv_i2c hx hb jd_lch_13 hx1 ?_
  exact W.zret (v := x) hx hb hr hx2 (fun t ht _ => ⟨rfl, ht⟩) (fun _ h => absurd h List.not_mem_nil) jd_lch_14
theorem j_charAt {i : Int32} {x : Int32} (h0 : ¬ i < 0) (h1 : i < Int32.ofNat n) (hin : vp_in i n) (hx1 : ((f i.toNatClampNeg &&& 255).toUInt32 % 65536).toInt32 = x) (hx2 : narrow .char (.int x) = .int x) : Met l j_chr (j_ws j_chr prog_24_method_56_code 2 (some .char)) (j_rm 3 64) (j_P [.ref a, .int i] A a v n f) (j_Q (some (.int x))) 0 0 (fun _ => False) := by
  refine j_ofM (cc := prog_24_method_56_code) (maxL := 2) (ret := some .char) (by decide +kernel) rfl ?_
  intro p e s m args below meth c s₁ B hml hv
  obtain ⟨rfl, hJ⟩ := hv
  obtain ⟨hO, hC, hV, hT, hZ, hX⟩ := id hJ
  have hx := B.exec
  have hb := B.bytes
  have hr := B.returns
  have hts := atoms_spec (ws := j_ws j_chr prog_24_method_56_code 2 (some .char)) B.pre
  have hg : ∀ w ∈ z_gt, w.before _ s = true := fun w hw => hts w (List.mem_cons_of_mem _ hw)
  have hown : s.vm.findClass "java/lang/String" = some m.cls := findClass_of_methodNamed B.named
  have hlocks := B.notSynchronized
  have hS : va_S A s.heap s.heap [] := va_S.rf
  have hl := lv_entry ([.ref a, .int i]) (n := 2) (Nat.le_of_ble_eq_true rfl)
  rw [lg_entry_eq]
  generalize (lg_sl ([.ref a, .int i]) ++ List.replicate (2 - (lg_sl ([.ref a, .int i])).length) Slot.unset).toArray = ls at hl ⊢
  have hl : lv_has ls 2 [(0, .ref a), (1, .int i)] := hl
  obtain ⟨cell, r1, r2, r3, -⟩ := hO
  refine lv_aload_n hx hb jd_chr_0 rfl (lv_at hl 0 rfl) ?_
  refine j_run (va_runV (As := []) (rest := []) (b := a) (C := "java/lang/String") ⟨hx, hb, hml, hown, hg⟩ (j_latin (A := A) (a := a) (v := v) (n := n) (f := f)) (cwV 0 hg (j_goodl (fun w hw => ?_)) rfl rfl rfl ⟨rfl, by decide +kernel⟩ ⟨Nat.le_of_ble_eq_true rfl, Nat.le_of_ble_eq_true rfl⟩) ⟨j_P_blind, ⟨cell, r1, r2, r3⟩, fun U hU hW => ⟨rfl, by rw [hU]; exact j_S_moved hW.alike hJ⟩⟩ rfl rfl hl.1 rfl (lv_room (Nat.le_of_ble_eq_true rfl)) jd_chr_1 ⟨Nat.zero_le _, Nat.zero_le _⟩) ?_
  · simp only [wsV, List.mem_append, List.mem_cons, List.not_mem_nil, or_false] at hw
    rcases hw with (rfl | rfl | rfl | rfl) | hw
    · exact j_w14
    · exact j_w15
    · exact j_w16
    · exact j_w30
    · exact j_ws_in j_w17 _ hw
  · refine lv_if_eq hx hb jd_chr_4 (tgt := 16) rfl (fun h => absurd h (by decide)) (fun _ => ?_)
    refine lv_aload_n hx hb jd_chr_7 rfl (lv_at hl 0 rfl) ?_
    refine vk_getf hx hb hV hS hown (hg _ j_w28) (fun _ h => h) jd_chr_8 ?_
    refine lv_iload_n hx hb jd_chr_11 rfl (lv_at hl 1 rfl) ?_
    refine j_run (va_runS (As := [.ref v, .int i]) (rest := []) ⟨hx, hb, hml, hown, hg⟩ (j_lcharAt (A := A) (a := a) (v := v) (n := n) (f := f) h0 h1 hin hx1 hx2) ⟨callB_of 2 hg (j_goodl (j_ws_in j_w20)) rfl rfl rfl (hg _ j_w31) (hg _ j_w18) (by decide +kernel) ⟨Nat.le_of_ble_eq_true rfl, Nat.le_of_ble_eq_true rfl⟩, hg _ j_w19⟩ ⟨j_P_blind, fun U hU hW => ⟨rfl, by rw [hU]; exact j_S_moved hW.alike hJ⟩⟩ rfl rfl hl.1 rfl (lv_room (Nat.le_of_ble_eq_true rfl)) jd_chr_12 ⟨Nat.zero_le _, Nat.zero_le _⟩) ?_
    exact W.zret (v := x) hx hb hr hx2 (fun t ht _ => ⟨rfl, ht⟩) (fun _ h => absurd h List.not_mem_nil) jd_chr_15
end
end ZSTR
