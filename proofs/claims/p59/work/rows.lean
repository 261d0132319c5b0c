section
-- ===== PART A: goes FIRST, ahead of the names: the tables' words, and 'selects' of the private methods out of them =====
/-- a private method of a class that the tables say can be made, by its rows of tables_1 -/
def lw_okq (q : MethodName × Nat) : Prop := (q.1.cls ≠ "java/lang/invoke/MethodHandle" ∧ q.1.cls ≠ "java/lang/invoke/VarHandle") ∧ Cond.instantiable q.1.cls q.2 ∈ tables_1 ∧ Cond.privateMethod q.1 ∈ tables_1 ∧ Cond.instanceMethod q.1 ∈ tables_1
theorem lw_p0 : lw_okq (⟨"GearObservatory", "tryGear", "(I)I"⟩, 10) := ⟨⟨by decide +kernel, by decide +kernel⟩, List.mem_of_getElem? (i := 28) (by decide +kernel), List.mem_of_getElem? (i := 343) (by decide +kernel), List.mem_of_getElem? (i := 344) (by decide +kernel)⟩
theorem lw_p1 : lw_okq (⟨"GearObservatory", "settled", "(I)I"⟩, 10) := ⟨⟨by decide +kernel, by decide +kernel⟩, List.mem_of_getElem? (i := 28) (by decide +kernel), List.mem_of_getElem? (i := 354) (by decide +kernel), List.mem_of_getElem? (i := 355) (by decide +kernel)⟩
theorem lw_p2 : lw_okq (⟨"java/lang/Throwable", "fillInStackTrace", "(I)Ljava/lang/Throwable;"⟩, 6) := ⟨⟨by decide +kernel, by decide +kernel⟩, List.mem_of_getElem? (i := 400) (by decide +kernel), List.mem_of_getElem? (i := 398) (by decide +kernel), List.mem_of_getElem? (i := 399) (by decide +kernel)⟩
theorem lw_p3 : lw_okq (⟨"GearObservatory", "tryPart", "(II)I"⟩, 10) := ⟨⟨by decide +kernel, by decide +kernel⟩, List.mem_of_getElem? (i := 28) (by decide +kernel), List.mem_of_getElem? (i := 482) (by decide +kernel), List.mem_of_getElem? (i := 483) (by decide +kernel)⟩
theorem lw_p4 : lw_okq (⟨"GearObservatory", "tryTurn", "(II)I"⟩, 10) := ⟨⟨by decide +kernel, by decide +kernel⟩, List.mem_of_getElem? (i := 28) (by decide +kernel), List.mem_of_getElem? (i := 506) (by decide +kernel), List.mem_of_getElem? (i := 507) (by decide +kernel)⟩
theorem lw_p5 : lw_okq (⟨"GearObservatory$GearTrain", "restAfterGap", "(II)I"⟩, 9) := ⟨⟨by decide +kernel, by decide +kernel⟩, List.mem_of_getElem? (i := 42) (by decide +kernel), List.mem_of_getElem? (i := 521) (by decide +kernel), List.mem_of_getElem? (i := 522) (by decide +kernel)⟩
theorem lw_p6 : lw_okq (⟨"GearObservatory", "needGear", "(I)V"⟩, 10) := ⟨⟨by decide +kernel, by decide +kernel⟩, List.mem_of_getElem? (i := 28) (by decide +kernel), List.mem_of_getElem? (i := 534) (by decide +kernel), List.mem_of_getElem? (i := 535) (by decide +kernel)⟩
theorem lw_p7 : lw_okq (⟨"GearObservatory", "neededMesh", "(II)I"⟩, 10) := ⟨⟨by decide +kernel, by decide +kernel⟩, List.mem_of_getElem? (i := 28) (by decide +kernel), List.mem_of_getElem? (i := 542) (by decide +kernel), List.mem_of_getElem? (i := 543) (by decide +kernel)⟩
theorem lw_p8 : lw_okq (⟨"GearObservatory$GearWalks", "forgetSeen", "()V"⟩, 5) := ⟨⟨by decide +kernel, by decide +kernel⟩, List.mem_of_getElem? (i := 209) (by decide +kernel), List.mem_of_getElem? (i := 554) (by decide +kernel), List.mem_of_getElem? (i := 555) (by decide +kernel)⟩
theorem lw_p9 : lw_okq (⟨"GearObservatory$GearWalks", "renameSet", "(II)V"⟩, 5) := ⟨⟨by decide +kernel, by decide +kernel⟩, List.mem_of_getElem? (i := 209) (by decide +kernel), List.mem_of_getElem? (i := 579) (by decide +kernel), List.mem_of_getElem? (i := 580) (by decide +kernel)⟩
theorem lw_p10 : lw_okq (⟨"GearObservatory", "needConnected", "(II)V"⟩, 10) := ⟨⟨by decide +kernel, by decide +kernel⟩, List.mem_of_getElem? (i := 28) (by decide +kernel), List.mem_of_getElem? (i := 591) (by decide +kernel), List.mem_of_getElem? (i := 592) (by decide +kernel)⟩
theorem lw_p11 : lw_okq (⟨"GearObservatory", "tryWheel", "(II)I"⟩, 10) := ⟨⟨by decide +kernel, by decide +kernel⟩, List.mem_of_getElem? (i := 28) (by decide +kernel), List.mem_of_getElem? (i := 650) (by decide +kernel), List.mem_of_getElem? (i := 651) (by decide +kernel)⟩
theorem lw_p12 : lw_okq (⟨"GearObservatory", "needWheel", "(I)V"⟩, 10) := ⟨⟨by decide +kernel, by decide +kernel⟩, List.mem_of_getElem? (i := 28) (by decide +kernel), List.mem_of_getElem? (i := 662) (by decide +kernel), List.mem_of_getElem? (i := 663) (by decide +kernel)⟩
theorem lw_p13 : lw_okq (⟨"GearObservatory", "neededStar", "(I)I"⟩, 10) := ⟨⟨by decide +kernel, by decide +kernel⟩, List.mem_of_getElem? (i := 28) (by decide +kernel), List.mem_of_getElem? (i := 681) (by decide +kernel), List.mem_of_getElem? (i := 682) (by decide +kernel)⟩
theorem lw_p14 : lw_okq (⟨"GearObservatory", "tryFollow", "(II)I"⟩, 10) := ⟨⟨by decide +kernel, by decide +kernel⟩, List.mem_of_getElem? (i := 28) (by decide +kernel), List.mem_of_getElem? (i := 713) (by decide +kernel), List.mem_of_getElem? (i := 714) (by decide +kernel)⟩
theorem lw_p15 : lw_okq (⟨"GearObservatory", "tryStar", "(II)I"⟩, 10) := ⟨⟨by decide +kernel, by decide +kernel⟩, List.mem_of_getElem? (i := 28) (by decide +kernel), List.mem_of_getElem? (i := 721) (by decide +kernel), List.mem_of_getElem? (i := 722) (by decide +kernel)⟩
def lw_privs_1 : List (MethodName × Nat) := [(⟨"GearObservatory", "tryGear", "(I)I"⟩, 10), (⟨"GearObservatory", "settled", "(I)I"⟩, 10), (⟨"java/lang/Throwable", "fillInStackTrace", "(I)Ljava/lang/Throwable;"⟩, 6), (⟨"GearObservatory", "tryPart", "(II)I"⟩, 10), (⟨"GearObservatory", "tryTurn", "(II)I"⟩, 10), (⟨"GearObservatory$GearTrain", "restAfterGap", "(II)I"⟩, 9), (⟨"GearObservatory", "needGear", "(I)V"⟩, 10), (⟨"GearObservatory", "neededMesh", "(II)I"⟩, 10), (⟨"GearObservatory$GearWalks", "forgetSeen", "()V"⟩, 5), (⟨"GearObservatory$GearWalks", "renameSet", "(II)V"⟩, 5), (⟨"GearObservatory", "needConnected", "(II)V"⟩, 10), (⟨"GearObservatory", "tryWheel", "(II)I"⟩, 10), (⟨"GearObservatory", "needWheel", "(I)V"⟩, 10), (⟨"GearObservatory", "neededStar", "(I)I"⟩, 10), (⟨"GearObservatory", "tryFollow", "(II)I"⟩, 10), (⟨"GearObservatory", "tryStar", "(II)I"⟩, 10)]
theorem lw_r1 : ∀ q ∈ lw_privs_1, lw_okq q := List.forall_mem_cons.mpr ⟨lw_p0, List.forall_mem_cons.mpr ⟨lw_p1, List.forall_mem_cons.mpr ⟨lw_p2, List.forall_mem_cons.mpr ⟨lw_p3, List.forall_mem_cons.mpr ⟨lw_p4, List.forall_mem_cons.mpr ⟨lw_p5, List.forall_mem_cons.mpr ⟨lw_p6, List.forall_mem_cons.mpr ⟨lw_p7, List.forall_mem_cons.mpr ⟨lw_p8, List.forall_mem_cons.mpr ⟨lw_p9, List.forall_mem_cons.mpr ⟨lw_p10, List.forall_mem_cons.mpr ⟨lw_p11, List.forall_mem_cons.mpr ⟨lw_p12, List.forall_mem_cons.mpr ⟨lw_p13, List.forall_mem_cons.mpr ⟨lw_p14, List.forall_mem_cons.mpr ⟨lw_p15, fun _ h => absurd h List.not_mem_nil⟩⟩⟩⟩⟩⟩⟩⟩⟩⟩⟩⟩⟩⟩⟩⟩
theorem lw_p16 : lw_okq (⟨"GearObservatory", "tryRemoval", "(I)I"⟩, 10) := ⟨⟨by decide +kernel, by decide +kernel⟩, List.mem_of_getElem? (i := 28) (by decide +kernel), List.mem_of_getElem? (i := 733) (by decide +kernel), List.mem_of_getElem? (i := 734) (by decide +kernel)⟩
theorem lw_p17 : lw_okq (⟨"GearObservatory", "tryHours", "(I)I"⟩, 10) := ⟨⟨by decide +kernel, by decide +kernel⟩, List.mem_of_getElem? (i := 28) (by decide +kernel), List.mem_of_getElem? (i := 753) (by decide +kernel), List.mem_of_getElem? (i := 754) (by decide +kernel)⟩
theorem lw_p18 : lw_okq (⟨"GearObservatory", "tryEntry", "(CI)I"⟩, 10) := ⟨⟨by decide +kernel, by decide +kernel⟩, List.mem_of_getElem? (i := 28) (by decide +kernel), List.mem_of_getElem? (i := 791) (by decide +kernel), List.mem_of_getElem? (i := 792) (by decide +kernel)⟩
theorem lw_p19 : lw_okq (⟨"GearObservatory", "tryForgetting", "(CI)I"⟩, 10) := ⟨⟨by decide +kernel, by decide +kernel⟩, List.mem_of_getElem? (i := 28) (by decide +kernel), List.mem_of_getElem? (i := 811) (by decide +kernel), List.mem_of_getElem? (i := 812) (by decide +kernel)⟩
theorem lw_p20 : lw_okq (⟨"GearObservatory", "neededEntry", "(CI)I"⟩, 10) := ⟨⟨by decide +kernel, by decide +kernel⟩, List.mem_of_getElem? (i := 28) (by decide +kernel), List.mem_of_getElem? (i := 830) (by decide +kernel), List.mem_of_getElem? (i := 831) (by decide +kernel)⟩
theorem lw_p21 : lw_okq (⟨"GearObservatory$CommandReader", "readCommand", "()Z"⟩, 5) := ⟨⟨by decide +kernel, by decide +kernel⟩, List.mem_of_getElem? (i := 234) (by decide +kernel), List.mem_of_getElem? (i := 890) (by decide +kernel), List.mem_of_getElem? (i := 891) (by decide +kernel)⟩
theorem lw_p22 : lw_okq (⟨"GearObservatory$CommandReader", "signAhead", "()I"⟩, 5) := ⟨⟨by decide +kernel, by decide +kernel⟩, List.mem_of_getElem? (i := 234) (by decide +kernel), List.mem_of_getElem? (i := 894) (by decide +kernel), List.mem_of_getElem? (i := 895) (by decide +kernel)⟩
theorem lw_p23 : lw_okq (⟨"GearObservatory$CommandReader", "readWord", "(Ljava/lang/String;)Z"⟩, 5) := ⟨⟨by decide +kernel, by decide +kernel⟩, List.mem_of_getElem? (i := 234) (by decide +kernel), List.mem_of_getElem? (i := 899) (by decide +kernel), List.mem_of_getElem? (i := 900) (by decide +kernel)⟩
theorem lw_p24 : lw_okq (⟨"GearObservatory$CommandReader", "read", "(C)Z"⟩, 5) := ⟨⟨by decide +kernel, by decide +kernel⟩, List.mem_of_getElem? (i := 234) (by decide +kernel), List.mem_of_getElem? (i := 951) (by decide +kernel), List.mem_of_getElem? (i := 952) (by decide +kernel)⟩
theorem lw_p25 : lw_okq (⟨"GearObservatory$CommandReader", "readNumber", "(II)Z"⟩, 5) := ⟨⟨by decide +kernel, by decide +kernel⟩, List.mem_of_getElem? (i := 234) (by decide +kernel), List.mem_of_getElem? (i := 955) (by decide +kernel), List.mem_of_getElem? (i := 956) (by decide +kernel)⟩
theorem lw_p26 : lw_okq (⟨"GearObservatory$CommandReader", "readDigit", "(I)Z"⟩, 5) := ⟨⟨by decide +kernel, by decide +kernel⟩, List.mem_of_getElem? (i := 234) (by decide +kernel), List.mem_of_getElem? (i := 959) (by decide +kernel), List.mem_of_getElem? (i := 960) (by decide +kernel)⟩
theorem lw_p27 : lw_okq (⟨"GearObservatory$CommandReader", "readBetween", "(CCII)Z"⟩, 5) := ⟨⟨by decide +kernel, by decide +kernel⟩, List.mem_of_getElem? (i := 234) (by decide +kernel), List.mem_of_getElem? (i := 963) (by decide +kernel), List.mem_of_getElem? (i := 964) (by decide +kernel)⟩
theorem lw_p28 : lw_okq (⟨"GearObservatory$CommandReader", "setValue", "(II)V"⟩, 5) := ⟨⟨by decide +kernel, by decide +kernel⟩, List.mem_of_getElem? (i := 234) (by decide +kernel), List.mem_of_getElem? (i := 967) (by decide +kernel), List.mem_of_getElem? (i := 968) (by decide +kernel)⟩
theorem lw_p29 : lw_okq (⟨"GearObservatory$CommandReader", "value", "(I)I"⟩, 5) := ⟨⟨by decide +kernel, by decide +kernel⟩, List.mem_of_getElem? (i := 234) (by decide +kernel), List.mem_of_getElem? (i := 971) (by decide +kernel), List.mem_of_getElem? (i := 972) (by decide +kernel)⟩
theorem lw_p30 : lw_okq (⟨"GearObservatory$CommandReader", "readLetter", "(I)Z"⟩, 5) := ⟨⟨by decide +kernel, by decide +kernel⟩, List.mem_of_getElem? (i := 234) (by decide +kernel), List.mem_of_getElem? (i := 979) (by decide +kernel), List.mem_of_getElem? (i := 980) (by decide +kernel)⟩
theorem lw_p31 : lw_okq (⟨"GearObservatory", "performUpToFailure", "()I"⟩, 10) := ⟨⟨by decide +kernel, by decide +kernel⟩, List.mem_of_getElem? (i := 28) (by decide +kernel), List.mem_of_getElem? (i := 988) (by decide +kernel), List.mem_of_getElem? (i := 989) (by decide +kernel)⟩
def lw_privs_2 : List (MethodName × Nat) := [(⟨"GearObservatory", "tryRemoval", "(I)I"⟩, 10), (⟨"GearObservatory", "tryHours", "(I)I"⟩, 10), (⟨"GearObservatory", "tryEntry", "(CI)I"⟩, 10), (⟨"GearObservatory", "tryForgetting", "(CI)I"⟩, 10), (⟨"GearObservatory", "neededEntry", "(CI)I"⟩, 10), (⟨"GearObservatory$CommandReader", "readCommand", "()Z"⟩, 5), (⟨"GearObservatory$CommandReader", "signAhead", "()I"⟩, 5), (⟨"GearObservatory$CommandReader", "readWord", "(Ljava/lang/String;)Z"⟩, 5), (⟨"GearObservatory$CommandReader", "read", "(C)Z"⟩, 5), (⟨"GearObservatory$CommandReader", "readNumber", "(II)Z"⟩, 5), (⟨"GearObservatory$CommandReader", "readDigit", "(I)Z"⟩, 5), (⟨"GearObservatory$CommandReader", "readBetween", "(CCII)Z"⟩, 5), (⟨"GearObservatory$CommandReader", "setValue", "(II)V"⟩, 5), (⟨"GearObservatory$CommandReader", "value", "(I)I"⟩, 5), (⟨"GearObservatory$CommandReader", "readLetter", "(I)Z"⟩, 5), (⟨"GearObservatory", "performUpToFailure", "()I"⟩, 10)]
theorem lw_r2 : ∀ q ∈ lw_privs_2, lw_okq q := List.forall_mem_cons.mpr ⟨lw_p16, List.forall_mem_cons.mpr ⟨lw_p17, List.forall_mem_cons.mpr ⟨lw_p18, List.forall_mem_cons.mpr ⟨lw_p19, List.forall_mem_cons.mpr ⟨lw_p20, List.forall_mem_cons.mpr ⟨lw_p21, List.forall_mem_cons.mpr ⟨lw_p22, List.forall_mem_cons.mpr ⟨lw_p23, List.forall_mem_cons.mpr ⟨lw_p24, List.forall_mem_cons.mpr ⟨lw_p25, List.forall_mem_cons.mpr ⟨lw_p26, List.forall_mem_cons.mpr ⟨lw_p27, List.forall_mem_cons.mpr ⟨lw_p28, List.forall_mem_cons.mpr ⟨lw_p29, List.forall_mem_cons.mpr ⟨lw_p30, List.forall_mem_cons.mpr ⟨lw_p31, fun _ h => absurd h List.not_mem_nil⟩⟩⟩⟩⟩⟩⟩⟩⟩⟩⟩⟩⟩⟩⟩⟩
theorem lw_p32 : lw_okq (⟨"GearObservatory", "perform", "(I)I"⟩, 10) := ⟨⟨by decide +kernel, by decide +kernel⟩, List.mem_of_getElem? (i := 28) (by decide +kernel), List.mem_of_getElem? (i := 992) (by decide +kernel), List.mem_of_getElem? (i := 993) (by decide +kernel)⟩
theorem lw_p33 : lw_okq (⟨"GearObservatory", "tryMesh", "(III)I"⟩, 10) := ⟨⟨by decide +kernel, by decide +kernel⟩, List.mem_of_getElem? (i := 28) (by decide +kernel), List.mem_of_getElem? (i := 1004) (by decide +kernel), List.mem_of_getElem? (i := 1005) (by decide +kernel)⟩
def lw_privs_3 : List (MethodName × Nat) := [(⟨"GearObservatory", "perform", "(I)I"⟩, 10), (⟨"GearObservatory", "tryMesh", "(III)I"⟩, 10)]
theorem lw_r3 : ∀ q ∈ lw_privs_3, lw_okq q := List.forall_mem_cons.mpr ⟨lw_p32, List.forall_mem_cons.mpr ⟨lw_p33, fun _ h => absurd h List.not_mem_nil⟩⟩
def lw_privs : List (MethodName × Nat) := lw_privs_1 ++ (lw_privs_2 ++ (lw_privs_3))
def lw_tbl : List Cond := k2_sels lw_privs ++ tables_1
theorem lw_privs_ok : ∀ q ∈ lw_privs, lw_okq q := by
  show ∀ q ∈ lw_privs_1 ++ (lw_privs_2 ++ (lw_privs_3)), lw_okq q
  exact List.forall_mem_append.mpr ⟨lw_r1, List.forall_mem_append.mpr ⟨lw_r2, lw_r3⟩⟩
/-- the streams that the claim lets the run draw from -/
abbrev lw_cs : List Choice := [Jvm.Choice.named "NaN.bits"]
theorem lw_bits : nanBits ∈ lw_cs := by first | decide | exact List.mem_cons_self | simp [lw_cs, nanBits]
/-! ===== BEGIN words of one list among another's, by their places ===== -/
theorem goodIn_r {big : List Cond} (ws : List Cond) (ps : List Nat) (hp : ws = ps.filterMap (fun i => big[i]?)) (h : ws.all goodWord = true) : GoodIn big ws := by
  intro w hw
  have h1 := List.all_eq_true.mp h w hw
  rw [hp] at hw
  obtain ⟨i, -, hi⟩ := List.mem_filterMap.mp hw
  have hm : w ∈ big := by first | exact List.mem_of_getElem? hi | exact List.getElem?_mem hi
  exact ⟨hm, good_of_word h1⟩
theorem goodIn_app {big a b : List Cond} (ha : GoodIn big a) (hb : GoodIn big b) : GoodIn big (a ++ b) := fun w h => (List.mem_append.mp h).elim (ha w) (hb w)
theorem goodIn_ca {big a b : List Cond} {c : Cond} (ha : GoodIn big (c :: a)) (hb : GoodIn big b) : GoodIn big (c :: (a ++ b)) := fun w h => (List.mem_cons.mp h).elim (fun e => ha w (List.mem_cons.mpr (Or.inl e))) (fun h => (List.mem_append.mp h).elim (fun h => ha w (List.mem_cons.mpr (Or.inr h))) (hb w))
theorem goodIn_sub {big ws : List Cond} (hm : ∀ w ∈ ws, w ∈ big) (h : ws.all goodWord = true) : GoodIn big ws := fun w hw => ⟨hm w hw, good_of_word (List.all_eq_true.mp h w hw)⟩
/-! ===== END ===== -/
/-! ===== BEGIN exceptions that leave a method, and their catching by the caller (launches without stack traces) ===== -/
section VXA
/-! The laws vx_back, vx_callV, vx_callS, vx_callSW, vx_throw0, vx_throwS follow proofs of the library, with one case more: JvmDerived/Free/Laws.lean (Back.of_free), Shelf42/LK1.lean (callV, callS), Shelf/KitTraced.lean (throwNew0V, throwNewS). -/
/-- where a method has thrown q: the class by its name, the cell, what was written, the world -/
def vx_T (XC : String → State → State → Prop) (st : State) (q : Addr) (t : State) (mc ms : Nat) (free : Addr → Prop) : Prop :=
  ∃ (E : String) (ce : Cell) (L : List Loc), XC E st t ∧ t.heap[q]? = some ce ∧ ce.vm = .none ∧ st.vm.findClass E = some ce.cls ∧ st.WarmedH t.vm ∧ st.sameButNew ({ t with vm := st.vm } : State) L mc ms ∧ ∀ z ∈ L, free z.base
def vx_Q (Qc : Array Value → State → Outcome → State → Prop) (XC : String → State → State → Prop) (mc ms : Nat) (free : Addr → Prop) : Array Value → State → Outcome → State → Prop := fun a st o t =>
  (Qc a st o t ∧ ∃ L, FrameEnd st o t L mc ms ∧ ∀ q ∈ L, free q.base) ∨ ∃ q, o = .threw q ∧ vx_T XC st q t mc ms free
/-- a callee that returns or throws -/
def vx_Met (l : Launch) (y : MethodName) (ws : List Cond) (rm : Room) (Pc : Array Value → State → Prop) (Qc : Array Value → State → Outcome → State → Prop) (XC : String → State → State → Prop) (mc ms : Nat) (free : Addr → Prop) : Prop :=
  MetFree l y (headSpec ws rm) Pc (fun _ _ _ _ _ => True) (vx_Q Qc XC mc ms free)
def vx_Post (XC : String → State → State → Prop) (mc ms : Nat) (free : Addr → Prop) : Pt → Array Value → Addr → Pt → Prop := fun A a q B =>
  ∃ (g : JFrame) (mk : MethodId) (t : State) (L : List Loc) (E : String) (ce : Cell), B.U.heap = t.heap ∧ B.U.vm = t.vm ∧ XC E (A.U.calling g mk a) t ∧ t.heap[q]? = some ce ∧ ce.vm = .none ∧ A.U.vm.findClass E = some ce.cls ∧ B.locs = A.locs ++ L ∧ (∀ z ∈ L, free z.base) ∧ B.cells = A.cells + mc ∧ B.slots = A.slots + ms
def vx_Back (l : Launch) (R : Room) (p : Program) (e : Env) (below : List Frame) (s : State) (sargs : Array Value) (y : MethodName) (len W9 : Nat)
    (Pre : Pt → Array Value → Prop) (Post : Pt → Array Value → Option Value → Pt → Prop) (PostX : Pt → Array Value → Addr → Pt → Prop) : Prop :=
  ∀ (m : MethodId) (meth : Method) (c : Code) (A : Pt) (g : JFrame) (ig : Instr) (mk : MethodId) (a : Array Value),
    Stand p l e R s m sargs below meth c A.U A.locs A.cells A.slots → g.method = m → g.locals.size = c.maxLocals → decode c.code g.pc = .ok (ig, len) →
    2 * g.monitorRoom + (g.stack.map fun v => v.category).sum ≤ W9 → A.U.methodNamed? y = some mk → Pre A a →
    (∃ (v : Option Value) (B : Pt), Stand p l e R s m sargs below meth c B.U B.locs B.cells B.slots ∧ Post A a v B ∧
      Steps p.tables e below (doInvoke e (A.U.setTop g) [] mk a).1 (B.U.setTop { g with pc := g.pc + len, stack := v.toList ++ g.stack })) ∨
    (∃ (q : Addr) (B : Pt), Stand p l e R s m sargs below meth c B.U B.locs B.cells B.slots ∧ PostX A a q B ∧
      Steps p.tables e below (doInvoke e (A.U.setTop g) [] mk a).1 ((B.U.setTop g).pushFrame (.throwing q)))
section Payer
variable {l : Launch} {R : Room} {p : Program} {e : Env} {below : List Frame} {s : State} {sargs : Array Value} {y : MethodName} {len W9 : Nat}
theorem vx_back {ws : List Cond} {rm : Room} {Pc : Array Value → State → Prop} {Qc : Array Value → State → Outcome → State → Prop} {XC : String → State → State → Prop} {mc ms : Nat} {free : Addr → Prop} {bytes : ByteArray} {maxL : Nat} {ret : Option FieldType}
    (hM : vx_Met l y ws rm Pc Qc XC mc ms free) (hblind : FrameBlind Pc) (hrc : rm.cells = mc) (hrs : rm.slots = ms)
    (hframes : rm.frames + 1 ≤ R.frames) (hlocals : W9 + (maxL + 11) + rm.locals ≤ R.locals)
    (hws : ∀ w ∈ ws, ∀ a' U, s.WarmedH U.vm → w.before a' U = true) (hcode : Cond.code y bytes maxL ret ∈ ws) (hinit : ∀ a' U, s.WarmedH U.vm → (Cond.initialized y.cls).before a' U = true) :
    vx_Back l R p e below s sargs y len W9 (PreOf R mc ms Pc) (PostOf Qc mc ms free) (vx_Post XC mc ms free) := by
  intro m meth c A g ig mk a X hg hsize hdg hW hn hp
  have h1 : (headSpec ws rm).pre.before a A.U = true := atoms_intro fun w hw => hws w hw _ _ X.warmed
  have h2 : (Cond.code y bytes maxL ret).before a A.U = true := hws _ hcode _ _ X.warmed
  have h3 : (Cond.initialized y.cls).before a A.U = true := hinit _ _ X.warmed
  have h4 : A.cells + (headSpec ws rm).room.cells ≤ R.cells := by rw [show (headSpec ws rm).room.cells = mc from hrc]; exact hp.1
  have h5 : A.slots + (headSpec ws rm).room.slots ≤ R.slots := by rw [show (headSpec ws rm).room.slots = ms from hrs]; exact hp.2.1
  have hPc : Pc a (A.U.calling g mk a) := hblind _ _ _ _ hp.2.2
  obtain ⟨U, Ls, c0, s0⟩ := A
  dsimp only [Pt.U, Pt.locs, Pt.cells, Pt.slots] at h1 h2 h3 h4 h5 X hn hPc ⊢
  obtain ⟨methY, cY, hmY, hcY, -, hlY, -, -, -, -⟩ := Cond.code_spec hn h2
  obtain ⟨kY, hkY, -⟩ := className_of_methodNamed hn
  have hinitY : kY.init = .initialized := Cond.initialized_spec (findClass_of_methodNamed hn) hkY h3
  have h : At U g.method c below := by rw [hg]; exact X.here
  have hlocals9 : W9 + (maxL + 11) + (headSpec ws rm).room.locals ≤ R.locals := hlocals
  have happ : (headSpec ws rm).appliesLoose y e.platform (U.calling g mk a) = true :=
    Spec.appliesLoose_calling (g := g) h hdg hn hkY hinitY
      (X.room_calling (g := g) (R' := (headSpec ws rm).room) hsize hmY hcY hframes (by rw [hlY]; omega) h4 h5) h1
  obtain ⟨mid, hmid⟩ := h.above
  have hfr : (U.setTop g).frames = (.java g :: mid) ++ below := by rw [State.frames_setTop' g h.top, hmid]; rfl
  obtain ⟨o, s₂, hsteps, -, hend, hq⟩ := Steps.callFree hM p X.admits X.cas X.clock (acts := []) hfr happ hPc trivial
  have hq' : vx_Q Qc XC mc ms free a (U.calling g mk a) o s₂ := hq
  rw [State.frames_setTop' g h.top] at hend
  obtain ⟨g₀, hg0⟩ := Option.isSome_iff_exists.mp h.top
  obtain ⟨r, hr⟩ := State.topJava?_eq_some.mp hg0
  have hr' : (({ U with heap := s₂.heap, slotsUsed := s₂.slotsUsed } : State).setVm s₂.vm).frames = .java g₀ :: r := hr
  rcases hq' with ⟨hqc, L, hfe, hL⟩ | ⟨q, rfl, E, ce, L, hx, hce, hcv, hcl, hW₂, hsm, hL⟩
  · obtain ⟨⟨v, rfl⟩, hW₂, e2, q2, q3, q4, q5, q6⟩ := id hfe
    have e3 : s₂ = ({ (U.calling g mk a).setFrames s₂.frames with heap := s₂.heap, slotsUsed := s₂.slotsUsed } : State).setVm s₂.vm := by
      have : s₂ = ({ s₂ with vm := (U.calling g mk a).vm } : State).setVm s₂.vm := rfl
      rw [e2] at this
      exact this
    obtain ⟨c₂, i₂, len₂, hc₂, hd₂, hf₂⟩ := hend
    have hW' : U.WarmedH s₂.vm := hW₂
    have hcc : c₂ = c := by
      have h1 : s₂.code? g.method = U.code? g.method := by
        rw [State.code?_eq, State.code?_eq, hW'.alike.method?]
      exact Option.some.inj (hc₂.symm.trans (h1.trans h.code))
    subst hcc
    have hlen : len₂ = len := by rw [hdg] at hd₂; cases hd₂; rfl
    subst hlen
    have hs₂ : s₂ = (({ U with heap := s₂.heap, slotsUsed := s₂.slotsUsed } : State).setVm s₂.vm).setTop { g with pc := g.pc + len₂, stack := v.toList ++ g.stack } := by
      refine e3.trans ?_
      rw [hf₂, State.calling_eq h.top, State.setFrames_setFrames, State.setTop_of_frames _ hr', hr]
      rfl
    have hsame : U.sameButNew ({ U with heap := s₂.heap, slotsUsed := s₂.slotsUsed } : State) L mc ms := by
      refine ⟨?_, q2, q3, q4, q5, q6⟩
      obtain ⟨t, ht, -⟩ := State.frames_cons hr
      show ({ U with heap := s₂.heap, slotsUsed := s₂.slotsUsed } : State) = { U.setFrames U.frames with heap := s₂.heap, slotsUsed := s₂.slotsUsed }
      rw [State.setFrames_self ht]
    subst hg
    refine Or.inl ⟨v, ⟨(({ U with heap := s₂.heap, slotsUsed := s₂.slotsUsed } : State).setVm s₂.vm), Ls ++ L, c0 + mc, s0 + ms⟩,
      ⟨X.admits, X.cas, X.clock, X.frames, X.room, X.hears, X.method, X.code, (X.here.setHeapUsed s₂.heap s₂.slotsUsed).setVm hW'.alike, X.tail, State.WarmedH.trans X.warmed hW', X.limits, X.bytes, X.same.trans (hsame.setVm s.vm)⟩,
      ⟨g, mk, s₂, L, rfl, rfl, hqc, rfl, hL, rfl, rfl⟩, ?_⟩
    show Steps p.tables e below _ ((({ U with heap := s₂.heap, slotsUsed := s₂.slotsUsed } : State).setVm s₂.vm).setTop { g with pc := g.pc + len₂, stack := v.toList ++ g.stack })
    rw [← hs₂]
    exact hsteps
  · obtain ⟨e2, q2, q3, q4, q5, q6⟩ := id hsm
    have e3 : s₂ = ({ (U.calling g mk a).setFrames s₂.frames with heap := s₂.heap, slotsUsed := s₂.slotsUsed } : State).setVm s₂.vm := by
      have : s₂ = ({ s₂ with vm := (U.calling g mk a).vm } : State).setVm s₂.vm := rfl
      rw [e2] at this
      exact this
    have hf₂ : s₂.frames = .throwing q :: .java g :: U.frames.tail := hend
    have hW' : U.WarmedH s₂.vm := hW₂
    have hs₂ : s₂ = ((({ U with heap := s₂.heap, slotsUsed := s₂.slotsUsed } : State).setVm s₂.vm).setTop g).pushFrame (.throwing q) := by
      refine e3.trans ?_
      rw [hf₂, State.calling_eq h.top, State.setFrames_setFrames, State.pushFrame, State.frames_setTop _ hr', State.setTop_of_frames _ hr', State.setFrames_setFrames, hr]
      rfl
    have hsame : U.sameButNew ({ U with heap := s₂.heap, slotsUsed := s₂.slotsUsed } : State) L mc ms := by
      refine ⟨?_, q2, q3, q4, q5, q6⟩
      obtain ⟨t, ht, -⟩ := State.frames_cons hr
      show ({ U with heap := s₂.heap, slotsUsed := s₂.slotsUsed } : State) = { U.setFrames U.frames with heap := s₂.heap, slotsUsed := s₂.slotsUsed }
      rw [State.setFrames_self ht]
    subst hg
    refine Or.inr ⟨q, ⟨(({ U with heap := s₂.heap, slotsUsed := s₂.slotsUsed } : State).setVm s₂.vm), Ls ++ L, c0 + mc, s0 + ms⟩,
      ⟨X.admits, X.cas, X.clock, X.frames, X.room, X.hears, X.method, X.code, (X.here.setHeapUsed s₂.heap s₂.slotsUsed).setVm hW'.alike, X.tail, State.WarmedH.trans X.warmed hW', X.limits, X.bytes, X.same.trans (hsame.setVm s.vm)⟩,
      ⟨g, mk, s₂, L, E, ce, rfl, rfl, hx, hce, hcv, hcl, rfl, hL, rfl, rfl⟩, ?_⟩
    show Steps p.tables e below _ (((({ U with heap := s₂.heap, slotsUsed := s₂.slotsUsed } : State).setVm s₂.vm).setTop g).pushFrame (.throwing q))
    rw [← hs₂]
    exact hsteps
end Payer
section Calls
variable {p : Program} {l : Launch} {e : Env} {R : Room} {s : State} {m : MethodId} {args : Array Value} {below : List Frame} {meth : Method} {c : Code} {T : State} {locs : List Loc} {cells slots : Nat}
theorem vx_callV (X : Stand p l e R s m args below meth c T locs cells slots) (hexec : p.tables.exec = Jvm.exec) {own C : String} {index : Nat} {y : MethodName} {bytes : ByteArray} {maxL : Nat} {ret : Option FieldType}
    (hown : s.vm.findClass own = some m.cls) (hlink : (Cond.methodLink own index y).before args s = true) (hinst : (Cond.instanceMethod y).before args s = true) (hsel : (Cond.selects C y y).before args s = true)
    (hcode : (Cond.code y bytes maxL ret).before args s = true) (hy : y.cls ≠ "java/lang/invoke/MethodHandle" ∧ y.cls ≠ "java/lang/invoke/VarHandle")
    {W9 : Nat} {Pre : Pt → Array Value → Prop} {Post : Pt → Array Value → Option Value → Pt → Prop} {PostX : Pt → Array Value → Addr → Pt → Prop} (hK : vx_Back l R p e below s args y 3 W9 Pre Post PostX)
    {b : Addr} {cellB : Cell} (hcell : T.heap[b]? = some cellB) (hobj : cellB.vm.isStatics = false) (hcls : s.vm.findClass C = some cellB.cls)
    {g : JFrame} (hg : g.method = m) (hsize : g.locals.size = c.maxLocals) {argsL rest : List Value} (hlen : ∀ sig, parseMethodDescriptor y.desc = some sig → argsL.length = sig.parameters.length)
    (hstack : g.stack = argsL.reverse ++ .ref b :: rest) (hW : 2 * g.monitorRoom + (rest.map fun v => v.category).sum ≤ W9) (hdg : decode c.code g.pc = .ok (.invokevirtual index, 3))
    (hpre : ∀ vm₁, s.WarmedH vm₁ → Pre ⟨T.setVm vm₁, locs, cells, slots⟩ (Value.ref b :: argsL).toArray) :
    (∃ (v : Option Value) (vm₁ : Vm) (B : Pt), s.WarmedH vm₁ ∧ Stand p l e R s m args below meth c B.U B.locs B.cells B.slots ∧ Post ⟨T.setVm vm₁, locs, cells, slots⟩ (Value.ref b :: argsL).toArray v B ∧
      ∀ target, Steps p.tables e below (B.U.setTop { g with pc := g.pc + 3, stack := v.toList ++ rest }) target → Steps p.tables e below (T.setTop g) target) ∨
    (∃ (q : Addr) (vm₁ : Vm) (B : Pt), s.WarmedH vm₁ ∧ Stand p l e R s m args below meth c B.U B.locs B.cells B.slots ∧ PostX ⟨T.setVm vm₁, locs, cells, slots⟩ (Value.ref b :: argsL).toArray q B ∧
      Steps p.tables e below (T.setTop g) ((B.U.setTop { g with stack := rest }).pushFrame (.throwing q))) := by
  obtain ⟨mk, methM, hnamed, hmethM, hstM, habM⟩ := Cond.instanceMethod_spec hinst
  obtain ⟨methM', cM, hmethM', -, -, -, -, -, -, hsigM⟩ := Cond.code_spec hnamed hcode
  cases hmethM.symm.trans hmethM'
  obtain ⟨c2, r2, m2, q1, q2, q3, q4, kP, hkP, hkPi⟩ := Cond.selects_spec hsel
  cases hcls.symm.trans q1
  cases (State.methodFound?_of_named hnamed hy).symm.trans q2
  cases hnamed.symm.trans q3
  have hselP : selectMethod e.platform s.vm cellB.cls mk = .method mk := by rw [Launch.admits_selectMethod X.admits]; exact q4
  obtain ⟨vm₁, X₁, hstep₁⟩ := X.invokevirtual hexec hown hlink hnamed hmethM hstM hkP hkPi hy (a := b) (cell := cellB) hcell
    (fun z h => by rw [h] at hobj; cases hobj) hselP hmethM habM hkP hkPi (g := g) hg (argsL := argsL) (rest := rest) (hlen _ hsigM) hstack hdg
  rcases hK m meth c ⟨T.setVm vm₁, locs, cells, slots⟩ { g with stack := rest } (.invokevirtual index) mk (Value.ref b :: argsL).toArray X₁ hg hsize hdg hW (X₁.named hnamed) (hpre vm₁ X₁.warmed) with ⟨v, B, X', hpost, hsteps⟩ | ⟨q, B, X', hpost, hsteps⟩
  · exact Or.inl ⟨v, vm₁, B, X₁.warmed, X', hpost, fun target h => hstep₁ _ fun acts => by rw [doInvoke_state]; exact hsteps.trans h⟩
  · exact Or.inr ⟨q, vm₁, B, X₁.warmed, X', hpost, hstep₁ _ fun acts => by rw [doInvoke_state]; exact hsteps⟩
theorem vx_callS (X : Stand p l e R s m args below meth c T locs cells slots) (hexec : p.tables.exec = Jvm.exec) {own : String} {index : Nat} {y : MethodName} {bytes : ByteArray} {maxL : Nat} {ret : Option FieldType}
    (hown : s.vm.findClass own = some m.cls) (hlink : (Cond.methodLink own index y).before args s = true) (hstat : (Cond.static y).before args s = true) (hinit : (Cond.initialized y.cls).before args s = true)
    (hcode : (Cond.code y bytes maxL ret).before args s = true) (hy : y.cls ≠ "java/lang/invoke/MethodHandle" ∧ y.cls ≠ "java/lang/invoke/VarHandle")
    {W9 : Nat} {Pre : Pt → Array Value → Prop} {Post : Pt → Array Value → Option Value → Pt → Prop} {PostX : Pt → Array Value → Addr → Pt → Prop} (hK : vx_Back l R p e below s args y 3 W9 Pre Post PostX)
    {g : JFrame} (hg : g.method = m) (hsize : g.locals.size = c.maxLocals) {argsL rest : List Value} (hlen : ∀ sig, parseMethodDescriptor y.desc = some sig → argsL.length = sig.parameters.length)
    (hstack : g.stack = argsL.reverse ++ rest) (hW : 2 * g.monitorRoom + (rest.map fun v => v.category).sum ≤ W9) (hdg : decode c.code g.pc = .ok (.invokestatic index, 3))
    (hpre : ∀ vm₁, s.WarmedH vm₁ → Pre ⟨T.setVm vm₁, locs, cells, slots⟩ argsL.toArray) :
    (∃ (v : Option Value) (vm₁ : Vm) (B : Pt), s.WarmedH vm₁ ∧ Stand p l e R s m args below meth c B.U B.locs B.cells B.slots ∧ Post ⟨T.setVm vm₁, locs, cells, slots⟩ argsL.toArray v B ∧
      ∀ target, Steps p.tables e below (B.U.setTop { g with pc := g.pc + 3, stack := v.toList ++ rest }) target → Steps p.tables e below (T.setTop g) target) ∨
    (∃ (q : Addr) (vm₁ : Vm) (B : Pt), s.WarmedH vm₁ ∧ Stand p l e R s m args below meth c B.U B.locs B.cells B.slots ∧ PostX ⟨T.setVm vm₁, locs, cells, slots⟩ argsL.toArray q B ∧
      Steps p.tables e below (T.setTop g) ((B.U.setTop { g with stack := rest }).pushFrame (.throwing q))) := by
  obtain ⟨mk, hnamed⟩ := Cond.code_named hcode
  obtain ⟨methM, cM, hmethM, -, -, -, -, -, -, hsigM⟩ := Cond.code_spec hnamed hcode
  have hstatic : methM.isStatic = true := Cond.static_spec hnamed hmethM hstat
  obtain ⟨kP, hkP, -⟩ := className_of_methodNamed hnamed
  have hinitP : kP.init = .initialized := Cond.initialized_spec (findClass_of_methodNamed hnamed) hkP hinit
  obtain ⟨vm₁, X₁, hstep₁⟩ := X.invokestatic hexec hown hlink hnamed hmethM hstatic hkP hinitP hy (g := g) hg (argsL := argsL) (rest := rest) (hlen _ hsigM) hstack hdg
  rcases hK m meth c ⟨T.setVm vm₁, locs, cells, slots⟩ { g with stack := rest } (.invokestatic index) mk argsL.toArray X₁ hg hsize hdg hW (X₁.named hnamed) (hpre vm₁ X₁.warmed) with ⟨v, B, X', hpost, hsteps⟩ | ⟨q, B, X', hpost, hsteps⟩
  · exact Or.inl ⟨v, vm₁, B, X₁.warmed, X', hpost, fun target h => hstep₁ _ fun acts => by rw [doInvoke_state]; exact hsteps.trans h⟩
  · exact Or.inr ⟨q, vm₁, B, X₁.warmed, X', hpost, hstep₁ _ fun acts => by rw [doInvoke_state]; exact hsteps⟩
end Calls
theorem vx_cls {s : State} {T : State} {vm₁ : Vm} {E : String} {k : ClassId} (hW : s.WarmedH vm₁) (h : (T.setVm vm₁).vm.findClass E = some k) : s.vm.findClass E = some k := by
  have h1 : vm₁.findClass E = some k := h
  rw [hW.alike.findClass] at h1
  exact h1
/-- the method's frame g, with q thrown over it -/
def vx_W (p : Program) (l : Launch) (e : Env) (R : Room) (s : State) (m : MethodId) (args : Array Value) (below : List Frame) (meth : Method) (c : Code) (H : Heap) (locs : List Loc) (cells slots : Nat) (Q : State → Prop) (g : JFrame) (q : Addr) : Prop :=
  ∀ T : State, T.heap = H → Stand p l e R s m args below meth c T locs cells slots → ∃ t, Steps p.tables e below ((T.setTop g).pushFrame (.throwing q)) t ∧ Q t
def vx_Run (p : Program) (l : Launch) (e : Env) (R : Room) (s : State) (m : MethodId) (args : Array Value) (below : List Frame) (meth : Method) (c : Code) (H : Heap) (locs : List Loc) (cells slots mc ms : Nat) (g : JFrame) (rest : List Value) (Qa : State → Outcome → State → Prop) (XC : String → State → State → Prop) (free : Addr → Prop) : Prop :=
  ∀ T : State, T.heap = H → Stand p l e R s m args below meth c T locs cells slots →
    (∃ (v : Option Value) (st₀ t T' : State) (L : List Loc), st₀.heap = H ∧ Stand p l e R s m args below meth c T' (locs ++ L) (cells + mc) (slots + ms) ∧ (∀ q ∈ L, free q.base) ∧ T'.heap = t.heap ∧ T'.vm = t.vm ∧ Qa st₀ (.returned v) t ∧
      Goes p e below T g T' { g with pc := g.pc + 3, stack := v.toList ++ rest }) ∨
    (∃ (q : Addr) (st₀ t T' : State) (L : List Loc) (E : String) (ce : Cell), st₀.heap = H ∧ Stand p l e R s m args below meth c T' (locs ++ L) (cells + mc) (slots + ms) ∧ (∀ z ∈ L, free z.base) ∧ T'.heap = t.heap ∧ T'.vm = t.vm ∧ XC E st₀ t ∧ t.heap[q]? = some ce ∧ ce.vm = .none ∧ s.vm.findClass E = some ce.cls ∧
      Steps p.tables e below (T.setTop g) ((T'.setTop { g with stack := rest }).pushFrame (.throwing q)))
def vx_X {S : Type} (px : S → Prop) (B : String → S → State → Prop) (A : Nat → Prop) : String → State → State → Prop := fun E st t => ∃ u : S, px u ∧ B E u t ∧ va_F A st t
section Runs
variable {p : Program} {l : Launch} {e : Env} {R : Room} {s : State} {m : MethodId} {args : Array Value} {below : List Frame} {meth : Method} {c : Code} {H : Heap} {locs : List Loc} {cells slots : Nat}
variable {y : MethodName} {bytes cc : ByteArray} {maxL nL mc ms n index : Nat} {ret : Option FieldType} {ws : List Cond} {rm : Room} {Pc : Array Value → State → Prop} {Qc : Array Value → State → Outcome → State → Prop} {XC : String → State → State → Prop} {free : Addr → Prop} {Ts : List Cond} {own C : String} {b : Addr} {As rest : List Value} {g : JFrame}
theorem vx_callBack (cb : CallB R s args own index y bytes maxL ret ws rm mc ms n) (hM : vx_Met l y ws rm Pc Qc XC mc ms free) (hbl : FrameBlind Pc) : vx_Back l R p e below s args y 3 8 (PreOf R mc ms Pc) (PostOf Qc mc ms free) (vx_Post XC mc ms free) := by
  obtain ⟨hrc, hrs, hfr, hlo, hws, hcw, -, hini, -⟩ := cb
  exact vx_back (bytes := bytes) (maxL := maxL) (ret := ret) hM hbl hrc hrs hfr hlo hws hcw (fun a' U hW => word_at hW (Or.inl (by first | rfl | simp [Cond.onTables, Cond.keeps, Cond.steady])) hini)
theorem vx_runV (S : CallFix p m c cc nL s args Ts own) (hM : vx_Met l y ws rm Pc Qc XC mc ms free) (cw : CallW R s args own C index y bytes maxL ret ws rm mc ms n) (hp : PreV s H C b Pc As)
    (hg : g.method = m) (hn : As.length = n) (hsize : g.locals.size = nL) (hstack : g.stack = As.reverse ++ .ref b :: rest) (hW : 2 * g.monitorRoom + (rest.map fun v => v.category).sum ≤ 8) (hdg : decode cc g.pc = .ok (.invokevirtual index, 3)) (hf : cells + mc ≤ R.cells ∧ slots + ms ≤ R.slots) :
    vx_Run p l e R s m args below meth c H locs cells slots mc ms g rest (Qc (Value.ref b :: As).toArray) XC free := by
  have hK : vx_Back l R p e below s args y 3 8 (PreOf R mc ms Pc) (PostOf Qc mc ms free) (vx_Post XC mc ms free) := vx_callBack cw.1 hM hp.1
  obtain ⟨⟨-, -, -, -, -, -, hcode, -, hy, hlen, hl⟩, hin, hse⟩ := cw
  obtain ⟨hx, hb, hml, ho, -⟩ := S
  obtain ⟨-, ⟨cellB, hcB, hoB, hclB⟩, hPc⟩ := hp
  intro T hT X
  rcases vx_callV X hx (C := C) (bytes := bytes) (maxL := maxL) (ret := ret) ho hl hin hse hcode hy hK (by rw [hT]; exact hcB) hoB hclB hg (hsize.trans hml.symm) (argsL := As) (rest := rest) (fun sig h => hn.trans (hlen sig h)) hstack hW (by rw [hb]; exact hdg)
    (fun vm₁ hW₁ => ⟨hf.1, hf.2, hPc (T.setVm vm₁) hT hW₁⟩) with ⟨v, vm₁, ⟨U', l2, c2, s2⟩, hW₁, X', ⟨g', mk, t, L, e1, e2, hq, h1, hL, h2, h3⟩, st⟩ | ⟨q, vm₁, ⟨U', l2, c2, s2⟩, hW₁, X', ⟨g', mk, t, L, E, ce, e1, e2, hq, hce, hcv, hcl, h1, hL, h2, h3⟩, st⟩
  · dsimp only [Pt.U, Pt.locs, Pt.cells, Pt.slots] at X' e1 e2 h1 h2 h3 st
    subst h1; subst h2; subst h3
    exact Or.inl ⟨v, (T.setVm vm₁).calling g' mk (Value.ref b :: As).toArray, t, U', L, hT, X', hL, e1, e2, hq, st⟩
  · dsimp only [Pt.U, Pt.locs, Pt.cells, Pt.slots] at X' e1 e2 h1 h2 h3 st hcl
    subst h1; subst h2; subst h3
    exact Or.inr ⟨q, (T.setVm vm₁).calling g' mk (Value.ref b :: As).toArray, t, U', L, E, ce, hT, X', hL, e1, e2, hq, hce, hcv, vx_cls hW₁ hcl, st⟩
theorem vx_runS (S : CallFix p m c cc nL s args Ts own) (hM : vx_Met l y ws rm Pc Qc XC mc ms free) (cw : CallB R s args own index y bytes maxL ret ws rm mc ms n ∧ (Cond.static y).before args s = true) (hp : PreS s H Pc As)
    (hg : g.method = m) (hn : As.length = n) (hsize : g.locals.size = nL) (hstack : g.stack = As.reverse ++ rest) (hW : 2 * g.monitorRoom + (rest.map fun v => v.category).sum ≤ 8) (hdg : decode cc g.pc = .ok (.invokestatic index, 3)) (hf : cells + mc ≤ R.cells ∧ slots + ms ≤ R.slots) :
    vx_Run p l e R s m args below meth c H locs cells slots mc ms g rest (Qc As.toArray) XC free := by
  have hK : vx_Back l R p e below s args y 3 8 (PreOf R mc ms Pc) (PostOf Qc mc ms free) (vx_Post XC mc ms free) := vx_callBack cw.1 hM hp.1
  obtain ⟨⟨-, -, -, -, -, -, hcode, hini, hy, hlen, hl⟩, hstt⟩ := cw
  obtain ⟨hx, hb, hml, ho, -⟩ := S
  intro T hT X
  rcases vx_callS X hx (bytes := bytes) (maxL := maxL) (ret := ret) ho hl hstt hini hcode hy hK hg (hsize.trans hml.symm) (argsL := As) (rest := rest) (fun sig h => hn.trans (hlen sig h)) hstack hW (by rw [hb]; exact hdg)
    (fun vm₁ hW₁ => ⟨hf.1, hf.2, hp.2 (T.setVm vm₁) hT hW₁⟩) with ⟨v, vm₁, ⟨U', l2, c2, s2⟩, hW₁, X', ⟨g', mk, t, L, e1, e2, hq, h1, hL, h2, h3⟩, st⟩ | ⟨q, vm₁, ⟨U', l2, c2, s2⟩, hW₁, X', ⟨g', mk, t, L, E, ce, e1, e2, hq, hce, hcv, hcl, h1, hL, h2, h3⟩, st⟩
  · dsimp only [Pt.U, Pt.locs, Pt.cells, Pt.slots] at X' e1 e2 h1 h2 h3 st
    subst h1; subst h2; subst h3
    exact Or.inl ⟨v, (T.setVm vm₁).calling g' mk As.toArray, t, U', L, hT, X', hL, e1, e2, hq, st⟩
  · dsimp only [Pt.U, Pt.locs, Pt.cells, Pt.slots] at X' e1 e2 h1 h2 h3 st hcl
    subst h1; subst h2; subst h3
    exact Or.inr ⟨q, (T.setVm vm₁).calling g' mk As.toArray, t, U', L, E, ce, hT, X', hL, e1, e2, hq, hce, hcv, vx_cls hW₁ hcl, st⟩
end Runs
section Rows
variable {p : Program} {l : Launch} {e : Env} {R : Room} {s : State} {m : MethodId} {args : Array Value} {below : List Frame} {meth : Method} {c : Code} {H : Heap} {locs : List Loc} {cells slots : Nat} {Q : State → Prop}
variable {mc ms : Nat} {free : Addr → Prop} {A0 A1 : Nat → Prop} {H0 : Heap} {a : Array Value} {pc : Nat} {ls : Array Slot} {st0 rest : List Value}
theorem vx_keep {st₀ t T' : State} {L : List Loc} (h0 : st₀.heap = H) (e1 : T'.heap = t.heap) (hS : va_S A0 H0 H locs) (hA : ∀ q, q < H.size → A1 q → A0 q) (hf : ∀ q, free q → A0 q) (hL : ∀ q ∈ L, free q.base) (hF : va_F A1 st₀ t) :
    H.size ≤ T'.heap.size ∧ (∀ q : Nat, q < H.size → ¬ A1 q → T'.heap[q]? = H[q]?) ∧ va_S A0 H0 T'.heap (locs ++ L) := by
  obtain ⟨hz, hk⟩ := hF
  rw [h0] at hz hk
  exact ⟨by rw [e1]; exact hz, fun q h1 h2 => by rw [e1]; exact hk q h1 h2,
    ⟨Nat.le_trans hS.1 (by rw [e1]; exact hz), fun q h1 h2 => by rw [e1, hk q (Nat.lt_of_lt_of_le h1 hS.1) (fun z => h2 (hA q (Nat.lt_of_lt_of_le h1 hS.1) z))]; exact hS.2.1 q h1 h2, fun q hq => by
      rcases List.mem_append.mp hq with h | h
      · exact hS.2.2 q h
      · exact hf _ (hL q h)⟩⟩
theorem vx_calli {S SX : Type} {post : Int32 → S → Prop} {px : SX → Prop} {B : S → State → Prop} {BX : String → SX → State → Prop} {AX : Nat → Prop} (hr : vx_Run p l e R s m args below meth c H locs cells slots mc ms (F0 m pc ls st0) rest (va_Qi post B A1 a) (vx_X px BX AX) free) (hS : va_S A0 H0 H locs) (hA : ∀ q, q < H.size → A1 q → A0 q) (hf : ∀ q, free q → A0 q) (hAX : ∀ q, q < H.size → AX q → A0 q)
    (kx : ∀ (E : String) (ce : Cell) (q9 : Addr) (u : SX) (t : State) (H1 : Heap) (locs1 : List Loc), t.heap = H1 → s.vm.Alike t.vm → px u → BX E u t → H.size ≤ H1.size → (∀ q : Nat, q < H.size → ¬ AX q → H1[q]? = H[q]?) → va_S A0 H0 H1 locs1 → H1[q9]? = some ce → ce.vm = .none → s.vm.findClass E = some ce.cls → vx_W p l e R s m args below meth c H1 locs1 (cells + mc) (slots + ms) Q (F0 m pc ls rest) q9)
    (kk : ∀ (r : Int32) (u : S) (t : State) (H1 : Heap) (locs1 : List Loc), t.heap = H1 → s.vm.Alike t.vm → post r u → B u t → H.size ≤ H1.size → (∀ q : Nat, q < H.size → ¬ A1 q → H1[q]? = H[q]?) → va_S A0 H0 H1 locs1 → W p l e R s m args below meth c H1 locs1 (cells + mc) (slots + ms) Q (F0 m (pc + 3) ls (.int r :: rest))) : W p l e R s m args below meth c H locs cells slots Q (F0 m pc ls st0) := by
  intro T hT X
  rcases hr T hT X with ⟨v, st₀, t, T', L, h0, X', hL, e1, e2, ⟨⟨r, u, hv, hp, hb⟩, hF⟩, st⟩ | ⟨q, st₀, t, T', L, E, ce, h0, X', hL, e1, e2, ⟨u, hp, hb, hF⟩, hce, hcv, hcl, st⟩
  · cases hv
    obtain ⟨k1, k2, k3⟩ := vx_keep h0 e1 hS hA hf hL hF
    obtain ⟨t2, a1, b1⟩ := kk r u t T'.heap (locs ++ L) e1.symm (by rw [← e2]; exact X'.warmed.alike) hp hb k1 k2 k3 T' rfl X'
    exact ⟨t2, st t2 a1, b1⟩
  · obtain ⟨k1, k2, k3⟩ := vx_keep h0 e1 hS hAX hf hL hF
    obtain ⟨t2, a1, b1⟩ := kx E ce q u t T'.heap (locs ++ L) e1.symm (by rw [← e2]; exact X'.warmed.alike) hp hb k1 k2 k3 (by rw [e1]; exact hce) hcv hcl T' rfl X'
    exact ⟨t2, st.trans a1, b1⟩
theorem vx_calll {S SX : Type} {post : Int64 → S → Prop} {px : SX → Prop} {B : S → State → Prop} {BX : String → SX → State → Prop} {AX : Nat → Prop} (hr : vx_Run p l e R s m args below meth c H locs cells slots mc ms (F0 m pc ls st0) rest (va_Ql post B A1 a) (vx_X px BX AX) free) (hS : va_S A0 H0 H locs) (hA : ∀ q, q < H.size → A1 q → A0 q) (hf : ∀ q, free q → A0 q) (hAX : ∀ q, q < H.size → AX q → A0 q)
    (kx : ∀ (E : String) (ce : Cell) (q9 : Addr) (u : SX) (t : State) (H1 : Heap) (locs1 : List Loc), t.heap = H1 → s.vm.Alike t.vm → px u → BX E u t → H.size ≤ H1.size → (∀ q : Nat, q < H.size → ¬ AX q → H1[q]? = H[q]?) → va_S A0 H0 H1 locs1 → H1[q9]? = some ce → ce.vm = .none → s.vm.findClass E = some ce.cls → vx_W p l e R s m args below meth c H1 locs1 (cells + mc) (slots + ms) Q (F0 m pc ls rest) q9)
    (kk : ∀ (r : Int64) (u : S) (t : State) (H1 : Heap) (locs1 : List Loc), t.heap = H1 → s.vm.Alike t.vm → post r u → B u t → H.size ≤ H1.size → (∀ q : Nat, q < H.size → ¬ A1 q → H1[q]? = H[q]?) → va_S A0 H0 H1 locs1 → W p l e R s m args below meth c H1 locs1 (cells + mc) (slots + ms) Q (F0 m (pc + 3) ls (.long r :: rest))) : W p l e R s m args below meth c H locs cells slots Q (F0 m pc ls st0) := by
  intro T hT X
  rcases hr T hT X with ⟨v, st₀, t, T', L, h0, X', hL, e1, e2, ⟨⟨r, u, hv, hp, hb⟩, hF⟩, st⟩ | ⟨q, st₀, t, T', L, E, ce, h0, X', hL, e1, e2, ⟨u, hp, hb, hF⟩, hce, hcv, hcl, st⟩
  · cases hv
    obtain ⟨k1, k2, k3⟩ := vx_keep h0 e1 hS hA hf hL hF
    obtain ⟨t2, a1, b1⟩ := kk r u t T'.heap (locs ++ L) e1.symm (by rw [← e2]; exact X'.warmed.alike) hp hb k1 k2 k3 T' rfl X'
    exact ⟨t2, st t2 a1, b1⟩
  · obtain ⟨k1, k2, k3⟩ := vx_keep h0 e1 hS hAX hf hL hF
    obtain ⟨t2, a1, b1⟩ := kx E ce q u t T'.heap (locs ++ L) e1.symm (by rw [← e2]; exact X'.warmed.alike) hp hb k1 k2 k3 (by rw [e1]; exact hce) hcv hcl T' rfl X'
    exact ⟨t2, st.trans a1, b1⟩
theorem vx_callf {S SX : Type} {post : UInt32 → S → Prop} {px : SX → Prop} {B : S → State → Prop} {BX : String → SX → State → Prop} {AX : Nat → Prop} (hr : vx_Run p l e R s m args below meth c H locs cells slots mc ms (F0 m pc ls st0) rest (va_Qf post B A1 a) (vx_X px BX AX) free) (hS : va_S A0 H0 H locs) (hA : ∀ q, q < H.size → A1 q → A0 q) (hf : ∀ q, free q → A0 q) (hAX : ∀ q, q < H.size → AX q → A0 q)
    (kx : ∀ (E : String) (ce : Cell) (q9 : Addr) (u : SX) (t : State) (H1 : Heap) (locs1 : List Loc), t.heap = H1 → s.vm.Alike t.vm → px u → BX E u t → H.size ≤ H1.size → (∀ q : Nat, q < H.size → ¬ AX q → H1[q]? = H[q]?) → va_S A0 H0 H1 locs1 → H1[q9]? = some ce → ce.vm = .none → s.vm.findClass E = some ce.cls → vx_W p l e R s m args below meth c H1 locs1 (cells + mc) (slots + ms) Q (F0 m pc ls rest) q9)
    (kk : ∀ (r : UInt32) (u : S) (t : State) (H1 : Heap) (locs1 : List Loc), t.heap = H1 → s.vm.Alike t.vm → post r u → B u t → H.size ≤ H1.size → (∀ q : Nat, q < H.size → ¬ A1 q → H1[q]? = H[q]?) → va_S A0 H0 H1 locs1 → W p l e R s m args below meth c H1 locs1 (cells + mc) (slots + ms) Q (F0 m (pc + 3) ls (.float r :: rest))) : W p l e R s m args below meth c H locs cells slots Q (F0 m pc ls st0) := by
  intro T hT X
  rcases hr T hT X with ⟨v, st₀, t, T', L, h0, X', hL, e1, e2, ⟨⟨r, u, hv, hp, hb⟩, hF⟩, st⟩ | ⟨q, st₀, t, T', L, E, ce, h0, X', hL, e1, e2, ⟨u, hp, hb, hF⟩, hce, hcv, hcl, st⟩
  · cases hv
    obtain ⟨k1, k2, k3⟩ := vx_keep h0 e1 hS hA hf hL hF
    obtain ⟨t2, a1, b1⟩ := kk r u t T'.heap (locs ++ L) e1.symm (by rw [← e2]; exact X'.warmed.alike) hp hb k1 k2 k3 T' rfl X'
    exact ⟨t2, st t2 a1, b1⟩
  · obtain ⟨k1, k2, k3⟩ := vx_keep h0 e1 hS hAX hf hL hF
    obtain ⟨t2, a1, b1⟩ := kx E ce q u t T'.heap (locs ++ L) e1.symm (by rw [← e2]; exact X'.warmed.alike) hp hb k1 k2 k3 (by rw [e1]; exact hce) hcv hcl T' rfl X'
    exact ⟨t2, st.trans a1, b1⟩
theorem vx_calld {S SX : Type} {post : UInt64 → S → Prop} {px : SX → Prop} {B : S → State → Prop} {BX : String → SX → State → Prop} {AX : Nat → Prop} (hr : vx_Run p l e R s m args below meth c H locs cells slots mc ms (F0 m pc ls st0) rest (va_Qd post B A1 a) (vx_X px BX AX) free) (hS : va_S A0 H0 H locs) (hA : ∀ q, q < H.size → A1 q → A0 q) (hf : ∀ q, free q → A0 q) (hAX : ∀ q, q < H.size → AX q → A0 q)
    (kx : ∀ (E : String) (ce : Cell) (q9 : Addr) (u : SX) (t : State) (H1 : Heap) (locs1 : List Loc), t.heap = H1 → s.vm.Alike t.vm → px u → BX E u t → H.size ≤ H1.size → (∀ q : Nat, q < H.size → ¬ AX q → H1[q]? = H[q]?) → va_S A0 H0 H1 locs1 → H1[q9]? = some ce → ce.vm = .none → s.vm.findClass E = some ce.cls → vx_W p l e R s m args below meth c H1 locs1 (cells + mc) (slots + ms) Q (F0 m pc ls rest) q9)
    (kk : ∀ (r : UInt64) (u : S) (t : State) (H1 : Heap) (locs1 : List Loc), t.heap = H1 → s.vm.Alike t.vm → post r u → B u t → H.size ≤ H1.size → (∀ q : Nat, q < H.size → ¬ A1 q → H1[q]? = H[q]?) → va_S A0 H0 H1 locs1 → W p l e R s m args below meth c H1 locs1 (cells + mc) (slots + ms) Q (F0 m (pc + 3) ls (.double r :: rest))) : W p l e R s m args below meth c H locs cells slots Q (F0 m pc ls st0) := by
  intro T hT X
  rcases hr T hT X with ⟨v, st₀, t, T', L, h0, X', hL, e1, e2, ⟨⟨r, u, hv, hp, hb⟩, hF⟩, st⟩ | ⟨q, st₀, t, T', L, E, ce, h0, X', hL, e1, e2, ⟨u, hp, hb, hF⟩, hce, hcv, hcl, st⟩
  · cases hv
    obtain ⟨k1, k2, k3⟩ := vx_keep h0 e1 hS hA hf hL hF
    obtain ⟨t2, a1, b1⟩ := kk r u t T'.heap (locs ++ L) e1.symm (by rw [← e2]; exact X'.warmed.alike) hp hb k1 k2 k3 T' rfl X'
    exact ⟨t2, st t2 a1, b1⟩
  · obtain ⟨k1, k2, k3⟩ := vx_keep h0 e1 hS hAX hf hL hF
    obtain ⟨t2, a1, b1⟩ := kx E ce q u t T'.heap (locs ++ L) e1.symm (by rw [← e2]; exact X'.warmed.alike) hp hb k1 k2 k3 (by rw [e1]; exact hce) hcv hcl T' rfl X'
    exact ⟨t2, st.trans a1, b1⟩
theorem vx_callv {S SX : Type} {post : S → Prop} {px : SX → Prop} {B : S → State → Prop} {BX : String → SX → State → Prop} {AX : Nat → Prop} (hr : vx_Run p l e R s m args below meth c H locs cells slots mc ms (F0 m pc ls st0) rest (va_Qv post B A1 a) (vx_X px BX AX) free) (hS : va_S A0 H0 H locs) (hA : ∀ q, q < H.size → A1 q → A0 q) (hf : ∀ q, free q → A0 q) (hAX : ∀ q, q < H.size → AX q → A0 q)
    (kx : ∀ (E : String) (ce : Cell) (q9 : Addr) (u : SX) (t : State) (H1 : Heap) (locs1 : List Loc), t.heap = H1 → s.vm.Alike t.vm → px u → BX E u t → H.size ≤ H1.size → (∀ q : Nat, q < H.size → ¬ AX q → H1[q]? = H[q]?) → va_S A0 H0 H1 locs1 → H1[q9]? = some ce → ce.vm = .none → s.vm.findClass E = some ce.cls → vx_W p l e R s m args below meth c H1 locs1 (cells + mc) (slots + ms) Q (F0 m pc ls rest) q9)
    (kk : ∀ (u : S) (t : State) (H1 : Heap) (locs1 : List Loc), t.heap = H1 → s.vm.Alike t.vm → post u → B u t → H.size ≤ H1.size → (∀ q : Nat, q < H.size → ¬ A1 q → H1[q]? = H[q]?) → va_S A0 H0 H1 locs1 → W p l e R s m args below meth c H1 locs1 (cells + mc) (slots + ms) Q (F0 m (pc + 3) ls (rest))) : W p l e R s m args below meth c H locs cells slots Q (F0 m pc ls st0) := by
  intro T hT X
  rcases hr T hT X with ⟨v, st₀, t, T', L, h0, X', hL, e1, e2, ⟨⟨u, hv, hp, hb⟩, hF⟩, st⟩ | ⟨q, st₀, t, T', L, E, ce, h0, X', hL, e1, e2, ⟨u, hp, hb, hF⟩, hce, hcv, hcl, st⟩
  · cases hv
    obtain ⟨k1, k2, k3⟩ := vx_keep h0 e1 hS hA hf hL hF
    obtain ⟨t2, a1, b1⟩ := kk u t T'.heap (locs ++ L) e1.symm (by rw [← e2]; exact X'.warmed.alike) hp hb k1 k2 k3 T' rfl X'
    exact ⟨t2, st t2 a1, b1⟩
  · obtain ⟨k1, k2, k3⟩ := vx_keep h0 e1 hS hAX hf hL hF
    obtain ⟨t2, a1, b1⟩ := kx E ce q u t T'.heap (locs ++ L) e1.symm (by rw [← e2]; exact X'.warmed.alike) hp hb k1 k2 k3 (by rw [e1]; exact hce) hcv hcl T' rfl X'
    exact ⟨t2, st.trans a1, b1⟩
/-- caught by the row x of this method's table; the rows ahead don't take it -/
theorem vx_catch {own name : String} {E : String} {ce : Cell} {q : Addr} (hown : s.vm.findClass own = some m.cls) (pre : List ExceptionTableEntry) (x : ExceptionTableEntry) (suf : List ExceptionTableEntry) (hsplit : c.exceptionTable.toList = pre ++ x :: suf)
    (hpass : ∀ z ∈ pre, covers z pc = false ∨ (z.catchType ≠ 0 ∧ ∃ nm : String, (Cond.classLink own z.catchType nm).before args s = true ∧ va_Nc E nm s)) (hx : covers x pc = true) (h0 : x.catchType ≠ 0)
    (hlink : (Cond.classLink own x.catchType name).before args s = true) (hcast : (Cond.castable E name).before args s = true) (hcell : H[q]? = some ce) (hv : ce.vm = .none) (hcl : s.vm.findClass E = some ce.cls)
    (kk : W p l e R s m args below meth c H locs cells slots Q (F0 m x.handlerPc ls [.ref q])) : vx_W p l e R s m args below meth c H locs cells slots Q (F0 m pc ls rest) q := by
  intro T hT X
  have hpl : e.platform.magicAccessors = ({} : Platform).magicAccessors := by rw [X.admits.platform]
  obtain ⟨c3, c4, hc3, hc4, hasg⟩ := Cond.castable_spec hcast
  cases Option.some.inj (hc3.symm.trans hcl)
  obtain ⟨c5, hc5, hcl5⟩ := Cond.classLink_spec hown hlink e.platform hpl
  cases Option.some.inj (hc4.symm.trans hc5)
  obtain ⟨vm', X', st⟩ := X.thenCaughtThrough q (g := F0 m pc ls rest) rfl (Steps.refl _) (by rw [hT]; exact hcell) (by rw [hv]; rfl) (by obtain ⟨k9, h9, -⟩ := Vm.findClass_spec hcl; exact ⟨k9, h9⟩) pre x suf hsplit
    (fun z hz => by
      rcases hpass z hz with h | ⟨hz0, nm, hl1, hn1⟩
      · exact Or.inl h
      · obtain ⟨c6, hc6, hcl6⟩ := Cond.classLink_spec hown hl1 e.platform hpl
        obtain ⟨a8, b8, h1, h2, h3⟩ := hn1
        cases Option.some.inj (h1.symm.trans hcl)
        cases Option.some.inj (h2.symm.trans hc6)
        exact Or.inr ⟨hz0, _, hcl6, h3⟩) hx (Or.inr ⟨h0, c4, hcl5, hasg⟩)
  obtain ⟨t, a1, b1⟩ := kk (T.setVm vm') hT X'
  exact ⟨t, st.trans a1, b1⟩
end Rows
section Ends
variable {p : Program} {l : Launch} {e : Env} {R : Room} {s : State} {m : MethodId} {args : Array Value} {below : List Frame} {meth : Method} {c : Code} {H : Heap} {locs : List Loc} {cells slots : Nat} {Q : State → Prop}
variable {mc ms : Nat} {free : Addr → Prop} {A0 A1 : Nat → Prop} {H0 : Heap} {a : Array Value} {ls : Array Slot} {st0 rest : List Value}
variable {Qc : Array Value → State → Outcome → State → Prop} {XC : String → State → State → Prop}
/-- what a body that may throw owes at its end -/
def vx_MQ (below : List Frame) (Qc : Array Value → State → Outcome → State → Prop) (XC : String → State → State → Prop) (a : Array Value) (s : State) (mc ms : Nat) (free : Addr → Prop) : State → Prop := fun t =>
  ∃ o, t.status = .running ∧ Ended t below o ∧ vx_Q Qc XC mc ms free a s o t
theorem vx_ret {g : JFrame} {mc ms : Nat} (k : W p l e R s m args below meth c H locs cells slots (MQ below Qc args s mc ms free) g) : W p l e R s m args below meth c H locs cells slots (vx_MQ below Qc XC args s mc ms free) g := by
  intro T hT X
  obtain ⟨t, a1, o, b1, b2, b3, b4⟩ := k T hT X
  exact ⟨t, a1, o, b1, b2, Or.inl ⟨b3, b4⟩⟩
/-- not caught here: it goes on to the caller -/
theorem vx_widen {g : JFrame} {q : Addr} {k n : Nat} (h1 : cells ≤ k) (h2 : slots ≤ n) (kk : vx_W p l e R s m args below meth c H locs k n Q g q) : vx_W p l e R s m args below meth c H locs cells slots Q g q := fun T hT X => kk T hT (stand_widen X h1 h2)
theorem vx_out {pc : Nat} {E : String} {ce : Cell} {q : Addr} {mc ms : Nat} (hout : ∀ x ∈ c.exceptionTable.toList, covers x pc = false) (hlocks : meth.locks = false) (hcell : H[q]? = some ce) (hv : ce.vm = .none) (hcl : s.vm.findClass E = some ce.cls)
    (hx : ∀ t : State, t.heap = H → s.vm.Alike t.vm → XC E s t) (hf : ∀ z ∈ locs, free z.base) (hc : cells ≤ mc) (hs : slots ≤ ms) :
    vx_W p l e R s m args below meth c H locs cells slots (vx_MQ below Qc XC args s mc ms free) (F0 m pc ls rest) q := by
  intro T hT X
  obtain ⟨st1, hrun, hend, hW, hsm⟩ := X.leaveThrown q (g := F0 m pc ls rest) rfl rfl rfl hout hlocks
  have hcell9 : (T.setFrames (.throwing q :: below)).heap[q]? = some ce := by
    show T.heap[q]? = some ce
    rw [hT]; exact hcell
  exact ⟨_, st1, .threw q, hrun, hend, Or.inr ⟨q, rfl, E, ce, locs, hx _ hT hW.alike, hcell9, hv, hcl, hW, hsm.mono hc hs, hf⟩⟩
theorem vx_frame {U : State} {k n : Nat} (h : s.sameButNew ({ U with vm := s.vm } : State) locs k n) : s.heap.size ≤ U.heap.size ∧ ∀ q : Nat, q < s.heap.size → (∀ z ∈ locs, z.base ≠ q) → U.heap[q]? = s.heap[q]? := by
  obtain ⟨-, h2, -, -, -, h6⟩ := h
  refine ⟨h2, fun q hq hz => ?_⟩
  obtain ⟨c9, e1, e2, e3, e4⟩ := h6 q _ (Array.getElem?_eq_getElem hq)
  have hs : c9.slots = (s.heap[q]).slots := Array.ext_getElem? fun i => e4 i fun hm => hz _ hm rfl
  have h9 : c9 = s.heap[q] := by
    rw [hs] at e2
    exact e2
  have e5 : U.heap[q]? = some c9 := e1
  rw [e5, h9, Array.getElem?_eq_getElem hq]
/-- the words of a throw but the four that speak of the heap -/
def vx_no (w : Cond) : Bool := decide (w ≠ .isRef (.static Bundle.tN "UNASSIGNED_STACK" Bundle.steD)) && decide (w ≠ .isRef (.static Bundle.tN "SUPPRESSED_SENTINEL" Bundle.listD)) && decide (w ≠ .laysStatic Bundle.tN "UNASSIGNED_STACK" Bundle.steD) && decide (w ≠ .laysStatic Bundle.tN "SUPPRESSED_SENTINEL" Bundle.listD)
def vx_at0 (own : String) (ic : Nat) (X : String) (names : List String) : List Cond := (Bundle.ownAtoms0 own ic X names).filter vx_no
def vx_atS (own : String) (ic : Nat) (X : String) (names : List String) : List Cond := (Bundle.ownAtoms own ic X names).filter vx_no
/-- a word that the tables alone decide, or a good one -/
def vx_ot (w : Cond) : Bool := w.onTables || goodWord w
theorem vx_ot_at {args a' : Array Value} {s U : State} {w : Cond} (hW : s.WarmedH U.vm) (hvm : s.vm = U.vm) (hg : vx_ot w = true) (h : w.before args s = true) : w.before a' U = true := by
  simp only [vx_ot, Bool.or_eq_true] at hg
  rcases hg with hg | hg
  · exact va_tabs hg hvm h
  · exact word_at hW (good_of_word hg) h
/-- a list's words: the good ones out of the method's own list, the others by premises of their own -/
theorem vx_hat {args : Array Value} {s : State} {L B : List Cond} (h1 : ∀ w ∈ L.filter goodWord, w.before args s = true) (h2 : ∀ w ∈ L.filter (fun w => !goodWord w), w ∈ B) (h3 : ∀ w ∈ B, w.before args s = true) : ∀ w ∈ L, w.before args s = true := by
  intro w hw
  by_cases g : goodWord w = true
  · exact h1 w (List.mem_filter.mpr ⟨hw, g⟩)
  · refine h3 w (h2 w (List.mem_filter.mpr ⟨hw, ?_⟩))
    show (!goodWord w) = true
    cases hgw : goodWord w
    · rfl
    · exact absurd hgw g
theorem vx_c {args : Array Value} {s : State} {w : Cond} {B : List Cond} (h : w.before args s = true) (t : ∀ w ∈ B, w.before args s = true) : ∀ w' ∈ w :: B, w'.before args s = true := fun w' h' => (List.mem_cons.mp h').elim (fun e => by rw [e]; exact h) (t w')
theorem vx_n {args : Array Value} {s : State} : ∀ w ∈ ([] : List Cond), w.before args s = true := fun _ h => nomatch h
theorem vx_own {args : Array Value} {s : State} {L : List Cond} (h1 : ∀ w ∈ L.filter vx_no, w.before args s = true)
    (hU : (Cond.isRef (.static Bundle.tN "UNASSIGNED_STACK" Bundle.steD)).before args s = true) (hN : (Cond.isRef (.static Bundle.tN "SUPPRESSED_SENTINEL" Bundle.listD)).before args s = true)
    (lU : (Cond.laysStatic Bundle.tN "UNASSIGNED_STACK" Bundle.steD).before args s = true) (lN : (Cond.laysStatic Bundle.tN "SUPPRESSED_SENTINEL" Bundle.listD).before args s = true) : ∀ w ∈ L, w.before args s = true := by
  intro w hw
  by_cases e1 : w = .isRef (.static Bundle.tN "UNASSIGNED_STACK" Bundle.steD)
  · rw [e1]; exact hU
  · by_cases e2 : w = .isRef (.static Bundle.tN "SUPPRESSED_SENTINEL" Bundle.listD)
    · rw [e2]; exact hN
    · by_cases e3 : w = .laysStatic Bundle.tN "UNASSIGNED_STACK" Bundle.steD
      · rw [e3]; exact lU
      · by_cases e4 : w = .laysStatic Bundle.tN "SUPPRESSED_SENTINEL" Bundle.listD
        · rw [e4]; exact lN
        · exact h1 w (List.mem_filter.mpr ⟨hw, by unfold vx_no; rw [decide_eq_true e1, decide_eq_true e2, decide_eq_true e3, decide_eq_true e4]; rfl⟩)
/-- where a static field lies, its class's statics cell in H -/
def vx_L (C n d : String) (A : Nat → Prop) (U : State) (H : Heap) : Prop := ∃ (c : ClassId) (k : Class) (i : Nat) (f : Field) (a : Nat) (cell : Cell), U.vm.findClass C = some c ∧ U.fieldFound? C n d = some (c, k, i, f) ∧ f.isStatic = true ∧ k.statics = some a ∧ H[a]? = some cell ∧ cell.vm.isStatics = true ∧ cell.cls = c ∧ f.slot < cell.slots.size ∧ k.staticTypes[f.slot]? = some f.type ∧ ¬ A a
theorem vx_L.moved {C n d : String} {A : Nat → Prop} {u U : State} {H : Heap} (hvm : u.vm.Alike U.vm) (h : vx_L C n d A u H) : vx_L C n d A U H := by
  obtain ⟨c, k, i, f, a, cell, h1, h2, h3, h4, h5, h6, h7, h8, h9, h10⟩ := h
  obtain ⟨k', hi', he⟩ := State.fieldFound?_setVm hvm h2
  exact ⟨c, k', i, f, a, cell, by rw [hvm.findClass]; exact h1, hi', h3, by rw [he]; exact h4, h5, h6, h7, h8, by rw [he]; exact h9, h10⟩
theorem vx_L.kept {C n d : String} {A : Nat → Prop} {U : State} {H H1 : Heap} (h : vx_L C n d A U H) (hq : ∀ a : Nat, a < H.size → ¬ A a → H1[a]? = H[a]?) : vx_L C n d A U H1 := by
  obtain ⟨c, k, i, f, a, cell, h1, h2, h3, h4, h5, h6, h7, h8, h9, h10⟩ := h
  exact ⟨c, k, i, f, a, cell, h1, h2, h3, h4, by rw [hq a (Array.getElem?_eq_some_iff.mp h5).1 h10]; exact h5, h6, h7, h8, h9, h10⟩
theorem vx_L.narrow {C n d : String} {A B : Nat → Prop} {U : State} {H : Heap} (h : vx_L C n d A U H) (hAB : ∀ q, B q → A q) : vx_L C n d B U H := by
  obtain ⟨c, k, i, f, a, cell, h1, h2, h3, h4, h5, h6, h7, h8, h9, h10⟩ := h
  exact ⟨c, k, i, f, a, cell, h1, h2, h3, h4, h5, h6, h7, h8, h9, fun z => h10 (hAB _ z)⟩
theorem vx_L.word {C n d : String} {A : Nat → Prop} {s : State} {args : Array Value} (h : vx_L C n d A s s.heap) : (Cond.laysStatic C n d).before args s = true := by
  obtain ⟨c, k, i, f, a, cell, h1, h2, h3, h4, h5, h6, h7, h8, h9, -⟩ := h
  show (Cond.laysStatic C n d).holds args s none s [] = true
  exact Cond.laysStatic_of h1 h2 h3 h4 h5 h6 h7 h8 h9
/-- .. and what it holds: null or some reference -/
def vx_Zq (C n d : String) (A : Nat → Prop) (U : State) (H : Heap) : Prop := va_Zq C n d A U H ∧ vx_L C n d A U H
theorem vx_Zq.moved {C n d : String} {A : Nat → Prop} {u U : State} {H : Heap} (hvm : u.vm.Alike U.vm) (h : vx_Zq C n d A u H) : vx_Zq C n d A U H := ⟨va_Zq.moved hvm h.1, vx_L.moved hvm h.2⟩
theorem vx_Zq.kept {C n d : String} {A : Nat → Prop} {U : State} {H H1 : Heap} (h : vx_Zq C n d A U H) (hq : ∀ a : Nat, a < H.size → ¬ A a → H1[a]? = H[a]?) : vx_Zq C n d A U H1 := ⟨va_Zq.kept h.1 hq, vx_L.kept h.2 hq⟩
theorem vx_Zq.narrow {C n d : String} {A B : Nat → Prop} {U : State} {H : Heap} (h : vx_Zq C n d A U H) (hAB : ∀ q, B q → A q) : vx_Zq C n d B U H := ⟨va_Zq.narrow h.1 hAB, vx_L.narrow h.2 hAB⟩
theorem vx_Zqof {args : Array Value} {s : State} {C n d : String} {A : Nat → Prop} (hl : (Cond.laysStatic C n d).before args s = true) (hini : (Cond.initialized C).before args s = true) (h : (Cond.isRef (.static C n d)).before args s = true) (hA : ∀ a : Nat, a < s.heap.size → ¬ A a) : vx_Zq C n d A s s.heap := by
  refine ⟨va_Zqof hl hini h hA, ?_⟩
  obtain ⟨c, k, i, f, a, cell, h1, h2, h3, h4, h5, h6, h7, h8, h9⟩ := Cond.laysStatic_spec hl
  exact ⟨c, k, i, f, a, cell, h1, h2, h3, h4, h5, h6, h7, h8, h9, hA a (Array.getElem?_eq_some_iff.mp h5).1⟩
theorem vx_isRef {C n d : String} {v : Value} {A : Nat → Prop} {s : State} {args : Array Value} (h : va_Z C n d v A s s.heap) (hv : v.isRef = true) : (Cond.isRef (.static C n d)).before args s = true := by
  obtain ⟨cf, kf, fi, f, a, cell, h1, h2, h3, h4, h5, h6, h7, -⟩ := h
  have he : (Term.static C n d).eval args s none [] s = some v := by
    simp [Term.eval, State.fieldNamed?, h1, h2, h4, h5, h6, h7]
  simp only [Cond.before, Cond.holds, Cond.value, he]
  cases v <;> simp_all [Value.isRef]
theorem vx_isRefq {C n d : String} {A : Nat → Prop} {s : State} {args : Array Value} (h : va_Zq C n d A s s.heap) : (Cond.isRef (.static C n d)).before args s = true := by
  rcases h with h | ⟨t, h⟩
  · exact vx_isRef h rfl
  · exact vx_isRef h rfl
/-- the same frame, seen from here: as if the method were called anew in this heap -/
theorem vx_rebase {T : State} (X : Stand p l e R s m args below meth c T locs cells slots) {R' : Room} (hf : R'.frames ≤ R.frames) (hl : R'.locals ≤ R.locals) (hc : cells + R'.cells ≤ R.cells) (hs : slots + R'.slots ≤ R.slots) :
    Stand p l e R' ((T.setVm s.vm).setFrames (.invoking m args :: below)) m args below meth c T [] 0 0 := by
  have htop : (T.setVm s.vm).topJava?.isSome := X.here.top
  have hF : ((T.setVm s.vm).setFrames (.invoking m args :: below)).frames = .invoking m args :: below := State.frames_setFrames _ (State.cur_lt_of_top htop)
  obtain ⟨g₀, hg0⟩ := Option.isSome_iff_exists.mp htop
  obtain ⟨r, hr⟩ := State.topJava?_eq_some.mp hg0
  have hl9 : e.platform.stackLimits (T.setVm s.vm).me = e.platform.stackLimits s.me := X.limits
  have hb9 : (T.setVm s.vm).me.stackBytes = s.me.stackBytes := X.bytes
  refine ⟨X.admits, X.cas, X.clock, hF, ?_, X.hears, X.method, X.code, X.here, X.tail, X.warmed, ?_, ?_, ?_⟩
  · have h := X.room
    have hU : ((T.setVm s.vm).setFrames (.invoking m args :: below)).localsInUse = s.localsInUse := by
      rw [State.localsInUse_invoking hF (meth := meth) (c := c) X.method X.code, State.localsInUse_invoking X.frames X.method X.code]
    simp only [State.hasRoom, Bool.and_eq_true, decide_eq_true_eq] at h ⊢
    obtain ⟨⟨⟨⟨h1, h2, h3, h4, h5, h6⟩, h7⟩, h8⟩, h9⟩ := h
    rw [X.frames, List.length_cons] at h2 h3
    have q1 := X.heapSize
    have q2 := X.used
    simp only [hF, hU, List.length_cons, State.stackLimits_setFrames, State.stackBytes_setFrames, hl9, hb9]
    refine ⟨⟨⟨⟨by omega, by omega, by omega, by omega, by omega, h6⟩, ?_⟩, ?_⟩, X.book⟩
    · show T.heap.size + R'.cells ≤ e.platform.maxCells
      omega
    · show T.slotsUsed + R'.slots ≤ e.platform.maxSlots
      omega
  · rw [State.stackLimits_setFrames]; rfl
  · rw [State.stackBytes_setFrames]; rfl
  · refine ⟨?_, Nat.le_refl _, Nat.le_refl _, ?_, ?_, fun a c9 h9 => ⟨c9, h9, rfl, rfl, fun _ _ => rfl⟩⟩
    · obtain ⟨t, ht, -⟩ := State.frames_cons hr
      show T.setVm s.vm = { ((T.setVm s.vm).setFrames (.invoking m args :: below)).setFrames (T.setVm s.vm).frames with heap := T.heap, slotsUsed := T.slotsUsed }
      rw [State.setFrames_setFrames, State.setFrames_self ht]
      rfl
    · show T.slotsUsed = T.slotsUsed + ((T.heap.toList.drop T.heap.size).map (·.slots.size)).sum
      rw [List.drop_eq_nil_of_le (Nat.le_of_eq Array.length_toList)]
      rfl
    · show ((T.heap.toList.drop T.heap.size).map (·.slots.size)).sum ≤ 0
      rw [List.drop_eq_nil_of_le (Nat.le_of_eq Array.length_toList)]
      exact Nat.le_refl _
/-- 'throw new E()': new; dup; invokespecial; athrow -/
theorem vx_throw0 {cc : ByteArray} {pc : Nat} (hexec : p.tables.exec = Jvm.exec) (hb : c.code = cc) (hl : l.stackTraces = false) {own cls : String} {names : List String} {ik ic mc ms : Nat} {A : Nat → Prop}
    (hown : s.vm.findClass own = some m.cls) (hcls : Bundle.fit cls = true) (hnames : ∀ n ∈ names, Bundle.fit n = true)
    (hk : (Cond.classLink own ik cls).before args s = true) (hini : (Cond.initialized cls).before args s = true) (hat : ∀ w ∈ vx_at0 own ic cls names, w.before args s = true)
    (hgood : ∀ w ∈ Cond.classLink own ik cls :: Cond.initialized cls :: vx_at0 own ic cls names, vx_ot w = true)
    (hU : vx_Zq Bundle.tN "UNASSIGNED_STACK" Bundle.steD A s s.heap) (hN : vx_Zq Bundle.tN "SUPPRESSED_SENTINEL" Bundle.listD A s s.heap) (hS : va_S A s.heap H locs) (hsize : ls.size = c.maxLocals)
    (d0 : decode cc pc = .ok (.new ik, 3)) (d3 : decode cc (pc + 3) = .ok (.dup, 1)) (d4 : decode cc (pc + 4) = .ok (.invokespecial ic, 3)) (d7 : decode cc (pc + 7) = .ok (.athrow, 1))
    (hout : ∀ x ∈ c.exceptionTable.toList, covers x (pc + 7) = false)
    (hRframes : names.length + 3 < R.frames) (hRlocals : (rest.map fun v => v.category).sum + (13 * (names.length + 1) + 42) ≤ R.locals) (hRcells : cells + 1 ≤ R.cells) (hRslots : slots + 6 ≤ R.slots) (hlocks : meth.locks = false)
    (hx : ∀ t : State, s.vm.Alike t.vm → H.size ≤ t.heap.size → (∀ q : Nat, q < H.size → t.heap[q]? = H[q]?) → XC cls s t)
    (hf : ∀ z ∈ locs, free z.base) (hc : cells + 1 ≤ mc) (hs : slots + 6 ≤ ms) :
    W p l e R s m args below meth c H locs cells slots (vx_MQ below Qc XC args s mc ms free) (F0 m pc ls rest) := by
  intro T hT X
  have htr : e.platform.stackTraces = false := (show e.platform.stackTraces = l.stackTraces by rw [X.admits.platform]).trans hl
  have Y := vx_rebase X (R' := { frames := R.frames, locals := R.locals, cells := 1, slots := 6 }) (Nat.le_refl _) (Nat.le_refl _) hRcells hRslots
  obtain ⟨s', hA⟩ : ∃ z, z = (T.setVm s.vm).setFrames (.invoking m args :: below) := ⟨_, rfl⟩
  rw [← hA] at Y
  have hvm : s'.vm = s.vm := by rw [hA]; rfl
  have hhp : s'.heap = H := by rw [hA]; exact hT
  have hW0 : s.WarmedH s'.vm := by rw [hvm]; exact State.WarmedH.refl s
  have hat' : ∀ w ∈ vx_at0 own ic cls names, w.before args s' = true := fun w hw => vx_ot_at hW0 hvm.symm (hgood w (List.mem_cons_of_mem _ (List.mem_cons_of_mem _ hw))) (hat w hw)
  have hk' : (Cond.classLink own ik cls).before args s' = true := vx_ot_at hW0 hvm.symm (hgood _ List.mem_cons_self) hk
  have hini' : (Cond.initialized cls).before args s' = true := vx_ot_at hW0 hvm.symm (hgood _ (List.mem_cons_of_mem _ List.mem_cons_self)) hini
  have hU' : vx_Zq Bundle.tN "UNASSIGNED_STACK" Bundle.steD A s' s'.heap := by rw [hhp]; exact vx_Zq.moved hW0.alike (hU.kept hS.2.1)
  have hN' : vx_Zq Bundle.tN "SUPPRESSED_SENTINEL" Bundle.listD A s' s'.heap := by rw [hhp]; exact vx_Zq.moved hW0.alike (hN.kept hS.2.1)
  have h : ∀ w ∈ Bundle.ownAtoms0 own ic cls names, w.before args s' = true := vx_own hat' (vx_isRefq hU'.1) (vx_isRefq hN'.1) hU'.2.word hN'.2.word
  have hown' : s'.vm.findClass own = some m.cls := by rw [hvm]; exact hown
  have hins : (Cond.instantiable cls 6).before args s' = true := h _ (by simp [Bundle.ownAtoms0])
  obtain ⟨vm₁, cX, kX, hfX, hkX, -, -, X₁, st1⟩ := Y.newCold hexec (own := own) (C := cls) (index := ik) (n := 6) hown' hk' hins hini'
    (g := F0 m pc ls rest) rfl (by rw [hb]; exact d0) (Nat.le_refl _) (Nat.le_refl _)
  generalize hT1 : (T.setVm vm₁).pushCell { cls := cX, slots := kX.instanceTypes.map defaultValue, vm := .none } = T1 at X₁ st1
  have hcat : (Value.ref T.heap.size).category = 1 := rfl
  have hcellA : T1.heap[T.heap.size]? = some (freshCell cX kX) := by rw [← hT1]; exact State.heap_pushCell_size _ _
  have d3' : decode c.code (pc + 3) = .ok (.dup, 1) := by rw [hb]; exact d3
  obtain ⟨U, hsteps, hrun, hend, hW, hsame, ce, hce, hO⟩ := X₁.ctorThrow0 hexec htr (own := own) (cls := cls) (names := names) (ic := ic) hown' hcls hnames h (fun x hx => nomatch hx) hfX hkX hcellA (by rw [hhp, hT]; exact Nat.le_refl _)
    (g := { method := m, pc := pc + 4, locals := ls, stack := .ref T.heap.size :: .ref T.heap.size :: rest, locked := none }) rfl hsize rfl rfl (rest := rest) rfl
    (by rw [hb]; exact d4) (by rw [hb]; exact d7) hout hRframes (by simp only [List.map_cons, List.sum_cons, hcat]; omega) hlocks
  obtain ⟨f1, f2⟩ := vx_frame hsame
  rw [hhp] at f1 f2
  have hWs : s.WarmedH U.vm := State.WarmedH.trans hW0 hW
  have hcl : s.vm.findClass cls = some ce.cls := by
    have h9 := hO.cls
    rw [hvm] at h9
    exact h9
  have hall : s.sameButNew ({ U with vm := s.vm } : State) locs mc ms := by
    subst hA
    obtain ⟨e1, e2⟩ := hsame
    rw [State.setFrames_setFrames] at e1
    have h2 : (T.setVm s.vm).sameButNew ({ U with vm := s.vm } : State) [] (0 + 1) (0 + 6) := ⟨e1, e2⟩
    have h3 := X.same.trans h2
    rw [List.append_nil] at h3
    exact h3.mono hc hs
  refine ⟨U, ?_, .threw T.heap.size, hrun, hend, Or.inr ⟨T.heap.size, rfl, cls, ce, locs, hx U hWs.alike f1 (fun q hq => f2 q hq (fun z hz => nomatch hz)), hce, hO.vm, hcl, hWs, hall, hf⟩⟩
  refine st1 _ ?_
  show Steps p.tables e below (T1.setTop { method := m, pc := pc + 3, locals := ls, stack := .ref T.heap.size :: rest, locked := none }) _
  jvm_step X₁.here [X₁.here.top, hexec, d3', Value.category]
  exact hsteps
/-- 'throw new E("text")': new; dup; ldc; invokespecial; athrow -/
theorem vx_throwS {cc : ByteArray} {pc : Nat} (hexec : p.tables.exec = Jvm.exec) (hb : c.code = cc) (hl : l.stackTraces = false) {own cls text : String} {names : List String} {ik is ic mc ms sa : Nat} {A : Nat → Prop}
    (hown : s.vm.findClass own = some m.cls) (hcls : Bundle.fit cls = true) (hnames : ∀ n ∈ names, Bundle.fit n = true)
    (hk : (Cond.classLink own ik cls).before args s = true) (hini : (Cond.initialized cls).before args s = true) (hstr : vk_R own is text sa s) (hat : ∀ w ∈ vx_atS own ic cls names, w.before args s = true)
    (hgood : ∀ w ∈ Cond.classLink own ik cls :: Cond.initialized cls :: vx_atS own ic cls names, vx_ot w = true)
    (hU : vx_Zq Bundle.tN "UNASSIGNED_STACK" Bundle.steD A s s.heap) (hN : vx_Zq Bundle.tN "SUPPRESSED_SENTINEL" Bundle.listD A s s.heap) (hS : va_S A s.heap H locs) (hsize : ls.size = c.maxLocals)
    (d0 : decode cc pc = .ok (.new ik, 3)) (d3 : decode cc (pc + 3) = .ok (.dup, 1)) (d4 : decode cc (pc + 4) = .ok (.ldc is, 2)) (d6 : decode cc (pc + 6) = .ok (.invokespecial ic, 3)) (d9 : decode cc (pc + 9) = .ok (.athrow, 1))
    (hout : ∀ x ∈ c.exceptionTable.toList, covers x (pc + 9) = false)
    (hRframes : names.length + 3 < R.frames) (hRlocals : (rest.map fun v => v.category).sum + (13 * (names.length + 1) + 43) ≤ R.locals) (hRcells : cells + 1 ≤ R.cells) (hRslots : slots + 6 ≤ R.slots) (hlocks : meth.locks = false)
    (hx : ∀ t : State, s.vm.Alike t.vm → H.size ≤ t.heap.size → (∀ q : Nat, q < H.size → t.heap[q]? = H[q]?) → XC cls s t)
    (hf : ∀ z ∈ locs, free z.base) (hc : cells + 1 ≤ mc) (hs : slots + 6 ≤ ms) :
    W p l e R s m args below meth c H locs cells slots (vx_MQ below Qc XC args s mc ms free) (F0 m pc ls rest) := by
  intro T hT X
  have htr : e.platform.stackTraces = false := (show e.platform.stackTraces = l.stackTraces by rw [X.admits.platform]).trans hl
  have Y := vx_rebase X (R' := { frames := R.frames, locals := R.locals, cells := 1, slots := 6 }) (Nat.le_refl _) (Nat.le_refl _) hRcells hRslots
  obtain ⟨s', hA⟩ : ∃ z, z = (T.setVm s.vm).setFrames (.invoking m args :: below) := ⟨_, rfl⟩
  rw [← hA] at Y
  have hvm : s'.vm = s.vm := by rw [hA]; rfl
  have hhp : s'.heap = H := by rw [hA]; exact hT
  have hW0 : s.WarmedH s'.vm := by rw [hvm]; exact State.WarmedH.refl s
  have hat' : ∀ w ∈ vx_atS own ic cls names, w.before args s' = true := fun w hw => vx_ot_at hW0 hvm.symm (hgood w (List.mem_cons_of_mem _ (List.mem_cons_of_mem _ hw))) (hat w hw)
  have hk' : (Cond.classLink own ik cls).before args s' = true := vx_ot_at hW0 hvm.symm (hgood _ List.mem_cons_self) hk
  have hini' : (Cond.initialized cls).before args s' = true := vx_ot_at hW0 hvm.symm (hgood _ (List.mem_cons_of_mem _ List.mem_cons_self)) hini
  have hU' : vx_Zq Bundle.tN "UNASSIGNED_STACK" Bundle.steD A s' s'.heap := by rw [hhp]; exact vx_Zq.moved hW0.alike (hU.kept hS.2.1)
  have hN' : vx_Zq Bundle.tN "SUPPRESSED_SENTINEL" Bundle.listD A s' s'.heap := by rw [hhp]; exact vx_Zq.moved hW0.alike (hN.kept hS.2.1)
  have h : ∀ w ∈ Bundle.ownAtoms own ic cls names, w.before args s' = true := vx_own hat' (vx_isRefq hU'.1) (vx_isRefq hN'.1) hU'.2.word hN'.2.word
  have hown' : s'.vm.findClass own = some m.cls := by rw [hvm]; exact hown
  have hins : (Cond.instantiable cls 6).before args s' = true := h _ (by simp [Bundle.ownAtoms])
  obtain ⟨vm₁, cX, kX, hfX, hkX, -, -, X₁, st1⟩ := Y.newCold hexec (own := own) (C := cls) (index := ik) (n := 6) hown' hk' hins hini'
    (g := F0 m pc ls rest) rfl (by rw [hb]; exact d0) (Nat.le_refl _) (Nat.le_refl _)
  generalize hT1 : (T.setVm vm₁).pushCell { cls := cX, slots := kX.instanceTypes.map defaultValue, vm := .none } = T1 at X₁ st1
  have hcat : (Value.ref T.heap.size).category = 1 := rfl
  have hcellA : T1.heap[T.heap.size]? = some (freshCell cX kX) := by rw [← hT1]; exact State.heap_pushCell_size _ _
  have d3' : decode c.code (pc + 3) = .ok (.dup, 1) := by rw [hb]; exact d3
  have d4' : decode c.code (pc + 4) = .ok (.ldc is, 2) := by rw [hb]; exact d4
  have hstr' : vk_R own is text sa s' := vk_R.warm hW0 hstr
  obtain ⟨U, hsteps, hrun, hend, hW, hsame, ce, hce, hO⟩ := X₁.ctorThrowS hexec htr (own := own) (cls := cls) (names := names) (ic := ic) hown' hcls hnames h (fun x hx => nomatch hx) hfX hkX hcellA (by rw [hhp, hT]; exact Nat.le_refl _) (msg := .ref sa) rfl
    (g := { method := m, pc := pc + 6, locals := ls, stack := .ref sa :: .ref T.heap.size :: .ref T.heap.size :: rest, locked := none }) rfl hsize rfl rfl (rest := rest) rfl
    (by rw [hb]; exact d6) (by rw [hb]; exact d9) hout hRframes (by simp only [List.map_cons, List.sum_cons, hcat]; omega) hlocks
  obtain ⟨f1, f2⟩ := vx_frame hsame
  rw [hhp] at f1 f2
  have hWs : s.WarmedH U.vm := State.WarmedH.trans hW0 hW
  have hcl : s.vm.findClass cls = some ce.cls := by
    have h9 := hO.cls
    rw [hvm] at h9
    exact h9
  have hall : s.sameButNew ({ U with vm := s.vm } : State) locs mc ms := by
    subst hA
    obtain ⟨e1, e2⟩ := hsame
    rw [State.setFrames_setFrames] at e1
    have h2 : (T.setVm s.vm).sameButNew ({ U with vm := s.vm } : State) [] (0 + 1) (0 + 6) := ⟨e1, e2⟩
    have h3 := X.same.trans h2
    rw [List.append_nil] at h3
    exact h3.mono hc hs
  refine ⟨U, ?_, .threw T.heap.size, hrun, hend, Or.inr ⟨T.heap.size, rfl, cls, ce, locs, hx U hWs.alike f1 (fun q hq => f2 q hq (fun z hz => nomatch hz)), hce, hO.vm, hcl, hWs, hall, hf⟩⟩
  refine st1 _ ?_
  show Steps p.tables e below (T1.setTop { method := m, pc := pc + 3, locals := ls, stack := .ref T.heap.size :: rest, locked := none }) _
  jvm_step X₁.here [X₁.here.top, hexec, d3', Value.category]
  exact X₁.ldcString hexec (own := own) (text := text) (index := is) (a := sa) hown' hstr'.1 hstr'.2
    (g := { method := m, pc := pc + 4, locals := ls, stack := .ref T.heap.size :: .ref T.heap.size :: rest, locked := none }) rfl d4' _ hsteps
/-- 'throw new E("text")', the text by a wide index -/
theorem vx_throwSW {cc : ByteArray} {pc : Nat} (hexec : p.tables.exec = Jvm.exec) (hb : c.code = cc) (hl : l.stackTraces = false) {own cls text : String} {names : List String} {ik is ic mc ms sa : Nat} {A : Nat → Prop}
    (hown : s.vm.findClass own = some m.cls) (hcls : Bundle.fit cls = true) (hnames : ∀ n ∈ names, Bundle.fit n = true)
    (hk : (Cond.classLink own ik cls).before args s = true) (hini : (Cond.initialized cls).before args s = true) (hstr : vk_R own is text sa s) (hat : ∀ w ∈ vx_atS own ic cls names, w.before args s = true)
    (hgood : ∀ w ∈ Cond.classLink own ik cls :: Cond.initialized cls :: vx_atS own ic cls names, vx_ot w = true)
    (hU : vx_Zq Bundle.tN "UNASSIGNED_STACK" Bundle.steD A s s.heap) (hN : vx_Zq Bundle.tN "SUPPRESSED_SENTINEL" Bundle.listD A s s.heap) (hS : va_S A s.heap H locs) (hsize : ls.size = c.maxLocals)
    (d0 : decode cc pc = .ok (.new ik, 3)) (d3 : decode cc (pc + 3) = .ok (.dup, 1)) (d4 : decode cc (pc + 4) = .ok (.ldc_w is, 3)) (d7 : decode cc (pc + 7) = .ok (.invokespecial ic, 3)) (d10 : decode cc (pc + 10) = .ok (.athrow, 1))
    (hout : ∀ x ∈ c.exceptionTable.toList, covers x (pc + 10) = false)
    (hRframes : names.length + 3 < R.frames) (hRlocals : (rest.map fun v => v.category).sum + (13 * (names.length + 1) + 43) ≤ R.locals) (hRcells : cells + 1 ≤ R.cells) (hRslots : slots + 6 ≤ R.slots) (hlocks : meth.locks = false)
    (hx : ∀ t : State, s.vm.Alike t.vm → H.size ≤ t.heap.size → (∀ q : Nat, q < H.size → t.heap[q]? = H[q]?) → XC cls s t)
    (hf : ∀ z ∈ locs, free z.base) (hc : cells + 1 ≤ mc) (hs : slots + 6 ≤ ms) :
    W p l e R s m args below meth c H locs cells slots (vx_MQ below Qc XC args s mc ms free) (F0 m pc ls rest) := by
  intro T hT X
  have htr : e.platform.stackTraces = false := (show e.platform.stackTraces = l.stackTraces by rw [X.admits.platform]).trans hl
  have Y := vx_rebase X (R' := { frames := R.frames, locals := R.locals, cells := 1, slots := 6 }) (Nat.le_refl _) (Nat.le_refl _) hRcells hRslots
  obtain ⟨s', hA⟩ : ∃ z, z = (T.setVm s.vm).setFrames (.invoking m args :: below) := ⟨_, rfl⟩
  rw [← hA] at Y
  have hvm : s'.vm = s.vm := by rw [hA]; rfl
  have hhp : s'.heap = H := by rw [hA]; exact hT
  have hW0 : s.WarmedH s'.vm := by rw [hvm]; exact State.WarmedH.refl s
  have hat' : ∀ w ∈ vx_atS own ic cls names, w.before args s' = true := fun w hw => vx_ot_at hW0 hvm.symm (hgood w (List.mem_cons_of_mem _ (List.mem_cons_of_mem _ hw))) (hat w hw)
  have hk' : (Cond.classLink own ik cls).before args s' = true := vx_ot_at hW0 hvm.symm (hgood _ List.mem_cons_self) hk
  have hini' : (Cond.initialized cls).before args s' = true := vx_ot_at hW0 hvm.symm (hgood _ (List.mem_cons_of_mem _ List.mem_cons_self)) hini
  have hU' : vx_Zq Bundle.tN "UNASSIGNED_STACK" Bundle.steD A s' s'.heap := by rw [hhp]; exact vx_Zq.moved hW0.alike (hU.kept hS.2.1)
  have hN' : vx_Zq Bundle.tN "SUPPRESSED_SENTINEL" Bundle.listD A s' s'.heap := by rw [hhp]; exact vx_Zq.moved hW0.alike (hN.kept hS.2.1)
  have h : ∀ w ∈ Bundle.ownAtoms own ic cls names, w.before args s' = true := vx_own hat' (vx_isRefq hU'.1) (vx_isRefq hN'.1) hU'.2.word hN'.2.word
  have hown' : s'.vm.findClass own = some m.cls := by rw [hvm]; exact hown
  have hins : (Cond.instantiable cls 6).before args s' = true := h _ (by simp [Bundle.ownAtoms])
  obtain ⟨vm₁, cX, kX, hfX, hkX, -, -, X₁, st1⟩ := Y.newCold hexec (own := own) (C := cls) (index := ik) (n := 6) hown' hk' hins hini'
    (g := F0 m pc ls rest) rfl (by rw [hb]; exact d0) (Nat.le_refl _) (Nat.le_refl _)
  generalize hT1 : (T.setVm vm₁).pushCell { cls := cX, slots := kX.instanceTypes.map defaultValue, vm := .none } = T1 at X₁ st1
  have hcat : (Value.ref T.heap.size).category = 1 := rfl
  have hcellA : T1.heap[T.heap.size]? = some (freshCell cX kX) := by rw [← hT1]; exact State.heap_pushCell_size _ _
  have d3' : decode c.code (pc + 3) = .ok (.dup, 1) := by rw [hb]; exact d3
  have d4' : decode c.code (pc + 4) = .ok (.ldc_w is, 3) := by rw [hb]; exact d4
  have hstr' : vk_R own is text sa s' := vk_R.warm hW0 hstr
  obtain ⟨U, hsteps, hrun, hend, hW, hsame, ce, hce, hO⟩ := X₁.ctorThrowS hexec htr (own := own) (cls := cls) (names := names) (ic := ic) hown' hcls hnames h (fun x hx => nomatch hx) hfX hkX hcellA (by rw [hhp, hT]; exact Nat.le_refl _) (msg := .ref sa) rfl
    (g := { method := m, pc := pc + 7, locals := ls, stack := .ref sa :: .ref T.heap.size :: .ref T.heap.size :: rest, locked := none }) rfl hsize rfl rfl (rest := rest) rfl
    (by rw [hb]; exact d7) (by rw [hb]; exact d10) hout hRframes (by simp only [List.map_cons, List.sum_cons, hcat]; omega) hlocks
  obtain ⟨f1, f2⟩ := vx_frame hsame
  rw [hhp] at f1 f2
  have hWs : s.WarmedH U.vm := State.WarmedH.trans hW0 hW
  have hcl : s.vm.findClass cls = some ce.cls := by
    have h9 := hO.cls
    rw [hvm] at h9
    exact h9
  have hall : s.sameButNew ({ U with vm := s.vm } : State) locs mc ms := by
    subst hA
    obtain ⟨e1, e2⟩ := hsame
    rw [State.setFrames_setFrames] at e1
    have h2 : (T.setVm s.vm).sameButNew ({ U with vm := s.vm } : State) [] (0 + 1) (0 + 6) := ⟨e1, e2⟩
    have h3 := X.same.trans h2
    rw [List.append_nil] at h3
    exact h3.mono hc hs
  refine ⟨U, ?_, .threw T.heap.size, hrun, hend, Or.inr ⟨T.heap.size, rfl, cls, ce, locs, hx U hWs.alike f1 (fun q hq => f2 q hq (fun z hz => nomatch hz)), hce, hO.vm, hcl, hWs, hall, hf⟩⟩
  refine st1 _ ?_
  show Steps p.tables e below (T1.setTop { method := m, pc := pc + 3, locals := ls, stack := .ref T.heap.size :: rest, locked := none }) _
  jvm_step X₁.here [X₁.here.top, hexec, d3', Value.category]
  exact X₁.ldcStringW hexec (own := own) (text := text) (index := is) (a := sa) hown' hstr'.1 hstr'.2
    (g := { method := m, pc := pc + 4, locals := ls, stack := .ref T.heap.size :: .ref T.heap.size :: rest, locked := none }) rfl d4' _ hsteps
end Ends
section Bodies
variable {l : Launch}
theorem vx_ofW {y : MethodName} {ws ws' : List Cond} {rm : Room} {Pc : Array Value → State → Prop} {Qc : Array Value → State → Outcome → State → Prop} {XC : String → State → State → Prop} {mc ms : Nat} {free : Addr → Prop} {cc : ByteArray} {maxL : Nat} {ret : Option FieldType}
    (hy : plainName y.cls = true) (hw : ws = Cond.code y cc maxL ret :: ws')
    (body : ∀ p e s m args below meth c s₁, BodyLoose p l y (headSpec ws rm) cc maxL ret e s m args below meth c s₁ → c.maxLocals = maxL → (∀ x ∈ c.exceptionTable.toList, False) → Pc args s →
      W p l e (headSpec ws rm).room s m args below meth c s.heap [] 0 0 (vx_MQ below Qc XC args s mc ms free) (entryFrame m args maxL)) : vx_Met l y ws rm Pc Qc XC mc ms free := by
  refine MetFree.of_bodyS (code := cc) (maxLocals := maxL) (ret := ret) hy ?_ ?_
  · intro args s m h hn
    obtain ⟨meth, c, h1, h2, h3, h4, h5, h6, -, -⟩ := Cond.code_spec hn (atoms_spec (ws := ws) h _ (by rw [hw]; exact List.mem_cons_self))
    exact ⟨meth, c, h1, h2, h3, h4, h5, h6⟩
  · intro p e s m args below meth c s₁ B hml hP _
    have hh0 : s₁.heap = s.heap := by rw [B.state]; rfl
    have ht : ∀ x ∈ c.exceptionTable.toList, False := by
      obtain ⟨meth9, c9, h1, h2, -, -, -, -, h7, -⟩ := Cond.code_spec B.named (atoms_spec (ws := ws) B.pre _ (by rw [hw]; exact List.mem_cons_self))
      cases Option.some.inj (h1.symm.trans B.method)
      cases Option.some.inj (h2.symm.trans (Stand.of_body B).code)
      intro x hx
      rw [Array.isEmpty_iff.mp h7] at hx
      cases hx
    obtain ⟨t, a1, o, b1, b2, b3⟩ := body p e s m args below meth c s₁ B hml ht hP s₁ hh0 (Stand.of_body B)
    exact ⟨t, o, a1, b1, b2, b3⟩
/-- the table of a body with handlers -/
theorem vx_table {p : Program} {x y : MethodName} {S : Spec} {cc bytes : ByteArray} {maxL maxL' : Nat} {ret ret' : Option FieldType} {e : Env} {s s₁ : State} {m : MethodId} {args : Array Value} {below : List Frame} {meth : Method} {c : Code} {hh : List (Nat × Nat × Nat × Nat)}
    (B : BodyLoose p l y S cc maxL ret e s m args below meth c s₁) (h : (Cond.codeWith y bytes maxL' ret' hh).before args s = true) : c.exceptionTable.toList = tableOf hh := by
  obtain ⟨m9, meth9, c9, hn9, h1, h2, -, -, h6, -⟩ := Cond.codeWith_spec h
  cases Option.some.inj (hn9.symm.trans B.named)
  cases Option.some.inj (h1.symm.trans B.method)
  cases Option.some.inj (h2.symm.trans (Stand.of_body B).code)
  rw [← h6, table_eq]
end Bodies
end VXA
/-! ===== END ===== -/
/-! ===== BEGIN a static call of a method with an exception table ===== -/
section VXS
variable {p : Program} {l : Launch} {e : Env} {R : Room} {s : State} {m : MethodId} {args : Array Value} {below : List Frame} {meth : Method} {c : Code} {T : State} {H : Heap} {locs : List Loc} {cells slots : Nat}
abbrev vx_CSW (R : Room) (s : State) (args : Array Value) (own : String) (index : Nat) (y : MethodName) (bytes : ByteArray) (maxL : Nat) (ret : Option FieldType) (hh : List (Nat × Nat × Nat × Nat)) (ws : List Cond) (rm : Room) (mc ms n : Nat) : Prop :=
  (rm.cells = mc ∧ rm.slots = ms ∧ rm.frames + 1 ≤ R.frames ∧ 8 + (maxL + 11) + rm.locals ≤ R.locals ∧ (∀ w ∈ ws, ∀ (a' : Array Value) (U : State), s.WarmedH U.vm → w.before a' U = true) ∧ Cond.codeWith y bytes maxL ret hh ∈ ws) ∧
  (Cond.codeWith y bytes maxL ret hh).before args s = true ∧ (Cond.initialized y.cls).before args s = true ∧ (y.cls ≠ "java/lang/invoke/MethodHandle" ∧ y.cls ≠ "java/lang/invoke/VarHandle") ∧
  (∀ sig, parseMethodDescriptor y.desc = some sig → n = sig.parameters.length) ∧ (Cond.methodLink own index y).before args s = true ∧ (Cond.static y).before args s = true
theorem vx_cwSW {own : String} {index maxL mc ms : Nat} {y : MethodName} {bytes : ByteArray} {ret : Option FieldType} {hh : List (Nat × Nat × Nat × Nat)} {Ts ws ws' : List Cond} {rm : Room} (n : Nat) (ht : ∀ w ∈ Ts, w.before args s = true) (hT : GoodIn Ts (va_wsS own index y ws)) (hw : ws = Cond.codeWith y bytes maxL ret hh :: ws') (hrc : rm.cells = mc) (hrs : rm.slots = ms)
    (hd : y.cls ≠ "java/lang/invoke/MethodHandle" ∧ y.cls ≠ "java/lang/invoke/VarHandle" ∧ (parseMethodDescriptor y.desc).map (fun d => d.parameters.length) = some n) (hR : rm.frames + 1 ≤ R.frames ∧ 8 + (maxL + 11) + rm.locals ≤ R.locals) :
    vx_CSW R s args own index y bytes maxL ret hh ws rm mc ms n := by
  have ok : ∀ w ∈ va_wsS own index y ws, w.before args s = true := fun w h => ht w (hT w h).1
  have hG : GoodIn Ts ws := fun w h => hT w (by unfold va_wsS; exact List.mem_append_right _ h)
  have hc : Cond.codeWith y bytes maxL ret hh ∈ ws := by rw [hw]; exact List.mem_cons_self
  refine ⟨⟨hrc, hrs, hR.1, hR.2, pay_in ht hG, hc⟩, ht _ (hG _ hc).1, ok _ (by simp [va_wsS]), ⟨hd.1, hd.2.1⟩, fun sig h => ?_, ok _ (by simp [va_wsS]), ok _ (by simp [va_wsS])⟩
  have h2 := hd.2.2
  rw [h] at h2
  exact (Option.some.inj h2).symm
theorem vx_callSW (X : Stand p l e R s m args below meth c T locs cells slots) (hexec : p.tables.exec = Jvm.exec) {own : String} {index : Nat} {y : MethodName} {bytes : ByteArray} {maxL : Nat} {ret : Option FieldType} {hh : List (Nat × Nat × Nat × Nat)}
    (hown : s.vm.findClass own = some m.cls) (hlink : (Cond.methodLink own index y).before args s = true) (hstat : (Cond.static y).before args s = true) (hinit : (Cond.initialized y.cls).before args s = true)
    (hcode : (Cond.codeWith y bytes maxL ret hh).before args s = true) (hy : y.cls ≠ "java/lang/invoke/MethodHandle" ∧ y.cls ≠ "java/lang/invoke/VarHandle")
    {W9 : Nat} {Pre : Pt → Array Value → Prop} {Post : Pt → Array Value → Option Value → Pt → Prop} (hK : Back l R p e below s args y 3 W9 Pre Post)
    {g : JFrame} (hg : g.method = m) (hsize : g.locals.size = c.maxLocals) {argsL rest : List Value} (hlen : ∀ sig, parseMethodDescriptor y.desc = some sig → argsL.length = sig.parameters.length)
    (hstack : g.stack = argsL.reverse ++ rest) (hW : 2 * g.monitorRoom + (rest.map fun v => v.category).sum ≤ W9) (hdg : decode c.code g.pc = .ok (.invokestatic index, 3))
    (hpre : ∀ vm₁, s.WarmedH vm₁ → Pre ⟨T.setVm vm₁, locs, cells, slots⟩ argsL.toArray) :
    ∃ (v : Option Value) (vm₁ : Vm) (B : Pt), s.WarmedH vm₁ ∧ Stand p l e R s m args below meth c B.U B.locs B.cells B.slots ∧ Post ⟨T.setVm vm₁, locs, cells, slots⟩ argsL.toArray v B ∧
      ∀ target, Steps p.tables e below (B.U.setTop { g with pc := g.pc + 3, stack := v.toList ++ rest }) target → Steps p.tables e below (T.setTop g) target := by
  obtain ⟨mk, methM, cM, hnamed, hmethM, -, -, -, -, -, -, hsigM⟩ := Cond.codeWith_spec hcode
  have hstatic : methM.isStatic = true := Cond.static_spec hnamed hmethM hstat
  obtain ⟨kP, hkP, -⟩ := className_of_methodNamed hnamed
  have hinitP : kP.init = .initialized := Cond.initialized_spec (findClass_of_methodNamed hnamed) hkP hinit
  obtain ⟨vm₁, X₁, hstep₁⟩ := X.invokestatic hexec hown hlink hnamed hmethM hstatic hkP hinitP hy (g := g) hg (argsL := argsL) (rest := rest) (hlen _ hsigM) hstack hdg
  obtain ⟨v, B, X', hpost, hsteps⟩ := hK m meth c ⟨T.setVm vm₁, locs, cells, slots⟩ { g with stack := rest } (.invokestatic index) mk argsL.toArray X₁ hg hsize hdg hW (X₁.named hnamed) (hpre vm₁ X₁.warmed)
  exact ⟨v, vm₁, B, X₁.warmed, X', hpost, fun target h => hstep₁ _ fun acts => by rw [doInvoke_state]; exact hsteps.trans h⟩
theorem vx_runSW {y : MethodName} {bytes cc : ByteArray} {maxL nL mc ms n index : Nat} {ret : Option FieldType} {hh : List (Nat × Nat × Nat × Nat)} {ws : List Cond} {rm : Room} {Pc : Array Value → State → Prop} {Qc : Array Value → State → Outcome → State → Prop} {free : Addr → Prop} {Ts : List Cond} {own : String} {As rest : List Value} {g : JFrame}
    (S : CallFix p m c cc nL s args Ts own) (hM : Met l y ws rm Pc Qc mc ms free) (cw : vx_CSW R s args own index y bytes maxL ret hh ws rm mc ms n) (hp : PreS s H Pc As)
    (hg : g.method = m) (hn : As.length = n) (hsize : g.locals.size = nL) (hstack : g.stack = As.reverse ++ rest) (hW : 2 * g.monitorRoom + (rest.map fun v => v.category).sum ≤ 8) (hdg : decode cc g.pc = .ok (.invokestatic index, 3)) (hf : cells + mc ≤ R.cells ∧ slots + ms ≤ R.slots) :
    va_Run p l e R s m args below meth c H locs cells slots mc ms g rest (Qc As.toArray) (free) := by
  obtain ⟨⟨hrc, hrs, hfr, hlo, hws, hcw⟩, hcode, hini, hy, hlen, hl, hstt⟩ := cw
  have hK : Back l R p e below s args y 3 8 (PreOf R mc ms Pc) (PostOf Qc mc ms free) := va_backW (hh := hh) (bytes := bytes) (maxL := maxL) (ret := ret) hM hp.1 hrc hrs hfr hlo hws hcw (fun a' U hW => word_at hW (Or.inl (by first | rfl | simp [Cond.onTables, Cond.keeps, Cond.steady])) hini)
  obtain ⟨hx, hb, hml, ho, -⟩ := S
  intro T hT X
  obtain ⟨v, vm₁, ⟨U', l2, c2, s2⟩, hW₁, X', ⟨g', mk, t, L, e1, e2, hq, h1, hL, h2, h3⟩, st⟩ := vx_callSW X hx (hh := hh) (bytes := bytes) (maxL := maxL) (ret := ret) ho hl hstt hini hcode hy hK hg (hsize.trans hml.symm) (argsL := As) (rest := rest) (fun sig h => hn.trans (hlen sig h)) hstack hW (by rw [hb]; exact hdg)
    (fun vm₁ hW₁ => ⟨hf.1, hf.2, hp.2 (T.setVm vm₁) hT hW₁⟩)
  dsimp only [Pt.U, Pt.locs, Pt.cells, Pt.slots] at X' e1 e2 h1 h2 h3 st
  subst h1; subst h2; subst h3
  exact ⟨v, (T.setVm vm₁).calling g' mk As.toArray, t, U', L, hT, X', hL, e1, e2, hq, st⟩
/-- not caught here, past rows that name other classes: it goes on to the caller -/
theorem vx_outP {p : Program} {l : Launch} {e : Env} {R : Room} {s : State} {m : MethodId} {args : Array Value} {below : List Frame} {meth : Method} {c : Code} {H : Heap} {locs : List Loc} {cells slots : Nat} {free : Addr → Prop} {ls : Array Slot} {rest : List Value} {Qc : Array Value → State → Outcome → State → Prop} {XC : String → State → State → Prop}
    {pc : Nat} {own E : String} {ce : Cell} {q : Addr} {mc ms : Nat} (hown : s.vm.findClass own = some m.cls) (hlocks : meth.locks = false)
    (hpass : ∀ z ∈ c.exceptionTable.toList, covers z pc = false ∨ (z.catchType ≠ 0 ∧ ∃ nm : String, (Cond.classLink own z.catchType nm).before args s = true ∧ va_Nc E nm s)) (hcell : H[q]? = some ce) (hv : ce.vm = .none) (hcl : s.vm.findClass E = some ce.cls)
    (hx : ∀ t : State, t.heap = H → s.vm.Alike t.vm → XC E s t) (hf : ∀ z ∈ locs, free z.base) (hc : cells ≤ mc) (hs : slots ≤ ms) :
    vx_W p l e R s m args below meth c H locs cells slots (vx_MQ below Qc XC args s mc ms free) (F0 m pc ls rest) q := by
  intro T hT X
  have hpl : e.platform.magicAccessors = ({} : Platform).magicAccessors := by rw [X.admits.platform]
  obtain ⟨vm', hW', X', st⟩ := X.outThrough hlocks q (g := F0 m pc ls rest) rfl rfl rfl (cell := ce) (by rw [hT]; exact hcell) (by rw [hv]; rfl)
    (by obtain ⟨k9, h9, -⟩ := Vm.findClass_spec hcl; exact ⟨k9, h9⟩) (fun z hz => by
      rcases hpass z hz with h | ⟨hz0, nm, hl1, hn1⟩
      · exact Or.inl h
      · obtain ⟨c6, hc6, hcl6⟩ := Cond.classLink_spec hown hl1 e.platform hpl
        obtain ⟨a8, b8, h1, h2, h3⟩ := hn1
        cases Option.some.inj (h1.symm.trans hcl)
        cases Option.some.inj (h2.symm.trans hc6)
        exact Or.inr ⟨hz0, _, hcl6, h3⟩)
  obtain ⟨g₀, hfr⟩ := X'.frames_eq
  have hcell9 : ((T.setVm vm').setFrames (.throwing q :: below)).heap[q]? = some ce := by
    show T.heap[q]? = some ce
    rw [hT]; exact hcell
  have hend : Ended ((T.setVm vm').setFrames (.throwing q :: below)) below (.threw q) := State.frames_setFrames _ (State.cur_lt_of_frames hfr)
  refine ⟨(T.setVm vm').setFrames (.throwing q :: below), ?_, .threw q, X'.here.running, hend, Or.inr ⟨q, rfl, E, ce, locs, hx _ hT (X'.ends _).1.alike, hcell9, hv, hcl, (X'.ends _).1, (X'.ends _).2.mono hc hs, hf⟩⟩
  rw [X.pushThrowing_eq]
  exact st
/-- a thing of a world lies in the heap -/
theorem vx_lt {D : va_G} {cl : List vw_C} {ws : va_W} {H1 : Heap} (h : va_P D cl ws H1) {k : Nat} {q : Nat × va_E} (hk : ws[k]? = some q) : q.1 < H1.size := (h k q hk).lt
end VXS
/-! ===== END ===== -/
/-! ===== BEGIN methods with a table of their own: called by a name, returning or throwing ===== -/
section VXH
/-! vx_backW, vx_callVX, vx_callSX, vx_callVW, vx_runVW, vx_runVX, vx_runSX, vx_ofWH follow the same proofs as their sisters above (Free/Laws.lean, Shelf42/LK1.lean); vx_outP calls Shelf42/NT130.lean (outThrough). -/
section
variable {l : Launch} {R : Room} {p : Program} {e : Env} {below : List Frame} {s : State} {sargs : Array Value} {y : MethodName} {len W9 : Nat}
theorem vx_backW {ws : List Cond} {rm : Room} {Pc : Array Value → State → Prop} {Qc : Array Value → State → Outcome → State → Prop} {XC : String → State → State → Prop} {mc ms : Nat} {free : Addr → Prop} {bytes : ByteArray} {maxL : Nat} {ret : Option FieldType} {hh : List (Nat × Nat × Nat × Nat)}
    (hM : vx_Met l y ws rm Pc Qc XC mc ms free) (hblind : FrameBlind Pc) (hrc : rm.cells = mc) (hrs : rm.slots = ms)
    (hframes : rm.frames + 1 ≤ R.frames) (hlocals : W9 + (maxL + 11) + rm.locals ≤ R.locals)
    (hws : ∀ w ∈ ws, ∀ a' U, s.WarmedH U.vm → w.before a' U = true) (hcode : Cond.codeWith y bytes maxL ret hh ∈ ws) (hinit : ∀ a' U, s.WarmedH U.vm → (Cond.initialized y.cls).before a' U = true) :
    vx_Back l R p e below s sargs y len W9 (PreOf R mc ms Pc) (PostOf Qc mc ms free) (vx_Post XC mc ms free) := by
  intro m meth c A g ig mk a X hg hsize hdg hW hn hp
  have h1 : (headSpec ws rm).pre.before a A.U = true := atoms_intro fun w hw => hws w hw _ _ X.warmed
  have h2 : (Cond.codeWith y bytes maxL ret hh).before a A.U = true := hws _ hcode _ _ X.warmed
  have h3 : (Cond.initialized y.cls).before a A.U = true := hinit _ _ X.warmed
  have h4 : A.cells + (headSpec ws rm).room.cells ≤ R.cells := by rw [show (headSpec ws rm).room.cells = mc from hrc]; exact hp.1
  have h5 : A.slots + (headSpec ws rm).room.slots ≤ R.slots := by rw [show (headSpec ws rm).room.slots = ms from hrs]; exact hp.2.1
  have hPc : Pc a (A.U.calling g mk a) := hblind _ _ _ _ hp.2.2
  obtain ⟨U, Ls, c0, s0⟩ := A
  dsimp only [Pt.U, Pt.locs, Pt.cells, Pt.slots] at h1 h2 h3 h4 h5 X hn hPc ⊢
  obtain ⟨m9, methY, cY, hn9, hmY, hcY, -, hlY, -⟩ := Cond.codeWith_spec h2
  cases Option.some.inj (hn9.symm.trans hn)
  obtain ⟨kY, hkY, -⟩ := className_of_methodNamed hn
  have hinitY : kY.init = .initialized := Cond.initialized_spec (findClass_of_methodNamed hn) hkY h3
  have h : At U g.method c below := by rw [hg]; exact X.here
  have hlocals9 : W9 + (maxL + 11) + (headSpec ws rm).room.locals ≤ R.locals := hlocals
  have happ : (headSpec ws rm).appliesLoose y e.platform (U.calling g mk a) = true :=
    Spec.appliesLoose_calling (g := g) h hdg hn hkY hinitY
      (X.room_calling (g := g) (R' := (headSpec ws rm).room) hsize hmY hcY hframes (by rw [hlY]; omega) h4 h5) h1
  obtain ⟨mid, hmid⟩ := h.above
  have hfr : (U.setTop g).frames = (.java g :: mid) ++ below := by rw [State.frames_setTop' g h.top, hmid]; rfl
  obtain ⟨o, s₂, hsteps, -, hend, hq⟩ := Steps.callFree hM p X.admits X.cas X.clock (acts := []) hfr happ hPc trivial
  have hq' : vx_Q Qc XC mc ms free a (U.calling g mk a) o s₂ := hq
  rw [State.frames_setTop' g h.top] at hend
  obtain ⟨g₀, hg0⟩ := Option.isSome_iff_exists.mp h.top
  obtain ⟨r, hr⟩ := State.topJava?_eq_some.mp hg0
  have hr' : (({ U with heap := s₂.heap, slotsUsed := s₂.slotsUsed } : State).setVm s₂.vm).frames = .java g₀ :: r := hr
  rcases hq' with ⟨hqc, L, hfe, hL⟩ | ⟨q, rfl, E, ce, L, hx, hce, hcv, hcl, hW₂, hsm, hL⟩
  · obtain ⟨⟨v, rfl⟩, hW₂, e2, q2, q3, q4, q5, q6⟩ := id hfe
    have e3 : s₂ = ({ (U.calling g mk a).setFrames s₂.frames with heap := s₂.heap, slotsUsed := s₂.slotsUsed } : State).setVm s₂.vm := by
      have : s₂ = ({ s₂ with vm := (U.calling g mk a).vm } : State).setVm s₂.vm := rfl
      rw [e2] at this
      exact this
    obtain ⟨c₂, i₂, len₂, hc₂, hd₂, hf₂⟩ := hend
    have hW' : U.WarmedH s₂.vm := hW₂
    have hcc : c₂ = c := by
      have h1 : s₂.code? g.method = U.code? g.method := by
        rw [State.code?_eq, State.code?_eq, hW'.alike.method?]
      exact Option.some.inj (hc₂.symm.trans (h1.trans h.code))
    subst hcc
    have hlen : len₂ = len := by rw [hdg] at hd₂; cases hd₂; rfl
    subst hlen
    have hs₂ : s₂ = (({ U with heap := s₂.heap, slotsUsed := s₂.slotsUsed } : State).setVm s₂.vm).setTop { g with pc := g.pc + len₂, stack := v.toList ++ g.stack } := by
      refine e3.trans ?_
      rw [hf₂, State.calling_eq h.top, State.setFrames_setFrames, State.setTop_of_frames _ hr', hr]
      rfl
    have hsame : U.sameButNew ({ U with heap := s₂.heap, slotsUsed := s₂.slotsUsed } : State) L mc ms := by
      refine ⟨?_, q2, q3, q4, q5, q6⟩
      obtain ⟨t, ht, -⟩ := State.frames_cons hr
      show ({ U with heap := s₂.heap, slotsUsed := s₂.slotsUsed } : State) = { U.setFrames U.frames with heap := s₂.heap, slotsUsed := s₂.slotsUsed }
      rw [State.setFrames_self ht]
    subst hg
    refine Or.inl ⟨v, ⟨(({ U with heap := s₂.heap, slotsUsed := s₂.slotsUsed } : State).setVm s₂.vm), Ls ++ L, c0 + mc, s0 + ms⟩,
      ⟨X.admits, X.cas, X.clock, X.frames, X.room, X.hears, X.method, X.code, (X.here.setHeapUsed s₂.heap s₂.slotsUsed).setVm hW'.alike, X.tail, State.WarmedH.trans X.warmed hW', X.limits, X.bytes, X.same.trans (hsame.setVm s.vm)⟩,
      ⟨g, mk, s₂, L, rfl, rfl, hqc, rfl, hL, rfl, rfl⟩, ?_⟩
    show Steps p.tables e below _ ((({ U with heap := s₂.heap, slotsUsed := s₂.slotsUsed } : State).setVm s₂.vm).setTop { g with pc := g.pc + len₂, stack := v.toList ++ g.stack })
    rw [← hs₂]
    exact hsteps
  · obtain ⟨e2, q2, q3, q4, q5, q6⟩ := id hsm
    have e3 : s₂ = ({ (U.calling g mk a).setFrames s₂.frames with heap := s₂.heap, slotsUsed := s₂.slotsUsed } : State).setVm s₂.vm := by
      have : s₂ = ({ s₂ with vm := (U.calling g mk a).vm } : State).setVm s₂.vm := rfl
      rw [e2] at this
      exact this
    have hf₂ : s₂.frames = .throwing q :: .java g :: U.frames.tail := hend
    have hW' : U.WarmedH s₂.vm := hW₂
    have hs₂ : s₂ = ((({ U with heap := s₂.heap, slotsUsed := s₂.slotsUsed } : State).setVm s₂.vm).setTop g).pushFrame (.throwing q) := by
      refine e3.trans ?_
      rw [hf₂, State.calling_eq h.top, State.setFrames_setFrames, State.pushFrame, State.frames_setTop _ hr', State.setTop_of_frames _ hr', State.setFrames_setFrames, hr]
      rfl
    have hsame : U.sameButNew ({ U with heap := s₂.heap, slotsUsed := s₂.slotsUsed } : State) L mc ms := by
      refine ⟨?_, q2, q3, q4, q5, q6⟩
      obtain ⟨t, ht, -⟩ := State.frames_cons hr
      show ({ U with heap := s₂.heap, slotsUsed := s₂.slotsUsed } : State) = { U.setFrames U.frames with heap := s₂.heap, slotsUsed := s₂.slotsUsed }
      rw [State.setFrames_self ht]
    subst hg
    refine Or.inr ⟨q, ⟨(({ U with heap := s₂.heap, slotsUsed := s₂.slotsUsed } : State).setVm s₂.vm), Ls ++ L, c0 + mc, s0 + ms⟩,
      ⟨X.admits, X.cas, X.clock, X.frames, X.room, X.hears, X.method, X.code, (X.here.setHeapUsed s₂.heap s₂.slotsUsed).setVm hW'.alike, X.tail, State.WarmedH.trans X.warmed hW', X.limits, X.bytes, X.same.trans (hsame.setVm s.vm)⟩,
      ⟨g, mk, s₂, L, E, ce, rfl, rfl, hx, hce, hcv, hcl, rfl, hL, rfl, rfl⟩, ?_⟩
    show Steps p.tables e below _ (((({ U with heap := s₂.heap, slotsUsed := s₂.slotsUsed } : State).setVm s₂.vm).setTop g).pushFrame (.throwing q))
    rw [← hs₂]
    exact hsteps
end
variable {p : Program} {l : Launch} {e : Env} {R : Room} {s : State} {m : MethodId} {args : Array Value} {below : List Frame} {meth : Method} {c : Code} {T : State} {H : Heap} {locs : List Loc} {cells slots : Nat}
theorem vx_callVX (X : Stand p l e R s m args below meth c T locs cells slots) (hexec : p.tables.exec = Jvm.exec) {own C : String} {index : Nat} {y : MethodName} {bytes : ByteArray} {maxL : Nat} {ret : Option FieldType} {hh : List (Nat × Nat × Nat × Nat)}
    (hown : s.vm.findClass own = some m.cls) (hlink : (Cond.methodLink own index y).before args s = true) (hinst : (Cond.instanceMethod y).before args s = true) (hsel : (Cond.selects C y y).before args s = true)
    (hcode : (Cond.codeWith y bytes maxL ret hh).before args s = true) (hy : y.cls ≠ "java/lang/invoke/MethodHandle" ∧ y.cls ≠ "java/lang/invoke/VarHandle")
    {W9 : Nat} {Pre : Pt → Array Value → Prop} {Post : Pt → Array Value → Option Value → Pt → Prop} {PostX : Pt → Array Value → Addr → Pt → Prop} (hK : vx_Back l R p e below s args y 3 W9 Pre Post PostX)
    {b : Addr} {cellB : Cell} (hcell : T.heap[b]? = some cellB) (hobj : cellB.vm.isStatics = false) (hcls : s.vm.findClass C = some cellB.cls)
    {g : JFrame} (hg : g.method = m) (hsize : g.locals.size = c.maxLocals) {argsL rest : List Value} (hlen : ∀ sig, parseMethodDescriptor y.desc = some sig → argsL.length = sig.parameters.length)
    (hstack : g.stack = argsL.reverse ++ .ref b :: rest) (hW : 2 * g.monitorRoom + (rest.map fun v => v.category).sum ≤ W9) (hdg : decode c.code g.pc = .ok (.invokevirtual index, 3))
    (hpre : ∀ vm₁, s.WarmedH vm₁ → Pre ⟨T.setVm vm₁, locs, cells, slots⟩ (Value.ref b :: argsL).toArray) :
    (∃ (v : Option Value) (vm₁ : Vm) (B : Pt), s.WarmedH vm₁ ∧ Stand p l e R s m args below meth c B.U B.locs B.cells B.slots ∧ Post ⟨T.setVm vm₁, locs, cells, slots⟩ (Value.ref b :: argsL).toArray v B ∧
      ∀ target, Steps p.tables e below (B.U.setTop { g with pc := g.pc + 3, stack := v.toList ++ rest }) target → Steps p.tables e below (T.setTop g) target) ∨
    (∃ (q : Addr) (vm₁ : Vm) (B : Pt), s.WarmedH vm₁ ∧ Stand p l e R s m args below meth c B.U B.locs B.cells B.slots ∧ PostX ⟨T.setVm vm₁, locs, cells, slots⟩ (Value.ref b :: argsL).toArray q B ∧
      Steps p.tables e below (T.setTop g) ((B.U.setTop { g with stack := rest }).pushFrame (.throwing q))) := by
  obtain ⟨mk, methM, hnamed, hmethM, hstM, habM⟩ := Cond.instanceMethod_spec hinst
  obtain ⟨m8, methM', cM, hn8, hmethM', -, -, -, -, -, -, hsigM⟩ := Cond.codeWith_spec hcode
  cases Option.some.inj (hn8.symm.trans hnamed)
  cases hmethM.symm.trans hmethM'
  obtain ⟨c2, r2, m2, q1, q2, q3, q4, kP, hkP, hkPi⟩ := Cond.selects_spec hsel
  cases hcls.symm.trans q1
  cases (State.methodFound?_of_named hnamed hy).symm.trans q2
  cases hnamed.symm.trans q3
  have hselP : selectMethod e.platform s.vm cellB.cls mk = .method mk := by rw [Launch.admits_selectMethod X.admits]; exact q4
  obtain ⟨vm₁, X₁, hstep₁⟩ := X.invokevirtual hexec hown hlink hnamed hmethM hstM hkP hkPi hy (a := b) (cell := cellB) hcell
    (fun z h => by rw [h] at hobj; cases hobj) hselP hmethM habM hkP hkPi (g := g) hg (argsL := argsL) (rest := rest) (hlen _ hsigM) hstack hdg
  rcases hK m meth c ⟨T.setVm vm₁, locs, cells, slots⟩ { g with stack := rest } (.invokevirtual index) mk (Value.ref b :: argsL).toArray X₁ hg hsize hdg hW (X₁.named hnamed) (hpre vm₁ X₁.warmed) with ⟨v, B, X', hpost, hsteps⟩ | ⟨q, B, X', hpost, hsteps⟩
  · exact Or.inl ⟨v, vm₁, B, X₁.warmed, X', hpost, fun target h => hstep₁ _ fun acts => by rw [doInvoke_state]; exact hsteps.trans h⟩
  · exact Or.inr ⟨q, vm₁, B, X₁.warmed, X', hpost, hstep₁ _ fun acts => by rw [doInvoke_state]; exact hsteps⟩
theorem vx_callSX (X : Stand p l e R s m args below meth c T locs cells slots) (hexec : p.tables.exec = Jvm.exec) {own : String} {index : Nat} {y : MethodName} {bytes : ByteArray} {maxL : Nat} {ret : Option FieldType} {hh : List (Nat × Nat × Nat × Nat)}
    (hown : s.vm.findClass own = some m.cls) (hlink : (Cond.methodLink own index y).before args s = true) (hstat : (Cond.static y).before args s = true) (hinit : (Cond.initialized y.cls).before args s = true)
    (hcode : (Cond.codeWith y bytes maxL ret hh).before args s = true) (hy : y.cls ≠ "java/lang/invoke/MethodHandle" ∧ y.cls ≠ "java/lang/invoke/VarHandle")
    {W9 : Nat} {Pre : Pt → Array Value → Prop} {Post : Pt → Array Value → Option Value → Pt → Prop} {PostX : Pt → Array Value → Addr → Pt → Prop} (hK : vx_Back l R p e below s args y 3 W9 Pre Post PostX)
    {g : JFrame} (hg : g.method = m) (hsize : g.locals.size = c.maxLocals) {argsL rest : List Value} (hlen : ∀ sig, parseMethodDescriptor y.desc = some sig → argsL.length = sig.parameters.length)
    (hstack : g.stack = argsL.reverse ++ rest) (hW : 2 * g.monitorRoom + (rest.map fun v => v.category).sum ≤ W9) (hdg : decode c.code g.pc = .ok (.invokestatic index, 3))
    (hpre : ∀ vm₁, s.WarmedH vm₁ → Pre ⟨T.setVm vm₁, locs, cells, slots⟩ argsL.toArray) :
    (∃ (v : Option Value) (vm₁ : Vm) (B : Pt), s.WarmedH vm₁ ∧ Stand p l e R s m args below meth c B.U B.locs B.cells B.slots ∧ Post ⟨T.setVm vm₁, locs, cells, slots⟩ argsL.toArray v B ∧
      ∀ target, Steps p.tables e below (B.U.setTop { g with pc := g.pc + 3, stack := v.toList ++ rest }) target → Steps p.tables e below (T.setTop g) target) ∨
    (∃ (q : Addr) (vm₁ : Vm) (B : Pt), s.WarmedH vm₁ ∧ Stand p l e R s m args below meth c B.U B.locs B.cells B.slots ∧ PostX ⟨T.setVm vm₁, locs, cells, slots⟩ argsL.toArray q B ∧
      Steps p.tables e below (T.setTop g) ((B.U.setTop { g with stack := rest }).pushFrame (.throwing q))) := by
  obtain ⟨mk, methM, cM, hnamed, hmethM, -, -, -, -, -, -, hsigM⟩ := Cond.codeWith_spec hcode
  have hstatic : methM.isStatic = true := Cond.static_spec hnamed hmethM hstat
  obtain ⟨kP, hkP, -⟩ := className_of_methodNamed hnamed
  have hinitP : kP.init = .initialized := Cond.initialized_spec (findClass_of_methodNamed hnamed) hkP hinit
  obtain ⟨vm₁, X₁, hstep₁⟩ := X.invokestatic hexec hown hlink hnamed hmethM hstatic hkP hinitP hy (g := g) hg (argsL := argsL) (rest := rest) (hlen _ hsigM) hstack hdg
  rcases hK m meth c ⟨T.setVm vm₁, locs, cells, slots⟩ { g with stack := rest } (.invokestatic index) mk argsL.toArray X₁ hg hsize hdg hW (X₁.named hnamed) (hpre vm₁ X₁.warmed) with ⟨v, B, X', hpost, hsteps⟩ | ⟨q, B, X', hpost, hsteps⟩
  · exact Or.inl ⟨v, vm₁, B, X₁.warmed, X', hpost, fun target h => hstep₁ _ fun acts => by rw [doInvoke_state]; exact hsteps.trans h⟩
  · exact Or.inr ⟨q, vm₁, B, X₁.warmed, X', hpost, hstep₁ _ fun acts => by rw [doInvoke_state]; exact hsteps⟩
theorem vx_callVW (X : Stand p l e R s m args below meth c T locs cells slots) (hexec : p.tables.exec = Jvm.exec) {own C : String} {index : Nat} {y : MethodName} {bytes : ByteArray} {maxL : Nat} {ret : Option FieldType} {hh : List (Nat × Nat × Nat × Nat)}
    (hown : s.vm.findClass own = some m.cls) (hlink : (Cond.methodLink own index y).before args s = true) (hinst : (Cond.instanceMethod y).before args s = true) (hsel : (Cond.selects C y y).before args s = true)
    (hcode : (Cond.codeWith y bytes maxL ret hh).before args s = true) (hy : y.cls ≠ "java/lang/invoke/MethodHandle" ∧ y.cls ≠ "java/lang/invoke/VarHandle")
    {W9 : Nat} {Pre : Pt → Array Value → Prop} {Post : Pt → Array Value → Option Value → Pt → Prop} (hK : Back l R p e below s args y 3 W9 Pre Post)
    {b : Addr} {cellB : Cell} (hcell : T.heap[b]? = some cellB) (hobj : cellB.vm.isStatics = false) (hcls : s.vm.findClass C = some cellB.cls)
    {g : JFrame} (hg : g.method = m) (hsize : g.locals.size = c.maxLocals) {argsL rest : List Value} (hlen : ∀ sig, parseMethodDescriptor y.desc = some sig → argsL.length = sig.parameters.length)
    (hstack : g.stack = argsL.reverse ++ .ref b :: rest) (hW : 2 * g.monitorRoom + (rest.map fun v => v.category).sum ≤ W9) (hdg : decode c.code g.pc = .ok (.invokevirtual index, 3))
    (hpre : ∀ vm₁, s.WarmedH vm₁ → Pre ⟨T.setVm vm₁, locs, cells, slots⟩ (Value.ref b :: argsL).toArray) :
    ∃ (v : Option Value) (vm₁ : Vm) (B : Pt), s.WarmedH vm₁ ∧ Stand p l e R s m args below meth c B.U B.locs B.cells B.slots ∧ Post ⟨T.setVm vm₁, locs, cells, slots⟩ (Value.ref b :: argsL).toArray v B ∧
      ∀ target, Steps p.tables e below (B.U.setTop { g with pc := g.pc + 3, stack := v.toList ++ rest }) target → Steps p.tables e below (T.setTop g) target := by
  obtain ⟨mk, methM, hnamed, hmethM, hstM, habM⟩ := Cond.instanceMethod_spec hinst
  obtain ⟨m8, methM', cM, hn8, hmethM', -, -, -, -, -, -, hsigM⟩ := Cond.codeWith_spec hcode
  cases Option.some.inj (hn8.symm.trans hnamed)
  cases hmethM.symm.trans hmethM'
  obtain ⟨c2, r2, m2, q1, q2, q3, q4, kP, hkP, hkPi⟩ := Cond.selects_spec hsel
  cases hcls.symm.trans q1
  cases (State.methodFound?_of_named hnamed hy).symm.trans q2
  cases hnamed.symm.trans q3
  have hselP : selectMethod e.platform s.vm cellB.cls mk = .method mk := by rw [Launch.admits_selectMethod X.admits]; exact q4
  obtain ⟨vm₁, X₁, hstep₁⟩ := X.invokevirtual hexec hown hlink hnamed hmethM hstM hkP hkPi hy (a := b) (cell := cellB) hcell
    (fun z h => by rw [h] at hobj; cases hobj) hselP hmethM habM hkP hkPi (g := g) hg (argsL := argsL) (rest := rest) (hlen _ hsigM) hstack hdg
  obtain ⟨v, B, X', hpost, hsteps⟩ := hK m meth c ⟨T.setVm vm₁, locs, cells, slots⟩ { g with stack := rest } (.invokevirtual index) mk (Value.ref b :: argsL).toArray X₁ hg hsize hdg hW (X₁.named hnamed) (hpre vm₁ X₁.warmed)
  exact ⟨v, vm₁, B, X₁.warmed, X', hpost, fun target h => hstep₁ _ fun acts => by rw [doInvoke_state]; exact hsteps.trans h⟩
abbrev vx_CVW (R : Room) (s : State) (args : Array Value) (own C : String) (index : Nat) (y : MethodName) (bytes : ByteArray) (maxL : Nat) (ret : Option FieldType) (hh : List (Nat × Nat × Nat × Nat)) (ws : List Cond) (rm : Room) (mc ms n : Nat) : Prop :=
  (rm.cells = mc ∧ rm.slots = ms ∧ rm.frames + 1 ≤ R.frames ∧ 8 + (maxL + 11) + rm.locals ≤ R.locals ∧ (∀ w ∈ ws, ∀ (a' : Array Value) (U : State), s.WarmedH U.vm → w.before a' U = true) ∧ Cond.codeWith y bytes maxL ret hh ∈ ws) ∧
  (Cond.codeWith y bytes maxL ret hh).before args s = true ∧ (Cond.initialized y.cls).before args s = true ∧ (y.cls ≠ "java/lang/invoke/MethodHandle" ∧ y.cls ≠ "java/lang/invoke/VarHandle") ∧
  (∀ sig, parseMethodDescriptor y.desc = some sig → n = sig.parameters.length) ∧ (Cond.methodLink own index y).before args s = true ∧ (Cond.instanceMethod y).before args s = true ∧ (Cond.selects C y y).before args s = true
theorem vx_cwVW {own C : String} {index maxL mc ms : Nat} {y : MethodName} {bytes : ByteArray} {ret : Option FieldType} {hh : List (Nat × Nat × Nat × Nat)} {Ts ws ws' : List Cond} {rm : Room} (n : Nat) (ht : ∀ w ∈ Ts, w.before args s = true) (hT : GoodIn Ts (wsV own index C y ws)) (hw : ws = Cond.codeWith y bytes maxL ret hh :: ws') (hrc : rm.cells = mc) (hrs : rm.slots = ms)
    (hd : y.cls = C ∧ y.cls ≠ "java/lang/invoke/MethodHandle" ∧ y.cls ≠ "java/lang/invoke/VarHandle" ∧ (parseMethodDescriptor y.desc).map (fun d => d.parameters.length) = some n) (hR : rm.frames + 1 ≤ R.frames ∧ 8 + (maxL + 11) + rm.locals ≤ R.locals) :
    vx_CVW R s args own C index y bytes maxL ret hh ws rm mc ms n := by
  obtain ⟨hC, hd⟩ := hd
  subst hC
  have ok : ∀ w ∈ wsV own index y.cls y ws, w.before args s = true := fun w h => ht w (hT w h).1
  have hG : GoodIn Ts ws := fun w h => hT w (by unfold wsV; exact List.mem_append_right _ h)
  have hc : Cond.codeWith y bytes maxL ret hh ∈ ws := by rw [hw]; exact List.mem_cons_self
  refine ⟨⟨hrc, hrs, hR.1, hR.2, pay_in ht hG, hc⟩, ht _ (hG _ hc).1, ok _ (by simp [wsV]), ⟨hd.1, hd.2.1⟩, fun sig h => ?_, ok _ (by simp [wsV]), ok _ (by simp [wsV]), ok _ (by simp [wsV])⟩
  have h2 := hd.2.2
  rw [h] at h2
  exact (Option.some.inj h2).symm
theorem vx_runVW {y : MethodName} {bytes cc : ByteArray} {maxL nL mc ms n index : Nat} {ret : Option FieldType} {hh : List (Nat × Nat × Nat × Nat)} {ws : List Cond} {rm : Room} {Pc : Array Value → State → Prop} {Qc : Array Value → State → Outcome → State → Prop} {free : Addr → Prop} {Ts : List Cond} {own C : String} {b : Addr} {As rest : List Value} {g : JFrame}
    (S : CallFix p m c cc nL s args Ts own) (hM : Met l y ws rm Pc Qc mc ms free) (cw : vx_CVW R s args own C index y bytes maxL ret hh ws rm mc ms n) (hp : PreV s H C b Pc As)
    (hg : g.method = m) (hn : As.length = n) (hsize : g.locals.size = nL) (hstack : g.stack = As.reverse ++ .ref b :: rest) (hW : 2 * g.monitorRoom + (rest.map fun v => v.category).sum ≤ 8) (hdg : decode cc g.pc = .ok (.invokevirtual index, 3)) (hf : cells + mc ≤ R.cells ∧ slots + ms ≤ R.slots) :
    va_Run p l e R s m args below meth c H locs cells slots mc ms g rest (Qc (Value.ref b :: As).toArray) free := by
  obtain ⟨⟨hrc, hrs, hfr, hlo, hws, hcw⟩, hcode, hini, hy, hlen, hl, hin, hse⟩ := cw
  have hK : Back l R p e below s args y 3 8 (PreOf R mc ms Pc) (PostOf Qc mc ms free) := va_backW (hh := hh) (bytes := bytes) (maxL := maxL) (ret := ret) hM hp.1 hrc hrs hfr hlo hws hcw (fun a' U hW => word_at hW (Or.inl (by first | rfl | simp [Cond.onTables, Cond.keeps, Cond.steady])) hini)
  obtain ⟨hx, hb, hml, ho, -⟩ := S
  obtain ⟨-, ⟨cellB, hcB, hoB, hclB⟩, hPc⟩ := hp
  intro T hT X
  obtain ⟨v, vm₁, ⟨U', l2, c2, s2⟩, hW₁, X', ⟨g', mk, t, L, e1, e2, hq, h1, hL, h2, h3⟩, st⟩ := vx_callVW X hx (C := C) (hh := hh) (bytes := bytes) (maxL := maxL) (ret := ret) ho hl hin hse hcode hy hK (by rw [hT]; exact hcB) hoB hclB hg (hsize.trans hml.symm) (argsL := As) (rest := rest) (fun sig h => hn.trans (hlen sig h)) hstack hW (by rw [hb]; exact hdg)
    (fun vm₁ hW₁ => ⟨hf.1, hf.2, hPc (T.setVm vm₁) hT hW₁⟩)
  dsimp only [Pt.U, Pt.locs, Pt.cells, Pt.slots] at X' e1 e2 h1 h2 h3 st
  subst h1; subst h2; subst h3
  exact ⟨v, (T.setVm vm₁).calling g' mk (Value.ref b :: As).toArray, t, U', L, hT, X', hL, e1, e2, hq, st⟩
section
variable {y : MethodName} {bytes cc : ByteArray} {maxL nL mc ms n index : Nat} {ret : Option FieldType} {ws : List Cond} {rm : Room} {Pc : Array Value → State → Prop} {Qc : Array Value → State → Outcome → State → Prop} {XC : String → State → State → Prop} {free : Addr → Prop} {Ts : List Cond} {own C : String} {b : Addr} {As rest : List Value} {g : JFrame}
theorem vx_runVX {hh : List (Nat × Nat × Nat × Nat)} (S : CallFix p m c cc nL s args Ts own) (hM : vx_Met l y ws rm Pc Qc XC mc ms free) (cw : vx_CVW R s args own C index y bytes maxL ret hh ws rm mc ms n) (hp : PreV s H C b Pc As)
    (hg : g.method = m) (hn : As.length = n) (hsize : g.locals.size = nL) (hstack : g.stack = As.reverse ++ .ref b :: rest) (hW : 2 * g.monitorRoom + (rest.map fun v => v.category).sum ≤ 8) (hdg : decode cc g.pc = .ok (.invokevirtual index, 3)) (hf : cells + mc ≤ R.cells ∧ slots + ms ≤ R.slots) :
    vx_Run p l e R s m args below meth c H locs cells slots mc ms g rest (Qc (Value.ref b :: As).toArray) XC free := by
  obtain ⟨⟨hrc, hrs, hfr, hlo, hws, hcw⟩, hcode, hini, hy, hlen, hl, hin, hse⟩ := cw
  have hK : vx_Back l R p e below s args y 3 8 (PreOf R mc ms Pc) (PostOf Qc mc ms free) (vx_Post XC mc ms free) := vx_backW (hh := hh) (bytes := bytes) (maxL := maxL) (ret := ret) hM hp.1 hrc hrs hfr hlo hws hcw (fun a' U hW => word_at hW (Or.inl (by first | rfl | simp [Cond.onTables, Cond.keeps, Cond.steady])) hini)
  obtain ⟨hx, hb, hml, ho, -⟩ := S
  obtain ⟨-, ⟨cellB, hcB, hoB, hclB⟩, hPc⟩ := hp
  intro T hT X
  rcases vx_callVX X hx (C := C) (hh := hh) (bytes := bytes) (maxL := maxL) (ret := ret) ho hl hin hse hcode hy hK (by rw [hT]; exact hcB) hoB hclB hg (hsize.trans hml.symm) (argsL := As) (rest := rest) (fun sig h => hn.trans (hlen sig h)) hstack hW (by rw [hb]; exact hdg)
    (fun vm₁ hW₁ => ⟨hf.1, hf.2, hPc (T.setVm vm₁) hT hW₁⟩) with ⟨v, vm₁, ⟨U', l2, c2, s2⟩, hW₁, X', ⟨g', mk, t, L, e1, e2, hq, h1, hL, h2, h3⟩, st⟩ | ⟨q, vm₁, ⟨U', l2, c2, s2⟩, hW₁, X', ⟨g', mk, t, L, E, ce, e1, e2, hq, hce, hcv, hcl, h1, hL, h2, h3⟩, st⟩
  · dsimp only [Pt.U, Pt.locs, Pt.cells, Pt.slots] at X' e1 e2 h1 h2 h3 st
    subst h1; subst h2; subst h3
    exact Or.inl ⟨v, (T.setVm vm₁).calling g' mk (Value.ref b :: As).toArray, t, U', L, hT, X', hL, e1, e2, hq, st⟩
  · dsimp only [Pt.U, Pt.locs, Pt.cells, Pt.slots] at X' e1 e2 h1 h2 h3 st hcl
    subst h1; subst h2; subst h3
    exact Or.inr ⟨q, (T.setVm vm₁).calling g' mk (Value.ref b :: As).toArray, t, U', L, E, ce, hT, X', hL, e1, e2, hq, hce, hcv, vx_cls hW₁ hcl, st⟩
theorem vx_runSX {hh : List (Nat × Nat × Nat × Nat)} (S : CallFix p m c cc nL s args Ts own) (hM : vx_Met l y ws rm Pc Qc XC mc ms free) (cw : vx_CSW R s args own index y bytes maxL ret hh ws rm mc ms n) (hp : PreS s H Pc As)
    (hg : g.method = m) (hn : As.length = n) (hsize : g.locals.size = nL) (hstack : g.stack = As.reverse ++ rest) (hW : 2 * g.monitorRoom + (rest.map fun v => v.category).sum ≤ 8) (hdg : decode cc g.pc = .ok (.invokestatic index, 3)) (hf : cells + mc ≤ R.cells ∧ slots + ms ≤ R.slots) :
    vx_Run p l e R s m args below meth c H locs cells slots mc ms g rest (Qc As.toArray) XC free := by
  obtain ⟨⟨hrc, hrs, hfr, hlo, hws, hcw⟩, hcode, hini, hy, hlen, hl, hstt⟩ := cw
  have hK : vx_Back l R p e below s args y 3 8 (PreOf R mc ms Pc) (PostOf Qc mc ms free) (vx_Post XC mc ms free) := vx_backW (hh := hh) (bytes := bytes) (maxL := maxL) (ret := ret) hM hp.1 hrc hrs hfr hlo hws hcw (fun a' U hW => word_at hW (Or.inl (by first | rfl | simp [Cond.onTables, Cond.keeps, Cond.steady])) hini)
  obtain ⟨hx, hb, hml, ho, -⟩ := S
  intro T hT X
  rcases vx_callSX X hx (hh := hh) (bytes := bytes) (maxL := maxL) (ret := ret) ho hl hstt hini hcode hy hK hg (hsize.trans hml.symm) (argsL := As) (rest := rest) (fun sig h => hn.trans (hlen sig h)) hstack hW (by rw [hb]; exact hdg)
    (fun vm₁ hW₁ => ⟨hf.1, hf.2, hp.2 (T.setVm vm₁) hT hW₁⟩) with ⟨v, vm₁, ⟨U', l2, c2, s2⟩, hW₁, X', ⟨g', mk, t, L, e1, e2, hq, h1, hL, h2, h3⟩, st⟩ | ⟨q, vm₁, ⟨U', l2, c2, s2⟩, hW₁, X', ⟨g', mk, t, L, E, ce, e1, e2, hq, hce, hcv, hcl, h1, hL, h2, h3⟩, st⟩
  · dsimp only [Pt.U, Pt.locs, Pt.cells, Pt.slots] at X' e1 e2 h1 h2 h3 st
    subst h1; subst h2; subst h3
    exact Or.inl ⟨v, (T.setVm vm₁).calling g' mk As.toArray, t, U', L, hT, X', hL, e1, e2, hq, st⟩
  · dsimp only [Pt.U, Pt.locs, Pt.cells, Pt.slots] at X' e1 e2 h1 h2 h3 st hcl
    subst h1; subst h2; subst h3
    exact Or.inr ⟨q, (T.setVm vm₁).calling g' mk As.toArray, t, U', L, E, ce, hT, X', hL, e1, e2, hq, hce, hcv, vx_cls hW₁ hcl, st⟩
end
end VXH
theorem vx_ofWH {l : Launch} {y : MethodName} {ws ws' : List Cond} {rm : Room} {Pc : Array Value → State → Prop} {Qc : Array Value → State → Outcome → State → Prop} {XC : String → State → State → Prop} {mc ms : Nat} {free : Addr → Prop} {cc : ByteArray} {maxL : Nat} {ret : Option FieldType} {hh : List (Nat × Nat × Nat × Nat)}
    (hy : plainName y.cls = true) (hw : ws = Cond.codeWith y cc maxL ret hh :: ws')
    (body : ∀ p e s m args below meth c s₁, BodyLoose p l y (headSpec ws rm) cc maxL ret e s m args below meth c s₁ → c.maxLocals = maxL → Pc args s →
      W p l e (headSpec ws rm).room s m args below meth c s.heap [] 0 0 (vx_MQ below Qc XC args s mc ms free) (entryFrame m args maxL)) : vx_Met l y ws rm Pc Qc XC mc ms free := by
  refine MetFree.of_bodyS (code := cc) (maxLocals := maxL) (ret := ret) hy ?_ ?_
  · intro args s m h hn
    obtain ⟨m9, meth, c, hn9, h1, h2, h3, h4, -, h5, h6, -⟩ := Cond.codeWith_spec (atoms_spec (ws := ws) h _ (by rw [hw]; exact List.mem_cons_self))
    cases hn.symm.trans hn9
    exact ⟨meth, c, h1, h2, h3, h4, h5, h6⟩
  · intro p e s m args below meth c s₁ B hml hP _
    have hh0 : s₁.heap = s.heap := by rw [B.state]; rfl
    obtain ⟨t, a1, o, b1, b2, b3⟩ := body p e s m args below meth c s₁ B hml hP s₁ hh0 (Stand.of_body B)
    exact ⟨t, o, a1, b1, b2, b3⟩
/-! ===== END ===== -/
end
section
def RX0 : String := "GearObservatory$CommandReader"
def TX0 : u_T := fun k => match k with
  | 0 => ("GearObservatory$CommandReader", "at", "I", false)
  | 1 => ("GearObservatory$CommandReader", "count", "I", false)
  | 2 => ("GearObservatory$CommandReader", "text", "LGearObservatory$SignRow;", true)
  | 3 => ("GearObservatory$CommandReader", "kinds", "[I", true)
  | _ => ("GearObservatory$CommandReader", "values", "[I", true)
def tyX0 : Nat → FieldType := fun k => match k with
  | 0 => .int
  | 1 => .int
  | 2 => .object "GearObservatory$SignRow"
  | 3 => .array .int
  | _ => .array .int
abbrev wsX00 : List Cond := u_ws RX0 TX0 5
theorem nmX0 : ∀ a, a < 5 → ∀ b, b < 5 → a ≠ b → (TX0 a).2.1 ≠ (TX0 b).2.1 := by decide +kernel
theorem tyX0_ok : ∀ k, k < 5 → parseFieldDescriptor (TX0 k).2.2.1 = some (tyX0 k) := by decide +kernel

def RX1 : String := "GearObservatory$Entries"
def TX1 : u_T := fun k => match k with
  | 0 => ("GearObservatory$Entries", "count", "I", false)
  | 1 => ("GearObservatory$Entries", "letter", "[I", true)
  | 2 => ("GearObservatory$Entries", "digit", "[I", true)
  | 3 => ("GearObservatory$Entries", "gearCount", "[I", true)
  | _ => ("GearObservatory$Entries", "positions", "[I", true)
def tyX1 : Nat → FieldType := fun k => match k with
  | 0 => .int
  | 1 => .array .int
  | 2 => .array .int
  | 3 => .array .int
  | _ => .array .int
abbrev wsX10 : List Cond := u_ws RX1 TX1 5
theorem nmX1 : ∀ a, a < 5 → ∀ b, b < 5 → a ≠ b → (TX1 a).2.1 ≠ (TX1 b).2.1 := by decide +kernel
theorem tyX1_ok : ∀ k, k < 5 → parseFieldDescriptor (TX1 k).2.2.1 = some (tyX1 k) := by decide +kernel

def RX2 : String := "GearObservatory$GearTrain"
def TX2 : u_T := fun k => match k with
  | 0 => ("GearObservatory$GearTrain", "gearCount", "I", false)
  | 1 => ("GearObservatory$GearTrain", "meshCount", "I", false)
  | 2 => ("GearObservatory$GearTrain", "turnedTeeth", "I", false)
  | 3 => ("GearObservatory$GearTrain", "teeth", "[I", true)
  | 4 => ("GearObservatory$GearTrain", "position", "[I", true)
  | 5 => ("GearObservatory$GearTrain", "meshFirst", "[I", true)
  | 6 => ("GearObservatory$GearTrain", "meshSecond", "[I", true)
  | 7 => ("GearObservatory$GearTrain", "slack", "[I", true)
  | _ => ("GearObservatory$GearTrain", "gap", "[I", true)
def tyX2 : Nat → FieldType := fun k => match k with
  | 0 => .int
  | 1 => .int
  | 2 => .int
  | 3 => .array .int
  | 4 => .array .int
  | 5 => .array .int
  | 6 => .array .int
  | 7 => .array .int
  | _ => .array .int
abbrev wsX20 : List Cond := u_ws RX2 TX2 9
theorem nmX2 : ∀ a, a < 9 → ∀ b, b < 9 → a ≠ b → (TX2 a).2.1 ≠ (TX2 b).2.1 := by decide +kernel
theorem tyX2_ok : ∀ k, k < 9 → parseFieldDescriptor (TX2 k).2.2.1 = some (tyX2 k) := by decide +kernel

def RX3 : String := "GearObservatory$GearWalks"
def TX3 : u_T := fun k => match k with
  | 0 => ("GearObservatory$GearWalks", "train", "LGearObservatory$GearTrain;", true)
  | 1 => ("GearObservatory$GearWalks", "trial", "LGearObservatory$GearTrain;", true)
  | 2 => ("GearObservatory$GearWalks", "chain", "[I", true)
  | 3 => ("GearObservatory$GearWalks", "setOf", "[I", true)
  | _ => ("GearObservatory$GearWalks", "seen", "[Z", true)
def tyX3 : Nat → FieldType := fun k => match k with
  | 0 => .object "GearObservatory$GearTrain"
  | 1 => .object "GearObservatory$GearTrain"
  | 2 => .array .int
  | 3 => .array .int
  | _ => .array .boolean
abbrev wsX30 : List Cond := u_ws RX3 TX3 5
theorem nmX3 : ∀ a, a < 5 → ∀ b, b < 5 → a ≠ b → (TX3 a).2.1 ≠ (TX3 b).2.1 := by decide +kernel
theorem tyX3_ok : ∀ k, k < 5 → parseFieldDescriptor (TX3 k).2.2.1 = some (tyX3 k) := by decide +kernel

def RX4 : String := "GearObservatory$History"
def TX4 : u_T := fun k => match k with
  | 0 => ("GearObservatory$History", "count", "I", false)
  | 1 => ("GearObservatory$History", "open", "I", false)
  | _ => ("GearObservatory$History", "ring", "[LGearObservatory$State;", true)
def tyX4 : Nat → FieldType := fun k => match k with
  | 0 => .int
  | 1 => .int
  | _ => .array (.object "GearObservatory$State")
abbrev wsX40 : List Cond := u_ws RX4 TX4 3
theorem nmX4 : ∀ a, a < 3 → ∀ b, b < 3 → a ≠ b → (TX4 a).2.1 ≠ (TX4 b).2.1 := by decide +kernel
theorem tyX4_ok : ∀ k, k < 3 → parseFieldDescriptor (TX4 k).2.2.1 = some (tyX4 k) := by decide +kernel

def RX5 : String := "GearObservatory$SignRow"
def TX5 : u_T := fun k => match k with
  | 0 => ("GearObservatory$SignRow", "length", "I", false)
  | _ => ("GearObservatory$SignRow", "signs", "[C", true)
def tyX5 : Nat → FieldType := fun k => match k with
  | 0 => .int
  | _ => .array .char
abbrev wsX50 : List Cond := u_ws RX5 TX5 2
theorem nmX5 : ∀ a, a < 2 → ∀ b, b < 2 → a ≠ b → (TX5 a).2.1 ≠ (TX5 b).2.1 := by decide +kernel
theorem tyX5_ok : ∀ k, k < 2 → parseFieldDescriptor (TX5 k).2.2.1 = some (tyX5 k) := by decide +kernel

def RX6 : String := "GearObservatory$Sky"
def TX6 : u_T := fun k => match k with
  | 0 => ("GearObservatory$Sky", "count", "I", false)
  | 1 => ("GearObservatory$Sky", "nextId", "I", false)
  | 2 => ("GearObservatory$Sky", "hours", "I", false)
  | 3 => ("GearObservatory$Sky", "id", "[I", true)
  | 4 => ("GearObservatory$Sky", "direction", "[I", true)
  | _ => ("GearObservatory$Sky", "speed", "[I", true)
def tyX6 : Nat → FieldType := fun k => match k with
  | 0 => .int
  | 1 => .int
  | 2 => .int
  | 3 => .array .int
  | 4 => .array .int
  | _ => .array .int
abbrev wsX60 : List Cond := u_ws RX6 TX6 6
theorem nmX6 : ∀ a, a < 6 → ∀ b, b < 6 → a ≠ b → (TX6 a).2.1 ≠ (TX6 b).2.1 := by decide +kernel
theorem tyX6_ok : ∀ k, k < 6 → parseFieldDescriptor (TX6 k).2.2.1 = some (tyX6 k) := by decide +kernel

def RX7 : String := "GearObservatory$State"
def TX7 : u_T := fun k => match k with
  | 0 => ("GearObservatory$State", "train", "LGearObservatory$GearTrain;", true)
  | 1 => ("GearObservatory$State", "wheels", "LGearObservatory$Wheels;", true)
  | 2 => ("GearObservatory$State", "sky", "LGearObservatory$Sky;", true)
  | _ => ("GearObservatory$State", "entries", "LGearObservatory$Entries;", true)
def tyX7 : Nat → FieldType := fun k => match k with
  | 0 => .object "GearObservatory$GearTrain"
  | 1 => .object "GearObservatory$Wheels"
  | 2 => .object "GearObservatory$Sky"
  | _ => .object "GearObservatory$Entries"
abbrev wsX70 : List Cond := u_ws RX7 TX7 4
theorem nmX7 : ∀ a, a < 4 → ∀ b, b < 4 → a ≠ b → (TX7 a).2.1 ≠ (TX7 b).2.1 := by decide +kernel
theorem tyX7_ok : ∀ k, k < 4 → parseFieldDescriptor (TX7 k).2.2.1 = some (tyX7 k) := by decide +kernel

def RX8 : String := "GearObservatory$Wheels"
def TX8 : u_T := fun k => match k with
  | 0 => ("GearObservatory$Wheels", "count", "I", false)
  | 1 => ("GearObservatory$Wheels", "gear", "[I", true)
  | _ => ("GearObservatory$Wheels", "spokes", "[I", true)
def tyX8 : Nat → FieldType := fun k => match k with
  | 0 => .int
  | 1 => .array .int
  | _ => .array .int
abbrev wsX80 : List Cond := u_ws RX8 TX8 3
theorem nmX8 : ∀ a, a < 3 → ∀ b, b < 3 → a ≠ b → (TX8 a).2.1 ≠ (TX8 b).2.1 := by decide +kernel
theorem tyX8_ok : ∀ k, k < 3 → parseFieldDescriptor (TX8 k).2.2.1 = some (tyX8 k) := by decide +kernel

def RX9 : String := "GearObservatory"
def TX9 : u_T := fun k => match k with
  | 0 => ("GearObservatory", "now", "LGearObservatory$State;", true)
  | 1 => ("GearObservatory", "saved", "LGearObservatory$State;", true)
  | 2 => ("GearObservatory", "history", "LGearObservatory$History;", true)
  | 3 => ("GearObservatory", "walks", "LGearObservatory$GearWalks;", true)
  | 4 => ("GearObservatory", "input", "LGearObservatory$SignRow;", true)
  | 5 => ("GearObservatory", "output", "LGearObservatory$SignRow;", true)
  | 6 => ("GearObservatory", "reader", "LGearObservatory$CommandReader;", true)
  | 7 => ("GearObservatory", "somethingSaved", "Z", false)
  | 8 => ("GearObservatory", "keptErrorPosition", "I", false)
  | _ => ("GearObservatory", "keptFailedCommand", "I", false)
def tyX9 : Nat → FieldType := fun k => match k with
  | 0 => .object "GearObservatory$State"
  | 1 => .object "GearObservatory$State"
  | 2 => .object "GearObservatory$History"
  | 3 => .object "GearObservatory$GearWalks"
  | 4 => .object "GearObservatory$SignRow"
  | 5 => .object "GearObservatory$SignRow"
  | 6 => .object "GearObservatory$CommandReader"
  | 7 => .boolean
  | 8 => .int
  | _ => .int
abbrev wsX90 : List Cond := u_ws RX9 TX9 10
theorem nmX9 : ∀ a, a < 10 → ∀ b, b < 10 → a ≠ b → (TX9 a).2.1 ≠ (TX9 b).2.1 := by decide +kernel
theorem tyX9_ok : ∀ k, k < 10 → parseFieldDescriptor (TX9 k).2.2.1 = some (tyX9 k) := by decide +kernel

def RX10 : String := "GearObservatoryModel"
def TX10 : u_T := fun k => match k with
  | _ => ("", "", "", false)
def tyX10 : Nat → FieldType := fun k => match k with
  | _ => .int
abbrev wsX100 : List Cond := u_ws RX10 TX10 0
theorem nmX10 : ∀ a, a < 0 → ∀ b, b < 0 → a ≠ b → (TX10 a).2.1 ≠ (TX10 b).2.1 := by decide +kernel
theorem tyX10_ok : ∀ k, k < 0 → parseFieldDescriptor (TX10 k).2.2.1 = some (tyX10 k) := by decide +kernel

def RL : String := "GearObservatoryLaw"
end
section
/-! A small interpreter of the instructions that this class, its reference and its law use, over a heap of cells by number. Its runs are runs of the machine (part 05). -/
section ZI
abbrev z_En : Type := Nat × Instr × Nat × List Nat
abbrev z_H : Type := List va_E × Nat × Nat
abbrev z_Ls : Type := List (Nat × Value)
abbrev z_C : Type := Nat × z_Ls × List Value × z_H
abbrev z_R : Type := Option Value ⊕ Nat
/-- how many cells were made in all -/
def z_n (hp : z_H) : Nat := hp.1.length + hp.2.1
def z_find : List z_En → Nat → Option (Instr × Nat × List Nat)
  | [], _ => none
  | q :: l, pc => bif Nat.beq q.1 pc then some q.2 else z_find l pc
def z_get : z_Ls → Nat → Option Value
  | [], _ => none
  | q :: l, i => bif Nat.beq q.1 i then some q.2 else z_get l i
def z_ins (q : Nat × Value) : z_Ls → z_Ls
  | [] => [q]
  | r :: l => bif Nat.ble q.1 r.1 then q :: r :: l else r :: z_ins q l
def z_st1 (ls : z_Ls) (i : Nat) (v : Value) : z_Ls := z_ins (i, v) (ls.filter (fun q => !(q.1 == i) && !(q.1 + 1 == i && q.2.category == 2)))
def z_st2 (ls : z_Ls) (i : Nat) (v : Value) : z_Ls := z_ins (i, v) (ls.filter (fun q => !(q.1 == i) && (!(q.1 == i + 1) && !(q.1 + 1 == i && q.2.category == 2))))
def z_cat (st : List Value) : Nat := (st.map fun v => v.category).sum
/-- what an exception's number names -/
def z_xn : Nat → String
  | 0 => "java/lang/IndexOutOfBoundsException"
  | 1 => "java/lang/IllegalArgumentException"
  | 2 => "java/lang/IllegalStateException"
  | 3 => "java/util/NoSuchElementException"
  | 4 => "java/lang/ArithmeticException"
  | _ => "java/lang/UnsupportedOperationException"
/-- the classes whose objects the cells are -/
abbrev z_cl : List vw_C := [(RX0, TX0, 5), (RX1, TX1, 5), (RX2, TX2, 9), (RX3, TX3, 5), (RX4, TX4, 3), (RX5, TX5, 2), (RX6, TX6, 6), (RX7, TX7, 4), (RX8, TX8, 3), (RX9, TX9, 10)]
def z_ty : Nat → Nat → FieldType
  | 0 => tyX0 | 1 => tyX1 | 2 => tyX2 | 3 => tyX3 | 4 => tyX4 | 5 => tyX5 | 6 => tyX6 | 7 => tyX7 | 8 => tyX8 | 9 => tyX9 | _ => tyX10
/-- the element types of the arrays, by their tags -/
def z_aty : Nat → FieldType
  | 0 => .int | 1 => .char | 2 => .boolean | 3 => .long | 4 => .double | _ => .object RX7
def z_own : Nat → String
  | 0 => RX0 | 1 => RX1 | 2 => RX2 | 3 => RX3 | 4 => RX4 | 5 => RX5 | 6 => RX6 | 7 => RX7 | 8 => RX8 | 9 => RX9 | 10 => RX10 | 11 => RL | _ => "java/lang/Math"
/-- a reference to a row that stands, or to what lies outside -/
def z_vwf (n : Nat) : Value → Bool
  | .ref k => Nat.blt k n || Nat.ble 1000 k
  | _ => true
def z_wfb (n : Nat) (ls : z_Ls) (st : List Value) : Bool := ls.all (fun q => z_vwf n q.2) && st.all (z_vwf n)
def z_rvi : Option Value → Bool
  | some (.ref _) => false
  | _ => true
/-- what is held on to over a call that may make rows names rows that stood -/
def z_cok (hp hp' : z_H) (ls : z_Ls) (rr : List Value) (v : Option Value) : Bool := (Nat.beq hp'.1.length hp.1.length && z_rvi v) || z_wfb hp.1.length ls rr
def z_def : FieldType → Value
  | .int | .char | .boolean => .int 0
  | _ => .null
/-- a new array's contents -/
def z_new : Nat → Nat → va_E
  | 3, n => .inl (3, n, .inr (.inl (fun _ => 0)))
  | 4, n => .inl (4, n, .inr (.inr (.inr (.inl (fun _ => 0)))))
  | 5, n => .inl (5, n, .inr (.inr (.inr (.inr (fun _ => none)))))
  | t, n => .inl (t, n, .inl (fun _ => 0))
def z_inb (i : Int32) (n : Nat) : Bool := !decide (i < 0) && decide (i.toNatClampNeg < n)
def z_tgt (pc : Nat) (off : Int) : Option Nat := if 0 ≤ (pc : Int) + off then some ((pc : Int) + off).toNat else none
def z_cmp0 (c : ClassFile.Cond) (x : Int32) : Bool := match c with
  | .eq => decide (x = 0) | .ne => decide (¬ x = 0) | .lt => decide (x < 0) | .ge => decide (0 ≤ x) | .gt => decide (0 < x) | .le => decide (x ≤ 0)
def z_cmp2 (c : ClassFile.Cond) (x y : Int32) : Bool := match c with
  | .eq => decide (x = y) | .ne => decide (¬ x = y) | .lt => decide (x < y) | .ge => decide (y ≤ x) | .gt => decide (y < x) | .le => decide (x ≤ y)
def z_mk (pc : Nat) (ls : z_Ls) (hp : z_H) (st : Option (List Value)) : Option z_C := match st with
  | some s => some (pc, ls, s, hp)
  | none => none
def z_i1 (f : Int32 → Option Value) (st : List Value) : Option (List Value) := match st with
  | .int x :: r => match f x with
    | some v => some (v :: r)
    | none => none
  | _ => none
def z_i2 (f : Int32 → Int32 → Option Value) (st : List Value) : Option (List Value) := match st with
  | .int y :: .int x :: r => match f x y with
    | some v => some (v :: r)
    | none => none
  | _ => none
def z_ldI (ls : z_Ls) (i : Nat) (st : List Value) : Option (List Value) := match z_get ls i with
  | some (.int x) => some (.int x :: st)
  | _ => none
def z_ldA (ls : z_Ls) (i : Nat) (st : List Value) : Option (List Value) := match z_get ls i with
  | some (.ref x) => some (.ref x :: st)
  | _ => none
def z_ldF (ls : z_Ls) (i : Nat) (st : List Value) : Option (List Value) := match z_get ls i with
  | some (.float x) => some (.float x :: st)
  | _ => none
def z_ldD (ls : z_Ls) (i : Nat) (st : List Value) : Option (List Value) := match z_get ls i with
  | some (.double x) => some (.double x :: st)
  | _ => none
def z_sI (nL pc : Nat) (ls : z_Ls) (i : Nat) (st : List Value) (hp : z_H) : Option z_C := match st with
  | .int x :: r => if i < nL then some (pc, z_st1 ls i (.int x), r, hp) else none
  | _ => none
def z_sA (nL pc : Nat) (ls : z_Ls) (i : Nat) (st : List Value) (hp : z_H) : Option z_C := match st with
  | .ref x :: r => if i < nL then some (pc, z_st1 ls i (.ref x), r, hp) else none
  | _ => none
def z_sF (nL pc : Nat) (ls : z_Ls) (i : Nat) (st : List Value) (hp : z_H) : Option z_C := match st with
  | .float x :: r => if i < nL then some (pc, z_st1 ls i (.float x), r, hp) else none
  | _ => none
def z_sD (nL pc : Nat) (ls : z_Ls) (i : Nat) (st : List Value) (hp : z_H) : Option z_C := match st with
  | .double x :: r => if i + 1 < nL then some (pc, z_st2 ls i (.double x), r, hp) else none
  | _ => none
def z_inc (nL pc : Nat) (ls : z_Ls) (i : Nat) (n : Int) (st : List Value) (hp : z_H) : Option z_C := match z_get ls i with
  | some (.int x) => if i < nL then some (pc, z_st1 ls i (.int (x + Int32.ofInt n)), st, hp) else none
  | _ => none
def z_dup (st : List Value) : Option (List Value) := match st with
  | v :: r => if v.category = 1 then some (v :: v :: r) else none
  | _ => none
def z_dup2 (st : List Value) : Option (List Value) := match st with
  | v :: w :: r => if v.category = 1 ∧ w.category = 1 then some (v :: w :: v :: w :: r) else none
  | _ => none
def z_pop (st : List Value) : Option (List Value) := match st with
  | v :: r => if v.category = 1 then some r else none
  | _ => none
def z_ifc (c : ClassFile.Cond) (pc : Nat) (off : Int) (ls : z_Ls) (st : List Value) (hp : z_H) : Option z_C := match st with
  | .int x :: r => match z_tgt pc off with
    | some t => bif z_cmp0 c x then some (t, ls, r, hp) else some (pc + 3, ls, r, hp)
    | none => none
  | _ => none
def z_icm (c : ClassFile.Cond) (pc : Nat) (off : Int) (ls : z_Ls) (st : List Value) (hp : z_H) : Option z_C := match st with
  | .int y :: .int x :: r => match z_tgt pc off with
    | some t => bif z_cmp2 c x y then some (t, ls, r, hp) else some (pc + 3, ls, r, hp)
    | none => none
  | _ => none
def z_gto (pc : Nat) (off : Int) (ls : z_Ls) (st : List Value) (hp : z_H) : Option z_C := match z_tgt pc off with
  | some t => some (t, ls, st, hp)
  | none => none
/-- at a jump back the locals of the loop's body are let go -/
def z_cut : List Nat → z_Ls → z_Ls
  | [n], ls => ls.filter (fun q => Nat.blt q.1 n)
  | _, ls => ls
def z_ifn (pc : Nat) (off : Int) (ls : z_Ls) (st : List Value) (hp : z_H) : Option z_C := match st with
  | .ref _ :: r => some (pc + 3, ls, r, hp)
  | _ => none
def z_tsw (pc : Nat) (dflt lo hi : Int) (offs : Array Int) (ls : z_Ls) (st : List Value) (hp : z_H) : Option z_C := match st with
  | .int x :: r => if x.toInt < lo ∨ hi < x.toInt then z_gto pc dflt ls r hp else match offs[(x.toInt - lo).toNat]? with
    | some off => z_gto pc off ls r hp
    | none => none
  | _ => none
def z_lsw (pc : Nat) (dflt : Int) (ps : Array (Int × Int)) (ls : z_Ls) (st : List Value) (hp : z_H) : Option z_C := match st with
  | .int x :: r => bif (ps.toList.zip (ps.toList.drop 1)).all (fun (a, next) => a.1 < next.1) then z_gto pc (Op.lookupswitch.offset ps.toList dflt x.toInt) ls r hp else none
  | _ => none
def z_gf (ax : List Nat) (st : List Value) (hp : z_H) : Option (List Value) := match ax, st with
  | ci :: j :: _, .ref a :: r => match hp.1[a]? with
    | some (.inr (c, fs)) => if c = ci then match fs[j]? with
      | some v => some (v :: r)
      | none => none
      else none
    | _ => none
  | _, _ => none
def z_pf (ax : List Nat) (pc : Nat) (ls : z_Ls) (st : List Value) (hp : z_H) : Option z_C := match ax, st with
  | ci :: j :: _, v :: .ref a :: r => match hp.1[a]? with
    | some (.inr (c, fs)) => if c = ci ∧ j < fs.length ∧ narrow (z_ty ci j) v = v ∧ fits (z_ty ci j) v = true ∧ z_vwf hp.1.length v = true then some (pc + 3, ls, r, (hp.1.set a (.inr (c, fs.set j v)), hp.2)) else none
    | _ => none
  | _, _ => none
/-- a cell to be read; 2000 is the law's script -/
def z_hg (sc : Nat × (Nat → Int32)) (hp : z_H) (a : Nat) : Option va_E := bif Nat.beq a 2000 then some (.inl (0, sc.1, .inl sc.2)) else hp.1[a]?
/-- an int, char or boolean is read -/
def z_ald (sc : Nat × (Nat → Int32)) (t : Nat) (st : List Value) (hp : z_H) : Option (List Value) := match st with
  | .int i :: .ref a :: r => match z_hg sc hp a with
    | some (.inl (t0, n, .inl f)) => bif Nat.beq t0 t && z_inb i n then some (.int (f i.toNatClampNeg) :: r) else none
    | _ => none
  | _ => none
/-- an int, char or boolean is written, as its array keeps it -/
def z_ast (t : Nat) (g : Int32 → Int32) (pc : Nat) (ls : z_Ls) (st : List Value) (hp : z_H) : Option z_C := match st with
  | .int x :: .int i :: .ref a :: r => match hp.1[a]? with
    | some (.inl (t0, n, .inl f)) => bif Nat.beq t0 t && z_inb i n then some (pc + 1, ls, r, (hp.1.set a (.inl (t0, n, .inl (upd f i.toNatClampNeg (g x)))), hp.2)) else none
    | _ => none
  | _ => none
def z_lald (st : List Value) (hp : z_H) : Option (List Value) := match st with
  | .int i :: .ref a :: r => match hp.1[a]? with
    | some (.inl (t0, n, .inr (.inl f))) => bif Nat.beq t0 3 && z_inb i n then some (.long (f i.toNatClampNeg) :: r) else none
    | _ => none
  | _ => none
def z_last (pc : Nat) (ls : z_Ls) (st : List Value) (hp : z_H) : Option z_C := match st with
  | .long x :: .int i :: .ref a :: r => match hp.1[a]? with
    | some (.inl (t0, n, .inr (.inl f))) => bif Nat.beq t0 3 && z_inb i n then some (pc + 1, ls, r, (hp.1.set a (.inl (t0, n, .inr (.inl (vp_updL f i.toNatClampNeg x)))), hp.2)) else none
    | _ => none
  | _ => none
def z_dald (st : List Value) (hp : z_H) : Option (List Value) := match st with
  | .int i :: .ref a :: r => match hp.1[a]? with
    | some (.inl (t0, n, .inr (.inr (.inr (.inl f))))) => bif Nat.beq t0 4 && z_inb i n then some (.double (f i.toNatClampNeg) :: r) else none
    | _ => none
  | _ => none
def z_dast (pc : Nat) (ls : z_Ls) (st : List Value) (hp : z_H) : Option z_C := match st with
  | .double x :: .int i :: .ref a :: r => match hp.1[a]? with
    | some (.inl (t0, n, .inr (.inr (.inr (.inl f))))) => bif Nat.beq t0 4 && z_inb i n then some (pc + 1, ls, r, (hp.1.set a (.inl (t0, n, .inr (.inr (.inr (.inl (vf_upd f i.toNatClampNeg x)))))), hp.2)) else none
    | _ => none
  | _ => none
def z_qald (st : List Value) (hp : z_H) : Option (List Value) := match st with
  | .int i :: .ref a :: r => match hp.1[a]? with
    | some (.inl (t0, n, .inr (.inr (.inr (.inr f))))) => bif Nat.beq t0 5 && z_inb i n then some (va_rf (f i.toNatClampNeg) :: r) else none
    | _ => none
  | _ => none
def z_qast (pc : Nat) (ls : z_Ls) (st : List Value) (hp : z_H) : Option z_C := match st with
  | .ref v :: .int i :: .ref a :: r => match hp.1[a]?, hp.1[v]? with
    | some (.inl (t0, n, .inr (.inr (.inr (.inr f))))), some (.inr (c, _)) => bif Nat.beq t0 5 && (Nat.beq c 7 && z_inb i n) then some (pc + 1, ls, r, (hp.1.set a (.inl (t0, n, .inr (.inr (.inr (.inr (va_up f i.toNatClampNeg (some v))))))), hp.2)) else none
    | _, _ => none
  | _ => none
def z_len (sc : Nat × (Nat → Int32)) (st : List Value) (hp : z_H) : Option (List Value) := match st with
  | .ref a :: r => match z_hg sc hp a with
    | some (.inl (t0, x)) => bif Nat.blt t0 6 then some (.int (Int32.ofNat x.1) :: r) else none
    | _ => none
  | _ => none
def z_mka (ax : List Nat) (pc : Nat) (ls : z_Ls) (st : List Value) (hp : z_H) : Option z_C := match ax, st with
  | t :: _, .int n :: r => if ¬ n < 0 ∧ n.toNatClampNeg < 100000 ∧ z_wfb hp.1.length ls r = true ∧ hp.1.length < 999 ∧ t < 6 then some (pc, ls, .ref hp.1.length :: r, (hp.1 ++ [z_new t n.toNatClampNeg], hp.2.1, hp.2.2 + n.toNatClampNeg)) else none
  | _, _ => none
def z_mko (ax : List Nat) (pc : Nat) (ls : z_Ls) (st : List Value) (hp : z_H) : Option z_C := match ax with
  | ci :: N :: _ => if z_wfb hp.1.length ls st = true ∧ hp.1.length < 999 then some (pc + 3, ls, .ref hp.1.length :: st, (hp.1 ++ [.inr (ci, (List.range N).map (fun j => z_def (z_ty ci j)))], hp.2.1, hp.2.2 + N)) else none
  | _ => none
def z_ldc (ax : List Nat) (st : List Value) : Option (List Value) := match ax with
  | [0, _, v] => some (.int (Int32.ofNat v) :: st)
  | [1, j] => some (.ref (1000 + j) :: st)
  | _ => none
def z_cpy (pc : Nat) (ls : z_Ls) (st : List Value) (hp : z_H) : Option z_C := match st with
  | .int n :: .int dp :: .ref a :: .int sp :: .ref b :: r => match hp.1[b]?, hp.1[a]? with
    | some (.inl (t0, n0, .inl f)), some (.inl (t1, n1, .inl g)) => if t0 = 0 ∧ t1 = 0 ∧ ¬ sp < 0 ∧ ¬ dp < 0 ∧ ¬ n < 0 ∧ sp.toNatClampNeg + n.toNatClampNeg ≤ n0 ∧ dp.toNatClampNeg + n.toNatClampNeg ≤ n1 then some (pc + 3, ls, r, (hp.1.set a (.inl (t1, n1, .inl (va_cpy f g sp.toNatClampNeg dp.toNatClampNeg n.toNatClampNeg))), hp.2)) else none
    | _, _ => none
  | _ => none
/-- the text of the String constants, by their numbers -/
def z_str : Nat → List Nat
  | 0 => [103, 101, 97, 114, 32]
  | 1 => [109, 101, 115, 104, 32]
  | 2 => [116, 117, 114, 110, 32]
  | 3 => [119, 104, 101, 101, 108, 32]
  | 4 => [110, 111, 116, 101, 32]
  | 5 => [104, 111, 117, 114, 32]
  | 6 => [116, 117, 114, 110, 32, 48, 43, 55, 59, 116, 117, 114, 110, 32, 49, 45, 51, 48, 59, 104, 111, 117, 114, 32, 53]
  | 7 => [104, 111, 117, 114, 32, 49, 59, 116, 117, 114, 110, 32, 48, 43, 48]
  | 8 => [103, 101, 97, 114, 32, 55]
  | 9 => [116, 117, 114, 110, 32, 48]
  | 10 => [109, 101, 115, 104, 32, 48, 45, 49]
  | 11 => [119, 104, 101, 101, 108, 32, 48, 42]
  | 12 => [110, 111, 116, 101, 32, 97]
  | 13 => [103, 101, 97, 114, 32, 49, 50, 51]
  | 14 => []
  | 15 => [104, 111, 117, 114, 32, 57, 59]
  | 16 => [110, 111, 116, 101, 32, 65, 48]
  | 17 => [116, 117, 114, 110, 32, 48, 42, 53]
  | 18 => [103]
  | 19 => [122]
  | _ => [103, 101, 97, 114, 32, 52, 48, 59, 103, 101, 97, 114, 32, 50, 48, 59, 103, 101, 97, 114, 32, 51, 48, 59, 109, 101, 115, 104, 32, 48, 45, 49, 47, 51, 59, 109, 101, 115, 104, 32, 50, 45, 49, 47, 50]
def z_slen (st : List Value) : Option (List Value) := match st with
  | .ref a :: r => bif Nat.ble 1000 a && Nat.blt a 1021 then some (.int (Int32.ofNat (z_str (a - 1000)).length) :: r) else none
  | _ => none
def z_sch (st : List Value) : Option (List Value) := match st with
  | .int i :: .ref a :: r => bif Nat.ble 1000 a && Nat.blt a 1021 && z_inb i (z_str (a - 1000)).length then some (.int (Int32.ofNat ((z_str (a - 1000)).getD i.toNatClampNeg 0)) :: r) else none
  | _ => none
/-- what a call to the JDK does that is taken whole -/
def z_jo (d pc : Nat) (ls : z_Ls) (st : List Value) (hp : z_H) : Option z_C := match st with
  | .ref _ :: r => if 1 ≤ d ∧ z_cat r ≤ 8 then some (pc + 3, ls, r, hp) else none
  | _ => none
def z_jc (d pc : Nat) (ls : z_Ls) (st : List Value) (hp : z_H) : Option z_C := if 1 ≤ d ∧ z_cat st ≤ 8 then z_cpy pc ls st hp else none
def z_jl (d pc : Nat) (ls : z_Ls) (st : List Value) (hp : z_H) : Option z_C := if 6 ≤ d ∧ z_cat st ≤ 8 then z_mk (pc + 3) ls hp (z_slen st) else none
def z_jx (d pc : Nat) (ls : z_Ls) (st : List Value) (hp : z_H) : Option z_C := if 6 ≤ d ∧ z_cat st ≤ 8 then z_mk (pc + 3) ls hp (z_sch st) else none
def z_jdk (ax : List Nat) (d pc : Nat) (ls : z_Ls) (st : List Value) (hp : z_H) : Option z_C := match ax with
  | 6 :: _ => z_jo d pc ls st hp
  | 7 :: _ => z_jc d pc ls st hp
  | 8 :: _ => z_jl d pc ls st hp
  | 9 :: _ => z_jx d pc ls st hp
  | _ => none
/-- a step within a frame; d: how deep further calls may go, nL: the frame's locals -/
def z_loc (sc : Nat × (Nat → Int32)) (d nL : Nat) (i : Instr) (ax : List Nat) (pc : Nat) (ls : z_Ls) (st : List Value) (hp : z_H) : Option z_C := match i with
  | .iconst n => some (pc + 1, ls, .int (Int32.ofInt n) :: st, hp)
  | .bipush n => some (pc + 2, ls, .int (Int8.ofInt n).toInt32 :: st, hp)
  | .sipush n => some (pc + 3, ls, .int (Int16.ofInt n).toInt32 :: st, hp)
  | .lconst n => some (pc + 1, ls, .long (Int64.ofNat (n : Nat)) :: st, hp)
  | .dconst n => if n = 0 then some (pc + 1, ls, .double FP.dconst0 :: st, hp) else none
  | .fconst n => if n = 0 then some (pc + 1, ls, .float FP.fconst0 :: st, hp) else if n = 1 then some (pc + 1, ls, .float FP.fconst1 :: st, hp) else none
  | .ldc _ => z_mk (pc + 2) ls hp (z_ldc ax st)
  | .iload_n k => z_mk (pc + 1) ls hp (z_ldI ls k st)
  | .iload k => z_mk (pc + 2) ls hp (z_ldI ls k st)
  | .aload_n k => z_mk (pc + 1) ls hp (z_ldA ls k st)
  | .aload k => z_mk (pc + 2) ls hp (z_ldA ls k st)
  | .fload k => z_mk (pc + 2) ls hp (z_ldF ls k st)
  | .dload k => z_mk (pc + 2) ls hp (z_ldD ls k st)
  | .istore_n k => z_sI nL (pc + 1) ls k st hp
  | .istore k => z_sI nL (pc + 2) ls k st hp
  | .astore_n k => z_sA nL (pc + 1) ls k st hp
  | .astore k => z_sA nL (pc + 2) ls k st hp
  | .fstore k => z_sF nL (pc + 2) ls k st hp
  | .dstore k => z_sD nL (pc + 2) ls k st hp
  | .iinc k n => z_inc nL (pc + 3) ls k n st hp
  | .iadd => z_mk (pc + 1) ls hp (z_i2 (fun x y => some (.int (x + y))) st)
  | .isub => z_mk (pc + 1) ls hp (z_i2 (fun x y => some (.int (x - y))) st)
  | .imul => z_mk (pc + 1) ls hp (z_i2 (fun x y => some (.int (x * y))) st)
  | .iand => z_mk (pc + 1) ls hp (z_i2 (fun x y => some (.int (x &&& y))) st)
  | .ishr => z_mk (pc + 1) ls hp (z_i2 (fun x y => some (.int (x >>> (y &&& 31)))) st)
  | .ixor => z_mk (pc + 1) ls hp (z_i2 (fun x y => some (.int (x ^^^ y))) st)
  | .idiv => z_mk (pc + 1) ls hp (z_i2 (fun x y => if y = 0 then none else some (.int (x / y))) st)
  | .irem => z_mk (pc + 1) ls hp (z_i2 (fun x y => if y = 0 then none else some (.int (x - x / y * y))) st)
  | .ineg => z_mk (pc + 1) ls hp (z_i1 (fun x => some (.int (-x))) st)
  | .i2c => z_mk (pc + 1) ls hp (z_i1 (fun x => some (.int (x.toUInt32 % 65536).toInt32)) st)
  | .i2l => z_mk (pc + 1) ls hp (z_i1 (fun x => some (.long x.toInt64)) st)
  | .i2d => z_mk (pc + 1) ls hp (z_i1 (fun x => some (.double (FP.i2d x))) st)
  | .i2f => z_mk (pc + 1) ls hp (z_i1 (fun x => some (.float (FP.i2f x))) st)
  | .f2d => match st with
    | .float x :: r => if FP.f2d x &&& 0x7fffffffffffffff ≤ 0x7ff0000000000000 then some (pc + 1, ls, .double (FP.f2d x) :: r, hp) else none
    | _ => none
  | .ddiv => match st with
    | .double y :: .double x :: r => if FP.ddiv x y &&& 0x7fffffffffffffff ≤ 0x7ff0000000000000 then some (pc + 1, ls, .double (FP.ddiv x y) :: r, hp) else none
    | _ => none
  | .fdiv => match st with
    | .float y :: .float x :: r => if FP.fdiv x y &&& 0x7fffffff ≤ 0x7f800000 then some (pc + 1, ls, .float (FP.fdiv x y) :: r, hp) else none
    | _ => none
  | .lcmp => match st with
    | .long y :: .long x :: r => some (pc + 1, ls, .int (lg_cmp x y) :: r, hp)
    | _ => none
  | .dcmp op => match st with
    | .double y :: .double x :: r => some (pc + 1, ls, .int (Op.cmpValue (FP.dcmp x y) op) :: r, hp)
    | _ => none
  | .fcmp op => match st with
    | .float y :: .float x :: r => some (pc + 1, ls, .int (Op.cmpValue (FP.fcmp x y) op) :: r, hp)
    | _ => none
  | .dup => z_mk (pc + 1) ls hp (z_dup st)
  | .dup2 => z_mk (pc + 1) ls hp (z_dup2 st)
  | .pop => z_mk (pc + 1) ls hp (z_pop st)
  | .ifCond c off => z_ifc c pc off ls st hp
  | .if_icmp c off => z_icm c pc off ls st hp
  | .goto off => z_gto pc off (z_cut ax ls) st hp
  | .ifnull off => z_ifn pc off ls st hp
  | .tableswitch dflt lo hi offs => z_tsw pc dflt lo hi offs ls st hp
  | .lookupswitch dflt ps => z_lsw pc dflt ps ls st hp
  | .getfield _ => z_mk (pc + 3) ls hp (z_gf ax st hp)
  | .putfield _ => z_pf ax pc ls st hp
  | .iaload => z_mk (pc + 1) ls hp (z_ald sc 0 st hp)
  | .caload => z_mk (pc + 1) ls hp (z_ald sc 1 st hp)
  | .baload => z_mk (pc + 1) ls hp (z_ald sc 2 st hp)
  | .iastore => z_ast 0 id pc ls st hp
  | .castore => z_ast 1 (vp_nar .char) pc ls st hp
  | .bastore => z_ast 2 (vp_nar .boolean) pc ls st hp
  | .laload => z_mk (pc + 1) ls hp (z_lald st hp)
  | .lastore => z_last pc ls st hp
  | .daload => z_mk (pc + 1) ls hp (z_dald st hp)
  | .dastore => z_dast pc ls st hp
  | .aaload => z_mk (pc + 1) ls hp (z_qald st hp)
  | .aastore => z_qast pc ls st hp
  | .arraylength => z_mk (pc + 1) ls hp (z_len sc st hp)
  | .newarray _ => z_mka ax (pc + 2) ls st hp
  | .anewarray _ => z_mka ax (pc + 3) ls st hp
  | .new _ => z_mko ax pc ls st hp
  | .invokespecial _ => z_jdk ax d pc ls st hp
  | .invokestatic _ => z_jdk ax d pc ls st hp
  | .invokevirtual _ => z_jdk ax d pc ls st hp
  | _ => none
end ZI
end
section
section ZT
/-- GearObservatory$CommandReader.<init>(LGearObservatory$SignRow;)V -/
def z_c0 : List z_En := [(0, .aload_n 0, 1, []), (1, .invokespecial 3, 3, [6, 0, 0, 1238, 1033, 1034]), (4, .aload_n 0, 1, []), (5, .bipush 9, 2, []), (7, .newarray .int, 2, [0, 1094]), (9, .putfield 9, 3, [0, 3, 2004]), (12, .aload_n 0, 1, []), (13, .bipush 27, 2, []), (15, .newarray .int, 2, [0, 1094]), (17, .putfield 15, 3, [0, 4, 2005]), (20, .aload_n 0, 1, []), (21, .aload_n 1, 1, []), (22, .putfield 18, 3, [0, 2, 2003]), (25, .return_, 1, [])]
/-- GearObservatory$CommandReader.readText()Z -/
def z_c1 : List z_En := [(0, .aload_n 0, 1, []), (1, .iconst 0, 1, []), (2, .putfield 22, 3, [0, 0, 1239]), (5, .aload_n 0, 1, []), (6, .iconst 0, 1, []), (7, .putfield 26, 3, [0, 1, 2001]), (10, .iconst 0, 1, []), (11, .istore_n 1, 1, []), (12, .iload_n 1, 1, []), (13, .bipush 9, 2, []), (15, .if_icmp .ge 57, 3, []), (18, .aload_n 0, 1, []), (19, .invokevirtual 29, 3, [0, 4, 0, 4169, 4171, 21, 1010, 4172]), (22, .ifCond .ne 5, 3, []), (25, .iconst 0, 1, []), (26, .ireturn, 1, []), (27, .aload_n 0, 1, []), (28, .dup, 1, []), (29, .getfield 26, 3, [0, 1, 2001]), (32, .iconst 1, 1, []), (33, .iadd, 1, []), (34, .putfield 26, 3, [0, 1, 2001]), (37, .aload_n 0, 1, []), (38, .bipush 59, 2, []), (40, .invokevirtual 33, 3, [0, 6, 1, 4230, 4232, 24, 1010, 4233]), (43, .ifCond .ne 23, 3, []), (46, .aload_n 0, 1, []), (47, .getfield 22, 3, [0, 0, 1239]), (50, .aload_n 0, 1, []), (51, .getfield 18, 3, [0, 2, 2003]), (54, .getfield 37, 3, [5, 0, 1198]), (57, .if_icmp .ne 7, 3, []), (60, .iconst 1, 1, []), (61, .goto 4, 3, []), (64, .iconst 0, 1, []), (65, .ireturn, 1, []), (66, .iinc 1 1, 3, []), (69, .goto (-57), 3, [2]), (72, .iconst 0, 1, []), (73, .ireturn, 1, [])]
/-- GearObservatory$CommandReader.kindOf(I)I -/
def z_c2 : List z_En := [(0, .iload_n 1, 1, []), (1, .ifCond .lt 20, 3, []), (4, .iload_n 1, 1, []), (5, .aload_n 0, 1, []), (6, .getfield 26, 3, [0, 1, 2001]), (9, .if_icmp .ge 12, 3, []), (12, .aload_n 0, 1, []), (13, .getfield 9, 3, [0, 3, 2004]), (16, .iload_n 1, 1, []), (17, .iaload, 1, []), (18, .goto 4, 3, []), (21, .iconst (-1), 1, []), (22, .ireturn, 1, [])]
/-- GearObservatory$CommandReader.valueOf(II)I -/
def z_c3 : List z_En := [(0, .iload_n 1, 1, []), (1, .ifCond .lt 24, 3, []), (4, .iload_n 1, 1, []), (5, .aload_n 0, 1, []), (6, .getfield 26, 3, [0, 1, 2001]), (9, .if_icmp .ge 16, 3, []), (12, .aload_n 0, 1, []), (13, .getfield 15, 3, [0, 4, 2005]), (16, .iload_n 1, 1, []), (17, .iconst 3, 1, []), (18, .imul, 1, []), (19, .iload_n 2, 1, []), (20, .iadd, 1, []), (21, .iaload, 1, []), (22, .goto 4, 3, []), (25, .iconst (-1), 1, []), (26, .ireturn, 1, [])]
/-- GearObservatory$CommandReader.readCommand()Z -/
def z_c4_0 : List z_En := [(0, .aload_n 0, 1, []), (1, .getfield 9, 3, [0, 3, 2004]), (4, .aload_n 0, 1, []), (5, .getfield 26, 3, [0, 1, 2001]), (8, .aload_n 0, 1, []), (9, .invokevirtual 42, 3, [0, 5, 0, 4173, 4175, 22, 1010, 4176]), (12, .iastore, 1, []), (13, .aload_n 0, 1, []), (14, .getfield 9, 3, [0, 3, 2004]), (17, .aload_n 0, 1, []), (18, .getfield 26, 3, [0, 1, 2001]), (21, .iaload, 1, []), (22, .tableswitch 321 103 119 #[82, 297, 321, 321, 321, 321, 106, 266, 321, 321, 321, 321, 321, 163, 321, 321, 225], 82, []), (104, .aload_n 0, 1, []), (105, .ldc 46, 2, [1, 0]), (107, .invokevirtual 48, 3, [0, 7, 1, 4178, 4180, 23, 1010, 4181]), (110, .ifCond .eq 16, 3, []), (113, .aload_n 0, 1, []), (114, .iconst 0, 1, []), (115, .iconst 1, 1, []), (116, .invokevirtual 52, 3, [0, 11, 2, 4234, 4236, 25, 1010, 4237]), (119, .ifCond .eq 7, 3, []), (122, .iconst 1, 1, []), (123, .goto 4, 3, []), (126, .iconst 0, 1, []), (127, .ireturn, 1, []), (128, .aload_n 0, 1, []), (129, .ldc 56, 2, [1, 1]), (131, .invokevirtual 48, 3, [0, 7, 1, 4178, 4180, 23, 1010, 4181]), (134, .ifCond .eq 49, 3, []), (137, .aload_n 0, 1, []), (138, .iconst 0, 1, []), (139, .invokevirtual 58, 3, [0, 9, 1, 4238, 5000, 26, 1010, 5001]), (142, .ifCond .eq 41, 3, []), (145, .aload_n 0, 1, []), (146, .bipush 45, 2, []), (148, .invokevirtual 33, 3, [0, 6, 1, 4230, 4232, 24, 1010, 4233]), (151, .ifCond .eq 32, 3, []), (154, .aload_n 0, 1, []), (155, .iconst 1, 1, []), (156, .invokevirtual 58, 3, [0, 9, 1, 4238, 5000, 26, 1010, 5001]), (159, .ifCond .eq 24, 3, []), (162, .aload_n 0, 1, []), (163, .bipush 47, 2, []), (165, .invokevirtual 33, 3, [0, 6, 1, 4230, 4232, 24, 1010, 4233]), (168, .ifCond .eq 15, 3, []), (171, .aload_n 0, 1, []), (172, .iconst 2, 1, []), (173, .invokevirtual 58, 3, [0, 9, 1, 4238, 5000, 26, 1010, 5001]), (176, .ifCond .eq 7, 3, []), (179, .iconst 1, 1, []), (180, .goto 4, 3, []), (183, .iconst 0, 1, []), (184, .ireturn, 1, []), (185, .aload_n 0, 1, []), (186, .ldc 62, 2, [1, 2]), (188, .invokevirtual 48, 3, [0, 7, 1, 4178, 4180, 23, 1010, 4181]), (191, .ifCond .eq 54, 3, []), (194, .aload_n 0, 1, []), (195, .iconst 0, 1, [])]
def z_c4_1 : List z_En := [(196, .invokevirtual 58, 3, [0, 9, 1, 4238, 5000, 26, 1010, 5001]), (199, .ifCond .eq 46, 3, []), (202, .aload_n 0, 1, []), (203, .bipush 43, 2, []), (205, .invokevirtual 33, 3, [0, 6, 1, 4230, 4232, 24, 1010, 4233]), (208, .ifCond .eq 15, 3, []), (211, .aload_n 0, 1, []), (212, .iconst 1, 1, []), (213, .iconst 1, 1, []), (214, .invokevirtual 52, 3, [0, 11, 2, 4234, 4236, 25, 1010, 4237]), (217, .ifCond .eq 28, 3, []), (220, .goto 21, 3, []), (223, .aload_n 0, 1, []), (224, .bipush 45, 2, []), (226, .invokevirtual 33, 3, [0, 6, 1, 4230, 4232, 24, 1010, 4233]), (229, .ifCond .eq 16, 3, []), (232, .aload_n 0, 1, []), (233, .iconst 1, 1, []), (234, .iconst (-1), 1, []), (235, .invokevirtual 52, 3, [0, 11, 2, 4234, 4236, 25, 1010, 4237]), (238, .ifCond .eq 7, 3, []), (241, .iconst 1, 1, []), (242, .goto 4, 3, []), (245, .iconst 0, 1, []), (246, .ireturn, 1, []), (247, .aload_n 0, 1, []), (248, .ldc 64, 2, [1, 3]), (250, .invokevirtual 48, 3, [0, 7, 1, 4178, 4180, 23, 1010, 4181]), (253, .ifCond .eq 33, 3, []), (256, .aload_n 0, 1, []), (257, .iconst 0, 1, []), (258, .invokevirtual 58, 3, [0, 9, 1, 4238, 5000, 26, 1010, 5001]), (261, .ifCond .eq 25, 3, []), (264, .aload_n 0, 1, []), (265, .bipush 42, 2, []), (267, .invokevirtual 33, 3, [0, 6, 1, 4230, 4232, 24, 1010, 4233]), (270, .ifCond .eq 16, 3, []), (273, .aload_n 0, 1, []), (274, .iconst 1, 1, []), (275, .iconst 1, 1, []), (276, .invokevirtual 52, 3, [0, 11, 2, 4234, 4236, 25, 1010, 4237]), (279, .ifCond .eq 7, 3, []), (282, .iconst 1, 1, []), (283, .goto 4, 3, []), (286, .iconst 0, 1, []), (287, .ireturn, 1, []), (288, .aload_n 0, 1, []), (289, .ldc 66, 2, [1, 4]), (291, .invokevirtual 48, 3, [0, 7, 1, 4178, 4180, 23, 1010, 4181]), (294, .ifCond .eq 23, 3, []), (297, .aload_n 0, 1, []), (298, .iconst 0, 1, []), (299, .invokevirtual 68, 3, [0, 8, 1, 5018, 5020, 30, 1010, 5021]), (302, .ifCond .eq 15, 3, []), (305, .aload_n 0, 1, []), (306, .iconst 1, 1, []), (307, .invokevirtual 58, 3, [0, 9, 1, 4238, 5000, 26, 1010, 5001]), (310, .ifCond .eq 7, 3, []), (313, .iconst 1, 1, []), (314, .goto 4, 3, [])]
def z_c4_2 : List z_En := [(317, .iconst 0, 1, []), (318, .ireturn, 1, []), (319, .aload_n 0, 1, []), (320, .ldc 71, 2, [1, 5]), (322, .invokevirtual 48, 3, [0, 7, 1, 4178, 4180, 23, 1010, 4181]), (325, .ifCond .eq 16, 3, []), (328, .aload_n 0, 1, []), (329, .iconst 0, 1, []), (330, .iconst 1, 1, []), (331, .invokevirtual 52, 3, [0, 11, 2, 4234, 4236, 25, 1010, 4237]), (334, .ifCond .eq 7, 3, []), (337, .iconst 1, 1, []), (338, .goto 4, 3, []), (341, .iconst 0, 1, []), (342, .ireturn, 1, []), (343, .iconst 0, 1, []), (344, .ireturn, 1, [])]
def z_c4 : List z_En := z_c4_0 ++ (z_c4_1 ++ (z_c4_2))
/-- GearObservatory$CommandReader.signAhead()I -/
def z_c5 : List z_En := [(0, .aload_n 0, 1, []), (1, .getfield 22, 3, [0, 0, 1239]), (4, .aload_n 0, 1, []), (5, .getfield 18, 3, [0, 2, 2003]), (8, .getfield 37, 3, [5, 0, 1198]), (11, .if_icmp .ge 18, 3, []), (14, .aload_n 0, 1, []), (15, .getfield 18, 3, [0, 2, 2003]), (18, .getfield 73, 3, [5, 1, 1201]), (21, .aload_n 0, 1, []), (22, .getfield 22, 3, [0, 0, 1239]), (25, .caload, 1, []), (26, .goto 4, 3, []), (29, .iconst (-1), 1, []), (30, .ireturn, 1, [])]
/-- GearObservatory$CommandReader.read(C)Z -/
def z_c6 : List z_En := [(0, .aload_n 0, 1, []), (1, .invokevirtual 42, 3, [0, 5, 0, 4173, 4175, 22, 1010, 4176]), (4, .iload_n 1, 1, []), (5, .if_icmp .eq 5, 3, []), (8, .iconst 0, 1, []), (9, .ireturn, 1, []), (10, .aload_n 0, 1, []), (11, .dup, 1, []), (12, .getfield 22, 3, [0, 0, 1239]), (15, .iconst 1, 1, []), (16, .iadd, 1, []), (17, .putfield 22, 3, [0, 0, 1239]), (20, .iconst 1, 1, []), (21, .ireturn, 1, [])]
/-- GearObservatory$CommandReader.readWord(Ljava/lang/String;)Z -/
def z_c7 : List z_En := [(0, .iconst 0, 1, []), (1, .istore_n 2, 1, []), (2, .iload_n 2, 1, []), (3, .aload_n 1, 1, []), (4, .invokevirtual 77, 3, [8]), (7, .if_icmp .ge 23, 3, []), (10, .aload_n 0, 1, []), (11, .aload_n 1, 1, []), (12, .iload_n 2, 1, []), (13, .invokevirtual 81, 3, [9]), (16, .invokevirtual 33, 3, [0, 6, 1, 4230, 4232, 24, 1010, 4233]), (19, .ifCond .ne 5, 3, []), (22, .iconst 0, 1, []), (23, .ireturn, 1, []), (24, .iinc 2 1, 3, []), (27, .goto (-25), 3, [3]), (30, .iconst 1, 1, []), (31, .ireturn, 1, [])]
/-- GearObservatory$CommandReader.readLetter(I)Z -/
def z_c8 : List z_En := [(0, .aload_n 0, 1, []), (1, .bipush 97, 2, []), (3, .bipush 122, 2, []), (5, .iload_n 1, 1, []), (6, .iconst 0, 1, []), (7, .invokevirtual 85, 3, [0, 10, 4, 5002, 5004, 27, 1010, 5005]), (10, .ireturn, 1, [])]
/-- GearObservatory$CommandReader.readDigit(I)Z -/
def z_c9 : List z_En := [(0, .aload_n 0, 1, []), (1, .bipush 48, 2, []), (3, .bipush 57, 2, []), (5, .iload_n 1, 1, []), (6, .bipush 48, 2, []), (8, .invokevirtual 85, 3, [0, 10, 4, 5002, 5004, 27, 1010, 5005]), (11, .ireturn, 1, [])]
/-- GearObservatory$CommandReader.readBetween(CCII)Z -/
def z_c10 : List z_En := [(0, .aload_n 0, 1, []), (1, .invokevirtual 42, 3, [0, 5, 0, 4173, 4175, 22, 1010, 4176]), (4, .istore 5, 2, []), (6, .iload 5, 2, []), (8, .iload_n 1, 1, []), (9, .if_icmp .lt 9, 3, []), (12, .iload 5, 2, []), (14, .iload_n 2, 1, []), (15, .if_icmp .le 5, 3, []), (18, .iconst 0, 1, []), (19, .ireturn, 1, []), (20, .aload_n 0, 1, []), (21, .iload_n 3, 1, []), (22, .iload 5, 2, []), (24, .iload 4, 2, []), (26, .isub, 1, []), (27, .invokevirtual 89, 3, [0, 13, 2, 5006, 5008, 28, 1010, 5009]), (30, .aload_n 0, 1, []), (31, .dup, 1, []), (32, .getfield 22, 3, [0, 0, 1239]), (35, .iconst 1, 1, []), (36, .iadd, 1, []), (37, .putfield 22, 3, [0, 0, 1239]), (40, .iconst 1, 1, []), (41, .ireturn, 1, [])]
/-- GearObservatory$CommandReader.readNumber(II)Z -/
def z_c11 : List z_En := [(0, .aload_n 0, 1, []), (1, .iload_n 1, 1, []), (2, .invokevirtual 58, 3, [0, 9, 1, 4238, 5000, 26, 1010, 5001]), (5, .ifCond .ne 5, 3, []), (8, .iconst 0, 1, []), (9, .ireturn, 1, []), (10, .aload_n 0, 1, []), (11, .iload_n 1, 1, []), (12, .invokevirtual 93, 3, [0, 12, 1, 5010, 5012, 29, 1010, 5013]), (15, .istore_n 3, 1, []), (16, .aload_n 0, 1, []), (17, .iload_n 1, 1, []), (18, .invokevirtual 58, 3, [0, 9, 1, 4238, 5000, 26, 1010, 5001]), (21, .ifCond .eq 14, 3, []), (24, .bipush 10, 2, []), (26, .iload_n 3, 1, []), (27, .imul, 1, []), (28, .aload_n 0, 1, []), (29, .iload_n 1, 1, []), (30, .invokevirtual 93, 3, [0, 12, 1, 5010, 5012, 29, 1010, 5013]), (33, .iadd, 1, []), (34, .istore_n 3, 1, []), (35, .aload_n 0, 1, []), (36, .iload_n 1, 1, []), (37, .iload_n 2, 1, []), (38, .iload_n 3, 1, []), (39, .imul, 1, []), (40, .invokevirtual 89, 3, [0, 13, 2, 5006, 5008, 28, 1010, 5009]), (43, .iconst 1, 1, []), (44, .ireturn, 1, [])]
/-- GearObservatory$CommandReader.value(I)I -/
def z_c12 : List z_En := [(0, .aload_n 0, 1, []), (1, .getfield 15, 3, [0, 4, 2005]), (4, .aload_n 0, 1, []), (5, .getfield 26, 3, [0, 1, 2001]), (8, .iconst 3, 1, []), (9, .imul, 1, []), (10, .iload_n 1, 1, []), (11, .iadd, 1, []), (12, .iaload, 1, []), (13, .ireturn, 1, [])]
/-- GearObservatory$CommandReader.setValue(II)V -/
def z_c13 : List z_En := [(0, .aload_n 0, 1, []), (1, .getfield 15, 3, [0, 4, 2005]), (4, .aload_n 0, 1, []), (5, .getfield 26, 3, [0, 1, 2001]), (8, .iconst 3, 1, []), (9, .imul, 1, []), (10, .iload_n 1, 1, []), (11, .iadd, 1, []), (12, .iload_n 2, 1, []), (13, .iastore, 1, []), (14, .return_, 1, [])]
/-- GearObservatory$Entries.<init>()V -/
def z_c14 : List z_En := [(0, .aload_n 0, 1, []), (1, .invokespecial 3, 3, [6, 0, 0, 1152, 1033, 1034]), (4, .aload_n 0, 1, []), (5, .bipush 6, 2, []), (7, .newarray .int, 2, [0, 1094]), (9, .putfield 9, 3, [1, 1, 1155]), (12, .aload_n 0, 1, []), (13, .bipush 6, 2, []), (15, .newarray .int, 2, [0, 1094]), (17, .putfield 15, 3, [1, 2, 1156]), (20, .aload_n 0, 1, []), (21, .bipush 6, 2, []), (23, .newarray .int, 2, [0, 1094]), (25, .putfield 18, 3, [1, 3, 1157]), (28, .aload_n 0, 1, []), (29, .bipush 60, 2, []), (31, .newarray .int, 2, [0, 1094]), (33, .putfield 21, 3, [1, 4, 1159]), (36, .return_, 1, [])]
/-- GearObservatory$Entries.copyFrom(LGearObservatory$Entries;)V -/
def z_c15 : List z_En := [(0, .aload_n 0, 1, []), (1, .aload_n 1, 1, []), (2, .getfield 24, 3, [1, 0, 1153]), (5, .putfield 24, 3, [1, 0, 1153]), (8, .aload_n 1, 1, []), (9, .getfield 9, 3, [1, 1, 1155]), (12, .iconst 0, 1, []), (13, .aload_n 0, 1, []), (14, .getfield 9, 3, [1, 1, 1155]), (17, .iconst 0, 1, []), (18, .bipush 6, 2, []), (20, .invokestatic 28, 3, [7, 0, 5, 2101, 2086, 2085, 1018]), (23, .aload_n 1, 1, []), (24, .getfield 15, 3, [1, 2, 1156]), (27, .iconst 0, 1, []), (28, .aload_n 0, 1, []), (29, .getfield 15, 3, [1, 2, 1156]), (32, .iconst 0, 1, []), (33, .bipush 6, 2, []), (35, .invokestatic 28, 3, [7, 0, 5, 2101, 2086, 2085, 1018]), (38, .aload_n 1, 1, []), (39, .getfield 18, 3, [1, 3, 1157]), (42, .iconst 0, 1, []), (43, .aload_n 0, 1, []), (44, .getfield 18, 3, [1, 3, 1157]), (47, .iconst 0, 1, []), (48, .bipush 6, 2, []), (50, .invokestatic 28, 3, [7, 0, 5, 2101, 2086, 2085, 1018]), (53, .aload_n 1, 1, []), (54, .getfield 21, 3, [1, 4, 1159]), (57, .iconst 0, 1, []), (58, .aload_n 0, 1, []), (59, .getfield 21, 3, [1, 4, 1159]), (62, .iconst 0, 1, []), (63, .bipush 60, 2, []), (65, .invokestatic 28, 3, [7, 0, 5, 2101, 2086, 2085, 1018]), (68, .return_, 1, [])]
/-- GearObservatory$Entries.placeOf(CI)I -/
def z_c16 : List z_En := [(0, .iconst 0, 1, []), (1, .istore_n 3, 1, []), (2, .iload_n 3, 1, []), (3, .aload_n 0, 1, []), (4, .getfield 24, 3, [1, 0, 1153]), (7, .if_icmp .ge 31, 3, []), (10, .aload_n 0, 1, []), (11, .getfield 9, 3, [1, 1, 1155]), (14, .iload_n 3, 1, []), (15, .iaload, 1, []), (16, .iload_n 1, 1, []), (17, .if_icmp .ne 15, 3, []), (20, .aload_n 0, 1, []), (21, .getfield 15, 3, [1, 2, 1156]), (24, .iload_n 3, 1, []), (25, .iaload, 1, []), (26, .iload_n 2, 1, []), (27, .if_icmp .ne 5, 3, []), (30, .iload_n 3, 1, []), (31, .ireturn, 1, []), (32, .iinc 3 1, 3, []), (35, .goto (-33), 3, [4]), (38, .iconst (-1), 1, []), (39, .ireturn, 1, [])]
/-- GearObservatory$Entries.write(CILGearObservatory$GearTrain;)I -/
def z_c17 : List z_En := [(0, .aload_n 0, 1, []), (1, .iload_n 1, 1, []), (2, .iload_n 2, 1, []), (3, .invokevirtual 34, 3, [0, 16, 2, 4085, 4078, 4079, 1006, 4080]), (6, .istore 4, 2, []), (8, .iload 4, 2, []), (10, .iconst (-1), 1, []), (11, .if_icmp .ne 28, 3, []), (14, .aload_n 0, 1, []), (15, .getfield 24, 3, [1, 0, 1153]), (18, .bipush 6, 2, []), (20, .if_icmp .ge 19, 3, []), (23, .aload_n 0, 1, []), (24, .getfield 24, 3, [1, 0, 1153]), (27, .istore 4, 2, []), (29, .aload_n 0, 1, []), (30, .dup, 1, []), (31, .getfield 24, 3, [1, 0, 1153]), (34, .iconst 1, 1, []), (35, .iadd, 1, []), (36, .putfield 24, 3, [1, 0, 1153]), (39, .iload 4, 2, []), (41, .iconst (-1), 1, []), (42, .if_icmp .eq 49, 3, []), (45, .aload_n 0, 1, []), (46, .getfield 9, 3, [1, 1, 1155]), (49, .iload 4, 2, []), (51, .iload_n 1, 1, []), (52, .iastore, 1, []), (53, .aload_n 0, 1, []), (54, .getfield 15, 3, [1, 2, 1156]), (57, .iload 4, 2, []), (59, .iload_n 2, 1, []), (60, .iastore, 1, []), (61, .aload_n 0, 1, []), (62, .getfield 18, 3, [1, 3, 1157]), (65, .iload 4, 2, []), (67, .aload_n 3, 1, []), (68, .getfield 38, 3, [2, 0, 1048]), (71, .iastore, 1, []), (72, .aload_n 3, 1, []), (73, .getfield 42, 3, [2, 4, 1062]), (76, .iconst 0, 1, []), (77, .aload_n 0, 1, []), (78, .getfield 21, 3, [1, 4, 1159]), (81, .iload 4, 2, []), (83, .bipush 10, 2, []), (85, .imul, 1, []), (86, .bipush 10, 2, []), (88, .invokestatic 28, 3, [7, 0, 5, 2101, 2086, 2085, 1018]), (91, .aload_n 0, 1, []), (92, .getfield 24, 3, [1, 0, 1153]), (95, .ireturn, 1, [])]
/-- GearObservatory$Entries.removeAt(I)I -/
def z_c18 : List z_En := [(0, .aload_n 0, 1, []), (1, .dup, 1, []), (2, .getfield 24, 3, [1, 0, 1153]), (5, .iconst 1, 1, []), (6, .isub, 1, []), (7, .putfield 24, 3, [1, 0, 1153]), (10, .aload_n 0, 1, []), (11, .getfield 9, 3, [1, 1, 1155]), (14, .iload_n 1, 1, []), (15, .aload_n 0, 1, []), (16, .getfield 9, 3, [1, 1, 1155]), (19, .aload_n 0, 1, []), (20, .getfield 24, 3, [1, 0, 1153]), (23, .iaload, 1, []), (24, .iastore, 1, []), (25, .aload_n 0, 1, []), (26, .getfield 15, 3, [1, 2, 1156]), (29, .iload_n 1, 1, []), (30, .aload_n 0, 1, []), (31, .getfield 15, 3, [1, 2, 1156]), (34, .aload_n 0, 1, []), (35, .getfield 24, 3, [1, 0, 1153]), (38, .iaload, 1, []), (39, .iastore, 1, []), (40, .aload_n 0, 1, []), (41, .getfield 18, 3, [1, 3, 1157]), (44, .iload_n 1, 1, []), (45, .aload_n 0, 1, []), (46, .getfield 18, 3, [1, 3, 1157]), (49, .aload_n 0, 1, []), (50, .getfield 24, 3, [1, 0, 1153]), (53, .iaload, 1, []), (54, .iastore, 1, []), (55, .aload_n 0, 1, []), (56, .getfield 21, 3, [1, 4, 1159]), (59, .aload_n 0, 1, []), (60, .getfield 24, 3, [1, 0, 1153]), (63, .bipush 10, 2, []), (65, .imul, 1, []), (66, .aload_n 0, 1, []), (67, .getfield 21, 3, [1, 4, 1159]), (70, .iload_n 1, 1, []), (71, .bipush 10, 2, []), (73, .imul, 1, []), (74, .bipush 10, 2, []), (76, .invokestatic 28, 3, [7, 0, 5, 2101, 2086, 2085, 1018]), (79, .aload_n 0, 1, []), (80, .getfield 24, 3, [1, 0, 1153]), (83, .ireturn, 1, [])]
/-- GearObservatory$Entries.positionIn(II)I -/
def z_c19 : List z_En := [(0, .aload_n 0, 1, []), (1, .getfield 21, 3, [1, 4, 1159]), (4, .iload_n 1, 1, []), (5, .bipush 10, 2, []), (7, .imul, 1, []), (8, .iload_n 2, 1, []), (9, .iadd, 1, []), (10, .iaload, 1, []), (11, .ireturn, 1, [])]
/-- GearObservatory$Entries.differencesTo(LGearObservatory$GearTrain;I)I -/
def z_c20 : List z_En := [(0, .iconst 0, 1, []), (1, .istore_n 3, 1, []), (2, .iconst 0, 1, []), (3, .istore 4, 2, []), (5, .iload 4, 2, []), (7, .aload_n 0, 1, []), (8, .getfield 18, 3, [1, 3, 1157]), (11, .iload_n 2, 1, []), (12, .iaload, 1, []), (13, .if_icmp .ge 29, 3, []), (16, .aload_n 0, 1, []), (17, .iload_n 2, 1, []), (18, .iload 4, 2, []), (20, .invokevirtual 45, 3, [0, 19, 2, 4125, 4114, 4115, 1006, 4116]), (23, .aload_n 1, 1, []), (24, .getfield 42, 3, [2, 4, 1062]), (27, .iload 4, 2, []), (29, .iaload, 1, []), (30, .if_icmp .eq 6, 3, []), (33, .iinc 3 1, 3, []), (36, .iinc 4 1, 3, []), (39, .goto (-34), 3, [5]), (42, .iload_n 3, 1, []), (43, .ireturn, 1, [])]
/-- GearObservatory$GearTrain.<init>()V -/
def z_c21 : List z_En := [(0, .aload_n 0, 1, []), (1, .invokespecial 3, 3, [6, 0, 0, 1046, 1033, 1034]), (4, .aload_n 0, 1, []), (5, .bipush 10, 2, []), (7, .newarray .int, 2, [0, 1094]), (9, .putfield 9, 3, [2, 3, 1056]), (12, .aload_n 0, 1, []), (13, .bipush 10, 2, []), (15, .newarray .int, 2, [0, 1094]), (17, .putfield 15, 3, [2, 4, 1060]), (20, .aload_n 0, 1, []), (21, .bipush 9, 2, []), (23, .newarray .int, 2, [0, 1094]), (25, .putfield 18, 3, [2, 5, 1065]), (28, .aload_n 0, 1, []), (29, .bipush 9, 2, []), (31, .newarray .int, 2, [0, 1094]), (33, .putfield 21, 3, [2, 6, 1067]), (36, .aload_n 0, 1, []), (37, .bipush 9, 2, []), (39, .newarray .int, 2, [0, 1094]), (41, .putfield 24, 3, [2, 7, 1069]), (44, .aload_n 0, 1, []), (45, .bipush 9, 2, []), (47, .newarray .int, 2, [0, 1094]), (49, .putfield 27, 3, [2, 8, 1072]), (52, .return_, 1, [])]
/-- GearObservatory$GearTrain.copyFrom(LGearObservatory$GearTrain;)V -/
def z_c22_0 : List z_En := [(0, .aload_n 0, 1, []), (1, .aload_n 1, 1, []), (2, .getfield 30, 3, [2, 0, 1047]), (5, .putfield 30, 3, [2, 0, 1047]), (8, .aload_n 0, 1, []), (9, .aload_n 1, 1, []), (10, .getfield 34, 3, [2, 1, 1051]), (13, .putfield 34, 3, [2, 1, 1051]), (16, .aload_n 0, 1, []), (17, .aload_n 1, 1, []), (18, .getfield 37, 3, [2, 2, 1054]), (21, .putfield 37, 3, [2, 2, 1054]), (24, .aload_n 1, 1, []), (25, .getfield 9, 3, [2, 3, 1056]), (28, .iconst 0, 1, []), (29, .aload_n 0, 1, []), (30, .getfield 9, 3, [2, 3, 1056]), (33, .iconst 0, 1, []), (34, .bipush 10, 2, []), (36, .invokestatic 40, 3, [7, 0, 5, 2084, 2086, 2085, 1018]), (39, .aload_n 1, 1, []), (40, .getfield 15, 3, [2, 4, 1060]), (43, .iconst 0, 1, []), (44, .aload_n 0, 1, []), (45, .getfield 15, 3, [2, 4, 1060]), (48, .iconst 0, 1, []), (49, .bipush 10, 2, []), (51, .invokestatic 40, 3, [7, 0, 5, 2084, 2086, 2085, 1018]), (54, .aload_n 1, 1, []), (55, .getfield 18, 3, [2, 5, 1065]), (58, .iconst 0, 1, []), (59, .aload_n 0, 1, []), (60, .getfield 18, 3, [2, 5, 1065]), (63, .iconst 0, 1, []), (64, .bipush 9, 2, []), (66, .invokestatic 40, 3, [7, 0, 5, 2084, 2086, 2085, 1018]), (69, .aload_n 1, 1, []), (70, .getfield 21, 3, [2, 6, 1067]), (73, .iconst 0, 1, []), (74, .aload_n 0, 1, []), (75, .getfield 21, 3, [2, 6, 1067]), (78, .iconst 0, 1, []), (79, .bipush 9, 2, []), (81, .invokestatic 40, 3, [7, 0, 5, 2084, 2086, 2085, 1018]), (84, .aload_n 1, 1, []), (85, .getfield 24, 3, [2, 7, 1069]), (88, .iconst 0, 1, []), (89, .aload_n 0, 1, []), (90, .getfield 24, 3, [2, 7, 1069]), (93, .iconst 0, 1, []), (94, .bipush 9, 2, []), (96, .invokestatic 40, 3, [7, 0, 5, 2084, 2086, 2085, 1018]), (99, .aload_n 1, 1, []), (100, .getfield 27, 3, [2, 8, 1072]), (103, .iconst 0, 1, []), (104, .aload_n 0, 1, []), (105, .getfield 27, 3, [2, 8, 1072]), (108, .iconst 0, 1, []), (109, .bipush 9, 2, []), (111, .invokestatic 40, 3, [7, 0, 5, 2084, 2086, 2085, 1018])]
def z_c22_1 : List z_En := [(114, .return_, 1, [])]
def z_c22 : List z_En := z_c22_0 ++ (z_c22_1)
/-- GearObservatory$GearTrain.hasGear(I)Z -/
def z_c23 : List z_En := [(0, .iload_n 1, 1, []), (1, .ifCond .lt 15, 3, []), (4, .iload_n 1, 1, []), (5, .aload_n 0, 1, []), (6, .getfield 30, 3, [2, 0, 1047]), (9, .if_icmp .ge 7, 3, []), (12, .iconst 1, 1, []), (13, .goto 4, 3, []), (16, .iconst 0, 1, []), (17, .ireturn, 1, [])]
/-- GearObservatory$GearTrain.addGearOf(I)I -/
def z_c24 : List z_En := [(0, .aload_n 0, 1, []), (1, .getfield 30, 3, [2, 0, 1047]), (4, .istore_n 2, 1, []), (5, .iload_n 2, 1, []), (6, .bipush 10, 2, []), (8, .if_icmp .ge 27, 3, []), (11, .aload_n 0, 1, []), (12, .getfield 9, 3, [2, 3, 1056]), (15, .iload_n 2, 1, []), (16, .iload_n 1, 1, []), (17, .iastore, 1, []), (18, .aload_n 0, 1, []), (19, .getfield 15, 3, [2, 4, 1060]), (22, .iload_n 2, 1, []), (23, .iconst 0, 1, []), (24, .iastore, 1, []), (25, .aload_n 0, 1, []), (26, .dup, 1, []), (27, .getfield 30, 3, [2, 0, 1047]), (30, .iconst 1, 1, []), (31, .iadd, 1, []), (32, .putfield 30, 3, [2, 0, 1047]), (35, .iload_n 2, 1, []), (36, .ireturn, 1, [])]
/-- GearObservatory$GearTrain.join(III)I -/
def z_c25 : List z_En := [(0, .aload_n 0, 1, []), (1, .getfield 34, 3, [2, 1, 1051]), (4, .bipush 9, 2, []), (6, .if_icmp .ge 53, 3, []), (9, .aload_n 0, 1, []), (10, .getfield 18, 3, [2, 5, 1065]), (13, .aload_n 0, 1, []), (14, .getfield 34, 3, [2, 1, 1051]), (17, .iload_n 1, 1, []), (18, .iastore, 1, []), (19, .aload_n 0, 1, []), (20, .getfield 21, 3, [2, 6, 1067]), (23, .aload_n 0, 1, []), (24, .getfield 34, 3, [2, 1, 1051]), (27, .iload_n 2, 1, []), (28, .iastore, 1, []), (29, .aload_n 0, 1, []), (30, .getfield 24, 3, [2, 7, 1069]), (33, .aload_n 0, 1, []), (34, .getfield 34, 3, [2, 1, 1051]), (37, .iload_n 3, 1, []), (38, .iastore, 1, []), (39, .aload_n 0, 1, []), (40, .getfield 27, 3, [2, 8, 1072]), (43, .aload_n 0, 1, []), (44, .getfield 34, 3, [2, 1, 1051]), (47, .iconst 0, 1, []), (48, .iastore, 1, []), (49, .aload_n 0, 1, []), (50, .dup, 1, []), (51, .getfield 34, 3, [2, 1, 1051]), (54, .iconst 1, 1, []), (55, .iadd, 1, []), (56, .putfield 34, 3, [2, 1, 1051]), (59, .aload_n 0, 1, []), (60, .getfield 34, 3, [2, 1, 1051]), (63, .ireturn, 1, [])]
/-- GearObservatory$GearTrain.separate(I)I -/
def z_c26_0 : List z_En := [(0, .aload_n 0, 1, []), (1, .getfield 27, 3, [2, 8, 1072]), (4, .iload_n 1, 1, []), (5, .iaload, 1, []), (6, .istore_n 2, 1, []), (7, .aload_n 0, 1, []), (8, .dup, 1, []), (9, .getfield 34, 3, [2, 1, 1051]), (12, .iconst 1, 1, []), (13, .isub, 1, []), (14, .putfield 34, 3, [2, 1, 1051]), (17, .iload_n 1, 1, []), (18, .istore_n 3, 1, []), (19, .iload_n 3, 1, []), (20, .aload_n 0, 1, []), (21, .getfield 34, 3, [2, 1, 1051]), (24, .if_icmp .ge 65, 3, []), (27, .aload_n 0, 1, []), (28, .getfield 18, 3, [2, 5, 1065]), (31, .iload_n 3, 1, []), (32, .aload_n 0, 1, []), (33, .getfield 18, 3, [2, 5, 1065]), (36, .iload_n 3, 1, []), (37, .iconst 1, 1, []), (38, .iadd, 1, []), (39, .iaload, 1, []), (40, .iastore, 1, []), (41, .aload_n 0, 1, []), (42, .getfield 21, 3, [2, 6, 1067]), (45, .iload_n 3, 1, []), (46, .aload_n 0, 1, []), (47, .getfield 21, 3, [2, 6, 1067]), (50, .iload_n 3, 1, []), (51, .iconst 1, 1, []), (52, .iadd, 1, []), (53, .iaload, 1, []), (54, .iastore, 1, []), (55, .aload_n 0, 1, []), (56, .getfield 24, 3, [2, 7, 1069]), (59, .iload_n 3, 1, []), (60, .aload_n 0, 1, []), (61, .getfield 24, 3, [2, 7, 1069]), (64, .iload_n 3, 1, []), (65, .iconst 1, 1, []), (66, .iadd, 1, []), (67, .iaload, 1, []), (68, .iastore, 1, []), (69, .aload_n 0, 1, []), (70, .getfield 27, 3, [2, 8, 1072]), (73, .iload_n 3, 1, []), (74, .aload_n 0, 1, []), (75, .getfield 27, 3, [2, 8, 1072]), (78, .iload_n 3, 1, []), (79, .iconst 1, 1, []), (80, .iadd, 1, []), (81, .iaload, 1, []), (82, .iastore, 1, []), (83, .iinc 3 1, 3, []), (86, .goto (-67), 3, [4]), (89, .iload_n 2, 1, [])]
def z_c26_1 : List z_En := [(90, .ireturn, 1, [])]
def z_c26 : List z_En := z_c26_0 ++ (z_c26_1)
/-- GearObservatory$GearTrain.acrossFrom(II)I -/
def z_c27 : List z_En := [(0, .aload_n 0, 1, []), (1, .getfield 18, 3, [2, 5, 1065]), (4, .iload_n 2, 1, []), (5, .iaload, 1, []), (6, .iload_n 1, 1, []), (7, .if_icmp .ne 10, 3, []), (10, .aload_n 0, 1, []), (11, .getfield 21, 3, [2, 6, 1067]), (14, .iload_n 2, 1, []), (15, .iaload, 1, []), (16, .ireturn, 1, []), (17, .aload_n 0, 1, []), (18, .getfield 21, 3, [2, 6, 1067]), (21, .iload_n 2, 1, []), (22, .iaload, 1, []), (23, .iload_n 1, 1, []), (24, .if_icmp .ne 12, 3, []), (27, .aload_n 0, 1, []), (28, .getfield 18, 3, [2, 5, 1065]), (31, .iload_n 2, 1, []), (32, .iaload, 1, []), (33, .goto 4, 3, []), (36, .iconst (-1), 1, []), (37, .ireturn, 1, [])]
/-- GearObservatory$GearTrain.meshBetween(II)I -/
def z_c28 : List z_En := [(0, .iconst 0, 1, []), (1, .istore_n 3, 1, []), (2, .iload_n 3, 1, []), (3, .aload_n 0, 1, []), (4, .getfield 34, 3, [2, 1, 1051]), (7, .if_icmp .ge 21, 3, []), (10, .aload_n 0, 1, []), (11, .iload_n 1, 1, []), (12, .iload_n 3, 1, []), (13, .invokevirtual 46, 3, [0, 27, 2, 3013, 3014, 3015, 1003, 3016]), (16, .iload_n 2, 1, []), (17, .if_icmp .ne 5, 3, []), (20, .iload_n 3, 1, []), (21, .ireturn, 1, []), (22, .iinc 3 1, 3, []), (25, .goto (-23), 3, [4]), (28, .iconst (-1), 1, []), (29, .ireturn, 1, [])]
/-- GearObservatory$GearTrain.turnGear(II)I -/
def z_c29 : List z_En := [(0, .aload_n 0, 1, []), (1, .iload_n 1, 1, []), (2, .iload_n 2, 1, []), (3, .iconst (-1), 1, []), (4, .iconst 0, 1, []), (5, .invokestatic 50, 3, [1, 30, 5, 3033, 3034, 0, 1003, 3035]), (8, .ireturn, 1, [])]
/-- GearObservatory$GearTrain.turnOnwards(LGearObservatory$GearTrain;IIII)I -/
def z_c30_0 : List z_En := [(0, .iload 4, 2, []), (2, .bipush 10, 2, []), (4, .if_icmp .ge 11, 3, []), (7, .aload_n 0, 1, []), (8, .iload_n 1, 1, []), (9, .invokevirtual 54, 3, [0, 23, 1, 3036, 3006, 3007, 1003, 3008]), (12, .ifCond .ne 5, 3, []), (15, .iconst 0, 1, []), (16, .ireturn, 1, []), (17, .aload_n 0, 1, []), (18, .getfield 15, 3, [2, 4, 1060]), (21, .iload_n 1, 1, []), (22, .dup2, 1, []), (23, .iaload, 1, []), (24, .iload_n 2, 1, []), (25, .iadd, 1, []), (26, .iastore, 1, []), (27, .aload_n 0, 1, []), (28, .dup, 1, []), (29, .getfield 37, 3, [2, 2, 1054]), (32, .iload_n 2, 1, []), (33, .invokestatic 58, 3, [1, 158, 1, 3037, 3038, 0, 1008, 3039]), (36, .iadd, 1, []), (37, .putfield 37, 3, [2, 2, 1054]), (40, .iconst 1, 1, []), (41, .istore 5, 2, []), (43, .iconst 0, 1, []), (44, .istore 6, 2, []), (46, .iload 6, 2, []), (48, .aload_n 0, 1, []), (49, .getfield 34, 3, [2, 1, 1051]), (52, .if_icmp .ge 63, 3, []), (55, .aload_n 0, 1, []), (56, .iload_n 1, 1, []), (57, .iload 6, 2, []), (59, .invokevirtual 46, 3, [0, 27, 2, 3013, 3014, 3015, 1003, 3016]), (62, .istore 7, 2, []), (64, .iload 7, 2, []), (66, .iconst (-1), 1, []), (67, .if_icmp .eq 42, 3, []), (70, .iload 7, 2, []), (72, .iload_n 3, 1, []), (73, .if_icmp .eq 36, 3, []), (76, .aload_n 0, 1, []), (77, .iload 6, 2, []), (79, .iload_n 2, 1, []), (80, .invokevirtual 64, 3, [0, 31, 2, 3040, 3042, 5, 1003, 3043]), (83, .istore 8, 2, []), (85, .iload 8, 2, []), (87, .ifCond .eq 22, 3, []), (90, .iload 5, 2, []), (92, .aload_n 0, 1, []), (93, .iload 7, 2, []), (95, .iload 8, 2, []), (97, .ineg, 1, []), (98, .iload_n 1, 1, []), (99, .iload 4, 2, []), (101, .iconst 1, 1, []), (102, .iadd, 1, []), (103, .invokestatic 50, 3, [1, 30, 5, 3033, 3034, 0, 1003, 3035])]
def z_c30_1 : List z_En := [(106, .iadd, 1, []), (107, .istore 5, 2, []), (109, .iinc 6 1, 3, []), (112, .goto (-66), 3, [7]), (115, .iload 5, 2, []), (117, .ireturn, 1, [])]
def z_c30 : List z_En := z_c30_0 ++ (z_c30_1)
/-- GearObservatory$GearTrain.restAfterGap(II)I -/
def z_c31 : List z_En := [(0, .iload_n 2, 1, []), (1, .ifCond .le 28, 3, []), (4, .iload_n 2, 1, []), (5, .aload_n 0, 1, []), (6, .getfield 27, 3, [2, 8, 1072]), (9, .iload_n 1, 1, []), (10, .iaload, 1, []), (11, .invokestatic 67, 3, [1, 160, 2, 3044, 2235, 0, 1008, 2236]), (14, .istore_n 3, 1, []), (15, .aload_n 0, 1, []), (16, .getfield 27, 3, [2, 8, 1072]), (19, .iload_n 1, 1, []), (20, .dup2, 1, []), (21, .iaload, 1, []), (22, .iload_n 3, 1, []), (23, .isub, 1, []), (24, .iastore, 1, []), (25, .iload_n 2, 1, []), (26, .iload_n 3, 1, []), (27, .isub, 1, []), (28, .ireturn, 1, []), (29, .iload_n 2, 1, []), (30, .ineg, 1, []), (31, .aload_n 0, 1, []), (32, .getfield 24, 3, [2, 7, 1069]), (35, .iload_n 1, 1, []), (36, .iaload, 1, []), (37, .aload_n 0, 1, []), (38, .getfield 27, 3, [2, 8, 1072]), (41, .iload_n 1, 1, []), (42, .iaload, 1, []), (43, .isub, 1, []), (44, .invokestatic 67, 3, [1, 160, 2, 3044, 2235, 0, 1008, 2236]), (47, .istore_n 3, 1, []), (48, .aload_n 0, 1, []), (49, .getfield 27, 3, [2, 8, 1072]), (52, .iload_n 1, 1, []), (53, .dup2, 1, []), (54, .iaload, 1, []), (55, .iload_n 3, 1, []), (56, .iadd, 1, []), (57, .iastore, 1, []), (58, .iload_n 2, 1, []), (59, .iload_n 3, 1, []), (60, .iadd, 1, []), (61, .ireturn, 1, [])]
/-- GearObservatory$GearWalks.<init>(LGearObservatory$GearTrain;)V -/
def z_c32 : List z_En := [(0, .aload_n 0, 1, []), (1, .invokespecial 3, 3, [6, 0, 0, 1213, 1033, 1034]), (4, .aload_n 0, 1, []), (5, .new 9, 3, [2, 9, 1214, 1042, 1003]), (8, .dup, 1, []), (9, .invokespecial 11, 3, [4, 21, 0, 1215, 1044, 0, 1003, 1045]), (12, .putfield 12, 3, [3, 1, 1217]), (15, .aload_n 0, 1, []), (16, .bipush 10, 2, []), (18, .newarray .int, 2, [0, 1094]), (20, .putfield 18, 3, [3, 2, 1218]), (23, .aload_n 0, 1, []), (24, .bipush 10, 2, []), (26, .newarray .int, 2, [0, 1094]), (28, .putfield 22, 3, [3, 3, 1219]), (31, .aload_n 0, 1, []), (32, .bipush 10, 2, []), (34, .newarray .boolean, 2, [2, 1232]), (36, .putfield 25, 3, [3, 4, 1220]), (39, .aload_n 0, 1, []), (40, .aload_n 1, 1, []), (41, .putfield 29, 3, [3, 0, 1216]), (44, .return_, 1, [])]
/-- GearObservatory$GearWalks.chainLength(II)I -/
def z_c33 : List z_En := [(0, .aload_n 0, 1, []), (1, .getfield 29, 3, [3, 0, 1216]), (4, .aload_n 0, 1, []), (5, .getfield 18, 3, [3, 2, 1218]), (8, .iload_n 1, 1, []), (9, .iload_n 2, 1, []), (10, .iconst (-1), 1, []), (11, .iconst 0, 1, []), (12, .invokestatic 32, 3, [1, 34, 6, 3118, 3119, 0, 1009, 3120]), (15, .ireturn, 1, [])]
/-- GearObservatory$GearWalks.extendChain(LGearObservatory$GearTrain;[IIIII)I -/
def z_c34 : List z_En := [(0, .iload 5, 2, []), (2, .aload_n 1, 1, []), (3, .arraylength, 1, []), (4, .if_icmp .lt 5, 3, []), (7, .iconst (-1), 1, []), (8, .ireturn, 1, []), (9, .aload_n 1, 1, []), (10, .iload 5, 2, []), (12, .iload_n 2, 1, []), (13, .iastore, 1, []), (14, .iload_n 2, 1, []), (15, .iload_n 3, 1, []), (16, .if_icmp .ne 6, 3, []), (19, .iload 5, 2, []), (21, .ireturn, 1, []), (22, .iconst 0, 1, []), (23, .istore 6, 2, []), (25, .iload 6, 2, []), (27, .aload_n 0, 1, []), (28, .getfield 36, 3, [2, 1, 1052]), (31, .if_icmp .ge 55, 3, []), (34, .aload_n 0, 1, []), (35, .iload_n 2, 1, []), (36, .iload 6, 2, []), (38, .invokevirtual 40, 3, [0, 27, 2, 3081, 3014, 3015, 1003, 3016]), (41, .istore 7, 2, []), (43, .iload 7, 2, []), (45, .iconst (-1), 1, []), (46, .if_icmp .eq 34, 3, []), (49, .iload 7, 2, []), (51, .iload 4, 2, []), (53, .if_icmp .eq 27, 3, []), (56, .aload_n 0, 1, []), (57, .aload_n 1, 1, []), (58, .iload 7, 2, []), (60, .iload_n 3, 1, []), (61, .iload_n 2, 1, []), (62, .iload 5, 2, []), (64, .iconst 1, 1, []), (65, .iadd, 1, []), (66, .invokestatic 32, 3, [1, 34, 6, 3118, 3119, 0, 1009, 3120]), (69, .istore 8, 2, []), (71, .iload 8, 2, []), (73, .iconst (-1), 1, []), (74, .if_icmp .eq 6, 3, []), (77, .iload 8, 2, []), (79, .ireturn, 1, []), (80, .iinc 6 1, 3, []), (83, .goto (-58), 3, [7]), (86, .iconst (-1), 1, []), (87, .ireturn, 1, [])]
/-- GearObservatory$GearWalks.sizeOfTrain(I)I -/
def z_c35 : List z_En := [(0, .aload_n 0, 1, []), (1, .invokevirtual 44, 3, [0, 37, 0, 3073, 3075, 8, 1009, 3076]), (4, .aload_n 0, 1, []), (5, .getfield 29, 3, [3, 0, 1216]), (8, .aload_n 0, 1, []), (9, .getfield 25, 3, [3, 4, 1220]), (12, .iload_n 1, 1, []), (13, .iconst 0, 1, []), (14, .invokestatic 47, 3, [1, 38, 4, 3077, 3078, 0, 1009, 3079]), (17, .ireturn, 1, [])]
/-- GearObservatory$GearWalks.countByWalks()I -/
def z_c36 : List z_En := [(0, .aload_n 0, 1, []), (1, .invokevirtual 44, 3, [0, 37, 0, 3073, 3075, 8, 1009, 3076]), (4, .iconst 0, 1, []), (5, .istore_n 1, 1, []), (6, .iconst 0, 1, []), (7, .istore_n 2, 1, []), (8, .iload_n 2, 1, []), (9, .aload_n 0, 1, []), (10, .getfield 29, 3, [3, 0, 1216]), (13, .getfield 51, 3, [2, 0, 1049]), (16, .if_icmp .ge 28, 3, []), (19, .aload_n 0, 1, []), (20, .getfield 29, 3, [3, 0, 1216]), (23, .aload_n 0, 1, []), (24, .getfield 25, 3, [3, 4, 1220]), (27, .iload_n 2, 1, []), (28, .iconst 0, 1, []), (29, .invokestatic 47, 3, [1, 38, 4, 3077, 3078, 0, 1009, 3079]), (32, .ifCond .le 6, 3, []), (35, .iinc 1 1, 3, []), (38, .iinc 2 1, 3, []), (41, .goto (-33), 3, [3]), (44, .iload_n 1, 1, []), (45, .ireturn, 1, [])]
/-- GearObservatory$GearWalks.forgetSeen()V -/
def z_c37 : List z_En := [(0, .iconst 0, 1, []), (1, .istore_n 1, 1, []), (2, .iload_n 1, 1, []), (3, .bipush 10, 2, []), (5, .if_icmp .ge 16, 3, []), (8, .aload_n 0, 1, []), (9, .getfield 25, 3, [3, 4, 1220]), (12, .iload_n 1, 1, []), (13, .iconst 0, 1, []), (14, .bastore, 1, []), (15, .iinc 1 1, 3, []), (18, .goto (-16), 3, [2]), (21, .return_, 1, [])]
/-- GearObservatory$GearWalks.walkFrom(LGearObservatory$GearTrain;[ZII)I -/
def z_c38 : List z_En := [(0, .iload_n 3, 1, []), (1, .bipush 10, 2, []), (3, .if_icmp .ge 17, 3, []), (6, .aload_n 0, 1, []), (7, .iload_n 2, 1, []), (8, .invokevirtual 54, 3, [0, 23, 1, 3080, 3006, 3007, 1003, 3008]), (11, .ifCond .eq 9, 3, []), (14, .aload_n 1, 1, []), (15, .iload_n 2, 1, []), (16, .baload, 1, []), (17, .ifCond .eq 5, 3, []), (20, .iconst 0, 1, []), (21, .ireturn, 1, []), (22, .aload_n 1, 1, []), (23, .iload_n 2, 1, []), (24, .iconst 1, 1, []), (25, .bastore, 1, []), (26, .iconst 1, 1, []), (27, .istore 4, 2, []), (29, .iconst 0, 1, []), (30, .istore 5, 2, []), (32, .iload 5, 2, []), (34, .aload_n 0, 1, []), (35, .getfield 36, 3, [2, 1, 1052]), (38, .if_icmp .ge 39, 3, []), (41, .aload_n 0, 1, []), (42, .iload_n 2, 1, []), (43, .iload 5, 2, []), (45, .invokevirtual 40, 3, [0, 27, 2, 3081, 3014, 3015, 1003, 3016]), (48, .istore 6, 2, []), (50, .iload 6, 2, []), (52, .iconst (-1), 1, []), (53, .if_icmp .eq 18, 3, []), (56, .iload 4, 2, []), (58, .aload_n 0, 1, []), (59, .aload_n 1, 1, []), (60, .iload 6, 2, []), (62, .iload_n 3, 1, []), (63, .iconst 1, 1, []), (64, .iadd, 1, []), (65, .invokestatic 47, 3, [1, 38, 4, 3077, 3078, 0, 1009, 3079]), (68, .iadd, 1, []), (69, .istore 4, 2, []), (71, .iinc 5 1, 3, []), (74, .goto (-42), 3, [6]), (77, .iload 4, 2, []), (79, .ireturn, 1, [])]
/-- GearObservatory$GearWalks.countByUniting()I -/
def z_c39 : List z_En := [(0, .iconst 0, 1, []), (1, .istore_n 1, 1, []), (2, .iload_n 1, 1, []), (3, .bipush 10, 2, []), (5, .if_icmp .ge 16, 3, []), (8, .aload_n 0, 1, []), (9, .getfield 22, 3, [3, 3, 1219]), (12, .iload_n 1, 1, []), (13, .iload_n 1, 1, []), (14, .iastore, 1, []), (15, .iinc 1 1, 3, []), (18, .goto (-16), 3, [2]), (21, .aload_n 0, 1, []), (22, .getfield 29, 3, [3, 0, 1216]), (25, .getfield 51, 3, [2, 0, 1049]), (28, .istore_n 1, 1, []), (29, .iconst 0, 1, []), (30, .istore_n 2, 1, []), (31, .iload_n 2, 1, []), (32, .aload_n 0, 1, []), (33, .getfield 29, 3, [3, 0, 1216]), (36, .getfield 36, 3, [2, 1, 1052]), (39, .if_icmp .ge 56, 3, []), (42, .aload_n 0, 1, []), (43, .getfield 22, 3, [3, 3, 1219]), (46, .aload_n 0, 1, []), (47, .getfield 29, 3, [3, 0, 1216]), (50, .getfield 58, 3, [2, 5, 1066]), (53, .iload_n 2, 1, []), (54, .iaload, 1, []), (55, .iaload, 1, []), (56, .istore_n 3, 1, []), (57, .aload_n 0, 1, []), (58, .getfield 22, 3, [3, 3, 1219]), (61, .aload_n 0, 1, []), (62, .getfield 29, 3, [3, 0, 1216]), (65, .getfield 61, 3, [2, 6, 1068]), (68, .iload_n 2, 1, []), (69, .iaload, 1, []), (70, .iaload, 1, []), (71, .istore 4, 2, []), (73, .iload_n 3, 1, []), (74, .iload 4, 2, []), (76, .if_icmp .eq 13, 3, []), (79, .aload_n 0, 1, []), (80, .iload 4, 2, []), (82, .iload_n 3, 1, []), (83, .invokevirtual 64, 3, [0, 40, 2, 3098, 3100, 9, 1009, 3101]), (86, .iinc 1 (-1), 3, []), (89, .iinc 2 1, 3, []), (92, .goto (-61), 3, [3]), (95, .iload_n 1, 1, []), (96, .ireturn, 1, [])]
/-- GearObservatory$GearWalks.renameSet(II)V -/
def z_c40 : List z_En := [(0, .iconst 0, 1, []), (1, .istore_n 3, 1, []), (2, .iload_n 3, 1, []), (3, .bipush 10, 2, []), (5, .if_icmp .ge 26, 3, []), (8, .aload_n 0, 1, []), (9, .getfield 22, 3, [3, 3, 1219]), (12, .iload_n 3, 1, []), (13, .iaload, 1, []), (14, .iload_n 1, 1, []), (15, .if_icmp .ne 10, 3, []), (18, .aload_n 0, 1, []), (19, .getfield 22, 3, [3, 3, 1219]), (22, .iload_n 3, 1, []), (23, .iload_n 2, 1, []), (24, .iastore, 1, []), (25, .iinc 3 1, 3, []), (28, .goto (-26), 3, [4]), (31, .return_, 1, [])]
/-- GearObservatory$GearWalks.numerator(II)I -/
def z_c41 : List z_En := [(0, .aload_n 0, 1, []), (1, .getfield 29, 3, [3, 0, 1216]), (4, .getfield 68, 3, [2, 3, 1059]), (7, .iload_n 1, 1, []), (8, .iaload, 1, []), (9, .aload_n 0, 1, []), (10, .getfield 29, 3, [3, 0, 1216]), (13, .getfield 68, 3, [2, 3, 1059]), (16, .iload_n 2, 1, []), (17, .iaload, 1, []), (18, .invokestatic 71, 3, [1, 44, 2, 3125, 3126, 0, 1009, 3127]), (21, .istore_n 3, 1, []), (22, .aload_n 0, 1, []), (23, .iload_n 1, 1, []), (24, .iload_n 2, 1, []), (25, .invokevirtual 74, 3, [0, 33, 2, 3129, 3115, 3116, 1009, 3117]), (28, .iconst 2, 1, []), (29, .irem, 1, []), (30, .ifCond .ne 7, 3, []), (33, .iload_n 3, 1, []), (34, .goto 5, 3, []), (37, .iload_n 3, 1, []), (38, .ineg, 1, []), (39, .ireturn, 1, [])]
/-- GearObservatory$GearWalks.denominator(II)I -/
def z_c42 : List z_En := [(0, .aload_n 0, 1, []), (1, .getfield 29, 3, [3, 0, 1216]), (4, .getfield 68, 3, [2, 3, 1059]), (7, .iload_n 2, 1, []), (8, .iaload, 1, []), (9, .aload_n 0, 1, []), (10, .getfield 29, 3, [3, 0, 1216]), (13, .getfield 68, 3, [2, 3, 1059]), (16, .iload_n 1, 1, []), (17, .iaload, 1, []), (18, .invokestatic 71, 3, [1, 44, 2, 3125, 3126, 0, 1009, 3127]), (21, .ireturn, 1, [])]
/-- GearObservatory$GearWalks.numeratorAlongChain(II)I -/
def z_c43 : List z_En := [(0, .aload_n 0, 1, []), (1, .iload_n 1, 1, []), (2, .iload_n 2, 1, []), (3, .invokevirtual 74, 3, [0, 33, 2, 3129, 3115, 3116, 1009, 3117]), (6, .istore_n 3, 1, []), (7, .iconst 1, 1, []), (8, .istore 4, 2, []), (10, .iconst 1, 1, []), (11, .istore 5, 2, []), (13, .iconst 0, 1, []), (14, .istore 6, 2, []), (16, .iload 6, 2, []), (18, .iload_n 3, 1, []), (19, .if_icmp .ge 70, 3, []), (22, .iload 4, 2, []), (24, .ineg, 1, []), (25, .aload_n 0, 1, []), (26, .getfield 29, 3, [3, 0, 1216]), (29, .getfield 68, 3, [2, 3, 1059]), (32, .aload_n 0, 1, []), (33, .getfield 18, 3, [3, 2, 1218]), (36, .iload 6, 2, []), (38, .iaload, 1, []), (39, .iaload, 1, []), (40, .imul, 1, []), (41, .istore 7, 2, []), (43, .iload 5, 2, []), (45, .aload_n 0, 1, []), (46, .getfield 29, 3, [3, 0, 1216]), (49, .getfield 68, 3, [2, 3, 1059]), (52, .aload_n 0, 1, []), (53, .getfield 18, 3, [3, 2, 1218]), (56, .iload 6, 2, []), (58, .iconst 1, 1, []), (59, .iadd, 1, []), (60, .iaload, 1, []), (61, .iaload, 1, []), (62, .imul, 1, []), (63, .istore 8, 2, []), (65, .iload 7, 2, []), (67, .iload 8, 2, []), (69, .invokestatic 71, 3, [1, 44, 2, 3125, 3126, 0, 1009, 3127]), (72, .istore 4, 2, []), (74, .iload 8, 2, []), (76, .iload 7, 2, []), (78, .invokestatic 71, 3, [1, 44, 2, 3125, 3126, 0, 1009, 3127]), (81, .istore 5, 2, []), (83, .iinc 6 1, 3, []), (86, .goto (-70), 3, [7]), (89, .iload 4, 2, []), (91, .ireturn, 1, [])]
/-- GearObservatory$GearWalks.reduced(II)I -/
def z_c44 : List z_En := [(0, .iload_n 0, 1, []), (1, .invokestatic 77, 3, [1, 158, 1, 3128, 3038, 0, 1008, 3039]), (4, .istore_n 2, 1, []), (5, .iload_n 1, 1, []), (6, .invokestatic 77, 3, [1, 158, 1, 3128, 3038, 0, 1008, 3039]), (9, .istore_n 3, 1, []), (10, .iconst 0, 1, []), (11, .istore 4, 2, []), (13, .iload 4, 2, []), (15, .bipush 100, 2, []), (17, .if_icmp .ge 23, 3, []), (20, .iload_n 3, 1, []), (21, .ifCond .eq 19, 3, []), (24, .iload_n 2, 1, []), (25, .iload_n 3, 1, []), (26, .irem, 1, []), (27, .istore 5, 2, []), (29, .iload_n 3, 1, []), (30, .istore_n 2, 1, []), (31, .iload 5, 2, []), (33, .istore_n 3, 1, []), (34, .iinc 4 1, 3, []), (37, .goto (-24), 3, [5]), (40, .iload_n 2, 1, []), (41, .iconst 1, 1, []), (42, .if_icmp .le 9, 3, []), (45, .iload_n 0, 1, []), (46, .iload_n 2, 1, []), (47, .idiv, 1, []), (48, .goto 4, 3, []), (51, .iload_n 0, 1, []), (52, .ireturn, 1, [])]
/-- GearObservatory$GearWalks.playOfGaps(II)I -/
def z_c45 : List z_En := [(0, .aload_n 0, 1, []), (1, .iload_n 1, 1, []), (2, .iload_n 2, 1, []), (3, .invokevirtual 74, 3, [0, 33, 2, 3129, 3115, 3116, 1009, 3117]), (6, .istore_n 3, 1, []), (7, .iconst 0, 1, []), (8, .istore 4, 2, []), (10, .iconst 0, 1, []), (11, .istore 5, 2, []), (13, .iload 5, 2, []), (15, .iload_n 3, 1, []), (16, .if_icmp .ge 86, 3, []), (19, .aload_n 0, 1, []), (20, .getfield 29, 3, [3, 0, 1216]), (23, .aload_n 0, 1, []), (24, .getfield 18, 3, [3, 2, 1218]), (27, .iload 5, 2, []), (29, .iaload, 1, []), (30, .aload_n 0, 1, []), (31, .getfield 18, 3, [3, 2, 1218]), (34, .iload 5, 2, []), (36, .iconst 1, 1, []), (37, .iadd, 1, []), (38, .iaload, 1, []), (39, .invokevirtual 83, 3, [0, 28, 2, 3154, 3010, 3011, 1003, 3012]), (42, .istore 6, 2, []), (44, .iload 6, 2, []), (46, .iconst (-1), 1, []), (47, .if_icmp .eq 49, 3, []), (50, .iload 4, 2, []), (52, .iload 5, 2, []), (54, .iconst 2, 1, []), (55, .irem, 1, []), (56, .ifCond .ne 16, 3, []), (59, .aload_n 0, 1, []), (60, .getfield 29, 3, [3, 0, 1216]), (63, .getfield 86, 3, [2, 8, 1074]), (66, .iload 6, 2, []), (68, .iaload, 1, []), (69, .goto 24, 3, []), (72, .aload_n 0, 1, []), (73, .getfield 29, 3, [3, 0, 1216]), (76, .getfield 89, 3, [2, 7, 1071]), (79, .iload 6, 2, []), (81, .iaload, 1, []), (82, .aload_n 0, 1, []), (83, .getfield 29, 3, [3, 0, 1216]), (86, .getfield 86, 3, [2, 8, 1074]), (89, .iload 6, 2, []), (91, .iaload, 1, []), (92, .isub, 1, []), (93, .iadd, 1, []), (94, .istore 4, 2, []), (96, .iinc 5 1, 3, []), (99, .goto (-86), 3, [6]), (102, .iload 4, 2, []), (104, .ireturn, 1, [])]
/-- GearObservatory$GearWalks.playOfTrial(II)I -/
def z_c46 : List z_En := [(0, .aload_n 0, 1, []), (1, .getfield 12, 3, [3, 1, 1217]), (4, .aload_n 0, 1, []), (5, .getfield 29, 3, [3, 0, 1216]), (8, .invokevirtual 92, 3, [0, 22, 1, 3163, 2081, 2082, 1003, 2083]), (11, .aload_n 0, 1, []), (12, .getfield 12, 3, [3, 1, 1217]), (15, .getfield 96, 3, [2, 4, 1064]), (18, .iload_n 2, 1, []), (19, .iaload, 1, []), (20, .istore_n 3, 1, []), (21, .iconst 0, 1, []), (22, .istore 4, 2, []), (24, .iconst 0, 1, []), (25, .istore 5, 2, []), (27, .iload 5, 2, []), (29, .bipush 45, 2, []), (31, .if_icmp .gt 38, 3, []), (34, .aload_n 0, 1, []), (35, .getfield 12, 3, [3, 1, 1217]), (38, .iload_n 1, 1, []), (39, .iconst 1, 1, []), (40, .invokevirtual 99, 3, [0, 29, 2, 3164, 3030, 3031, 1003, 3032]), (43, .pop, 1, []), (44, .aload_n 0, 1, []), (45, .getfield 12, 3, [3, 1, 1217]), (48, .getfield 96, 3, [2, 4, 1064]), (51, .iload_n 2, 1, []), (52, .iaload, 1, []), (53, .iload_n 3, 1, []), (54, .if_icmp .eq 6, 3, []), (57, .iload 4, 2, []), (59, .ireturn, 1, []), (60, .iinc 4 1, 3, []), (63, .iinc 5 1, 3, []), (66, .goto (-39), 3, [6]), (69, .iload 4, 2, []), (71, .ireturn, 1, [])]
/-- GearObservatory$GearWalks.methodsAgreeFor(II)Z -/
def z_c47 : List z_En := [(0, .aload_n 0, 1, []), (1, .iload_n 1, 1, []), (2, .iload_n 2, 1, []), (3, .invokevirtual 74, 3, [0, 33, 2, 3129, 3115, 3116, 1009, 3117]), (6, .iconst (-1), 1, []), (7, .if_icmp .ne 5, 3, []), (10, .iconst 1, 1, []), (11, .ireturn, 1, []), (12, .aload_n 0, 1, []), (13, .iload_n 1, 1, []), (14, .iload_n 2, 1, []), (15, .invokevirtual 102, 3, [0, 41, 2, 4157, 3122, 3123, 1009, 3124]), (18, .aload_n 0, 1, []), (19, .iload_n 1, 1, []), (20, .iload_n 2, 1, []), (21, .invokevirtual 105, 3, [0, 43, 2, 4158, 3143, 3144, 1009, 3145]), (24, .if_icmp .ne 22, 3, []), (27, .aload_n 0, 1, []), (28, .iload_n 1, 1, []), (29, .iload_n 2, 1, []), (30, .invokevirtual 108, 3, [0, 45, 2, 4159, 3151, 3152, 1009, 3153]), (33, .aload_n 0, 1, []), (34, .iload_n 1, 1, []), (35, .iload_n 2, 1, []), (36, .invokevirtual 111, 3, [0, 46, 2, 4160, 3160, 3161, 1009, 3162]), (39, .if_icmp .ne 7, 3, []), (42, .iconst 1, 1, []), (43, .goto 4, 3, []), (46, .iconst 0, 1, []), (47, .ireturn, 1, [])]
/-- GearObservatory$History.<init>()V -/
def z_c48 : List z_En := [(0, .aload_n 0, 1, []), (1, .invokespecial 3, 3, [6, 0, 0, 2022, 1033, 1034]), (4, .aload_n 0, 1, []), (5, .bipush 9, 2, []), (7, .anewarray 11, 3, [5, 2023, 2024]), (10, .putfield 13, 3, [4, 2, 2029]), (13, .iconst 0, 1, []), (14, .istore_n 1, 1, []), (15, .iload_n 1, 1, []), (16, .bipush 9, 2, []), (18, .if_icmp .ge 22, 3, []), (21, .aload_n 0, 1, []), (22, .getfield 13, 3, [4, 2, 2029]), (25, .iload_n 1, 1, []), (26, .new 11, 3, [7, 4, 2023, 1036, 1002]), (29, .dup, 1, []), (30, .invokespecial 17, 3, [4, 64, 0, 2025, 1038, 0, 1002, 1039]), (33, .aastore, 1, []), (34, .iinc 1 1, 3, []), (37, .goto (-22), 3, [2]), (40, .return_, 1, [])]
/-- GearObservatory$History.begin(LGearObservatory$State;)V -/
def z_c49 : List z_En := [(0, .aload_n 0, 1, []), (1, .getfield 13, 3, [4, 2, 2029]), (4, .aload_n 0, 1, []), (5, .getfield 18, 3, [4, 1, 2028]), (8, .aaload, 1, []), (9, .astore_n 2, 1, []), (10, .aload_n 2, 1, []), (11, .ifnull 8, 3, []), (14, .aload_n 2, 1, []), (15, .aload_n 1, 1, []), (16, .invokevirtual 22, 3, [0, 65, 1, 2076, 2077, 2078, 1002, 2079]), (19, .return_, 1, [])]
/-- GearObservatory$History.takeBack(LGearObservatory$State;)V -/
def z_c50 : List z_En := [(0, .aload_n 0, 1, []), (1, .getfield 13, 3, [4, 2, 2029]), (4, .aload_n 0, 1, []), (5, .getfield 18, 3, [4, 1, 2028]), (8, .aaload, 1, []), (9, .astore_n 2, 1, []), (10, .aload_n 2, 1, []), (11, .ifnull 8, 3, []), (14, .aload_n 1, 1, []), (15, .aload_n 2, 1, []), (16, .invokevirtual 22, 3, [0, 65, 1, 2076, 2077, 2078, 1002, 2079]), (19, .return_, 1, [])]
/-- GearObservatory$History.keep()V -/
def z_c51 : List z_En := [(0, .aload_n 0, 1, []), (1, .aload_n 0, 1, []), (2, .getfield 18, 3, [4, 1, 2028]), (5, .iconst 1, 1, []), (6, .iadd, 1, []), (7, .bipush 9, 2, []), (9, .irem, 1, []), (10, .putfield 18, 3, [4, 1, 2028]), (13, .aload_n 0, 1, []), (14, .aload_n 0, 1, []), (15, .getfield 26, 3, [4, 0, 2026]), (18, .iconst 1, 1, []), (19, .iadd, 1, []), (20, .bipush 8, 2, []), (22, .invokestatic 29, 3, [1, 160, 2, 2234, 2235, 0, 1008, 2236]), (25, .putfield 26, 3, [4, 0, 2026]), (28, .return_, 1, [])]
/-- GearObservatory$History.undoLatest(LGearObservatory$State;)V -/
def z_c52 : List z_En := [(0, .aload_n 0, 1, []), (1, .aload_n 0, 1, []), (2, .getfield 18, 3, [4, 1, 2028]), (5, .bipush 9, 2, []), (7, .iadd, 1, []), (8, .iconst 1, 1, []), (9, .isub, 1, []), (10, .bipush 9, 2, []), (12, .irem, 1, []), (13, .putfield 18, 3, [4, 1, 2028]), (16, .aload_n 0, 1, []), (17, .dup, 1, []), (18, .getfield 26, 3, [4, 0, 2026]), (21, .iconst 1, 1, []), (22, .isub, 1, []), (23, .putfield 26, 3, [4, 0, 2026]), (26, .aload_n 0, 1, []), (27, .aload_n 1, 1, []), (28, .invokevirtual 35, 3, [0, 50, 1, 5083, 5052, 5053, 1011, 5054]), (31, .return_, 1, [])]
/-- GearObservatory$SignRow.<init>(I)V -/
def z_c53 : List z_En := [(0, .aload_n 0, 1, []), (1, .invokespecial 1, 3, [6, 0, 0, 1193, 1033, 1034]), (4, .aload_n 0, 1, []), (5, .iload_n 1, 1, []), (6, .iconst 0, 1, []), (7, .invokestatic 7, 3, [1, 159, 2, 1194, 1195, 0, 1008, 1196]), (10, .newarray .char, 2, [1, 1207]), (12, .putfield 13, 3, [5, 1, 1200]), (15, .return_, 1, [])]
/-- GearObservatory$SignRow.clear()V -/
def z_c54 : List z_En := [(0, .aload_n 0, 1, []), (1, .iconst 0, 1, []), (2, .putfield 19, 3, [5, 0, 1197]), (5, .return_, 1, [])]
/-- GearObservatory$SignRow.put(C)Z -/
def z_c55 : List z_En := [(0, .aload_n 0, 1, []), (1, .getfield 19, 3, [5, 0, 1197]), (4, .aload_n 0, 1, []), (5, .getfield 13, 3, [5, 1, 1200]), (8, .arraylength, 1, []), (9, .if_icmp .lt 5, 3, []), (12, .iconst 0, 1, []), (13, .ireturn, 1, []), (14, .aload_n 0, 1, []), (15, .getfield 13, 3, [5, 1, 1200]), (18, .aload_n 0, 1, []), (19, .getfield 19, 3, [5, 0, 1197]), (22, .iload_n 1, 1, []), (23, .castore, 1, []), (24, .aload_n 0, 1, []), (25, .dup, 1, []), (26, .getfield 19, 3, [5, 0, 1197]), (29, .iconst 1, 1, []), (30, .iadd, 1, []), (31, .putfield 19, 3, [5, 0, 1197]), (34, .iconst 1, 1, []), (35, .ireturn, 1, [])]
/-- GearObservatory$Sky.<init>()V -/
def z_c56 : List z_En := [(0, .aload_n 0, 1, []), (1, .invokespecial 3, 3, [6, 0, 0, 1121, 1033, 1034]), (4, .aload_n 0, 1, []), (5, .bipush 8, 2, []), (7, .newarray .int, 2, [0, 1094]), (9, .putfield 9, 3, [6, 3, 1127]), (12, .aload_n 0, 1, []), (13, .bipush 8, 2, []), (15, .newarray .int, 2, [0, 1094]), (17, .putfield 15, 3, [6, 4, 1129]), (20, .aload_n 0, 1, []), (21, .bipush 8, 2, []), (23, .newarray .int, 2, [0, 1094]), (25, .putfield 18, 3, [6, 5, 1132]), (28, .return_, 1, [])]
/-- GearObservatory$Sky.copyFrom(LGearObservatory$Sky;)V -/
def z_c57 : List z_En := [(0, .aload_n 0, 1, []), (1, .aload_n 1, 1, []), (2, .getfield 21, 3, [6, 0, 1122]), (5, .putfield 21, 3, [6, 0, 1122]), (8, .aload_n 0, 1, []), (9, .aload_n 1, 1, []), (10, .getfield 25, 3, [6, 1, 1125]), (13, .putfield 25, 3, [6, 1, 1125]), (16, .aload_n 0, 1, []), (17, .aload_n 1, 1, []), (18, .getfield 28, 3, [6, 2, 1126]), (21, .putfield 28, 3, [6, 2, 1126]), (24, .aload_n 1, 1, []), (25, .getfield 9, 3, [6, 3, 1127]), (28, .iconst 0, 1, []), (29, .aload_n 0, 1, []), (30, .getfield 9, 3, [6, 3, 1127]), (33, .iconst 0, 1, []), (34, .bipush 8, 2, []), (36, .invokestatic 31, 3, [7, 0, 5, 2096, 2086, 2085, 1018]), (39, .aload_n 1, 1, []), (40, .getfield 15, 3, [6, 4, 1129]), (43, .iconst 0, 1, []), (44, .aload_n 0, 1, []), (45, .getfield 15, 3, [6, 4, 1129]), (48, .iconst 0, 1, []), (49, .bipush 8, 2, []), (51, .invokestatic 31, 3, [7, 0, 5, 2096, 2086, 2085, 1018]), (54, .aload_n 1, 1, []), (55, .getfield 18, 3, [6, 5, 1132]), (58, .iconst 0, 1, []), (59, .aload_n 0, 1, []), (60, .getfield 18, 3, [6, 5, 1132]), (63, .iconst 0, 1, []), (64, .bipush 8, 2, []), (66, .invokestatic 31, 3, [7, 0, 5, 2096, 2086, 2085, 1018]), (69, .return_, 1, [])]
/-- GearObservatory$Sky.placeOf(I)I -/
def z_c58 : List z_En := [(0, .iconst 0, 1, []), (1, .istore_n 2, 1, []), (2, .iload_n 2, 1, []), (3, .aload_n 0, 1, []), (4, .getfield 21, 3, [6, 0, 1122]), (7, .if_icmp .ge 21, 3, []), (10, .aload_n 0, 1, []), (11, .getfield 9, 3, [6, 3, 1127]), (14, .iload_n 2, 1, []), (15, .iaload, 1, []), (16, .iload_n 1, 1, []), (17, .if_icmp .ne 5, 3, []), (20, .iload_n 2, 1, []), (21, .ireturn, 1, []), (22, .iinc 2 1, 3, []), (25, .goto (-23), 3, [3]), (28, .iconst (-1), 1, []), (29, .ireturn, 1, [])]
/-- GearObservatory$Sky.add(II)I -/
def z_c59 : List z_En := [(0, .aload_n 0, 1, []), (1, .getfield 25, 3, [6, 1, 1125]), (4, .istore_n 3, 1, []), (5, .aload_n 0, 1, []), (6, .getfield 21, 3, [6, 0, 1122]), (9, .bipush 8, 2, []), (11, .if_icmp .ge 53, 3, []), (14, .aload_n 0, 1, []), (15, .getfield 9, 3, [6, 3, 1127]), (18, .aload_n 0, 1, []), (19, .getfield 21, 3, [6, 0, 1122]), (22, .iload_n 3, 1, []), (23, .iastore, 1, []), (24, .aload_n 0, 1, []), (25, .getfield 15, 3, [6, 4, 1129]), (28, .aload_n 0, 1, []), (29, .getfield 21, 3, [6, 0, 1122]), (32, .iload_n 1, 1, []), (33, .iastore, 1, []), (34, .aload_n 0, 1, []), (35, .getfield 18, 3, [6, 5, 1132]), (38, .aload_n 0, 1, []), (39, .getfield 21, 3, [6, 0, 1122]), (42, .iload_n 2, 1, []), (43, .iastore, 1, []), (44, .aload_n 0, 1, []), (45, .dup, 1, []), (46, .getfield 21, 3, [6, 0, 1122]), (49, .iconst 1, 1, []), (50, .iadd, 1, []), (51, .putfield 21, 3, [6, 0, 1122]), (54, .aload_n 0, 1, []), (55, .dup, 1, []), (56, .getfield 25, 3, [6, 1, 1125]), (59, .iconst 1, 1, []), (60, .iadd, 1, []), (61, .putfield 25, 3, [6, 1, 1125]), (64, .iload_n 3, 1, []), (65, .ireturn, 1, [])]
/-- GearObservatory$Sky.removeAt(I)I -/
def z_c60 : List z_En := [(0, .aload_n 0, 1, []), (1, .dup, 1, []), (2, .getfield 21, 3, [6, 0, 1122]), (5, .iconst 1, 1, []), (6, .isub, 1, []), (7, .putfield 21, 3, [6, 0, 1122]), (10, .iload_n 1, 1, []), (11, .istore_n 2, 1, []), (12, .iload_n 2, 1, []), (13, .aload_n 0, 1, []), (14, .getfield 21, 3, [6, 0, 1122]), (17, .if_icmp .ge 51, 3, []), (20, .aload_n 0, 1, []), (21, .getfield 9, 3, [6, 3, 1127]), (24, .iload_n 2, 1, []), (25, .aload_n 0, 1, []), (26, .getfield 9, 3, [6, 3, 1127]), (29, .iload_n 2, 1, []), (30, .iconst 1, 1, []), (31, .iadd, 1, []), (32, .iaload, 1, []), (33, .iastore, 1, []), (34, .aload_n 0, 1, []), (35, .getfield 15, 3, [6, 4, 1129]), (38, .iload_n 2, 1, []), (39, .aload_n 0, 1, []), (40, .getfield 15, 3, [6, 4, 1129]), (43, .iload_n 2, 1, []), (44, .iconst 1, 1, []), (45, .iadd, 1, []), (46, .iaload, 1, []), (47, .iastore, 1, []), (48, .aload_n 0, 1, []), (49, .getfield 18, 3, [6, 5, 1132]), (52, .iload_n 2, 1, []), (53, .aload_n 0, 1, []), (54, .getfield 18, 3, [6, 5, 1132]), (57, .iload_n 2, 1, []), (58, .iconst 1, 1, []), (59, .iadd, 1, []), (60, .iaload, 1, []), (61, .iastore, 1, []), (62, .iinc 2 1, 3, []), (65, .goto (-53), 3, [3]), (68, .aload_n 0, 1, []), (69, .getfield 21, 3, [6, 0, 1122]), (72, .ireturn, 1, [])]
/-- GearObservatory$Sky.letPass(I)I -/
def z_c61 : List z_En := [(0, .iconst 0, 1, []), (1, .istore_n 2, 1, []), (2, .iload_n 2, 1, []), (3, .aload_n 0, 1, []), (4, .getfield 21, 3, [6, 0, 1122]), (7, .if_icmp .ge 21, 3, []), (10, .aload_n 0, 1, []), (11, .getfield 15, 3, [6, 4, 1129]), (14, .iload_n 2, 1, []), (15, .aload_n 0, 1, []), (16, .iload_n 2, 1, []), (17, .iload_n 1, 1, []), (18, .invokevirtual 37, 3, [0, 62, 2, 4040, 4041, 4042, 1005, 4043]), (21, .iastore, 1, []), (22, .iinc 2 1, 3, []), (25, .goto (-23), 3, [3]), (28, .aload_n 0, 1, []), (29, .dup, 1, []), (30, .getfield 28, 3, [6, 2, 1126]), (33, .iload_n 1, 1, []), (34, .iadd, 1, []), (35, .putfield 28, 3, [6, 2, 1126]), (38, .aload_n 0, 1, []), (39, .getfield 28, 3, [6, 2, 1126]), (42, .ireturn, 1, [])]
/-- GearObservatory$Sky.directionLater(II)I -/
def z_c62 : List z_En := [(0, .aload_n 0, 1, []), (1, .getfield 15, 3, [6, 4, 1129]), (4, .iload_n 1, 1, []), (5, .iaload, 1, []), (6, .aload_n 0, 1, []), (7, .getfield 18, 3, [6, 5, 1132]), (10, .iload_n 1, 1, []), (11, .iaload, 1, []), (12, .iload_n 2, 1, []), (13, .imul, 1, []), (14, .iadd, 1, []), (15, .sipush 3600, 3, []), (18, .invokestatic 41, 3, [1, 161, 2, 4044, 3194, 0, 1008, 3195]), (21, .ireturn, 1, [])]
/-- GearObservatory$Sky.idNearest(I)I -/
def z_c63 : List z_En := [(0, .iconst (-1), 1, []), (1, .istore_n 2, 1, []), (2, .sipush 3600, 3, []), (5, .istore_n 3, 1, []), (6, .iconst 0, 1, []), (7, .istore 4, 2, []), (9, .iload 4, 2, []), (11, .aload_n 0, 1, []), (12, .getfield 21, 3, [6, 0, 1122]), (15, .if_icmp .ge 39, 3, []), (18, .aload_n 0, 1, []), (19, .getfield 15, 3, [6, 4, 1129]), (22, .iload 4, 2, []), (24, .iaload, 1, []), (25, .iload_n 1, 1, []), (26, .invokestatic 46, 3, [2, 149, 2, 4065, 3214, 0, 1001, 3215]), (29, .istore 5, 2, []), (31, .iload 5, 2, []), (33, .iload_n 3, 1, []), (34, .if_icmp .ge 14, 3, []), (37, .iload 5, 2, []), (39, .istore_n 3, 1, []), (40, .aload_n 0, 1, []), (41, .getfield 9, 3, [6, 3, 1127]), (44, .iload 4, 2, []), (46, .iaload, 1, []), (47, .istore_n 2, 1, []), (48, .iinc 4 1, 3, []), (51, .goto (-42), 3, [5]), (54, .iload_n 2, 1, []), (55, .ireturn, 1, [])]
/-- GearObservatory$State.<init>()V -/
def z_c64 : List z_En := [(0, .aload_n 0, 1, []), (1, .invokespecial 3, 3, [6, 0, 0, 1040, 1033, 1034]), (4, .aload_n 0, 1, []), (5, .new 9, 3, [2, 9, 1041, 1042, 1003]), (8, .dup, 1, []), (9, .invokespecial 11, 3, [4, 21, 0, 1043, 1044, 0, 1003, 1045]), (12, .putfield 12, 3, [7, 0, 1171]), (15, .aload_n 0, 1, []), (16, .new 18, 3, [8, 3, 1095, 1096, 1004]), (19, .dup, 1, []), (20, .invokespecial 20, 3, [4, 70, 0, 1097, 1098, 0, 1004, 1099]), (23, .putfield 21, 3, [7, 1, 1173]), (26, .aload_n 0, 1, []), (27, .new 25, 3, [6, 6, 1116, 1117, 1005]), (30, .dup, 1, []), (31, .invokespecial 27, 3, [4, 56, 0, 1118, 1119, 0, 1005, 1120]), (34, .putfield 28, 3, [7, 2, 1175]), (37, .aload_n 0, 1, []), (38, .new 32, 3, [1, 5, 1147, 1148, 1006]), (41, .dup, 1, []), (42, .invokespecial 34, 3, [4, 14, 0, 1149, 1150, 0, 1006, 1151]), (45, .putfield 35, 3, [7, 3, 1177]), (48, .return_, 1, [])]
/-- GearObservatory$State.copyFrom(LGearObservatory$State;)V -/
def z_c65 : List z_En := [(0, .aload_n 0, 1, []), (1, .getfield 12, 3, [7, 0, 1171]), (4, .aload_n 1, 1, []), (5, .getfield 12, 3, [7, 0, 1171]), (8, .invokevirtual 39, 3, [0, 22, 1, 2080, 2081, 2082, 1003, 2083]), (11, .aload_n 0, 1, []), (12, .getfield 21, 3, [7, 1, 1173]), (15, .aload_n 1, 1, []), (16, .getfield 21, 3, [7, 1, 1173]), (19, .invokevirtual 43, 3, [0, 71, 1, 2087, 2088, 2089, 1004, 2090]), (22, .aload_n 0, 1, []), (23, .getfield 28, 3, [7, 2, 1175]), (26, .aload_n 1, 1, []), (27, .getfield 28, 3, [7, 2, 1175]), (30, .invokevirtual 46, 3, [0, 57, 1, 2092, 2093, 2094, 1005, 2095]), (33, .aload_n 0, 1, []), (34, .getfield 35, 3, [7, 3, 1177]), (37, .aload_n 1, 1, []), (38, .getfield 35, 3, [7, 3, 1177]), (41, .invokevirtual 49, 3, [0, 15, 1, 2097, 2098, 2099, 1006, 2100]), (44, .return_, 1, [])]
/-- GearObservatory$State.directionOfSpoke(III)I -/
def z_c66 : List z_En := [(0, .aload_n 0, 1, []), (1, .getfield 21, 3, [7, 1, 1173]), (4, .getfield 52, 3, [8, 1, 1104]), (7, .iload_n 1, 1, []), (8, .iaload, 1, []), (9, .istore 4, 2, []), (11, .aload_n 0, 1, []), (12, .getfield 12, 3, [7, 0, 1171]), (15, .getfield 56, 3, [2, 3, 1057]), (18, .iload 4, 2, []), (20, .iaload, 1, []), (21, .istore 5, 2, []), (23, .aload_n 0, 1, []), (24, .getfield 21, 3, [7, 1, 1173]), (27, .getfield 59, 3, [8, 2, 1107]), (30, .iload_n 1, 1, []), (31, .iaload, 1, []), (32, .istore 6, 2, []), (34, .iload 5, 2, []), (36, .bipush 8, 2, []), (38, .if_icmp .lt 9, 3, []), (41, .iload 6, 2, []), (43, .iconst 3, 1, []), (44, .if_icmp .ge 5, 3, []), (47, .iconst 0, 1, []), (48, .ireturn, 1, []), (49, .aload_n 0, 1, []), (50, .getfield 12, 3, [7, 0, 1171]), (53, .getfield 62, 3, [2, 4, 1061]), (56, .iload 4, 2, []), (58, .iaload, 1, []), (59, .iload_n 3, 1, []), (60, .iadd, 1, []), (61, .iload 5, 2, []), (63, .invokestatic 65, 3, [1, 161, 2, 3193, 3194, 0, 1008, 3195]), (66, .istore 7, 2, []), (68, .sipush 3600, 3, []), (71, .iload 7, 2, []), (73, .imul, 1, []), (74, .iload 5, 2, []), (76, .idiv, 1, []), (77, .sipush 3600, 3, []), (80, .iload_n 2, 1, []), (81, .imul, 1, []), (82, .iload 6, 2, []), (84, .idiv, 1, []), (85, .iadd, 1, []), (86, .sipush 3600, 3, []), (89, .irem, 1, []), (90, .ireturn, 1, [])]
/-- GearObservatory$State.leastDistance(III)I -/
def z_c67 : List z_En := [(0, .sipush 3600, 3, []), (3, .istore 4, 2, []), (5, .iconst 0, 1, []), (6, .istore 5, 2, []), (8, .iload 5, 2, []), (10, .aload_n 0, 1, []), (11, .getfield 21, 3, [7, 1, 1173]), (14, .getfield 59, 3, [8, 2, 1107]), (17, .iload_n 1, 1, []), (18, .iaload, 1, []), (19, .if_icmp .ge 28, 3, []), (22, .iload 4, 2, []), (24, .aload_n 0, 1, []), (25, .iload_n 1, 1, []), (26, .iload 5, 2, []), (28, .iload_n 3, 1, []), (29, .invokevirtual 71, 3, [0, 66, 3, 3212, 3190, 3191, 1002, 3192]), (32, .iload_n 2, 1, []), (33, .invokestatic 75, 3, [2, 149, 2, 3213, 3214, 0, 1001, 3215]), (36, .invokestatic 78, 3, [1, 160, 2, 3218, 2235, 0, 1008, 2236]), (39, .istore 4, 2, []), (41, .iinc 5 1, 3, []), (44, .goto (-36), 3, [6]), (47, .iload 4, 2, []), (49, .ireturn, 1, [])]
/-- GearObservatory$State.bestTurn(II)I -/
def z_c68 : List z_En := [(0, .iconst 0, 1, []), (1, .istore_n 3, 1, []), (2, .sipush 3600, 3, []), (5, .istore 4, 2, []), (7, .aload_n 0, 1, []), (8, .getfield 12, 3, [7, 0, 1171]), (11, .getfield 56, 3, [2, 3, 1057]), (14, .aload_n 0, 1, []), (15, .getfield 21, 3, [7, 1, 1173]), (18, .getfield 52, 3, [8, 1, 1104]), (21, .iload_n 1, 1, []), (22, .iaload, 1, []), (23, .iaload, 1, []), (24, .istore 5, 2, []), (26, .iconst 0, 1, []), (27, .istore 6, 2, []), (29, .iload 6, 2, []), (31, .iload 5, 2, []), (33, .if_icmp .ge 33, 3, []), (36, .aload_n 0, 1, []), (37, .iload_n 1, 1, []), (38, .iload_n 2, 1, []), (39, .iload 6, 2, []), (41, .invokevirtual 81, 3, [0, 67, 3, 3227, 3209, 3210, 1002, 3211]), (44, .istore 7, 2, []), (46, .iload 7, 2, []), (48, .iload 4, 2, []), (50, .if_icmp .ge 10, 3, []), (53, .iload 7, 2, []), (55, .istore 4, 2, []), (57, .iload 6, 2, []), (59, .istore_n 3, 1, []), (60, .iinc 6 1, 3, []), (63, .goto (-34), 3, [7]), (66, .iload_n 3, 1, []), (67, .ireturn, 1, [])]
/-- GearObservatory$State.isAligned(II)Z -/
def z_c69 : List z_En := [(0, .iconst 0, 1, []), (1, .istore_n 3, 1, []), (2, .iload_n 3, 1, []), (3, .aload_n 0, 1, []), (4, .getfield 28, 3, [7, 2, 1175]), (7, .getfield 84, 3, [6, 0, 1123]), (10, .if_icmp .ge 30, 3, []), (13, .aload_n 0, 1, []), (14, .iload_n 1, 1, []), (15, .aload_n 0, 1, []), (16, .getfield 28, 3, [7, 2, 1175]), (19, .getfield 88, 3, [6, 4, 1130]), (22, .iload_n 3, 1, []), (23, .iaload, 1, []), (24, .iconst 0, 1, []), (25, .invokevirtual 81, 3, [0, 67, 3, 3227, 3209, 3210, 1002, 3211]), (28, .iload_n 2, 1, []), (29, .if_icmp .gt 5, 3, []), (32, .iconst 1, 1, []), (33, .ireturn, 1, []), (34, .iinc 3 1, 3, []), (37, .goto (-35), 3, [4]), (40, .iconst 0, 1, []), (41, .ireturn, 1, [])]
/-- GearObservatory$Wheels.<init>()V -/
def z_c70 : List z_En := [(0, .aload_n 0, 1, []), (1, .invokespecial 3, 3, [6, 0, 0, 1100, 1033, 1034]), (4, .aload_n 0, 1, []), (5, .iconst 4, 1, []), (6, .newarray .int, 2, [0, 1094]), (8, .putfield 9, 3, [8, 1, 1103]), (11, .aload_n 0, 1, []), (12, .iconst 4, 1, []), (13, .newarray .int, 2, [0, 1094]), (15, .putfield 15, 3, [8, 2, 1106]), (18, .return_, 1, [])]
/-- GearObservatory$Wheels.copyFrom(LGearObservatory$Wheels;)V -/
def z_c71 : List z_En := [(0, .aload_n 0, 1, []), (1, .aload_n 1, 1, []), (2, .getfield 18, 3, [8, 0, 1101]), (5, .putfield 18, 3, [8, 0, 1101]), (8, .aload_n 1, 1, []), (9, .getfield 9, 3, [8, 1, 1103]), (12, .iconst 0, 1, []), (13, .aload_n 0, 1, []), (14, .getfield 9, 3, [8, 1, 1103]), (17, .iconst 0, 1, []), (18, .iconst 4, 1, []), (19, .invokestatic 22, 3, [7, 0, 5, 2091, 2086, 2085, 1018]), (22, .aload_n 1, 1, []), (23, .getfield 15, 3, [8, 2, 1106]), (26, .iconst 0, 1, []), (27, .aload_n 0, 1, []), (28, .getfield 15, 3, [8, 2, 1106]), (31, .iconst 0, 1, []), (32, .iconst 4, 1, []), (33, .invokestatic 22, 3, [7, 0, 5, 2091, 2086, 2085, 1018]), (36, .return_, 1, [])]
/-- GearObservatory$Wheels.hasWheel(I)Z -/
def z_c72 : List z_En := [(0, .iload_n 1, 1, []), (1, .ifCond .lt 15, 3, []), (4, .iload_n 1, 1, []), (5, .aload_n 0, 1, []), (6, .getfield 18, 3, [8, 0, 1101]), (9, .if_icmp .ge 7, 3, []), (12, .iconst 1, 1, []), (13, .goto 4, 3, []), (16, .iconst 0, 1, []), (17, .ireturn, 1, [])]
/-- GearObservatory$Wheels.add(II)I -/
def z_c73 : List z_En := [(0, .aload_n 0, 1, []), (1, .getfield 18, 3, [8, 0, 1101]), (4, .istore_n 3, 1, []), (5, .iload_n 3, 1, []), (6, .iconst 4, 1, []), (7, .if_icmp .ge 27, 3, []), (10, .aload_n 0, 1, []), (11, .getfield 9, 3, [8, 1, 1103]), (14, .iload_n 3, 1, []), (15, .iload_n 1, 1, []), (16, .iastore, 1, []), (17, .aload_n 0, 1, []), (18, .getfield 15, 3, [8, 2, 1106]), (21, .iload_n 3, 1, []), (22, .iload_n 2, 1, []), (23, .iastore, 1, []), (24, .aload_n 0, 1, []), (25, .dup, 1, []), (26, .getfield 18, 3, [8, 0, 1101]), (29, .iconst 1, 1, []), (30, .iadd, 1, []), (31, .putfield 18, 3, [8, 0, 1101]), (34, .iload_n 3, 1, []), (35, .ireturn, 1, [])]
/-- GearObservatory.<init>()V -/
def z_c74 : List z_En := [(0, .aload_n 0, 1, []), (1, .invokespecial 3, 3, [6, 0, 0, 1032, 1033, 1034]), (4, .new 9, 3, [7, 4, 1035, 1036, 1002]), (7, .dup, 1, []), (8, .invokespecial 11, 3, [4, 64, 0, 1037, 1038, 0, 1002, 1039]), (11, .astore_n 1, 1, []), (12, .new 12, 3, [5, 2, 1188, 1189, 1007]), (15, .dup, 1, []), (16, .bipush 60, 2, []), (18, .invokespecial 14, 3, [3, 53, 1, 1190, 1191, 0, 1007, 1192]), (21, .astore_n 2, 1, []), (22, .aload_n 0, 1, []), (23, .aload_n 1, 1, []), (24, .putfield 17, 3, [9, 0, 2037]), (27, .aload_n 0, 1, []), (28, .new 21, 3, [3, 5, 1208, 1209, 1009]), (31, .dup, 1, []), (32, .aload_n 1, 1, []), (33, .getfield 23, 3, [7, 0, 1172]), (36, .invokespecial 27, 3, [3, 32, 1, 1210, 1211, 0, 1009, 1212]), (39, .putfield 30, 3, [9, 3, 2040]), (42, .aload_n 0, 1, []), (43, .aload_n 2, 1, []), (44, .putfield 34, 3, [9, 4, 2041]), (47, .aload_n 0, 1, []), (48, .new 38, 3, [0, 5, 1233, 1234, 1010]), (51, .dup, 1, []), (52, .aload_n 2, 1, []), (53, .invokespecial 40, 3, [3, 0, 1, 1235, 1236, 0, 1010, 1237]), (56, .putfield 43, 3, [9, 6, 2043]), (59, .aload_n 0, 1, []), (60, .new 9, 3, [7, 4, 1035, 1036, 1002]), (63, .dup, 1, []), (64, .invokespecial 11, 3, [4, 64, 0, 1037, 1038, 0, 1002, 1039]), (67, .putfield 47, 3, [9, 1, 2038]), (70, .aload_n 0, 1, []), (71, .new 50, 3, [4, 3, 2017, 2018, 1011]), (74, .dup, 1, []), (75, .invokespecial 52, 3, [3, 48, 0, 2019, 2020, 0, 1011, 2021]), (78, .putfield 53, 3, [9, 2, 2039]), (81, .aload_n 0, 1, []), (82, .new 12, 3, [5, 2, 1188, 1189, 1007]), (85, .dup, 1, []), (86, .bipush 50, 2, []), (88, .invokespecial 14, 3, [3, 53, 1, 1190, 1191, 0, 1007, 1192]), (91, .putfield 57, 3, [9, 5, 2042]), (94, .aload_n 0, 1, []), (95, .iconst 0, 1, []), (96, .putfield 60, 3, [9, 7, 2044]), (99, .aload_n 0, 1, []), (100, .iconst (-1), 1, []), (101, .putfield 64, 3, [9, 8, 2045]), (104, .aload_n 0, 1, []), (105, .iconst (-1), 1, []), (106, .putfield 68, 3, [9, 9, 2046]), (109, .return_, 1, [])]
/-- GearObservatory.addGear(I)I -/
def z_c75 : List z_En := [(0, .aload_n 0, 1, []), (1, .getfield 53, 3, [9, 2, 2039]), (4, .aload_n 0, 1, []), (5, .getfield 17, 3, [9, 0, 2037]), (8, .invokevirtual 71, 3, [0, 49, 1, 2072, 2073, 2074, 1011, 2075]), (11, .aload_n 0, 1, []), (12, .aload_n 0, 1, []), (13, .iload_n 1, 1, []), (14, .invokevirtual 75, 3, [0, 125, 1, 2102, 2104, 0, 1001, 2105]), (17, .invokevirtual 79, 3, [0, 136, 1, 2113, 2115, 1, 1001, 2116]), (20, .ireturn, 1, [])]
/-- GearObservatory.mesh(III)I -/
def z_c76 : List z_En := [(0, .aload_n 0, 1, []), (1, .getfield 53, 3, [9, 2, 2039]), (4, .aload_n 0, 1, []), (5, .getfield 17, 3, [9, 0, 2037]), (8, .invokevirtual 71, 3, [0, 49, 1, 2072, 2073, 2074, 1011, 2075]), (11, .aload_n 0, 1, []), (12, .aload_n 0, 1, []), (13, .iload_n 1, 1, []), (14, .iload_n 2, 1, []), (15, .iload_n 3, 1, []), (16, .invokevirtual 82, 3, [0, 126, 3, 5043, 5045, 33, 1001, 5046]), (19, .invokevirtual 79, 3, [0, 136, 1, 2113, 2115, 1, 1001, 2116]), (22, .ireturn, 1, [])]
/-- GearObservatory.part(II)I -/
def z_c77 : List z_En := [(0, .aload_n 0, 1, []), (1, .getfield 53, 3, [9, 2, 2039]), (4, .aload_n 0, 1, []), (5, .getfield 17, 3, [9, 0, 2037]), (8, .invokevirtual 71, 3, [0, 49, 1, 2072, 2073, 2074, 1011, 2075]), (11, .aload_n 0, 1, []), (12, .aload_n 0, 1, []), (13, .iload_n 1, 1, []), (14, .iload_n 2, 1, []), (15, .invokevirtual 86, 3, [0, 127, 2, 3001, 3003, 3, 1001, 3004]), (18, .invokevirtual 79, 3, [0, 136, 1, 2113, 2115, 1, 1001, 2116]), (21, .ireturn, 1, [])]
/-- GearObservatory.turn(II)I -/
def z_c78 : List z_En := [(0, .aload_n 0, 1, []), (1, .getfield 53, 3, [9, 2, 2039]), (4, .aload_n 0, 1, []), (5, .getfield 17, 3, [9, 0, 2037]), (8, .invokevirtual 71, 3, [0, 49, 1, 2072, 2073, 2074, 1011, 2075]), (11, .aload_n 0, 1, []), (12, .aload_n 0, 1, []), (13, .iload_n 1, 1, []), (14, .iload_n 2, 1, []), (15, .invokevirtual 90, 3, [0, 128, 2, 3025, 3027, 4, 1001, 3028]), (18, .invokevirtual 79, 3, [0, 136, 1, 2113, 2115, 1, 1001, 2116]), (21, .ireturn, 1, [])]
/-- GearObservatory.gearCount()I -/
def z_c79 : List z_En := [(0, .aload_n 0, 1, []), (1, .getfield 17, 3, [9, 0, 2037]), (4, .getfield 23, 3, [7, 0, 1172]), (7, .getfield 93, 3, [2, 0, 1050]), (10, .ireturn, 1, [])]
/-- GearObservatory.teeth(I)I -/
def z_c80 : List z_En := [(0, .aload_n 0, 1, []), (1, .iload_n 1, 1, []), (2, .invokevirtual 98, 3, [0, 139, 1, 3053, 3055, 6, 1001, 3056]), (5, .aload_n 0, 1, []), (6, .getfield 17, 3, [9, 0, 2037]), (9, .getfield 23, 3, [7, 0, 1172]), (12, .getfield 101, 3, [2, 3, 1058]), (15, .iload_n 1, 1, []), (16, .iaload, 1, []), (17, .ireturn, 1, [])]
/-- GearObservatory.position(I)I -/
def z_c81 : List z_En := [(0, .aload_n 0, 1, []), (1, .iload_n 1, 1, []), (2, .invokevirtual 98, 3, [0, 139, 1, 3053, 3055, 6, 1001, 3056]), (5, .aload_n 0, 1, []), (6, .getfield 17, 3, [9, 0, 2037]), (9, .getfield 23, 3, [7, 0, 1172]), (12, .getfield 105, 3, [2, 4, 1063]), (15, .iload_n 1, 1, []), (16, .iaload, 1, []), (17, .ireturn, 1, [])]
/-- GearObservatory.meshCount()I -/
def z_c82 : List z_En := [(0, .aload_n 0, 1, []), (1, .getfield 17, 3, [9, 0, 2037]), (4, .getfield 23, 3, [7, 0, 1172]), (7, .getfield 108, 3, [2, 1, 1053]), (10, .ireturn, 1, [])]
/-- GearObservatory.doMesh(II)Z -/
def z_c83 : List z_En := [(0, .aload_n 0, 1, []), (1, .iload_n 1, 1, []), (2, .invokevirtual 98, 3, [0, 139, 1, 3053, 3055, 6, 1001, 3056]), (5, .aload_n 0, 1, []), (6, .iload_n 2, 1, []), (7, .invokevirtual 98, 3, [0, 139, 1, 3053, 3055, 6, 1001, 3056]), (10, .aload_n 0, 1, []), (11, .getfield 17, 3, [9, 0, 2037]), (14, .getfield 23, 3, [7, 0, 1172]), (17, .iload_n 1, 1, []), (18, .iload_n 2, 1, []), (19, .invokevirtual 111, 3, [0, 28, 2, 3009, 3010, 3011, 1003, 3012]), (22, .iconst (-1), 1, []), (23, .if_icmp .eq 7, 3, []), (26, .iconst 1, 1, []), (27, .goto 4, 3, []), (30, .iconst 0, 1, []), (31, .ireturn, 1, [])]
/-- GearObservatory.slack(II)I -/
def z_c84 : List z_En := [(0, .aload_n 0, 1, []), (1, .getfield 17, 3, [9, 0, 2037]), (4, .getfield 23, 3, [7, 0, 1172]), (7, .getfield 114, 3, [2, 7, 1070]), (10, .aload_n 0, 1, []), (11, .iload_n 1, 1, []), (12, .iload_n 2, 1, []), (13, .invokevirtual 117, 3, [0, 141, 2, 3061, 3063, 7, 1001, 3064]), (16, .iaload, 1, []), (17, .ireturn, 1, [])]
/-- GearObservatory.gap(II)I -/
def z_c85 : List z_En := [(0, .aload_n 0, 1, []), (1, .getfield 17, 3, [9, 0, 2037]), (4, .getfield 23, 3, [7, 0, 1172]), (7, .getfield 120, 3, [2, 8, 1073]), (10, .aload_n 0, 1, []), (11, .iload_n 1, 1, []), (12, .iload_n 2, 1, []), (13, .invokevirtual 117, 3, [0, 141, 2, 3061, 3063, 7, 1001, 3064]), (16, .iaload, 1, []), (17, .ireturn, 1, [])]
/-- GearObservatory.trainSize(I)I -/
def z_c86 : List z_En := [(0, .aload_n 0, 1, []), (1, .iload_n 1, 1, []), (2, .invokevirtual 98, 3, [0, 139, 1, 3053, 3055, 6, 1001, 3056]), (5, .aload_n 0, 1, []), (6, .getfield 30, 3, [9, 3, 2040]), (9, .iload_n 1, 1, []), (10, .invokevirtual 126, 3, [0, 35, 1, 3069, 3070, 3071, 1009, 3072]), (13, .ireturn, 1, [])]
/-- GearObservatory.trainCount()I -/
def z_c87 : List z_En := [(0, .aload_n 0, 1, []), (1, .getfield 30, 3, [9, 3, 2040]), (4, .invokevirtual 129, 3, [0, 36, 0, 3086, 3087, 3088, 1009, 3089]), (7, .ireturn, 1, [])]
/-- GearObservatory.trainCountByUnions()I -/
def z_c88 : List z_En := [(0, .aload_n 0, 1, []), (1, .getfield 30, 3, [9, 3, 2040]), (4, .invokevirtual 133, 3, [0, 39, 0, 3094, 3095, 3096, 1009, 3097]), (7, .ireturn, 1, [])]
/-- GearObservatory.turnedTeeth()I -/
def z_c89 : List z_En := [(0, .aload_n 0, 1, []), (1, .getfield 17, 3, [9, 0, 2037]), (4, .getfield 23, 3, [7, 0, 1172]), (7, .getfield 136, 3, [2, 2, 1055]), (10, .ireturn, 1, [])]
/-- GearObservatory.ratioNumerator(II)I -/
def z_c90 : List z_En := [(0, .aload_n 0, 1, []), (1, .iload_n 1, 1, []), (2, .iload_n 2, 1, []), (3, .invokevirtual 139, 3, [0, 142, 2, 3110, 3112, 10, 1001, 3113]), (6, .aload_n 0, 1, []), (7, .getfield 30, 3, [9, 3, 2040]), (10, .iload_n 1, 1, []), (11, .iload_n 2, 1, []), (12, .invokevirtual 143, 3, [0, 41, 2, 3121, 3122, 3123, 1009, 3124]), (15, .ireturn, 1, [])]
/-- GearObservatory.ratioDenominator(II)I -/
def z_c91 : List z_En := [(0, .aload_n 0, 1, []), (1, .iload_n 1, 1, []), (2, .iload_n 2, 1, []), (3, .invokevirtual 139, 3, [0, 142, 2, 3110, 3112, 10, 1001, 3113]), (6, .aload_n 0, 1, []), (7, .getfield 30, 3, [9, 3, 2040]), (10, .iload_n 1, 1, []), (11, .iload_n 2, 1, []), (12, .invokevirtual 146, 3, [0, 42, 2, 3134, 3135, 3136, 1009, 3137]), (15, .ireturn, 1, [])]
/-- GearObservatory.ratioNumeratorByChain(II)I -/
def z_c92 : List z_En := [(0, .aload_n 0, 1, []), (1, .iload_n 1, 1, []), (2, .iload_n 2, 1, []), (3, .invokevirtual 139, 3, [0, 142, 2, 3110, 3112, 10, 1001, 3113]), (6, .aload_n 0, 1, []), (7, .getfield 30, 3, [9, 3, 2040]), (10, .iload_n 1, 1, []), (11, .iload_n 2, 1, []), (12, .invokevirtual 149, 3, [0, 43, 2, 3142, 3143, 3144, 1009, 3145]), (15, .ireturn, 1, [])]
/-- GearObservatory.freePlay(II)I -/
def z_c93 : List z_En := [(0, .aload_n 0, 1, []), (1, .iload_n 1, 1, []), (2, .iload_n 2, 1, []), (3, .invokevirtual 139, 3, [0, 142, 2, 3110, 3112, 10, 1001, 3113]), (6, .aload_n 0, 1, []), (7, .getfield 30, 3, [9, 3, 2040]), (10, .iload_n 1, 1, []), (11, .iload_n 2, 1, []), (12, .invokevirtual 152, 3, [0, 45, 2, 3150, 3151, 3152, 1009, 3153]), (15, .ireturn, 1, [])]
/-- GearObservatory.freePlayByTurning(II)I -/
def z_c94 : List z_En := [(0, .aload_n 0, 1, []), (1, .iload_n 1, 1, []), (2, .iload_n 2, 1, []), (3, .invokevirtual 139, 3, [0, 142, 2, 3110, 3112, 10, 1001, 3113]), (6, .aload_n 0, 1, []), (7, .getfield 30, 3, [9, 3, 2040]), (10, .iload_n 1, 1, []), (11, .iload_n 2, 1, []), (12, .invokevirtual 155, 3, [0, 46, 2, 3159, 3160, 3161, 1009, 3162]), (15, .ireturn, 1, [])]
/-- GearObservatory.addWheel(II)I -/
def z_c95 : List z_En := [(0, .aload_n 0, 1, []), (1, .getfield 53, 3, [9, 2, 2039]), (4, .aload_n 0, 1, []), (5, .getfield 17, 3, [9, 0, 2037]), (8, .invokevirtual 71, 3, [0, 49, 1, 2072, 2073, 2074, 1011, 2075]), (11, .aload_n 0, 1, []), (12, .aload_n 0, 1, []), (13, .iload_n 1, 1, []), (14, .iload_n 2, 1, []), (15, .invokevirtual 158, 3, [0, 129, 2, 3169, 3171, 11, 1001, 3172]), (18, .invokevirtual 79, 3, [0, 136, 1, 2113, 2115, 1, 1001, 2116]), (21, .ireturn, 1, [])]
/-- GearObservatory.wheelCount()I -/
def z_c96 : List z_En := [(0, .aload_n 0, 1, []), (1, .getfield 17, 3, [9, 0, 2037]), (4, .getfield 161, 3, [7, 1, 1174]), (7, .getfield 165, 3, [8, 0, 1102]), (10, .ireturn, 1, [])]
/-- GearObservatory.gearOf(I)I -/
def z_c97 : List z_En := [(0, .aload_n 0, 1, []), (1, .iload_n 1, 1, []), (2, .invokevirtual 170, 3, [0, 140, 1, 3181, 3183, 12, 1001, 3184]), (5, .aload_n 0, 1, []), (6, .getfield 17, 3, [9, 0, 2037]), (9, .getfield 161, 3, [7, 1, 1174]), (12, .getfield 173, 3, [8, 1, 1105]), (15, .iload_n 1, 1, []), (16, .iaload, 1, []), (17, .ireturn, 1, [])]
/-- GearObservatory.spokeDirection(II)I -/
def z_c98 : List z_En := [(0, .aload_n 0, 1, []), (1, .iload_n 1, 1, []), (2, .invokevirtual 170, 3, [0, 140, 1, 3181, 3183, 12, 1001, 3184]), (5, .iload_n 2, 1, []), (6, .ifCond .lt 19, 3, []), (9, .iload_n 2, 1, []), (10, .aload_n 0, 1, []), (11, .getfield 17, 3, [9, 0, 2037]), (14, .getfield 161, 3, [7, 1, 1174]), (17, .getfield 176, 3, [8, 2, 1108]), (20, .iload_n 1, 1, []), (21, .iaload, 1, []), (22, .if_icmp .lt 11, 3, []), (25, .new 179, 3, [101]), (28, .dup, 1, []), (29, .invokespecial 181, 3, []), (32, .athrow, 1, []), (33, .aload_n 0, 1, []), (34, .getfield 17, 3, [9, 0, 2037]), (37, .iload_n 1, 1, []), (38, .iload_n 2, 1, []), (39, .iconst 0, 1, []), (40, .invokevirtual 182, 3, [0, 66, 3, 3189, 3190, 3191, 1002, 3192]), (43, .ireturn, 1, [])]
/-- GearObservatory.distanceToStar(II)I -/
def z_c99 : List z_En := [(0, .aload_n 0, 1, []), (1, .iload_n 1, 1, []), (2, .invokevirtual 170, 3, [0, 140, 1, 3181, 3183, 12, 1001, 3184]), (5, .aload_n 0, 1, []), (6, .getfield 17, 3, [9, 0, 2037]), (9, .iload_n 1, 1, []), (10, .aload_n 0, 1, []), (11, .getfield 17, 3, [9, 0, 2037]), (14, .getfield 185, 3, [7, 2, 1176]), (17, .getfield 189, 3, [6, 4, 1131]), (20, .aload_n 0, 1, []), (21, .iload_n 2, 1, []), (22, .invokevirtual 194, 3, [0, 143, 1, 3200, 3202, 13, 1001, 3203]), (25, .iaload, 1, []), (26, .iconst 0, 1, []), (27, .invokevirtual 200, 3, [0, 67, 3, 3208, 3209, 3210, 1002, 3211]), (30, .ireturn, 1, [])]
/-- GearObservatory.teethToFollow(II)I -/
def z_c100 : List z_En := [(0, .aload_n 0, 1, []), (1, .iload_n 1, 1, []), (2, .invokevirtual 170, 3, [0, 140, 1, 3181, 3183, 12, 1001, 3184]), (5, .aload_n 0, 1, []), (6, .getfield 17, 3, [9, 0, 2037]), (9, .iload_n 1, 1, []), (10, .aload_n 0, 1, []), (11, .getfield 17, 3, [9, 0, 2037]), (14, .getfield 185, 3, [7, 2, 1176]), (17, .getfield 189, 3, [6, 4, 1131]), (20, .aload_n 0, 1, []), (21, .iload_n 2, 1, []), (22, .invokevirtual 194, 3, [0, 143, 1, 3200, 3202, 13, 1001, 3203]), (25, .iaload, 1, []), (26, .invokevirtual 203, 3, [0, 68, 2, 3223, 3224, 3225, 1002, 3226]), (29, .ireturn, 1, [])]
/-- GearObservatory.follow(II)I -/
def z_c101 : List z_En := [(0, .aload_n 0, 1, []), (1, .getfield 53, 3, [9, 2, 2039]), (4, .aload_n 0, 1, []), (5, .getfield 17, 3, [9, 0, 2037]), (8, .invokevirtual 71, 3, [0, 49, 1, 2072, 2073, 2074, 1011, 2075]), (11, .aload_n 0, 1, []), (12, .aload_n 0, 1, []), (13, .iload_n 1, 1, []), (14, .iload_n 2, 1, []), (15, .invokevirtual 206, 3, [0, 130, 2, 3232, 3234, 14, 1001, 3235]), (18, .invokevirtual 79, 3, [0, 136, 1, 2113, 2115, 1, 1001, 2116]), (21, .ireturn, 1, [])]
/-- GearObservatory.addStar(II)I -/
def z_c102 : List z_En := [(0, .aload_n 0, 1, []), (1, .getfield 53, 3, [9, 2, 2039]), (4, .aload_n 0, 1, []), (5, .getfield 17, 3, [9, 0, 2037]), (8, .invokevirtual 71, 3, [0, 49, 1, 2072, 2073, 2074, 1011, 2075]), (11, .aload_n 0, 1, []), (12, .aload_n 0, 1, []), (13, .iload_n 1, 1, []), (14, .iload_n 2, 1, []), (15, .invokevirtual 209, 3, [0, 131, 2, 4000, 4002, 15, 1001, 4003]), (18, .invokevirtual 79, 3, [0, 136, 1, 2113, 2115, 1, 1001, 2116]), (21, .ireturn, 1, [])]
/-- GearObservatory.removeStar(I)I -/
def z_c103 : List z_En := [(0, .aload_n 0, 1, []), (1, .getfield 53, 3, [9, 2, 2039]), (4, .aload_n 0, 1, []), (5, .getfield 17, 3, [9, 0, 2037]), (8, .invokevirtual 71, 3, [0, 49, 1, 2072, 2073, 2074, 1011, 2075]), (11, .aload_n 0, 1, []), (12, .aload_n 0, 1, []), (13, .iload_n 1, 1, []), (14, .invokevirtual 212, 3, [0, 132, 1, 4012, 4014, 16, 1001, 4015]), (17, .invokevirtual 79, 3, [0, 136, 1, 2113, 2115, 1, 1001, 2116]), (20, .ireturn, 1, [])]
/-- GearObservatory.starCount()I -/
def z_c104 : List z_En := [(0, .aload_n 0, 1, []), (1, .getfield 17, 3, [9, 0, 2037]), (4, .getfield 185, 3, [7, 2, 1176]), (7, .getfield 215, 3, [6, 0, 1124]), (10, .ireturn, 1, [])]
/-- GearObservatory.star(I)I -/
def z_c105 : List z_En := [(0, .iload_n 1, 1, []), (1, .ifCond .lt 17, 3, []), (4, .iload_n 1, 1, []), (5, .aload_n 0, 1, []), (6, .getfield 17, 3, [9, 0, 2037]), (9, .getfield 185, 3, [7, 2, 1176]), (12, .getfield 215, 3, [6, 0, 1124]), (15, .if_icmp .lt 11, 3, []), (18, .new 216, 3, [100]), (21, .dup, 1, []), (22, .invokespecial 218, 3, []), (25, .athrow, 1, []), (26, .aload_n 0, 1, []), (27, .getfield 17, 3, [9, 0, 2037]), (30, .getfield 185, 3, [7, 2, 1176]), (33, .getfield 219, 3, [6, 3, 1128]), (36, .iload_n 1, 1, []), (37, .iaload, 1, []), (38, .ireturn, 1, [])]
/-- GearObservatory.direction(I)I -/
def z_c106 : List z_En := [(0, .aload_n 0, 1, []), (1, .getfield 17, 3, [9, 0, 2037]), (4, .getfield 185, 3, [7, 2, 1176]), (7, .getfield 189, 3, [6, 4, 1131]), (10, .aload_n 0, 1, []), (11, .iload_n 1, 1, []), (12, .invokevirtual 194, 3, [0, 143, 1, 3200, 3202, 13, 1001, 3203]), (15, .iaload, 1, []), (16, .ireturn, 1, [])]
/-- GearObservatory.passHours(I)I -/
def z_c107 : List z_En := [(0, .aload_n 0, 1, []), (1, .getfield 53, 3, [9, 2, 2039]), (4, .aload_n 0, 1, []), (5, .getfield 17, 3, [9, 0, 2037]), (8, .invokevirtual 71, 3, [0, 49, 1, 2072, 2073, 2074, 1011, 2075]), (11, .aload_n 0, 1, []), (12, .aload_n 0, 1, []), (13, .iload_n 1, 1, []), (14, .invokevirtual 222, 3, [0, 133, 1, 4032, 4034, 17, 1001, 4035]), (17, .invokevirtual 79, 3, [0, 136, 1, 2113, 2115, 1, 1001, 2116]), (20, .ireturn, 1, [])]
/-- GearObservatory.directionAfter(II)I -/
def z_c108 : List z_En := [(0, .aload_n 0, 1, []), (1, .iload_n 1, 1, []), (2, .invokevirtual 194, 3, [0, 143, 1, 3200, 3202, 13, 1001, 3203]), (5, .istore_n 3, 1, []), (6, .iload_n 2, 1, []), (7, .invokestatic 225, 3, [1, 144, 1, 4049, 4050, 0, 1001, 4051]), (10, .aload_n 0, 1, []), (11, .getfield 17, 3, [9, 0, 2037]), (14, .getfield 185, 3, [7, 2, 1176]), (17, .getfield 189, 3, [6, 4, 1131]), (20, .iload_n 3, 1, []), (21, .iaload, 1, []), (22, .istore 4, 2, []), (24, .iconst 0, 1, []), (25, .istore 5, 2, []), (27, .iload 5, 2, []), (29, .iload_n 2, 1, []), (30, .if_icmp .ge 32, 3, []), (33, .iload 4, 2, []), (35, .aload_n 0, 1, []), (36, .getfield 17, 3, [9, 0, 2037]), (39, .getfield 185, 3, [7, 2, 1176]), (42, .getfield 228, 3, [6, 5, 1133]), (45, .iload_n 3, 1, []), (46, .iaload, 1, []), (47, .iadd, 1, []), (48, .sipush 3600, 3, []), (51, .invokestatic 231, 3, [1, 161, 2, 3216, 3194, 0, 1008, 3195]), (54, .istore 4, 2, []), (56, .iinc 5 1, 3, []), (59, .goto (-32), 3, [6]), (62, .iload 4, 2, []), (64, .ireturn, 1, [])]
/-- GearObservatory.directionAfterAtOnce(II)I -/
def z_c109 : List z_En := [(0, .aload_n 0, 1, []), (1, .iload_n 1, 1, []), (2, .invokevirtual 194, 3, [0, 143, 1, 3200, 3202, 13, 1001, 3203]), (5, .istore_n 3, 1, []), (6, .iload_n 2, 1, []), (7, .invokestatic 225, 3, [1, 144, 1, 4049, 4050, 0, 1001, 4051]), (10, .aload_n 0, 1, []), (11, .getfield 17, 3, [9, 0, 2037]), (14, .getfield 185, 3, [7, 2, 1176]), (17, .iload_n 3, 1, []), (18, .iload_n 2, 1, []), (19, .invokevirtual 236, 3, [0, 62, 2, 4056, 4041, 4042, 1005, 4043]), (22, .ireturn, 1, [])]
/-- GearObservatory.nearestStar(I)I -/
def z_c110 : List z_En := [(0, .iload_n 1, 1, []), (1, .iconst 0, 1, []), (2, .sipush 3599, 3, []), (5, .invokestatic 239, 3, [1, 148, 3, 2106, 2107, 0, 1001, 2108]), (8, .ifCond .ne 11, 3, []), (11, .new 179, 3, [101]), (14, .dup, 1, []), (15, .invokespecial 181, 3, []), (18, .athrow, 1, []), (19, .aload_n 0, 1, []), (20, .getfield 17, 3, [9, 0, 2037]), (23, .getfield 185, 3, [7, 2, 1176]), (26, .getfield 215, 3, [6, 0, 1124]), (29, .ifCond .ne 11, 3, []), (32, .new 243, 3, [103]), (35, .dup, 1, []), (36, .invokespecial 245, 3, []), (39, .athrow, 1, []), (40, .aload_n 0, 1, []), (41, .getfield 17, 3, [9, 0, 2037]), (44, .getfield 185, 3, [7, 2, 1176]), (47, .iload_n 1, 1, []), (48, .invokevirtual 246, 3, [0, 63, 1, 4061, 4062, 4063, 1005, 4064]), (51, .ireturn, 1, [])]
/-- GearObservatory.catalogue(CI)I -/
def z_c111 : List z_En := [(0, .aload_n 0, 1, []), (1, .getfield 53, 3, [9, 2, 2039]), (4, .aload_n 0, 1, []), (5, .getfield 17, 3, [9, 0, 2037]), (8, .invokevirtual 71, 3, [0, 49, 1, 2072, 2073, 2074, 1011, 2075]), (11, .aload_n 0, 1, []), (12, .aload_n 0, 1, []), (13, .iload_n 1, 1, []), (14, .iload_n 2, 1, []), (15, .invokevirtual 249, 3, [0, 134, 2, 4070, 4072, 18, 1001, 4073]), (18, .invokevirtual 79, 3, [0, 136, 1, 2113, 2115, 1, 1001, 2116]), (21, .ireturn, 1, [])]
/-- GearObservatory.forget(CI)I -/
def z_c112 : List z_En := [(0, .aload_n 0, 1, []), (1, .getfield 53, 3, [9, 2, 2039]), (4, .aload_n 0, 1, []), (5, .getfield 17, 3, [9, 0, 2037]), (8, .invokevirtual 71, 3, [0, 49, 1, 2072, 2073, 2074, 1011, 2075]), (11, .aload_n 0, 1, []), (12, .aload_n 0, 1, []), (13, .iload_n 1, 1, []), (14, .iload_n 2, 1, []), (15, .invokevirtual 253, 3, [0, 135, 2, 4090, 4092, 19, 1001, 4093]), (18, .invokevirtual 79, 3, [0, 136, 1, 2113, 2115, 1, 1001, 2116]), (21, .ireturn, 1, [])]
/-- GearObservatory.isCatalogued(CI)Z -/
def z_c113 : List z_En := [(0, .iload_n 1, 1, []), (1, .iload_n 2, 1, []), (2, .invokestatic 256, 3, [1, 145, 2, 4102, 4103, 0, 1001, 4104]), (5, .aload_n 0, 1, []), (6, .getfield 17, 3, [9, 0, 2037]), (9, .getfield 260, 3, [7, 3, 1178]), (12, .iload_n 1, 1, []), (13, .iload_n 2, 1, []), (14, .invokevirtual 264, 3, [0, 16, 2, 4077, 4078, 4079, 1006, 4080]), (17, .iconst (-1), 1, []), (18, .if_icmp .eq 7, 3, []), (21, .iconst 1, 1, []), (22, .goto 4, 3, []), (25, .iconst 0, 1, []), (26, .ireturn, 1, [])]
/-- GearObservatory.entryPosition(CII)I -/
def z_c114 : List z_En := [(0, .aload_n 0, 1, []), (1, .iload_n 1, 1, []), (2, .iload_n 2, 1, []), (3, .invokevirtual 269, 3, [0, 146, 2, 4109, 4111, 20, 1001, 4112]), (6, .istore 4, 2, []), (8, .iload_n 3, 1, []), (9, .ifCond .lt 20, 3, []), (12, .iload_n 3, 1, []), (13, .aload_n 0, 1, []), (14, .getfield 17, 3, [9, 0, 2037]), (17, .getfield 260, 3, [7, 3, 1178]), (20, .getfield 272, 3, [1, 3, 1158]), (23, .iload 4, 2, []), (25, .iaload, 1, []), (26, .if_icmp .lt 11, 3, []), (29, .new 243, 3, [103]), (32, .dup, 1, []), (33, .invokespecial 245, 3, []), (36, .athrow, 1, []), (37, .aload_n 0, 1, []), (38, .getfield 17, 3, [9, 0, 2037]), (41, .getfield 260, 3, [7, 3, 1178]), (44, .iload 4, 2, []), (46, .iload_n 3, 1, []), (47, .invokevirtual 274, 3, [0, 19, 2, 4113, 4114, 4115, 1006, 4116]), (50, .ireturn, 1, [])]
/-- GearObservatory.changedSince(CI)I -/
def z_c115 : List z_En := [(0, .aload_n 0, 1, []), (1, .getfield 17, 3, [9, 0, 2037]), (4, .getfield 260, 3, [7, 3, 1178]), (7, .aload_n 0, 1, []), (8, .getfield 17, 3, [9, 0, 2037]), (11, .getfield 23, 3, [7, 0, 1172]), (14, .aload_n 0, 1, []), (15, .iload_n 1, 1, []), (16, .iload_n 2, 1, []), (17, .invokevirtual 269, 3, [0, 146, 2, 4109, 4111, 20, 1001, 4112]), (20, .invokevirtual 277, 3, [0, 20, 2, 4121, 4122, 4123, 1006, 4124]), (23, .ireturn, 1, [])]
/-- GearObservatory.alignedFraction(I)F -/
def z_c116 : List z_En := [(0, .iload_n 1, 1, []), (1, .iconst 0, 1, []), (2, .sipush 1800, 3, []), (5, .invokestatic 239, 3, [1, 148, 3, 2106, 2107, 0, 1001, 2108]), (8, .ifCond .ne 11, 3, []), (11, .new 179, 3, [101]), (14, .dup, 1, []), (15, .invokespecial 181, 3, []), (18, .athrow, 1, []), (19, .aload_n 0, 1, []), (20, .getfield 17, 3, [9, 0, 2037]), (23, .getfield 161, 3, [7, 1, 1174]), (26, .getfield 165, 3, [8, 0, 1102]), (29, .istore_n 2, 1, []), (30, .iload_n 2, 1, []), (31, .ifCond .ne 11, 3, []), (34, .new 281, 3, [104]), (37, .dup, 1, []), (38, .invokespecial 283, 3, []), (41, .athrow, 1, []), (42, .iconst 0, 1, []), (43, .istore_n 3, 1, []), (44, .iconst 0, 1, []), (45, .istore 4, 2, []), (47, .iload 4, 2, []), (49, .iload_n 2, 1, []), (50, .if_icmp .ge 25, 3, []), (53, .aload_n 0, 1, []), (54, .getfield 17, 3, [9, 0, 2037]), (57, .iload 4, 2, []), (59, .iload_n 1, 1, []), (60, .invokevirtual 284, 3, [0, 69, 2, 4145, 4146, 4147, 1002, 4148]), (63, .ifCond .eq 6, 3, []), (66, .iinc 3 1, 3, []), (69, .iinc 4 1, 3, []), (72, .goto (-25), 3, [5]), (75, .iload_n 3, 1, []), (76, .i2f, 1, []), (77, .iload_n 2, 1, []), (78, .i2f, 1, []), (79, .fdiv, 1, []), (80, .freturn, 1, [])]
/-- GearObservatory.isConsistent()Z -/
def z_c117 : List z_En := [(0, .aload_n 0, 1, []), (1, .getfield 17, 3, [9, 0, 2037]), (4, .getfield 23, 3, [7, 0, 1172]), (7, .getfield 93, 3, [2, 0, 1050]), (10, .istore_n 1, 1, []), (11, .aload_n 0, 1, []), (12, .getfield 30, 3, [9, 3, 2040]), (15, .invokevirtual 129, 3, [0, 36, 0, 3086, 3087, 3088, 1009, 3089]), (18, .aload_n 0, 1, []), (19, .getfield 30, 3, [9, 3, 2040]), (22, .invokevirtual 133, 3, [0, 39, 0, 3094, 3095, 3096, 1009, 3097]), (25, .if_icmp .ne 7, 3, []), (28, .iconst 1, 1, []), (29, .goto 4, 3, []), (32, .iconst 0, 1, []), (33, .istore_n 2, 1, []), (34, .iconst 0, 1, []), (35, .istore_n 3, 1, []), (36, .iload_n 3, 1, []), (37, .iload_n 1, 1, []), (38, .if_icmp .ge 47, 3, []), (41, .iconst 0, 1, []), (42, .istore 4, 2, []), (44, .iload 4, 2, []), (46, .iload_n 1, 1, []), (47, .if_icmp .ge 32, 3, []), (50, .iload_n 2, 1, []), (51, .ifCond .eq 20, 3, []), (54, .aload_n 0, 1, []), (55, .getfield 30, 3, [9, 3, 2040]), (58, .iload_n 3, 1, []), (59, .iload 4, 2, []), (61, .invokevirtual 305, 3, [0, 47, 2, 4153, 4154, 4155, 1009, 4156]), (64, .ifCond .eq 7, 3, []), (67, .iconst 1, 1, []), (68, .goto 4, 3, []), (71, .iconst 0, 1, []), (72, .istore_n 2, 1, []), (73, .iinc 4 1, 3, []), (76, .goto (-32), 3, [5]), (79, .iinc 3 1, 3, []), (82, .goto (-46), 3, [4]), (85, .iload_n 2, 1, []), (86, .ireturn, 1, [])]
/-- GearObservatory.feed(C)I -/
def z_c118 : List z_En := [(0, .aload_n 0, 1, []), (1, .getfield 34, 3, [9, 4, 2041]), (4, .iload_n 1, 1, []), (5, .invokevirtual 294, 3, [0, 55, 1, 5105, 5106, 5107, 1007, 5108]), (8, .ifCond .ne 11, 3, []), (11, .new 308, 3, [102]), (14, .dup, 1, []), (15, .invokespecial 310, 3, []), (18, .athrow, 1, []), (19, .aload_n 0, 1, []), (20, .getfield 34, 3, [9, 4, 2041]), (23, .getfield 298, 3, [5, 0, 1199]), (26, .ireturn, 1, [])]
/-- GearObservatory.execute()I -/
def z_c119 : List z_En := [(0, .aload_n 0, 1, []), (1, .getfield 43, 3, [9, 6, 2043]), (4, .invokevirtual 311, 3, [0, 1, 0, 4165, 4166, 4167, 1010, 4168]), (7, .istore_n 1, 1, []), (8, .aload_n 0, 1, []), (9, .getfield 34, 3, [9, 4, 2041]), (12, .invokevirtual 288, 3, [0, 54, 0, 5023, 5024, 5025, 1007, 5026]), (15, .iload_n 1, 1, []), (16, .ifCond .ne 22, 3, []), (19, .aload_n 0, 1, []), (20, .aload_n 0, 1, []), (21, .getfield 43, 3, [9, 6, 2043]), (24, .getfield 315, 3, [0, 0, 2000]), (27, .putfield 64, 3, [9, 8, 2045]), (30, .new 179, 3, [101]), (33, .dup, 1, []), (34, .invokespecial 181, 3, []), (37, .athrow, 1, []), (38, .aload_n 0, 1, []), (39, .getfield 53, 3, [9, 2, 2039]), (42, .aload_n 0, 1, []), (43, .getfield 17, 3, [9, 0, 2037]), (46, .invokevirtual 71, 3, [0, 49, 1, 2072, 2073, 2074, 1011, 2075]), (49, .aload_n 0, 1, []), (50, .invokevirtual 318, 3, [0, 137, 0, 5027, 5029, 31, 1001, 5030]), (53, .istore_n 2, 1, []), (54, .iload_n 2, 1, []), (55, .aload_n 0, 1, []), (56, .getfield 43, 3, [9, 6, 2043]), (59, .getfield 321, 3, [0, 1, 2002]), (62, .if_icmp .ge 27, 3, []), (65, .aload_n 0, 1, []), (66, .getfield 53, 3, [9, 2, 2039]), (69, .aload_n 0, 1, []), (70, .getfield 17, 3, [9, 0, 2037]), (73, .invokevirtual 322, 3, [0, 50, 1, 5051, 5052, 5053, 1011, 5054]), (76, .aload_n 0, 1, []), (77, .iload_n 2, 1, []), (78, .putfield 68, 3, [9, 9, 2046]), (81, .new 325, 3, [105]), (84, .dup, 1, []), (85, .invokespecial 327, 3, []), (88, .athrow, 1, []), (89, .aload_n 0, 1, []), (90, .getfield 53, 3, [9, 2, 2039]), (93, .invokevirtual 328, 3, [0, 51, 0, 2230, 2231, 2232, 1011, 2233]), (96, .iload_n 2, 1, []), (97, .ireturn, 1, [])]
/-- GearObservatory.errorPosition()I -/
def z_c120 : List z_En := [(0, .aload_n 0, 1, []), (1, .getfield 64, 3, [9, 8, 2045]), (4, .iconst (-1), 1, []), (5, .if_icmp .ne 11, 3, []), (8, .new 243, 3, [103]), (11, .dup, 1, []), (12, .invokespecial 245, 3, []), (15, .athrow, 1, []), (16, .aload_n 0, 1, []), (17, .getfield 64, 3, [9, 8, 2045]), (20, .ireturn, 1, [])]
/-- GearObservatory.failedCommand()I -/
def z_c121 : List z_En := [(0, .aload_n 0, 1, []), (1, .getfield 68, 3, [9, 9, 2046]), (4, .iconst (-1), 1, []), (5, .if_icmp .ne 11, 3, []), (8, .new 243, 3, [103]), (11, .dup, 1, []), (12, .invokespecial 245, 3, []), (15, .athrow, 1, []), (16, .aload_n 0, 1, []), (17, .getfield 68, 3, [9, 9, 2046]), (20, .ireturn, 1, [])]
/-- GearObservatory.undo()I -/
def z_c122 : List z_En := [(0, .aload_n 0, 1, []), (1, .getfield 53, 3, [9, 2, 2039]), (4, .getfield 331, 3, [4, 0, 2027]), (7, .ifCond .ne 11, 3, []), (10, .new 308, 3, [102]), (13, .dup, 1, []), (14, .invokespecial 310, 3, []), (17, .athrow, 1, []), (18, .aload_n 0, 1, []), (19, .getfield 53, 3, [9, 2, 2039]), (22, .aload_n 0, 1, []), (23, .getfield 17, 3, [9, 0, 2037]), (26, .invokevirtual 332, 3, [0, 52, 1, 5079, 5080, 5081, 1011, 5082]), (29, .aload_n 0, 1, []), (30, .getfield 53, 3, [9, 2, 2039]), (33, .getfield 331, 3, [4, 0, 2027]), (36, .ireturn, 1, [])]
/-- GearObservatory.save()I -/
def z_c123 : List z_En := [(0, .aload_n 0, 1, []), (1, .getfield 47, 3, [9, 1, 2038]), (4, .aload_n 0, 1, []), (5, .getfield 17, 3, [9, 0, 2037]), (8, .invokevirtual 335, 3, [0, 65, 1, 5088, 2077, 2078, 1002, 2079]), (11, .aload_n 0, 1, []), (12, .iconst 1, 1, []), (13, .putfield 60, 3, [9, 7, 2044]), (16, .aload_n 0, 1, []), (17, .getfield 17, 3, [9, 0, 2037]), (20, .getfield 23, 3, [7, 0, 1172]), (23, .getfield 93, 3, [2, 0, 1050]), (26, .ireturn, 1, [])]
/-- GearObservatory.restore()I -/
def z_c124 : List z_En := [(0, .aload_n 0, 1, []), (1, .getfield 60, 3, [9, 7, 2044]), (4, .ifCond .ne 11, 3, []), (7, .new 308, 3, [102]), (10, .dup, 1, []), (11, .invokespecial 310, 3, []), (14, .athrow, 1, []), (15, .aload_n 0, 1, []), (16, .getfield 17, 3, [9, 0, 2037]), (19, .aload_n 0, 1, []), (20, .getfield 47, 3, [9, 1, 2038]), (23, .invokevirtual 335, 3, [0, 65, 1, 5088, 2077, 2078, 1002, 2079]), (26, .aload_n 0, 1, []), (27, .getfield 53, 3, [9, 2, 2039]), (30, .iconst 0, 1, []), (31, .putfield 331, 3, [4, 0, 2027]), (34, .aload_n 0, 1, []), (35, .getfield 17, 3, [9, 0, 2037]), (38, .getfield 23, 3, [7, 0, 1172]), (41, .getfield 93, 3, [2, 0, 1050]), (44, .ireturn, 1, [])]
/-- GearObservatory.tryGear(I)I -/
def z_c125 : List z_En := [(0, .iload_n 1, 1, []), (1, .bipush 8, 2, []), (3, .bipush 60, 2, []), (5, .invokestatic 239, 3, [1, 148, 3, 2106, 2107, 0, 1001, 2108]), (8, .ifCond .ne 6, 3, []), (11, .bipush (-2), 2, []), (13, .ireturn, 1, []), (14, .aload_n 0, 1, []), (15, .getfield 17, 3, [9, 0, 2037]), (18, .getfield 23, 3, [7, 0, 1172]), (21, .getfield 93, 3, [2, 0, 1050]), (24, .bipush 10, 2, []), (26, .if_icmp .lt 8, 3, []), (29, .bipush (-3), 2, []), (31, .goto 14, 3, []), (34, .aload_n 0, 1, []), (35, .getfield 17, 3, [9, 0, 2037]), (38, .getfield 23, 3, [7, 0, 1172]), (41, .iload_n 1, 1, []), (42, .invokevirtual 338, 3, [0, 24, 1, 2109, 2110, 2111, 1003, 2112]), (45, .ireturn, 1, [])]
/-- GearObservatory.tryMesh(III)I -/
def z_c126 : List z_En := [(0, .aload_n 0, 1, []), (1, .getfield 17, 3, [9, 0, 2037]), (4, .getfield 23, 3, [7, 0, 1172]), (7, .iload_n 1, 1, []), (8, .invokevirtual 341, 3, [0, 23, 1, 3005, 3006, 3007, 1003, 3008]), (11, .ifCond .eq 17, 3, []), (14, .aload_n 0, 1, []), (15, .getfield 17, 3, [9, 0, 2037]), (18, .getfield 23, 3, [7, 0, 1172]), (21, .iload_n 2, 1, []), (22, .invokevirtual 341, 3, [0, 23, 1, 3005, 3006, 3007, 1003, 3008]), (25, .ifCond .ne 5, 3, []), (28, .iconst (-1), 1, []), (29, .ireturn, 1, []), (30, .iload_n 3, 1, []), (31, .iconst 0, 1, []), (32, .iconst 5, 1, []), (33, .invokestatic 239, 3, [1, 148, 3, 2106, 2107, 0, 1001, 2108]), (36, .ifCond .ne 6, 3, []), (39, .bipush (-2), 2, []), (41, .ireturn, 1, []), (42, .aload_n 0, 1, []), (43, .getfield 30, 3, [9, 3, 2040]), (46, .iload_n 1, 1, []), (47, .iload_n 2, 1, []), (48, .invokevirtual 123, 3, [0, 33, 2, 3114, 3115, 3116, 1009, 3117]), (51, .iconst (-1), 1, []), (52, .if_icmp .eq 6, 3, []), (55, .bipush (-3), 2, []), (57, .ireturn, 1, []), (58, .aload_n 0, 1, []), (59, .getfield 17, 3, [9, 0, 2037]), (62, .getfield 23, 3, [7, 0, 1172]), (65, .iload_n 1, 1, []), (66, .iload_n 2, 1, []), (67, .iload_n 3, 1, []), (68, .invokevirtual 345, 3, [0, 25, 3, 5047, 5048, 5049, 1003, 5050]), (71, .ireturn, 1, [])]
/-- GearObservatory.tryPart(II)I -/
def z_c127 : List z_En := [(0, .aload_n 0, 1, []), (1, .getfield 17, 3, [9, 0, 2037]), (4, .getfield 23, 3, [7, 0, 1172]), (7, .iload_n 1, 1, []), (8, .invokevirtual 341, 3, [0, 23, 1, 3005, 3006, 3007, 1003, 3008]), (11, .ifCond .eq 17, 3, []), (14, .aload_n 0, 1, []), (15, .getfield 17, 3, [9, 0, 2037]), (18, .getfield 23, 3, [7, 0, 1172]), (21, .iload_n 2, 1, []), (22, .invokevirtual 341, 3, [0, 23, 1, 3005, 3006, 3007, 1003, 3008]), (25, .ifCond .ne 5, 3, []), (28, .iconst (-1), 1, []), (29, .ireturn, 1, []), (30, .aload_n 0, 1, []), (31, .getfield 17, 3, [9, 0, 2037]), (34, .getfield 23, 3, [7, 0, 1172]), (37, .iload_n 1, 1, []), (38, .iload_n 2, 1, []), (39, .invokevirtual 111, 3, [0, 28, 2, 3009, 3010, 3011, 1003, 3012]), (42, .istore_n 3, 1, []), (43, .iload_n 3, 1, []), (44, .iconst (-1), 1, []), (45, .if_icmp .ne 8, 3, []), (48, .bipush (-4), 2, []), (50, .goto 14, 3, []), (53, .aload_n 0, 1, []), (54, .getfield 17, 3, [9, 0, 2037]), (57, .getfield 23, 3, [7, 0, 1172]), (60, .iload_n 3, 1, []), (61, .invokevirtual 348, 3, [0, 26, 1, 3017, 3018, 3019, 1003, 3020]), (64, .ireturn, 1, [])]
/-- GearObservatory.tryTurn(II)I -/
def z_c128 : List z_En := [(0, .aload_n 0, 1, []), (1, .getfield 17, 3, [9, 0, 2037]), (4, .getfield 23, 3, [7, 0, 1172]), (7, .iload_n 1, 1, []), (8, .invokevirtual 341, 3, [0, 23, 1, 3005, 3006, 3007, 1003, 3008]), (11, .ifCond .ne 5, 3, []), (14, .iconst (-1), 1, []), (15, .ireturn, 1, []), (16, .iload_n 2, 1, []), (17, .ifCond .eq 14, 3, []), (20, .iload_n 2, 1, []), (21, .bipush (-99), 2, []), (23, .bipush 99, 2, []), (25, .invokestatic 239, 3, [1, 148, 3, 2106, 2107, 0, 1001, 2108]), (28, .ifCond .ne 6, 3, []), (31, .bipush (-2), 2, []), (33, .ireturn, 1, []), (34, .aload_n 0, 1, []), (35, .getfield 17, 3, [9, 0, 2037]), (38, .getfield 23, 3, [7, 0, 1172]), (41, .iload_n 1, 1, []), (42, .iload_n 2, 1, []), (43, .invokevirtual 351, 3, [0, 29, 2, 3029, 3030, 3031, 1003, 3032]), (46, .ireturn, 1, [])]
/-- GearObservatory.tryWheel(II)I -/
def z_c129 : List z_En := [(0, .aload_n 0, 1, []), (1, .getfield 17, 3, [9, 0, 2037]), (4, .getfield 23, 3, [7, 0, 1172]), (7, .iload_n 1, 1, []), (8, .invokevirtual 341, 3, [0, 23, 1, 3005, 3006, 3007, 1003, 3008]), (11, .ifCond .ne 5, 3, []), (14, .iconst (-1), 1, []), (15, .ireturn, 1, []), (16, .iload_n 2, 1, []), (17, .iconst 3, 1, []), (18, .bipush 12, 2, []), (20, .invokestatic 239, 3, [1, 148, 3, 2106, 2107, 0, 1001, 2108]), (23, .ifCond .ne 6, 3, []), (26, .bipush (-2), 2, []), (28, .ireturn, 1, []), (29, .aload_n 0, 1, []), (30, .getfield 17, 3, [9, 0, 2037]), (33, .getfield 161, 3, [7, 1, 1174]), (36, .getfield 165, 3, [8, 0, 1102]), (39, .iconst 4, 1, []), (40, .if_icmp .lt 8, 3, []), (43, .bipush (-3), 2, []), (45, .goto 15, 3, []), (48, .aload_n 0, 1, []), (49, .getfield 17, 3, [9, 0, 2037]), (52, .getfield 161, 3, [7, 1, 1174]), (55, .iload_n 1, 1, []), (56, .iload_n 2, 1, []), (57, .invokevirtual 354, 3, [0, 73, 2, 3173, 3174, 3175, 1004, 3176]), (60, .ireturn, 1, [])]
/-- GearObservatory.tryFollow(II)I -/
def z_c130 : List z_En := [(0, .aload_n 0, 1, []), (1, .getfield 17, 3, [9, 0, 2037]), (4, .getfield 161, 3, [7, 1, 1174]), (7, .iload_n 1, 1, []), (8, .invokevirtual 357, 3, [0, 72, 1, 3185, 3186, 3187, 1004, 3188]), (11, .ifCond .ne 5, 3, []), (14, .iconst (-1), 1, []), (15, .ireturn, 1, []), (16, .aload_n 0, 1, []), (17, .getfield 17, 3, [9, 0, 2037]), (20, .getfield 185, 3, [7, 2, 1176]), (23, .iload_n 2, 1, []), (24, .invokevirtual 360, 3, [0, 58, 1, 3204, 3205, 3206, 1005, 3207]), (27, .istore_n 3, 1, []), (28, .iload_n 3, 1, []), (29, .iconst (-1), 1, []), (30, .if_icmp .ne 6, 3, []), (33, .bipush (-4), 2, []), (35, .ireturn, 1, []), (36, .aload_n 0, 1, []), (37, .getfield 17, 3, [9, 0, 2037]), (40, .getfield 185, 3, [7, 2, 1176]), (43, .getfield 189, 3, [6, 4, 1131]), (46, .iload_n 3, 1, []), (47, .iaload, 1, []), (48, .istore 4, 2, []), (50, .aload_n 0, 1, []), (51, .getfield 17, 3, [9, 0, 2037]), (54, .iload_n 1, 1, []), (55, .iload 4, 2, []), (57, .invokevirtual 203, 3, [0, 68, 2, 3223, 3224, 3225, 1002, 3226]), (60, .istore 5, 2, []), (62, .iload 5, 2, []), (64, .ifCond .le 28, 3, []), (67, .aload_n 0, 1, []), (68, .getfield 17, 3, [9, 0, 2037]), (71, .getfield 23, 3, [7, 0, 1172]), (74, .aload_n 0, 1, []), (75, .getfield 17, 3, [9, 0, 2037]), (78, .getfield 161, 3, [7, 1, 1174]), (81, .getfield 173, 3, [8, 1, 1105]), (84, .iload_n 1, 1, []), (85, .iaload, 1, []), (86, .iload 5, 2, []), (88, .invokevirtual 351, 3, [0, 29, 2, 3029, 3030, 3031, 1003, 3032]), (91, .pop, 1, []), (92, .aload_n 0, 1, []), (93, .getfield 17, 3, [9, 0, 2037]), (96, .iload_n 1, 1, []), (97, .iload 4, 2, []), (99, .iconst 0, 1, []), (100, .invokevirtual 200, 3, [0, 67, 3, 3208, 3209, 3210, 1002, 3211]), (103, .ireturn, 1, [])]
/-- GearObservatory.tryStar(II)I -/
def z_c131 : List z_En := [(0, .iload_n 1, 1, []), (1, .iconst 0, 1, []), (2, .sipush 3599, 3, []), (5, .invokestatic 239, 3, [1, 148, 3, 2106, 2107, 0, 1001, 2108]), (8, .ifCond .eq 14, 3, []), (11, .iload_n 2, 1, []), (12, .bipush (-50), 2, []), (14, .bipush 50, 2, []), (16, .invokestatic 239, 3, [1, 148, 3, 2106, 2107, 0, 1001, 2108]), (19, .ifCond .ne 6, 3, []), (22, .bipush (-2), 2, []), (24, .ireturn, 1, []), (25, .aload_n 0, 1, []), (26, .getfield 17, 3, [9, 0, 2037]), (29, .getfield 185, 3, [7, 2, 1176]), (32, .getfield 215, 3, [6, 0, 1124]), (35, .bipush 8, 2, []), (37, .if_icmp .lt 8, 3, []), (40, .bipush (-3), 2, []), (42, .goto 15, 3, []), (45, .aload_n 0, 1, []), (46, .getfield 17, 3, [9, 0, 2037]), (49, .getfield 185, 3, [7, 2, 1176]), (52, .iload_n 1, 1, []), (53, .iload_n 2, 1, []), (54, .invokevirtual 362, 3, [0, 59, 2, 4004, 4005, 4006, 1005, 4007]), (57, .ireturn, 1, [])]
/-- GearObservatory.tryRemoval(I)I -/
def z_c132 : List z_En := [(0, .aload_n 0, 1, []), (1, .getfield 17, 3, [9, 0, 2037]), (4, .getfield 185, 3, [7, 2, 1176]), (7, .iload_n 1, 1, []), (8, .invokevirtual 360, 3, [0, 58, 1, 3204, 3205, 3206, 1005, 3207]), (11, .istore_n 2, 1, []), (12, .iload_n 2, 1, []), (13, .iconst (-1), 1, []), (14, .if_icmp .ne 8, 3, []), (17, .bipush (-4), 2, []), (19, .goto 14, 3, []), (22, .aload_n 0, 1, []), (23, .getfield 17, 3, [9, 0, 2037]), (26, .getfield 185, 3, [7, 2, 1176]), (29, .iload_n 2, 1, []), (30, .invokevirtual 363, 3, [0, 60, 1, 4016, 4017, 4018, 1005, 4019]), (33, .ireturn, 1, [])]
/-- GearObservatory.tryHours(I)I -/
def z_c133 : List z_En := [(0, .iload_n 1, 1, []), (1, .iconst 1, 1, []), (2, .bipush 99, 2, []), (4, .invokestatic 239, 3, [1, 148, 3, 2106, 2107, 0, 1001, 2108]), (7, .ifCond .eq 17, 3, []), (10, .aload_n 0, 1, []), (11, .getfield 17, 3, [9, 0, 2037]), (14, .getfield 185, 3, [7, 2, 1176]), (17, .iload_n 1, 1, []), (18, .invokevirtual 366, 3, [0, 61, 1, 4036, 4037, 4038, 1005, 4039]), (21, .goto 5, 3, []), (24, .bipush (-2), 2, []), (26, .ireturn, 1, [])]
/-- GearObservatory.tryEntry(CI)I -/
def z_c134 : List z_En := [(0, .iload_n 1, 1, []), (1, .iload_n 2, 1, []), (2, .invokestatic 369, 3, [1, 147, 2, 4074, 4075, 0, 1001, 4076]), (5, .ifCond .ne 6, 3, []), (8, .bipush (-2), 2, []), (10, .ireturn, 1, []), (11, .aload_n 0, 1, []), (12, .getfield 17, 3, [9, 0, 2037]), (15, .getfield 260, 3, [7, 3, 1178]), (18, .iload_n 1, 1, []), (19, .iload_n 2, 1, []), (20, .invokevirtual 264, 3, [0, 16, 2, 4077, 4078, 4079, 1006, 4080]), (23, .iconst (-1), 1, []), (24, .if_icmp .ne 21, 3, []), (27, .aload_n 0, 1, []), (28, .getfield 17, 3, [9, 0, 2037]), (31, .getfield 260, 3, [7, 3, 1178]), (34, .getfield 373, 3, [1, 0, 1154]), (37, .bipush 6, 2, []), (39, .if_icmp .lt 6, 3, []), (42, .bipush (-3), 2, []), (44, .ireturn, 1, []), (45, .aload_n 0, 1, []), (46, .getfield 17, 3, [9, 0, 2037]), (49, .getfield 260, 3, [7, 3, 1178]), (52, .iload_n 1, 1, []), (53, .iload_n 2, 1, []), (54, .aload_n 0, 1, []), (55, .getfield 17, 3, [9, 0, 2037]), (58, .getfield 23, 3, [7, 0, 1172]), (61, .invokevirtual 374, 3, [0, 17, 3, 4081, 4082, 4083, 1006, 4084]), (64, .ireturn, 1, [])]
/-- GearObservatory.tryForgetting(CI)I -/
def z_c135 : List z_En := [(0, .iload_n 1, 1, []), (1, .iload_n 2, 1, []), (2, .invokestatic 369, 3, [1, 147, 2, 4074, 4075, 0, 1001, 4076]), (5, .ifCond .ne 6, 3, []), (8, .bipush (-2), 2, []), (10, .ireturn, 1, []), (11, .aload_n 0, 1, []), (12, .getfield 17, 3, [9, 0, 2037]), (15, .getfield 260, 3, [7, 3, 1178]), (18, .iload_n 1, 1, []), (19, .iload_n 2, 1, []), (20, .invokevirtual 264, 3, [0, 16, 2, 4077, 4078, 4079, 1006, 4080]), (23, .istore_n 3, 1, []), (24, .iload_n 3, 1, []), (25, .iconst (-1), 1, []), (26, .if_icmp .ne 8, 3, []), (29, .bipush (-4), 2, []), (31, .goto 14, 3, []), (34, .aload_n 0, 1, []), (35, .getfield 17, 3, [9, 0, 2037]), (38, .getfield 260, 3, [7, 3, 1178]), (41, .iload_n 3, 1, []), (42, .invokevirtual 378, 3, [0, 18, 1, 4094, 4095, 4096, 1006, 4097]), (45, .ireturn, 1, [])]
/-- GearObservatory.settled(I)I -/
def z_c136 : List z_En := [(0, .iload_n 1, 1, []), (1, .tableswitch 63 (-4) (-1) #[55, 47, 39, 31], 31, []), (32, .new 216, 3, [100]), (35, .dup, 1, []), (36, .invokespecial 218, 3, []), (39, .athrow, 1, []), (40, .new 179, 3, [101]), (43, .dup, 1, []), (44, .invokespecial 181, 3, []), (47, .athrow, 1, []), (48, .new 308, 3, [102]), (51, .dup, 1, []), (52, .invokespecial 310, 3, []), (55, .athrow, 1, []), (56, .new 243, 3, [103]), (59, .dup, 1, []), (60, .invokespecial 245, 3, []), (63, .athrow, 1, []), (64, .aload_n 0, 1, []), (65, .getfield 53, 3, [9, 2, 2039]), (68, .invokevirtual 328, 3, [0, 51, 0, 2230, 2231, 2232, 1011, 2233]), (71, .iload_n 1, 1, []), (72, .ireturn, 1, [])]
/-- GearObservatory.performUpToFailure()I -/
def z_c137 : List z_En := [(0, .iconst 0, 1, []), (1, .istore_n 1, 1, []), (2, .iload_n 1, 1, []), (3, .aload_n 0, 1, []), (4, .getfield 43, 3, [9, 6, 2043]), (7, .getfield 321, 3, [0, 1, 2002]), (10, .if_icmp .ge 19, 3, []), (13, .aload_n 0, 1, []), (14, .iload_n 1, 1, []), (15, .invokevirtual 379, 3, [0, 138, 1, 5031, 5033, 32, 1001, 5034]), (18, .ifCond .ge 5, 3, []), (21, .iload_n 1, 1, []), (22, .ireturn, 1, []), (23, .iinc 1 1, 3, []), (26, .goto (-24), 3, [2]), (29, .aload_n 0, 1, []), (30, .getfield 43, 3, [9, 6, 2043]), (33, .getfield 321, 3, [0, 1, 2002]), (36, .ireturn, 1, [])]
/-- GearObservatory.perform(I)I -/
def z_c138 : List z_En := [(0, .aload_n 0, 1, []), (1, .getfield 43, 3, [9, 6, 2043]), (4, .iload_n 1, 1, []), (5, .iconst 0, 1, []), (6, .invokevirtual 382, 3, [0, 3, 2, 5035, 5036, 5037, 1010, 5038]), (9, .istore_n 2, 1, []), (10, .aload_n 0, 1, []), (11, .getfield 43, 3, [9, 6, 2043]), (14, .iload_n 1, 1, []), (15, .iconst 1, 1, []), (16, .invokevirtual 382, 3, [0, 3, 2, 5035, 5036, 5037, 1010, 5038]), (19, .istore_n 3, 1, []), (20, .aload_n 0, 1, []), (21, .getfield 43, 3, [9, 6, 2043]), (24, .iload_n 1, 1, []), (25, .iconst 2, 1, []), (26, .invokevirtual 382, 3, [0, 3, 2, 5035, 5036, 5037, 1010, 5038]), (29, .istore 4, 2, []), (31, .aload_n 0, 1, []), (32, .getfield 43, 3, [9, 6, 2043]), (35, .iload_n 1, 1, []), (36, .invokevirtual 385, 3, [0, 2, 1, 5039, 5040, 5041, 1010, 5042]), (39, .tableswitch 124 103 119 #[81, 118, 124, 124, 124, 124, 87, 110, 124, 124, 124, 124, 124, 96, 124, 124, 103], 81, []), (120, .aload_n 0, 1, []), (121, .iload_n 2, 1, []), (122, .invokevirtual 75, 3, [0, 125, 1, 2102, 2104, 0, 1001, 2105]), (125, .ireturn, 1, []), (126, .aload_n 0, 1, []), (127, .iload_n 2, 1, []), (128, .iload_n 3, 1, []), (129, .iload 4, 2, []), (131, .invokevirtual 82, 3, [0, 126, 3, 5043, 5045, 33, 1001, 5046]), (134, .ireturn, 1, []), (135, .aload_n 0, 1, []), (136, .iload_n 2, 1, []), (137, .iload_n 3, 1, []), (138, .invokevirtual 90, 3, [0, 128, 2, 3025, 3027, 4, 1001, 3028]), (141, .ireturn, 1, []), (142, .aload_n 0, 1, []), (143, .iload_n 2, 1, []), (144, .iload_n 3, 1, []), (145, .invokevirtual 158, 3, [0, 129, 2, 3169, 3171, 11, 1001, 3172]), (148, .ireturn, 1, []), (149, .aload_n 0, 1, []), (150, .iload_n 2, 1, []), (151, .i2c, 1, []), (152, .iload_n 3, 1, []), (153, .invokevirtual 249, 3, [0, 134, 2, 4070, 4072, 18, 1001, 4073]), (156, .ireturn, 1, []), (157, .aload_n 0, 1, []), (158, .iload_n 2, 1, []), (159, .invokevirtual 222, 3, [0, 133, 1, 4032, 4034, 17, 1001, 4035]), (162, .ireturn, 1, []), (163, .bipush (-3), 2, []), (165, .ireturn, 1, [])]
/-- GearObservatory.needGear(I)V -/
def z_c139 : List z_En := [(0, .aload_n 0, 1, []), (1, .getfield 17, 3, [9, 0, 2037]), (4, .getfield 23, 3, [7, 0, 1172]), (7, .iload_n 1, 1, []), (8, .invokevirtual 341, 3, [0, 23, 1, 3005, 3006, 3007, 1003, 3008]), (11, .ifCond .ne 11, 3, []), (14, .new 216, 3, [100]), (17, .dup, 1, []), (18, .invokespecial 218, 3, []), (21, .athrow, 1, []), (22, .return_, 1, [])]
/-- GearObservatory.needWheel(I)V -/
def z_c140 : List z_En := [(0, .aload_n 0, 1, []), (1, .getfield 17, 3, [9, 0, 2037]), (4, .getfield 161, 3, [7, 1, 1174]), (7, .iload_n 1, 1, []), (8, .invokevirtual 357, 3, [0, 72, 1, 3185, 3186, 3187, 1004, 3188]), (11, .ifCond .ne 11, 3, []), (14, .new 216, 3, [100]), (17, .dup, 1, []), (18, .invokespecial 218, 3, []), (21, .athrow, 1, []), (22, .return_, 1, [])]
/-- GearObservatory.neededMesh(II)I -/
def z_c141 : List z_En := [(0, .aload_n 0, 1, []), (1, .iload_n 1, 1, []), (2, .invokevirtual 98, 3, [0, 139, 1, 3053, 3055, 6, 1001, 3056]), (5, .aload_n 0, 1, []), (6, .iload_n 2, 1, []), (7, .invokevirtual 98, 3, [0, 139, 1, 3053, 3055, 6, 1001, 3056]), (10, .aload_n 0, 1, []), (11, .getfield 17, 3, [9, 0, 2037]), (14, .getfield 23, 3, [7, 0, 1172]), (17, .iload_n 1, 1, []), (18, .iload_n 2, 1, []), (19, .invokevirtual 111, 3, [0, 28, 2, 3009, 3010, 3011, 1003, 3012]), (22, .istore_n 3, 1, []), (23, .iload_n 3, 1, []), (24, .iconst (-1), 1, []), (25, .if_icmp .ne 11, 3, []), (28, .new 243, 3, [103]), (31, .dup, 1, []), (32, .invokespecial 245, 3, []), (35, .athrow, 1, []), (36, .iload_n 3, 1, []), (37, .ireturn, 1, [])]
/-- GearObservatory.needConnected(II)V -/
def z_c142 : List z_En := [(0, .aload_n 0, 1, []), (1, .iload_n 1, 1, []), (2, .invokevirtual 98, 3, [0, 139, 1, 3053, 3055, 6, 1001, 3056]), (5, .aload_n 0, 1, []), (6, .iload_n 2, 1, []), (7, .invokevirtual 98, 3, [0, 139, 1, 3053, 3055, 6, 1001, 3056]), (10, .aload_n 0, 1, []), (11, .getfield 30, 3, [9, 3, 2040]), (14, .iload_n 1, 1, []), (15, .iload_n 2, 1, []), (16, .invokevirtual 123, 3, [0, 33, 2, 3114, 3115, 3116, 1009, 3117]), (19, .iconst (-1), 1, []), (20, .if_icmp .ne 11, 3, []), (23, .new 243, 3, [103]), (26, .dup, 1, []), (27, .invokespecial 245, 3, []), (30, .athrow, 1, []), (31, .return_, 1, [])]
/-- GearObservatory.neededStar(I)I -/
def z_c143 : List z_En := [(0, .aload_n 0, 1, []), (1, .getfield 17, 3, [9, 0, 2037]), (4, .getfield 185, 3, [7, 2, 1176]), (7, .iload_n 1, 1, []), (8, .invokevirtual 360, 3, [0, 58, 1, 3204, 3205, 3206, 1005, 3207]), (11, .istore_n 2, 1, []), (12, .iload_n 2, 1, []), (13, .iconst (-1), 1, []), (14, .if_icmp .ne 11, 3, []), (17, .new 243, 3, [103]), (20, .dup, 1, []), (21, .invokespecial 245, 3, []), (24, .athrow, 1, []), (25, .iload_n 2, 1, []), (26, .ireturn, 1, [])]
/-- GearObservatory.needHoursAhead(I)V -/
def z_c144 : List z_En := [(0, .iload_n 0, 1, []), (1, .iconst 0, 1, []), (2, .bipush 99, 2, []), (4, .invokestatic 239, 3, [1, 148, 3, 2106, 2107, 0, 1001, 2108]), (7, .ifCond .ne 11, 3, []), (10, .new 179, 3, [101]), (13, .dup, 1, []), (14, .invokespecial 181, 3, []), (17, .athrow, 1, []), (18, .return_, 1, [])]
/-- GearObservatory.needKey(CI)V -/
def z_c145 : List z_En := [(0, .iload_n 0, 1, []), (1, .iload_n 1, 1, []), (2, .invokestatic 369, 3, [1, 147, 2, 4074, 4075, 0, 1001, 4076]), (5, .ifCond .ne 11, 3, []), (8, .new 179, 3, [101]), (11, .dup, 1, []), (12, .invokespecial 181, 3, []), (15, .athrow, 1, []), (16, .return_, 1, [])]
/-- GearObservatory.neededEntry(CI)I -/
def z_c146 : List z_En := [(0, .iload_n 1, 1, []), (1, .iload_n 2, 1, []), (2, .invokestatic 256, 3, [1, 145, 2, 4102, 4103, 0, 1001, 4104]), (5, .aload_n 0, 1, []), (6, .getfield 17, 3, [9, 0, 2037]), (9, .getfield 260, 3, [7, 3, 1178]), (12, .iload_n 1, 1, []), (13, .iload_n 2, 1, []), (14, .invokevirtual 264, 3, [0, 16, 2, 4077, 4078, 4079, 1006, 4080]), (17, .istore_n 3, 1, []), (18, .iload_n 3, 1, []), (19, .iconst (-1), 1, []), (20, .if_icmp .ne 11, 3, []), (23, .new 243, 3, [103]), (26, .dup, 1, []), (27, .invokespecial 245, 3, []), (30, .athrow, 1, []), (31, .iload_n 3, 1, []), (32, .ireturn, 1, [])]
/-- GearObservatory.isKey(CI)Z -/
def z_c147 : List z_En := [(0, .iload_n 0, 1, []), (1, .bipush 97, 2, []), (3, .bipush 122, 2, []), (5, .invokestatic 239, 3, [1, 148, 3, 2106, 2107, 0, 1001, 2108]), (8, .ifCond .eq 17, 3, []), (11, .iload_n 1, 1, []), (12, .iconst 0, 1, []), (13, .bipush 9, 2, []), (15, .invokestatic 239, 3, [1, 148, 3, 2106, 2107, 0, 1001, 2108]), (18, .ifCond .eq 7, 3, []), (21, .iconst 1, 1, []), (22, .goto 4, 3, []), (25, .iconst 0, 1, []), (26, .ireturn, 1, [])]
/-- GearObservatory.isWithin(III)Z -/
def z_c148 : List z_En := [(0, .iload_n 0, 1, []), (1, .iload_n 1, 1, []), (2, .if_icmp .lt 12, 3, []), (5, .iload_n 0, 1, []), (6, .iload_n 2, 1, []), (7, .if_icmp .gt 7, 3, []), (10, .iconst 1, 1, []), (11, .goto 4, 3, []), (14, .iconst 0, 1, []), (15, .ireturn, 1, [])]
/-- GearObservatory.distanceBetween(II)I -/
def z_c149 : List z_En := [(0, .iload_n 0, 1, []), (1, .iload_n 1, 1, []), (2, .isub, 1, []), (3, .sipush 3600, 3, []), (6, .invokestatic 231, 3, [1, 161, 2, 3216, 3194, 0, 1008, 3195]), (9, .istore_n 2, 1, []), (10, .iload_n 2, 1, []), (11, .sipush 3600, 3, []), (14, .iload_n 2, 1, []), (15, .isub, 1, []), (16, .invokestatic 388, 3, [1, 160, 2, 3217, 2235, 0, 1008, 2236]), (19, .ireturn, 1, [])]
/-- GearObservatoryLaw.at([II)I -/
def z_c150 : List z_En := [(0, .iload_n 1, 1, []), (1, .aload_n 0, 1, []), (2, .arraylength, 1, []), (3, .if_icmp .ge 9, 3, []), (6, .aload_n 0, 1, []), (7, .iload_n 1, 1, []), (8, .iaload, 1, []), (9, .goto 4, 3, []), (12, .iconst 0, 1, []), (13, .ireturn, 1, [])]
/-- GearObservatoryLaw.put(LGearObservatory;Ljava/lang/String;)V -/
def z_c151 : List z_En := [(0, .iconst 0, 1, []), (1, .istore_n 2, 1, []), (2, .iload_n 2, 1, []), (3, .aload_n 1, 1, []), (4, .invokevirtual 7, 3, [8]), (7, .if_icmp .ge 19, 3, []), (10, .aload_n 0, 1, []), (11, .aload_n 1, 1, []), (12, .iload_n 2, 1, []), (13, .invokevirtual 13, 3, [9]), (16, .invokevirtual 17, 3, [0, 118, 1, 5101, 5102, 5103, 1001, 5104]), (19, .pop, 1, []), (20, .iinc 2 1, 3, []), (23, .goto (-21), 3, [3]), (26, .return_, 1, [])]
/-- GearObservatoryLaw.build([I)LGearObservatory; -/
def z_c152_0 : List z_En := [(0, .new 18, 3, [9, 10, 1027, 1028, 1001]), (3, .dup, 1, []), (4, .invokespecial 23, 3, [3, 74, 0, 1029, 1030, 0, 1001, 1031]), (7, .astore_n 1, 1, []), (8, .aload_n 0, 1, []), (9, .iconst 0, 1, []), (10, .invokestatic 24, 3, [1, 150, 2, 5093, 5094, 0, 1000, 5095]), (13, .istore_n 2, 1, []), (14, .iconst 0, 1, []), (15, .istore_n 3, 1, []), (16, .iload_n 3, 1, []), (17, .iconst 4, 1, []), (18, .iload_n 2, 1, []), (19, .iconst 3, 1, []), (20, .iand, 1, []), (21, .iadd, 1, []), (22, .if_icmp .ge 62, 3, []), (25, .aload_n 1, 1, []), (26, .iconst 0, 1, []), (27, .bipush 8, 2, []), (29, .iload_n 2, 1, []), (30, .iconst 2, 1, []), (31, .iconst 2, 1, []), (32, .iload_n 3, 1, []), (33, .imul, 1, []), (34, .iadd, 1, []), (35, .ishr, 1, []), (36, .bipush 31, 2, []), (38, .iand, 1, []), (39, .iadd, 1, []), (40, .iconst 0, 1, []), (41, .iconst 0, 1, []), (42, .invokestatic 30, 3, [5, 153, 5, 5112, 5113, 0, 1000, 5114]), (45, .pop, 1, []), (46, .iload_n 3, 1, []), (47, .ifCond .le 31, 3, []), (50, .aload_n 1, 1, []), (51, .iconst 1, 1, []), (52, .iload_n 2, 1, []), (53, .iconst 3, 1, []), (54, .iconst 2, 1, []), (55, .iload_n 3, 1, []), (56, .imul, 1, []), (57, .iadd, 1, []), (58, .ishr, 1, []), (59, .bipush 7, 2, []), (61, .iand, 1, []), (62, .iload_n 3, 1, []), (63, .irem, 1, []), (64, .iload_n 3, 1, []), (65, .iload_n 2, 1, []), (66, .iload_n 3, 1, []), (67, .ishr, 1, []), (68, .bipush 7, 2, []), (70, .iand, 1, []), (71, .bipush 6, 2, []), (73, .irem, 1, []), (74, .invokestatic 30, 3, [5, 153, 5, 5112, 5113, 0, 1000, 5114]), (77, .pop, 1, []), (78, .iinc 3 1, 3, [])]
def z_c152_1 : List z_En := [(81, .goto (-65), 3, [4]), (84, .iconst 1, 1, []), (85, .istore_n 3, 1, []), (86, .iload_n 3, 1, []), (87, .bipush 13, 2, []), (89, .if_icmp .ge 397, 3, []), (92, .aload_n 0, 1, []), (93, .iload_n 3, 1, []), (94, .invokestatic 24, 3, [1, 150, 2, 5093, 5094, 0, 1000, 5095]), (97, .istore 4, 2, []), (99, .aload_n 1, 1, []), (100, .invokevirtual 34, 3, [0, 79, 0, 3045, 3046, 3047, 1001, 3048]), (103, .istore 5, 2, []), (105, .aload_n 1, 1, []), (106, .iconst 3, 1, []), (107, .iload 4, 2, []), (109, .bipush 15, 2, []), (111, .iand, 1, []), (112, .iload 5, 2, []), (114, .irem, 1, []), (115, .iload 4, 2, []), (117, .iconst 4, 1, []), (118, .ishr, 1, []), (119, .bipush 31, 2, []), (121, .iand, 1, []), (122, .bipush 15, 2, []), (124, .isub, 1, []), (125, .iconst 0, 1, []), (126, .invokestatic 30, 3, [5, 153, 5, 5112, 5113, 0, 1000, 5114]), (129, .pop, 1, []), (130, .aload_n 1, 1, []), (131, .iconst 3, 1, []), (132, .iload 4, 2, []), (134, .iconst 2, 1, []), (135, .ishr, 1, []), (136, .bipush 15, 2, []), (138, .iand, 1, []), (139, .iload 5, 2, []), (141, .irem, 1, []), (142, .iload 4, 2, []), (144, .bipush 9, 2, []), (146, .ishr, 1, []), (147, .bipush 127, 2, []), (149, .iand, 1, []), (150, .bipush 64, 2, []), (152, .isub, 1, []), (153, .iconst 0, 1, []), (154, .invokestatic 30, 3, [5, 153, 5, 5112, 5113, 0, 1000, 5114]), (157, .pop, 1, []), (158, .iload 4, 2, []), (160, .bipush 16, 2, []), (162, .ishr, 1, []), (163, .iconst 3, 1, []), (164, .iand, 1, []), (165, .ifCond .ne 30, 3, []), (168, .aload_n 1, 1, []), (169, .iconst 4, 1, []), (170, .iload 4, 2, []), (172, .iconst 5, 1, []), (173, .ishr, 1, [])]
def z_c152_2 : List z_En := [(174, .bipush 15, 2, []), (176, .iand, 1, []), (177, .iload 5, 2, []), (179, .irem, 1, []), (180, .iconst 3, 1, []), (181, .iload 4, 2, []), (183, .bipush 18, 2, []), (185, .ishr, 1, []), (186, .bipush 7, 2, []), (188, .iand, 1, []), (189, .iadd, 1, []), (190, .iconst 0, 1, []), (191, .invokestatic 30, 3, [5, 153, 5, 5112, 5113, 0, 1000, 5114]), (194, .pop, 1, []), (195, .iload 4, 2, []), (197, .bipush 16, 2, []), (199, .ishr, 1, []), (200, .iconst 3, 1, []), (201, .iand, 1, []), (202, .iconst 1, 1, []), (203, .if_icmp .ne 33, 3, []), (206, .aload_n 1, 1, []), (207, .iconst 5, 1, []), (208, .iload 4, 2, []), (210, .iconst 4, 1, []), (211, .ishr, 1, []), (212, .sipush 4095, 3, []), (215, .iand, 1, []), (216, .sipush 3600, 3, []), (219, .irem, 1, []), (220, .iload 4, 2, []), (222, .bipush 18, 2, []), (224, .ishr, 1, []), (225, .bipush 63, 2, []), (227, .iand, 1, []), (228, .bipush 32, 2, []), (230, .isub, 1, []), (231, .iconst 0, 1, []), (232, .invokestatic 30, 3, [5, 153, 5, 5112, 5113, 0, 1000, 5114]), (235, .pop, 1, []), (236, .iload 4, 2, []), (238, .bipush 16, 2, []), (240, .ishr, 1, []), (241, .bipush 7, 2, []), (243, .iand, 1, []), (244, .iconst 2, 1, []), (245, .if_icmp .ne 32, 3, []), (248, .aload_n 1, 1, []), (249, .iconst 2, 1, []), (250, .iload 4, 2, []), (252, .bipush 18, 2, []), (254, .ishr, 1, []), (255, .bipush 15, 2, []), (257, .iand, 1, []), (258, .iload 5, 2, []), (260, .irem, 1, []), (261, .iload 4, 2, []), (263, .bipush 22, 2, []), (265, .ishr, 1, []), (266, .bipush 15, 2, [])]
def z_c152_3 : List z_En := [(268, .iand, 1, []), (269, .iload 5, 2, []), (271, .irem, 1, []), (272, .iconst 0, 1, []), (273, .invokestatic 30, 3, [5, 153, 5, 5112, 5113, 0, 1000, 5114]), (276, .pop, 1, []), (277, .iload 4, 2, []), (279, .bipush 16, 2, []), (281, .ishr, 1, []), (282, .bipush 7, 2, []), (284, .iand, 1, []), (285, .bipush 6, 2, []), (287, .if_icmp .ne 38, 3, []), (290, .aload_n 1, 1, []), (291, .iconst 1, 1, []), (292, .iload 4, 2, []), (294, .bipush 18, 2, []), (296, .ishr, 1, []), (297, .bipush 15, 2, []), (299, .iand, 1, []), (300, .iload 5, 2, []), (302, .irem, 1, []), (303, .iload 4, 2, []), (305, .bipush 22, 2, []), (307, .ishr, 1, []), (308, .bipush 15, 2, []), (310, .iand, 1, []), (311, .iload 5, 2, []), (313, .irem, 1, []), (314, .iload 4, 2, []), (316, .bipush 26, 2, []), (318, .ishr, 1, []), (319, .iconst 3, 1, []), (320, .iand, 1, []), (321, .invokestatic 30, 3, [5, 153, 5, 5112, 5113, 0, 1000, 5114]), (324, .pop, 1, []), (325, .iload 4, 2, []), (327, .bipush 16, 2, []), (329, .ishr, 1, []), (330, .bipush 7, 2, []), (332, .iand, 1, []), (333, .iconst 3, 1, []), (334, .if_icmp .ne 22, 3, []), (337, .aload_n 1, 1, []), (338, .bipush 7, 2, []), (340, .iconst 1, 1, []), (341, .iload 4, 2, []), (343, .bipush 19, 2, []), (345, .ishr, 1, []), (346, .bipush 31, 2, []), (348, .iand, 1, []), (349, .iadd, 1, []), (350, .iconst 0, 1, []), (351, .iconst 0, 1, []), (352, .invokestatic 30, 3, [5, 153, 5, 5112, 5113, 0, 1000, 5114]), (355, .pop, 1, []), (356, .iload 4, 2, []), (358, .bipush 16, 2, []), (360, .ishr, 1, []), (361, .bipush 7, 2, [])]
def z_c152_4 : List z_En := [(363, .iand, 1, []), (364, .bipush 7, 2, []), (366, .if_icmp .ne 28, 3, []), (369, .aload_n 1, 1, []), (370, .bipush 8, 2, []), (372, .bipush 97, 2, []), (374, .iload 4, 2, []), (376, .bipush 19, 2, []), (378, .ishr, 1, []), (379, .iconst 1, 1, []), (380, .iand, 1, []), (381, .iadd, 1, []), (382, .iload 4, 2, []), (384, .bipush 20, 2, []), (386, .ishr, 1, []), (387, .iconst 3, 1, []), (388, .iand, 1, []), (389, .iconst 0, 1, []), (390, .invokestatic 30, 3, [5, 153, 5, 5112, 5113, 0, 1000, 5114]), (393, .pop, 1, []), (394, .iload 4, 2, []), (396, .bipush 24, 2, []), (398, .ishr, 1, []), (399, .bipush 15, 2, []), (401, .iand, 1, []), (402, .iconst 5, 1, []), (403, .if_icmp .ne 19, 3, []), (406, .aload_n 1, 1, []), (407, .bipush 6, 2, []), (409, .iload 4, 2, []), (411, .bipush 28, 2, []), (413, .ishr, 1, []), (414, .iconst 3, 1, []), (415, .iand, 1, []), (416, .iconst 0, 1, []), (417, .iconst 0, 1, []), (418, .invokestatic 30, 3, [5, 153, 5, 5112, 5113, 0, 1000, 5114]), (421, .pop, 1, []), (422, .iload 4, 2, []), (424, .bipush 24, 2, []), (426, .ishr, 1, []), (427, .bipush 7, 2, []), (429, .iand, 1, []), (430, .bipush 6, 2, []), (432, .if_icmp .ne 19, 3, []), (435, .aload_n 1, 1, []), (436, .bipush 10, 2, []), (438, .iconst 0, 1, []), (439, .iload 4, 2, []), (441, .bipush 28, 2, []), (443, .ishr, 1, []), (444, .iconst 1, 1, []), (445, .iand, 1, []), (446, .iconst 0, 1, []), (447, .invokestatic 30, 3, [5, 153, 5, 5112, 5113, 0, 1000, 5114]), (450, .pop, 1, []), (451, .iload 4, 2, []), (453, .bipush 24, 2, []), (455, .ishr, 1, []), (456, .bipush 15, 2, [])]
def z_c152_5 : List z_En := [(458, .iand, 1, []), (459, .bipush 9, 2, []), (461, .if_icmp .ne 19, 3, []), (464, .aload_n 1, 1, []), (465, .iconst 0, 1, []), (466, .bipush 8, 2, []), (468, .iload 4, 2, []), (470, .bipush 31, 2, []), (472, .iand, 1, []), (473, .iadd, 1, []), (474, .iconst 0, 1, []), (475, .iconst 0, 1, []), (476, .invokestatic 30, 3, [5, 153, 5, 5112, 5113, 0, 1000, 5114]), (479, .pop, 1, []), (480, .iinc 3 1, 3, []), (483, .goto (-397), 3, [4]), (486, .aload_n 1, 1, []), (487, .areturn, 1, [])]
def z_c152 : List z_En := z_c152_0 ++ (z_c152_1 ++ (z_c152_2 ++ (z_c152_3 ++ (z_c152_4 ++ (z_c152_5)))))
/-- GearObservatoryLaw.act(LGearObservatory;IIII)I -/
def z_c153_0 : List z_En := [(0, .iload_n 1, 1, []), (1, .tableswitch 192 0 15 #[79, 85, 94, 101, 108, 115, 122, 128, 134, 142, 150, 157, 164, 171, 178, 185], 79, []), (80, .aload_n 0, 1, []), (81, .iload_n 2, 1, []), (82, .invokevirtual 37, 3, [0, 75, 1, 2068, 2069, 2070, 1001, 2071]), (85, .ireturn, 1, []), (86, .aload_n 0, 1, []), (87, .iload_n 2, 1, []), (88, .iload_n 3, 1, []), (89, .iload 4, 2, []), (91, .invokevirtual 41, 3, [0, 76, 3, 5150, 5151, 5152, 1001, 5153]), (94, .ireturn, 1, []), (95, .aload_n 0, 1, []), (96, .iload_n 2, 1, []), (97, .iload_n 3, 1, []), (98, .invokevirtual 45, 3, [0, 77, 2, 2237, 2238, 2239, 1001, 3000]), (101, .ireturn, 1, []), (102, .aload_n 0, 1, []), (103, .iload_n 2, 1, []), (104, .iload_n 3, 1, []), (105, .invokevirtual 49, 3, [0, 78, 2, 3021, 3022, 3023, 1001, 3024]), (108, .ireturn, 1, []), (109, .aload_n 0, 1, []), (110, .iload_n 2, 1, []), (111, .iload_n 3, 1, []), (112, .invokevirtual 52, 3, [0, 95, 2, 3165, 3166, 3167, 1001, 3168]), (115, .ireturn, 1, []), (116, .aload_n 0, 1, []), (117, .iload_n 2, 1, []), (118, .iload_n 3, 1, []), (119, .invokevirtual 55, 3, [0, 102, 2, 3236, 3237, 3238, 1001, 3239]), (122, .ireturn, 1, []), (123, .aload_n 0, 1, []), (124, .iload_n 2, 1, []), (125, .invokevirtual 58, 3, [0, 103, 1, 4008, 4009, 4010, 1001, 4011]), (128, .ireturn, 1, []), (129, .aload_n 0, 1, []), (130, .iload_n 2, 1, []), (131, .invokevirtual 61, 3, [0, 107, 1, 4028, 4029, 4030, 1001, 4031]), (134, .ireturn, 1, []), (135, .aload_n 0, 1, []), (136, .iload_n 2, 1, []), (137, .i2c, 1, []), (138, .iload_n 3, 1, []), (139, .invokevirtual 64, 3, [0, 111, 2, 4066, 4067, 4068, 1001, 4069]), (142, .ireturn, 1, []), (143, .aload_n 0, 1, []), (144, .iload_n 2, 1, []), (145, .i2c, 1, []), (146, .iload_n 3, 1, []), (147, .invokevirtual 68, 3, [0, 112, 2, 4086, 4087, 4088, 1001, 4089]), (150, .ireturn, 1, []), (151, .aload_n 0, 1, []), (152, .iload_n 2, 1, []), (153, .iload_n 3, 1, []), (154, .invokevirtual 71, 3, [0, 101, 2, 3228, 3229, 3230, 1001, 3231]), (157, .ireturn, 1, []), (158, .aload_n 0, 1, []), (159, .iload_n 2, 1, []), (160, .iload_n 3, 1, [])]
def z_c153_1 : List z_En := [(161, .invokevirtual 74, 3, [0, 93, 2, 3146, 3147, 3148, 1001, 3149]), (164, .ireturn, 1, []), (165, .aload_n 0, 1, []), (166, .iload_n 2, 1, []), (167, .iload_n 3, 1, []), (168, .invokevirtual 77, 3, [0, 94, 2, 3155, 3156, 3157, 1001, 3158]), (171, .ireturn, 1, []), (172, .aload_n 0, 1, []), (173, .iload_n 2, 1, []), (174, .iload_n 3, 1, []), (175, .invokevirtual 80, 3, [0, 90, 2, 3106, 3107, 3108, 1001, 3109]), (178, .ireturn, 1, []), (179, .aload_n 0, 1, []), (180, .iload_n 2, 1, []), (181, .iload_n 3, 1, []), (182, .invokevirtual 83, 3, [0, 92, 2, 3138, 3139, 3140, 1001, 3141]), (185, .ireturn, 1, []), (186, .aload_n 0, 1, []), (187, .iload_n 2, 1, []), (188, .iload_n 3, 1, []), (189, .invokevirtual 86, 3, [0, 91, 2, 3130, 3131, 3132, 1001, 3133]), (192, .ireturn, 1, []), (193, .aload_n 0, 1, []), (194, .iload_n 2, 1, []), (195, .i2c, 1, []), (196, .iload_n 3, 1, []), (197, .invokevirtual 89, 3, [0, 115, 2, 4117, 4118, 4119, 1001, 4120]), (200, .ireturn, 1, []), (201, .astore 5, 2, []), (203, .sipush (-5001), 3, []), (206, .ireturn, 1, []), (207, .astore 5, 2, []), (209, .sipush (-5002), 3, []), (212, .ireturn, 1, []), (213, .astore 5, 2, []), (215, .sipush (-5003), 3, []), (218, .ireturn, 1, []), (219, .astore 5, 2, []), (221, .sipush (-5004), 3, []), (224, .ireturn, 1, [])]
def z_c153 : List z_En := z_c153_0 ++ (z_c153_1)
/-- GearObservatoryLaw.state(LGearObservatory;)I -/
def z_c154_0 : List z_En := [(0, .bipush 31, 2, []), (2, .bipush 31, 2, []), (4, .aload_n 0, 1, []), (5, .invokevirtual 34, 3, [0, 79, 0, 3045, 3046, 3047, 1001, 3048]), (8, .imul, 1, []), (9, .aload_n 0, 1, []), (10, .invokevirtual 100, 3, [0, 82, 0, 5157, 5158, 5159, 1001, 5160]), (13, .iadd, 1, []), (14, .imul, 1, []), (15, .aload_n 0, 1, []), (16, .invokevirtual 103, 3, [0, 89, 0, 3102, 3103, 3104, 1001, 3105]), (19, .iadd, 1, []), (20, .istore_n 1, 1, []), (21, .iconst 0, 1, []), (22, .istore_n 2, 1, []), (23, .iload_n 2, 1, []), (24, .aload_n 0, 1, []), (25, .invokevirtual 34, 3, [0, 79, 0, 3045, 3046, 3047, 1001, 3048]), (28, .if_icmp .ge 79, 3, []), (31, .bipush 31, 2, []), (33, .bipush 31, 2, []), (35, .iload_n 1, 1, []), (36, .imul, 1, []), (37, .aload_n 0, 1, []), (38, .iload_n 2, 1, []), (39, .invokevirtual 106, 3, [0, 80, 1, 5161, 5162, 5163, 1001, 5164]), (42, .iadd, 1, []), (43, .imul, 1, []), (44, .aload_n 0, 1, []), (45, .iload_n 2, 1, []), (46, .invokevirtual 109, 3, [0, 81, 1, 3049, 3050, 3051, 1001, 3052]), (49, .iadd, 1, []), (50, .istore_n 1, 1, []), (51, .iconst 0, 1, []), (52, .istore_n 3, 1, []), (53, .iload_n 3, 1, []), (54, .iload_n 2, 1, []), (55, .if_icmp .ge 46, 3, []), (58, .bipush 31, 2, []), (60, .iload_n 1, 1, []), (61, .imul, 1, []), (62, .aload_n 0, 1, []), (63, .iload_n 2, 1, []), (64, .iload_n 3, 1, []), (65, .invokevirtual 112, 3, [0, 83, 2, 5165, 5166, 5167, 1001, 5168]), (68, .ifCond .eq 24, 3, []), (71, .iconst 1, 1, []), (72, .aload_n 0, 1, []), (73, .iload_n 2, 1, []), (74, .iload_n 3, 1, []), (75, .invokevirtual 116, 3, [0, 85, 2, 3057, 3058, 3059, 1001, 3060]), (78, .iadd, 1, []), (79, .bipush 10, 2, []), (81, .aload_n 0, 1, []), (82, .iload_n 2, 1, []), (83, .iload_n 3, 1, []), (84, .invokevirtual 119, 3, [0, 84, 2, 5169, 5170, 5171, 1001, 5172]), (87, .imul, 1, []), (88, .iadd, 1, []), (89, .goto 4, 3, [])]
def z_c154_1 : List z_En := [(92, .iconst 0, 1, []), (93, .iadd, 1, []), (94, .istore_n 1, 1, []), (95, .iinc 3 1, 3, []), (98, .goto (-45), 3, [4]), (101, .iinc 2 1, 3, []), (104, .goto (-81), 3, [3]), (107, .iconst 0, 1, []), (108, .istore_n 2, 1, []), (109, .iload_n 2, 1, []), (110, .aload_n 0, 1, []), (111, .invokevirtual 122, 3, [0, 96, 0, 5173, 5174, 5175, 1001, 5176]), (114, .if_icmp .ge 30, 3, []), (117, .bipush 31, 2, []), (119, .bipush 31, 2, []), (121, .iload_n 1, 1, []), (122, .imul, 1, []), (123, .aload_n 0, 1, []), (124, .iload_n 2, 1, []), (125, .invokevirtual 125, 3, [0, 97, 1, 5177, 5178, 5179, 1001, 5180]), (128, .iadd, 1, []), (129, .imul, 1, []), (130, .aload_n 0, 1, []), (131, .iload_n 2, 1, []), (132, .iconst 1, 1, []), (133, .invokevirtual 128, 3, [0, 98, 2, 3177, 3178, 3179, 1001, 3180]), (136, .iadd, 1, []), (137, .istore_n 1, 1, []), (138, .iinc 2 1, 3, []), (141, .goto (-32), 3, [3]), (144, .iconst 0, 1, []), (145, .istore_n 2, 1, []), (146, .iload_n 2, 1, []), (147, .aload_n 0, 1, []), (148, .invokevirtual 131, 3, [0, 104, 0, 5181, 5182, 5183, 1001, 5184]), (151, .if_icmp .ge 48, 3, []), (154, .bipush 31, 2, []), (156, .bipush 31, 2, []), (158, .bipush 31, 2, []), (160, .iload_n 1, 1, []), (161, .imul, 1, []), (162, .aload_n 0, 1, []), (163, .iload_n 2, 1, []), (164, .invokevirtual 134, 3, [0, 105, 1, 4020, 4021, 4022, 1001, 4023]), (167, .iadd, 1, []), (168, .imul, 1, []), (169, .aload_n 0, 1, []), (170, .aload_n 0, 1, []), (171, .iload_n 2, 1, []), (172, .invokevirtual 134, 3, [0, 105, 1, 4020, 4021, 4022, 1001, 4023]), (175, .invokevirtual 137, 3, [0, 106, 1, 4024, 4025, 4026, 1001, 4027]), (178, .iadd, 1, []), (179, .imul, 1, []), (180, .aload_n 0, 1, []), (181, .aload_n 0, 1, []), (182, .iload_n 2, 1, []), (183, .invokevirtual 134, 3, [0, 105, 1, 4020, 4021, 4022, 1001, 4023]), (186, .bipush 7, 2, []), (188, .invokevirtual 140, 3, [0, 108, 2, 4045, 4046, 4047, 1001, 4048]), (191, .iadd, 1, [])]
def z_c154_2 : List z_En := [(192, .istore_n 1, 1, []), (193, .iinc 2 1, 3, []), (196, .goto (-50), 3, [3]), (199, .iconst 0, 1, []), (200, .istore_n 2, 1, []), (201, .iload_n 2, 1, []), (202, .bipush 8, 2, []), (204, .if_icmp .ge 31, 3, []), (207, .bipush 31, 2, []), (209, .iload_n 1, 1, []), (210, .imul, 1, []), (211, .aload_n 0, 1, []), (212, .bipush 16, 2, []), (214, .bipush 97, 2, []), (216, .iload_n 2, 1, []), (217, .iconst 1, 1, []), (218, .iand, 1, []), (219, .iadd, 1, []), (220, .iload_n 2, 1, []), (221, .iconst 1, 1, []), (222, .ishr, 1, []), (223, .iconst 0, 1, []), (224, .invokestatic 30, 3, [5, 153, 5, 5112, 5113, 0, 1000, 5114]), (227, .iadd, 1, []), (228, .istore_n 1, 1, []), (229, .iinc 2 1, 3, []), (232, .goto (-31), 3, [3]), (235, .iload_n 1, 1, []), (236, .ireturn, 1, [])]
def z_c154 : List z_En := z_c154_0 ++ (z_c154_1 ++ (z_c154_2))
/-- GearObservatoryLaw.law([I)Z -/
def z_c155_0 : List z_En := [(0, .aload_n 0, 1, []), (1, .invokestatic 160, 3, [1, 152, 1, 5109, 5110, 0, 1000, 5111]), (4, .astore_n 1, 1, []), (5, .aload_n 0, 1, []), (6, .invokestatic 160, 3, [1, 152, 1, 5109, 5110, 0, 1000, 5111]), (9, .astore_n 2, 1, []), (10, .aload_n 1, 1, []), (11, .invokevirtual 164, 3, [0, 123, 0, 5084, 5085, 5086, 1001, 5087]), (14, .istore_n 3, 1, []), (15, .aload_n 1, 1, []), (16, .invokestatic 167, 3, [1, 154, 1, 5154, 5155, 0, 1000, 5156]), (19, .istore 4, 2, []), (21, .aload_n 1, 1, []), (22, .ldc 171, 2, [1, 6]), (24, .invokestatic 173, 3, [1, 151, 2, 5096, 5097, 0, 1000, 5098]), (27, .aload_n 1, 1, []), (28, .invokevirtual 177, 3, [0, 119, 0, 4161, 4162, 4163, 1001, 4164]), (31, .iconst 3, 1, []), (32, .if_icmp .ne 45, 3, []), (35, .aload_n 2, 1, []), (36, .iconst 0, 1, []), (37, .bipush 7, 2, []), (39, .invokevirtual 49, 3, [0, 78, 2, 3021, 3022, 3023, 1001, 3024]), (42, .iconst 1, 1, []), (43, .if_icmp .lt 34, 3, []), (46, .aload_n 2, 1, []), (47, .iconst 1, 1, []), (48, .bipush (-30), 2, []), (50, .invokevirtual 49, 3, [0, 78, 2, 3021, 3022, 3023, 1001, 3024]), (53, .iconst 1, 1, []), (54, .if_icmp .lt 23, 3, []), (57, .aload_n 2, 1, []), (58, .iconst 5, 1, []), (59, .invokevirtual 61, 3, [0, 107, 1, 4028, 4029, 4030, 1001, 4031]), (62, .iconst 5, 1, []), (63, .if_icmp .lt 14, 3, []), (66, .aload_n 1, 1, []), (67, .invokestatic 167, 3, [1, 154, 1, 5154, 5155, 0, 1000, 5156]), (70, .aload_n 2, 1, []), (71, .invokestatic 167, 3, [1, 154, 1, 5154, 5155, 0, 1000, 5156]), (74, .if_icmp .eq 5, 3, []), (77, .iconst 0, 1, []), (78, .ireturn, 1, []), (79, .aload_n 1, 1, []), (80, .invokevirtual 180, 3, [0, 122, 0, 5075, 5076, 5077, 1001, 5078]), (83, .ifCond .lt 42, 3, []), (86, .aload_n 1, 1, []), (87, .invokestatic 167, 3, [1, 154, 1, 5154, 5155, 0, 1000, 5156]), (90, .iload 4, 2, []), (92, .if_icmp .ne 33, 3, []), (95, .aload_n 2, 1, []), (96, .invokevirtual 180, 3, [0, 122, 0, 5075, 5076, 5077, 1001, 5078]), (99, .ifCond .lt 26, 3, []), (102, .aload_n 2, 1, []), (103, .invokevirtual 180, 3, [0, 122, 0, 5075, 5076, 5077, 1001, 5078]), (106, .ifCond .lt 19, 3, []), (109, .aload_n 2, 1, []), (110, .invokevirtual 180, 3, [0, 122, 0, 5075, 5076, 5077, 1001, 5078]), (113, .ifCond .lt 12, 3, []), (116, .aload_n 2, 1, [])]
def z_c155_1 : List z_En := [(117, .invokestatic 167, 3, [1, 154, 1, 5154, 5155, 0, 1000, 5156]), (120, .iload 4, 2, []), (122, .if_icmp .eq 5, 3, []), (125, .iconst 0, 1, []), (126, .ireturn, 1, []), (127, .aload_n 1, 1, []), (128, .ldc 183, 2, [1, 7]), (130, .invokestatic 173, 3, [1, 151, 2, 5096, 5097, 0, 1000, 5098]), (133, .aload_n 1, 1, []), (134, .invokestatic 185, 3, [5, 156, 1, 5185, 5186, 0, 1000, 5187]), (137, .bipush (-2), 2, []), (139, .if_icmp .ne 20, 3, []), (142, .aload_n 1, 1, []), (143, .invokevirtual 188, 3, [0, 121, 0, 5071, 5072, 5073, 1001, 5074]), (146, .iconst 1, 1, []), (147, .if_icmp .ne 12, 3, []), (150, .aload_n 1, 1, []), (151, .invokestatic 167, 3, [1, 154, 1, 5154, 5155, 0, 1000, 5156]), (154, .iload 4, 2, []), (156, .if_icmp .eq 5, 3, []), (159, .iconst 0, 1, []), (160, .ireturn, 1, []), (161, .aload_n 1, 1, []), (162, .ldc 191, 2, [1, 8]), (164, .invokestatic 173, 3, [1, 151, 2, 5096, 5097, 0, 1000, 5098]), (167, .aload_n 1, 1, []), (168, .invokestatic 185, 3, [5, 156, 1, 5185, 5186, 0, 1000, 5187]), (171, .bipush (-2), 2, []), (173, .if_icmp .ne 19, 3, []), (176, .aload_n 1, 1, []), (177, .invokevirtual 188, 3, [0, 121, 0, 5071, 5072, 5073, 1001, 5074]), (180, .ifCond .ne 12, 3, []), (183, .aload_n 1, 1, []), (184, .invokestatic 167, 3, [1, 154, 1, 5154, 5155, 0, 1000, 5156]), (187, .iload 4, 2, []), (189, .if_icmp .eq 5, 3, []), (192, .iconst 0, 1, []), (193, .ireturn, 1, []), (194, .aload_n 1, 1, []), (195, .ldc 193, 2, [1, 9]), (197, .bipush 6, 2, []), (199, .invokestatic 195, 3, [1, 157, 3, 5189, 5190, 0, 1000, 5191]), (202, .ifCond .eq 125, 3, []), (205, .aload_n 1, 1, []), (206, .ldc 199, 2, [1, 10]), (208, .bipush 8, 2, []), (210, .invokestatic 195, 3, [1, 157, 3, 5189, 5190, 0, 1000, 5191]), (213, .ifCond .eq 114, 3, []), (216, .aload_n 1, 1, []), (217, .ldc 201, 2, [1, 11]), (219, .bipush 8, 2, []), (221, .invokestatic 195, 3, [1, 157, 3, 5189, 5190, 0, 1000, 5191]), (224, .ifCond .eq 103, 3, []), (227, .aload_n 1, 1, []), (228, .ldc 203, 2, [1, 12]), (230, .bipush 6, 2, []), (232, .invokestatic 195, 3, [1, 157, 3, 5189, 5190, 0, 1000, 5191]), (235, .ifCond .eq 92, 3, []), (238, .aload_n 1, 1, []), (239, .ldc 205, 2, [1, 13])]
def z_c155_2 : List z_En := [(241, .bipush 7, 2, []), (243, .invokestatic 195, 3, [1, 157, 3, 5189, 5190, 0, 1000, 5191]), (246, .ifCond .eq 81, 3, []), (249, .aload_n 1, 1, []), (250, .ldc 207, 2, [1, 14]), (252, .iconst 0, 1, []), (253, .invokestatic 195, 3, [1, 157, 3, 5189, 5190, 0, 1000, 5191]), (256, .ifCond .eq 71, 3, []), (259, .aload_n 1, 1, []), (260, .ldc 209, 2, [1, 15]), (262, .bipush 7, 2, []), (264, .invokestatic 195, 3, [1, 157, 3, 5189, 5190, 0, 1000, 5191]), (267, .ifCond .eq 60, 3, []), (270, .aload_n 1, 1, []), (271, .ldc 211, 2, [1, 16]), (273, .iconst 5, 1, []), (274, .invokestatic 195, 3, [1, 157, 3, 5189, 5190, 0, 1000, 5191]), (277, .ifCond .eq 50, 3, []), (280, .aload_n 1, 1, []), (281, .ldc 213, 2, [1, 17]), (283, .bipush 6, 2, []), (285, .invokestatic 195, 3, [1, 157, 3, 5189, 5190, 0, 1000, 5191]), (288, .ifCond .eq 39, 3, []), (291, .aload_n 1, 1, []), (292, .ldc 215, 2, [1, 18]), (294, .iconst 1, 1, []), (295, .invokestatic 195, 3, [1, 157, 3, 5189, 5190, 0, 1000, 5191]), (298, .ifCond .eq 29, 3, []), (301, .aload_n 1, 1, []), (302, .ldc 217, 2, [1, 19]), (304, .iconst 0, 1, []), (305, .invokestatic 195, 3, [1, 157, 3, 5189, 5190, 0, 1000, 5191]), (308, .ifCond .eq 19, 3, []), (311, .aload_n 1, 1, []), (312, .invokevirtual 188, 3, [0, 121, 0, 5071, 5072, 5073, 1001, 5074]), (315, .ifCond .ne 12, 3, []), (318, .aload_n 1, 1, []), (319, .invokestatic 167, 3, [1, 154, 1, 5154, 5155, 0, 1000, 5156]), (322, .iload 4, 2, []), (324, .if_icmp .eq 5, 3, []), (327, .iconst 0, 1, []), (328, .ireturn, 1, []), (329, .aload_n 0, 1, []), (330, .bipush 13, 2, []), (332, .invokestatic 24, 3, [1, 150, 2, 5093, 5094, 0, 1000, 5095]), (335, .istore 5, 2, []), (337, .bipush 6, 2, []), (339, .iload 5, 2, []), (341, .bipush 31, 2, []), (343, .iand, 1, []), (344, .iadd, 1, []), (345, .istore 6, 2, []), (347, .iload 5, 2, []), (349, .iconst 5, 1, []), (350, .ishr, 1, []), (351, .bipush 15, 2, []), (353, .iand, 1, []), (354, .bipush 100, 2, []), (356, .imul, 1, []), (357, .istore 7, 2, [])]
def z_c155_3 : List z_En := [(359, .new 18, 3, [9, 10, 1027, 1028, 1001]), (362, .dup, 1, []), (363, .invokespecial 23, 3, [3, 74, 0, 1029, 1030, 0, 1001, 1031]), (366, .astore 8, 2, []), (368, .aload 8, 2, []), (370, .invokevirtual 219, 3, [0, 117, 0, 4149, 4150, 4151, 1001, 4152]), (373, .ifCond .eq 85, 3, []), (376, .aload 8, 2, []), (378, .invokevirtual 34, 3, [0, 79, 0, 3045, 3046, 3047, 1001, 3048]), (381, .ifCond .ne 77, 3, []), (384, .aload 8, 2, []), (386, .invokevirtual 223, 3, [0, 87, 0, 3082, 3083, 3084, 1001, 3085]), (389, .ifCond .ne 69, 3, []), (392, .aload 8, 2, []), (394, .iconst 3, 1, []), (395, .iconst 0, 1, []), (396, .iconst 1, 1, []), (397, .iconst 0, 1, []), (398, .invokestatic 30, 3, [5, 153, 5, 5112, 5113, 0, 1000, 5114]), (401, .sipush (-5001), 3, []), (404, .if_icmp .ne 54, 3, []), (407, .aload 8, 2, []), (409, .bipush 6, 2, []), (411, .iconst 0, 1, []), (412, .iconst 0, 1, []), (413, .iconst 0, 1, []), (414, .invokestatic 30, 3, [5, 153, 5, 5112, 5113, 0, 1000, 5114]), (417, .sipush (-5004), 3, []), (420, .if_icmp .ne 38, 3, []), (423, .aload 8, 2, []), (425, .bipush 9, 2, []), (427, .bipush 97, 2, []), (429, .iconst 0, 1, []), (430, .iconst 0, 1, []), (431, .invokestatic 30, 3, [5, 153, 5, 5112, 5113, 0, 1000, 5114]), (434, .sipush (-5004), 3, []), (437, .if_icmp .ne 21, 3, []), (440, .aload 8, 2, []), (442, .bipush 8, 2, []), (444, .bipush 97, 2, []), (446, .bipush 10, 2, []), (448, .iconst 0, 1, []), (449, .invokestatic 30, 3, [5, 153, 5, 5112, 5113, 0, 1000, 5114]), (452, .sipush (-5002), 3, []), (455, .if_icmp .eq 5, 3, []), (458, .iconst 0, 1, []), (459, .ireturn, 1, []), (460, .aload 8, 2, []), (462, .ldc 226, 2, [1, 20]), (464, .invokestatic 173, 3, [1, 151, 2, 5096, 5097, 0, 1000, 5098]), (467, .aload 8, 2, []), (469, .invokevirtual 177, 3, [0, 119, 0, 4161, 4162, 4163, 1001, 4164]), (472, .iconst 5, 1, []), (473, .if_icmp .ne 150, 3, []), (476, .aload 8, 2, []), (478, .invokevirtual 223, 3, [0, 87, 0, 3082, 3083, 3084, 1001, 3085]), (481, .iconst 1, 1, []), (482, .if_icmp .ne 141, 3, []), (485, .aload 8, 2, []), (487, .invokevirtual 228, 3, [0, 88, 0, 3090, 3091, 3092, 1001, 3093])]
def z_c155_4 : List z_En := [(490, .iconst 1, 1, []), (491, .if_icmp .ne 132, 3, []), (494, .aload 8, 2, []), (496, .iconst 2, 1, []), (497, .invokevirtual 231, 3, [0, 86, 1, 3065, 3066, 3067, 1001, 3068]), (500, .iconst 3, 1, []), (501, .if_icmp .ne 122, 3, []), (504, .aload 8, 2, []), (506, .iconst 0, 1, []), (507, .iconst 1, 1, []), (508, .invokevirtual 80, 3, [0, 90, 2, 3106, 3107, 3108, 1001, 3109]), (511, .bipush (-2), 2, []), (513, .if_icmp .ne 110, 3, []), (516, .aload 8, 2, []), (518, .iconst 0, 1, []), (519, .iconst 1, 1, []), (520, .invokevirtual 86, 3, [0, 91, 2, 3130, 3131, 3132, 1001, 3133]), (523, .iconst 1, 1, []), (524, .if_icmp .ne 99, 3, []), (527, .aload 8, 2, []), (529, .iconst 0, 1, []), (530, .iconst 2, 1, []), (531, .invokevirtual 80, 3, [0, 90, 2, 3106, 3107, 3108, 1001, 3109]), (534, .iconst 4, 1, []), (535, .if_icmp .ne 88, 3, []), (538, .aload 8, 2, []), (540, .iconst 0, 1, []), (541, .iconst 2, 1, []), (542, .invokevirtual 86, 3, [0, 91, 2, 3130, 3131, 3132, 1001, 3133]), (545, .iconst 3, 1, []), (546, .if_icmp .ne 77, 3, []), (549, .aload 8, 2, []), (551, .iconst 0, 1, []), (552, .iconst 2, 1, []), (553, .invokevirtual 83, 3, [0, 92, 2, 3138, 3139, 3140, 1001, 3141]), (556, .iconst 4, 1, []), (557, .if_icmp .ne 66, 3, []), (560, .aload 8, 2, []), (562, .iconst 1, 1, []), (563, .iconst 0, 1, []), (564, .iconst 2, 1, []), (565, .iconst 0, 1, []), (566, .invokestatic 30, 3, [5, 153, 5, 5112, 5113, 0, 1000, 5114]), (569, .sipush (-5003), 3, []), (572, .if_icmp .ne 51, 3, []), (575, .aload 8, 2, []), (577, .iconst 1, 1, []), (578, .iconst 1, 1, []), (579, .iconst 1, 1, []), (580, .bipush 9, 2, []), (582, .invokestatic 30, 3, [5, 153, 5, 5112, 5113, 0, 1000, 5114]), (585, .sipush (-5002), 3, []), (588, .if_icmp .ne 35, 3, []), (591, .aload 8, 2, []), (593, .iconst 0, 1, []), (594, .iconst 1, 1, []), (595, .invokevirtual 74, 3, [0, 93, 2, 3146, 3147, 3148, 1001, 3149]), (598, .ifCond .ne 25, 3, []), (601, .aload 8, 2, []), (603, .iconst 0, 1, [])]
def z_c155_5 : List z_En := [(604, .iconst 2, 1, []), (605, .invokevirtual 74, 3, [0, 93, 2, 3146, 3147, 3148, 1001, 3149]), (608, .iconst 2, 1, []), (609, .if_icmp .ne 14, 3, []), (612, .aload 8, 2, []), (614, .iconst 0, 1, []), (615, .iconst 2, 1, []), (616, .invokevirtual 77, 3, [0, 94, 2, 3155, 3156, 3157, 1001, 3158]), (619, .iconst 2, 1, []), (620, .if_icmp .eq 5, 3, []), (623, .iconst 0, 1, []), (624, .ireturn, 1, []), (625, .aload 8, 2, []), (627, .iconst 0, 1, []), (628, .iload 6, 2, []), (630, .invokevirtual 49, 3, [0, 78, 2, 3021, 3022, 3023, 1001, 3024]), (633, .iconst 3, 1, []), (634, .if_icmp .ne 189, 3, []), (637, .aload 8, 2, []), (639, .iconst 0, 1, []), (640, .invokevirtual 109, 3, [0, 81, 1, 3049, 3050, 3051, 1001, 3052]), (643, .iload 6, 2, []), (645, .if_icmp .ne 178, 3, []), (648, .aload 8, 2, []), (650, .iconst 1, 1, []), (651, .invokevirtual 109, 3, [0, 81, 1, 3049, 3050, 3051, 1001, 3052]), (654, .iload 6, 2, []), (656, .ineg, 1, []), (657, .if_icmp .ne 166, 3, []), (660, .aload 8, 2, []), (662, .iconst 2, 1, []), (663, .invokevirtual 109, 3, [0, 81, 1, 3049, 3050, 3051, 1001, 3052]), (666, .iload 6, 2, []), (668, .iconst 2, 1, []), (669, .isub, 1, []), (670, .if_icmp .ne 153, 3, []), (673, .aload 8, 2, []), (675, .iconst 0, 1, []), (676, .iconst 1, 1, []), (677, .invokevirtual 116, 3, [0, 85, 2, 3057, 3058, 3059, 1001, 3060]), (680, .ifCond .ne 143, 3, []), (683, .aload 8, 2, []), (685, .iconst 1, 1, []), (686, .iconst 2, 1, []), (687, .invokevirtual 116, 3, [0, 85, 2, 3057, 3058, 3059, 1001, 3060]), (690, .iconst 2, 1, []), (691, .if_icmp .ne 132, 3, []), (694, .aload 8, 2, []), (696, .invokevirtual 103, 3, [0, 89, 0, 3102, 3103, 3104, 1001, 3105]), (699, .iconst 3, 1, []), (700, .iload 6, 2, []), (702, .imul, 1, []), (703, .iconst 2, 1, []), (704, .isub, 1, []), (705, .if_icmp .ne 118, 3, []), (708, .aload 8, 2, []), (710, .iconst 0, 1, []), (711, .bipush (-2), 2, []), (713, .invokevirtual 49, 3, [0, 78, 2, 3021, 3022, 3023, 1001, 3024]), (716, .iconst 1, 1, [])]
def z_c155_6 : List z_En := [(717, .if_icmp .ne 106, 3, []), (720, .aload 8, 2, []), (722, .iconst 1, 1, []), (723, .iconst 0, 1, []), (724, .invokevirtual 116, 3, [0, 85, 2, 3057, 3058, 3059, 1001, 3060]), (727, .iconst 2, 1, []), (728, .if_icmp .ne 95, 3, []), (731, .aload 8, 2, []), (733, .iconst 1, 1, []), (734, .invokevirtual 109, 3, [0, 81, 1, 3049, 3050, 3051, 1001, 3052]), (737, .iload 6, 2, []), (739, .ineg, 1, []), (740, .if_icmp .ne 83, 3, []), (743, .aload 8, 2, []), (745, .iconst 0, 1, []), (746, .iconst 1, 1, []), (747, .invokevirtual 74, 3, [0, 93, 2, 3146, 3147, 3148, 1001, 3149]), (750, .iconst 2, 1, []), (751, .if_icmp .ne 72, 3, []), (754, .aload 8, 2, []), (756, .iconst 0, 1, []), (757, .iconst 2, 1, []), (758, .invokevirtual 74, 3, [0, 93, 2, 3146, 3147, 3148, 1001, 3149]), (761, .iconst 2, 1, []), (762, .if_icmp .ne 61, 3, []), (765, .aload 8, 2, []), (767, .iconst 0, 1, []), (768, .iconst 2, 1, []), (769, .invokevirtual 77, 3, [0, 94, 2, 3155, 3156, 3157, 1001, 3158]), (772, .iconst 2, 1, []), (773, .if_icmp .ne 50, 3, []), (776, .aload 8, 2, []), (778, .iconst 2, 1, []), (779, .iconst 0, 1, []), (780, .invokevirtual 74, 3, [0, 93, 2, 3146, 3147, 3148, 1001, 3149]), (783, .iconst 3, 1, []), (784, .if_icmp .ne 39, 3, []), (787, .aload 8, 2, []), (789, .iconst 0, 1, []), (790, .bipush (-4), 2, []), (792, .invokevirtual 49, 3, [0, 78, 2, 3021, 3022, 3023, 1001, 3024]), (795, .iconst 3, 1, []), (796, .if_icmp .ne 27, 3, []), (799, .aload 8, 2, []), (801, .iconst 0, 1, []), (802, .iconst 1, 1, []), (803, .invokevirtual 116, 3, [0, 85, 2, 3057, 3058, 3059, 1001, 3060]), (806, .iconst 3, 1, []), (807, .if_icmp .ne 16, 3, []), (810, .aload 8, 2, []), (812, .iconst 1, 1, []), (813, .invokevirtual 109, 3, [0, 81, 1, 3049, 3050, 3051, 1001, 3052]), (816, .iconst 3, 1, []), (817, .iload 6, 2, []), (819, .isub, 1, []), (820, .if_icmp .eq 5, 3, []), (823, .iconst 0, 1, []), (824, .ireturn, 1, []), (825, .aload 8, 2, []), (827, .iconst 1, 1, [])]
def z_c155_7 : List z_En := [(828, .iconst 2, 1, []), (829, .invokevirtual 116, 3, [0, 85, 2, 3057, 3058, 3059, 1001, 3060]), (832, .ifCond .ne 67, 3, []), (835, .aload 8, 2, []), (837, .iconst 2, 1, []), (838, .invokevirtual 109, 3, [0, 81, 1, 3049, 3050, 3051, 1001, 3052]), (841, .iload 6, 2, []), (843, .iconst 3, 1, []), (844, .isub, 1, []), (845, .if_icmp .ne 54, 3, []), (848, .aload 8, 2, []), (850, .iconst 0, 1, []), (851, .iconst 1, 1, []), (852, .invokevirtual 45, 3, [0, 77, 2, 2237, 2238, 2239, 1001, 3000]), (855, .iconst 3, 1, []), (856, .if_icmp .ne 43, 3, []), (859, .aload 8, 2, []), (861, .invokevirtual 223, 3, [0, 87, 0, 3082, 3083, 3084, 1001, 3085]), (864, .iconst 2, 1, []), (865, .if_icmp .ne 34, 3, []), (868, .aload 8, 2, []), (870, .bipush 13, 2, []), (872, .iconst 0, 1, []), (873, .iconst 1, 1, []), (874, .iconst 0, 1, []), (875, .invokestatic 30, 3, [5, 153, 5, 5112, 5113, 0, 1000, 5114]), (878, .sipush (-5004), 3, []), (881, .if_icmp .ne 18, 3, []), (884, .aload 8, 2, []), (886, .iconst 2, 1, []), (887, .iconst 0, 1, []), (888, .iconst 1, 1, []), (889, .iconst 0, 1, []), (890, .invokestatic 30, 3, [5, 153, 5, 5112, 5113, 0, 1000, 5114]), (893, .sipush (-5004), 3, []), (896, .if_icmp .eq 5, 3, []), (899, .iconst 0, 1, []), (900, .ireturn, 1, []), (901, .new 18, 3, [9, 10, 1027, 1028, 1001]), (904, .dup, 1, []), (905, .invokespecial 23, 3, [3, 74, 0, 1029, 1030, 0, 1001, 1031]), (908, .astore 9, 2, []), (910, .aload 9, 2, []), (912, .bipush 36, 2, []), (914, .invokevirtual 37, 3, [0, 75, 1, 2068, 2069, 2070, 1001, 2071]), (917, .ifCond .ne 218, 3, []), (920, .aload 9, 2, []), (922, .iconst 0, 1, []), (923, .iconst 4, 1, []), (924, .invokevirtual 52, 3, [0, 95, 2, 3165, 3166, 3167, 1001, 3168]), (927, .ifCond .ne 208, 3, []), (930, .aload 9, 2, []), (932, .iconst 0, 1, []), (933, .iconst 3, 1, []), (934, .invokevirtual 128, 3, [0, 98, 2, 3177, 3178, 3179, 1001, 3180]), (937, .sipush 2700, 3, []), (940, .if_icmp .ne 195, 3, []), (943, .aload 9, 2, []), (945, .iload 7, 2, []), (947, .bipush 10, 2, [])]
def z_c155_8 : List z_En := [(949, .invokevirtual 55, 3, [0, 102, 2, 3236, 3237, 3238, 1001, 3239]), (952, .ifCond .ne 183, 3, []), (955, .aload 9, 2, []), (957, .iconst 0, 1, []), (958, .iconst 0, 1, []), (959, .invokevirtual 234, 3, [0, 99, 2, 3196, 3197, 3198, 1001, 3199]), (962, .iload 7, 2, []), (964, .sipush 900, 3, []), (967, .irem, 1, []), (968, .sipush 900, 3, []), (971, .iload 7, 2, []), (973, .sipush 900, 3, []), (976, .irem, 1, []), (977, .isub, 1, []), (978, .invokestatic 151, 3, [1, 160, 2, 5196, 2235, 0, 1008, 2236]), (981, .if_icmp .ne 154, 3, []), (984, .aload 9, 2, []), (986, .iconst 0, 1, []), (987, .iconst 0, 1, []), (988, .invokevirtual 237, 3, [0, 100, 2, 3219, 3220, 3221, 1001, 3222]), (991, .iload 7, 2, []), (993, .sipush 900, 3, []), (996, .irem, 1, []), (997, .bipush 100, 2, []), (999, .idiv, 1, []), (1000, .if_icmp .ne 135, 3, []), (1003, .aload 9, 2, []), (1005, .iconst 0, 1, []), (1006, .iconst 0, 1, []), (1007, .invokevirtual 71, 3, [0, 101, 2, 3228, 3229, 3230, 1001, 3231]), (1010, .ifCond .ne 125, 3, []), (1013, .aload 9, 2, []), (1015, .iconst 0, 1, []), (1016, .invokevirtual 109, 3, [0, 81, 1, 3049, 3050, 3051, 1001, 3052]), (1019, .iload 7, 2, []), (1021, .sipush 900, 3, []), (1024, .irem, 1, []), (1025, .bipush 100, 2, []), (1027, .idiv, 1, []), (1028, .if_icmp .ne 107, 3, []), (1031, .aload 9, 2, []), (1033, .invokevirtual 103, 3, [0, 89, 0, 3102, 3103, 3104, 1001, 3105]), (1036, .iload 7, 2, []), (1038, .sipush 900, 3, []), (1041, .irem, 1, []), (1042, .bipush 100, 2, []), (1044, .idiv, 1, []), (1045, .if_icmp .ne 90, 3, []), (1048, .aload 9, 2, []), (1050, .iconst 0, 1, []), (1051, .invokevirtual 240, 3, [0, 116, 1, 4126, 4127, 4128, 1001, 4129]), (1054, .fconst 1, 1, []), (1055, .fcmp .l, 1, []), (1056, .ifCond .ne 79, 3, []), (1059, .aload 9, 2, []), (1061, .bipush 113, 2, []), (1063, .bipush 7, 2, []), (1065, .invokevirtual 64, 3, [0, 111, 2, 4066, 4067, 4068, 1001, 4069]), (1068, .iconst 1, 1, []), (1069, .if_icmp .ne 66, 3, [])]
def z_c155_9 : List z_En := [(1072, .aload 9, 2, []), (1074, .iconst 0, 1, []), (1075, .iconst 1, 1, []), (1076, .invokevirtual 49, 3, [0, 78, 2, 3021, 3022, 3023, 1001, 3024]), (1079, .iconst 1, 1, []), (1080, .if_icmp .ne 55, 3, []), (1083, .aload 9, 2, []), (1085, .bipush 113, 2, []), (1087, .bipush 7, 2, []), (1089, .invokevirtual 89, 3, [0, 115, 2, 4117, 4118, 4119, 1001, 4120]), (1092, .iconst 1, 1, []), (1093, .if_icmp .ne 42, 3, []), (1096, .aload 9, 2, []), (1098, .bipush 113, 2, []), (1100, .bipush 7, 2, []), (1102, .iconst 0, 1, []), (1103, .invokevirtual 244, 3, [0, 114, 3, 4105, 4106, 4107, 1001, 4108]), (1106, .iload 7, 2, []), (1108, .sipush 900, 3, []), (1111, .irem, 1, []), (1112, .bipush 100, 2, []), (1114, .idiv, 1, []), (1115, .if_icmp .ne 20, 3, []), (1118, .aload 9, 2, []), (1120, .bipush 8, 2, []), (1122, .bipush 123, 2, []), (1124, .iconst 0, 1, []), (1125, .iconst 0, 1, []), (1126, .invokestatic 30, 3, [5, 153, 5, 5112, 5113, 0, 1000, 5114]), (1129, .sipush (-5002), 3, []), (1132, .if_icmp .eq 5, 3, []), (1135, .iconst 0, 1, []), (1136, .ireturn, 1, []), (1137, .aload 9, 2, []), (1139, .bipush 10, 2, []), (1141, .invokevirtual 61, 3, [0, 107, 1, 4028, 4029, 4030, 1001, 4031]), (1144, .bipush 10, 2, []), (1146, .if_icmp .ne 177, 3, []), (1149, .aload 9, 2, []), (1151, .iconst 0, 1, []), (1152, .invokevirtual 137, 3, [0, 106, 1, 4024, 4025, 4026, 1001, 4027]), (1155, .iload 7, 2, []), (1157, .bipush 100, 2, []), (1159, .iadd, 1, []), (1160, .if_icmp .ne 163, 3, []), (1163, .aload 9, 2, []), (1165, .iconst 0, 1, []), (1166, .iconst 0, 1, []), (1167, .invokevirtual 234, 3, [0, 99, 2, 3196, 3197, 3198, 1001, 3199]), (1170, .ifCond .ne 153, 3, []), (1173, .aload 9, 2, []), (1175, .iconst 0, 1, []), (1176, .bipush 99, 2, []), (1178, .invokevirtual 140, 3, [0, 108, 2, 4045, 4046, 4047, 1001, 4048]), (1181, .iload 7, 2, []), (1183, .sipush 1090, 3, []), (1186, .iadd, 1, []), (1187, .sipush 3600, 3, []), (1190, .irem, 1, []), (1191, .if_icmp .ne 132, 3, [])]
def z_c155_10 : List z_En := [(1194, .aload 9, 2, []), (1196, .iconst 0, 1, []), (1197, .bipush 99, 2, []), (1199, .invokevirtual 248, 3, [0, 109, 2, 4052, 4053, 4054, 1001, 4055]), (1202, .iload 7, 2, []), (1204, .sipush 1090, 3, []), (1207, .iadd, 1, []), (1208, .sipush 3600, 3, []), (1211, .irem, 1, []), (1212, .if_icmp .ne 111, 3, []), (1215, .aload 9, 2, []), (1217, .sipush 3599, 3, []), (1220, .bipush (-50), 2, []), (1222, .invokevirtual 55, 3, [0, 102, 2, 3236, 3237, 3238, 1001, 3239]), (1225, .iconst 1, 1, []), (1226, .if_icmp .ne 97, 3, []), (1229, .aload 9, 2, []), (1231, .sipush 3000, 3, []), (1234, .invokevirtual 251, 3, [0, 110, 1, 4057, 4058, 4059, 1001, 4060]), (1237, .iconst 1, 1, []), (1238, .if_icmp .ne 85, 3, []), (1241, .aload 9, 2, []), (1243, .iconst 0, 1, []), (1244, .invokevirtual 58, 3, [0, 103, 1, 4008, 4009, 4010, 1001, 4011]), (1247, .iconst 1, 1, []), (1248, .if_icmp .ne 75, 3, []), (1251, .aload 9, 2, []), (1253, .iconst 0, 1, []), (1254, .invokevirtual 134, 3, [0, 105, 1, 4020, 4021, 4022, 1001, 4023]), (1257, .iconst 1, 1, []), (1258, .if_icmp .ne 65, 3, []), (1261, .aload 9, 2, []), (1263, .iconst 0, 1, []), (1264, .iconst 0, 1, []), (1265, .invokevirtual 55, 3, [0, 102, 2, 3236, 3237, 3238, 1001, 3239]), (1268, .iconst 2, 1, []), (1269, .if_icmp .ne 54, 3, []), (1272, .aload 9, 2, []), (1274, .invokevirtual 180, 3, [0, 122, 0, 5075, 5076, 5077, 1001, 5078]), (1277, .ifCond .lt 46, 3, []), (1280, .aload 9, 2, []), (1282, .iconst 5, 1, []), (1283, .iconst 0, 1, []), (1284, .invokevirtual 55, 3, [0, 102, 2, 3236, 3237, 3238, 1001, 3239]), (1287, .iconst 2, 1, []), (1288, .if_icmp .ne 35, 3, []), (1291, .aload 9, 2, []), (1293, .bipush 113, 2, []), (1295, .bipush 7, 2, []), (1297, .invokevirtual 68, 3, [0, 112, 2, 4086, 4087, 4088, 1001, 4089]), (1300, .ifCond .ne 23, 3, []), (1303, .aload 9, 2, []), (1305, .bipush 113, 2, []), (1307, .bipush 7, 2, []), (1309, .invokevirtual 254, 3, [0, 113, 2, 4098, 4099, 4100, 1001, 4101]), (1312, .ifCond .ne 11, 3, []), (1315, .aload 9, 2, []), (1317, .invokevirtual 219, 3, [0, 117, 0, 4149, 4150, 4151, 1001, 4152]), (1320, .ifCond .ne 5, 3, []), (1323, .iconst 0, 1, [])]
def z_c155_11 : List z_En := [(1324, .ireturn, 1, []), (1325, .aload_n 1, 1, []), (1326, .invokevirtual 258, 3, [0, 124, 0, 5089, 5090, 5091, 1001, 5092]), (1329, .iload_n 3, 1, []), (1330, .if_icmp .ne 16, 3, []), (1333, .aload_n 1, 1, []), (1334, .invokestatic 167, 3, [1, 154, 1, 5154, 5155, 0, 1000, 5156]), (1337, .iload 4, 2, []), (1339, .if_icmp .ne 7, 3, []), (1342, .iconst 1, 1, []), (1343, .goto 4, 3, []), (1346, .iconst 0, 1, []), (1347, .ireturn, 1, [])]
def z_c155 : List z_En := z_c155_0 ++ (z_c155_1 ++ (z_c155_2 ++ (z_c155_3 ++ (z_c155_4 ++ (z_c155_5 ++ (z_c155_6 ++ (z_c155_7 ++ (z_c155_8 ++ (z_c155_9 ++ (z_c155_10 ++ (z_c155_11)))))))))))
/-- GearObservatoryLaw.runs(LGearObservatory;)I -/
def z_c156 : List z_En := [(0, .aload_n 0, 1, []), (1, .invokevirtual 177, 3, [0, 119, 0, 4161, 4162, 4163, 1001, 4164]), (4, .ireturn, 1, []), (5, .astore_n 1, 1, []), (6, .iconst (-1), 1, []), (7, .ireturn, 1, []), (8, .astore_n 1, 1, []), (9, .bipush (-2), 2, []), (11, .ireturn, 1, [])]
/-- GearObservatoryLaw.fails(LGearObservatory;Ljava/lang/String;I)Z -/
def z_c157 : List z_En := [(0, .aload_n 0, 1, []), (1, .aload_n 1, 1, []), (2, .invokestatic 173, 3, [1, 151, 2, 5096, 5097, 0, 1000, 5098]), (5, .aload_n 0, 1, []), (6, .invokestatic 185, 3, [5, 156, 1, 5185, 5186, 0, 1000, 5187]), (9, .iconst (-1), 1, []), (10, .if_icmp .ne 15, 3, []), (13, .aload_n 0, 1, []), (14, .invokevirtual 263, 3, [0, 120, 0, 5192, 5193, 5194, 1001, 5195]), (17, .iload_n 2, 1, []), (18, .if_icmp .ne 7, 3, []), (21, .iconst 1, 1, []), (22, .goto 4, 3, []), (25, .iconst 0, 1, []), (26, .ireturn, 1, [])]
/-- java/lang/Math.abs(I)I -/
def z_c158 : List z_En := [(0, .iload_n 0, 1, []), (1, .ifCond .ge 8, 3, []), (4, .iload_n 0, 1, []), (5, .ineg, 1, []), (6, .goto 4, 3, []), (9, .iload_n 0, 1, []), (10, .ireturn, 1, [])]
/-- java/lang/Math.max(II)I -/
def z_c159 : List z_En := [(0, .iload_n 0, 1, []), (1, .iload_n 1, 1, []), (2, .if_icmp .lt 7, 3, []), (5, .iload_n 0, 1, []), (6, .goto 4, 3, []), (9, .iload_n 1, 1, []), (10, .ireturn, 1, [])]
/-- java/lang/Math.min(II)I -/
def z_c160 : List z_En := [(0, .iload_n 0, 1, []), (1, .iload_n 1, 1, []), (2, .if_icmp .gt 7, 3, []), (5, .iload_n 0, 1, []), (6, .goto 4, 3, []), (9, .iload_n 1, 1, []), (10, .ireturn, 1, [])]
/-- java/lang/Math.floorMod(II)I -/
def z_c161 : List z_En := [(0, .iload_n 0, 1, []), (1, .iload_n 1, 1, []), (2, .irem, 1, []), (3, .istore_n 2, 1, []), (4, .iload_n 0, 1, []), (5, .iload_n 1, 1, []), (6, .ixor, 1, []), (7, .ifCond .ge 11, 3, []), (10, .iload_n 2, 1, []), (11, .ifCond .eq 7, 3, []), (14, .iload_n 2, 1, []), (15, .iload_n 1, 1, []), (16, .iadd, 1, []), (17, .ireturn, 1, []), (18, .iload_n 2, 1, []), (19, .ireturn, 1, [])]
abbrev z_Rec : Type := Nat × String × String × ByteArray × Nat × Option FieldType × List (Nat × Nat × Nat × Nat) × Nat × List z_En
def z_t0 : List z_Rec := [(0, "<init>", "(LGearObservatory$SignRow;)V", prog_2_method_1_code, 2, none, [], 1237, z_c0),
  (0, "readText", "()Z", prog_2_method_2_code, 2, (some .boolean), [], 4168, z_c1),
  (0, "kindOf", "(I)I", prog_2_method_3_code, 2, (some .int), [], 5042, z_c2),
  (0, "valueOf", "(II)I", prog_2_method_4_code, 3, (some .int), [], 5038, z_c3),
  (0, "readCommand", "()Z", prog_2_method_5_code, 1, (some .boolean), [], 4172, z_c4),
  (0, "signAhead", "()I", prog_2_method_6_code, 1, (some .int), [], 4176, z_c5),
  (0, "read", "(C)Z", prog_2_method_7_code, 2, (some .boolean), [], 4233, z_c6),
  (0, "readWord", "(Ljava/lang/String;)Z", prog_2_method_8_code, 3, (some .boolean), [], 4181, z_c7),
  (0, "readLetter", "(I)Z", prog_2_method_9_code, 2, (some .boolean), [], 5021, z_c8),
  (0, "readDigit", "(I)Z", prog_2_method_10_code, 2, (some .boolean), [], 5001, z_c9),
  (0, "readBetween", "(CCII)Z", prog_2_method_11_code, 6, (some .boolean), [], 5005, z_c10),
  (0, "readNumber", "(II)Z", prog_2_method_12_code, 4, (some .boolean), [], 4237, z_c11),
  (0, "value", "(I)I", prog_2_method_13_code, 2, (some .int), [], 5013, z_c12),
  (0, "setValue", "(II)V", prog_2_method_14_code, 3, none, [], 5009, z_c13),
  (1, "<init>", "()V", prog_3_method_1_code, 1, none, [], 1151, z_c14),
  (1, "copyFrom", "(LGearObservatory$Entries;)V", prog_3_method_2_code, 2, none, [], 2100, z_c15),
  (1, "placeOf", "(CI)I", prog_3_method_3_code, 4, (some .int), [], 4080, z_c16),
  (1, "write", "(CILGearObservatory$GearTrain;)I", prog_3_method_4_code, 5, (some .int), [], 4084, z_c17),
  (1, "removeAt", "(I)I", prog_3_method_5_code, 2, (some .int), [], 4097, z_c18),
  (1, "positionIn", "(II)I", prog_3_method_6_code, 3, (some .int), [], 4116, z_c19),
  (1, "differencesTo", "(LGearObservatory$GearTrain;I)I", prog_3_method_7_code, 5, (some .int), [], 4124, z_c20),
  (2, "<init>", "()V", prog_4_method_1_code, 1, none, [], 1045, z_c21),
  (2, "copyFrom", "(LGearObservatory$GearTrain;)V", prog_4_method_2_code, 2, none, [], 2083, z_c22),
  (2, "hasGear", "(I)Z", prog_4_method_3_code, 2, (some .boolean), [], 3008, z_c23),
  (2, "addGearOf", "(I)I", prog_4_method_4_code, 3, (some .int), [], 2112, z_c24)]
def z_t1 : List z_Rec := [(2, "join", "(III)I", prog_4_method_5_code, 4, (some .int), [], 5050, z_c25),
  (2, "separate", "(I)I", prog_4_method_6_code, 4, (some .int), [], 3020, z_c26),
  (2, "acrossFrom", "(II)I", prog_4_method_7_code, 3, (some .int), [], 3016, z_c27),
  (2, "meshBetween", "(II)I", prog_4_method_8_code, 4, (some .int), [], 3012, z_c28),
  (2, "turnGear", "(II)I", prog_4_method_9_code, 3, (some .int), [], 3032, z_c29),
  (2, "turnOnwards", "(LGearObservatory$GearTrain;IIII)I", prog_4_method_10_code, 9, (some .int), [], 3035, z_c30),
  (2, "restAfterGap", "(II)I", prog_4_method_11_code, 4, (some .int), [], 3043, z_c31),
  (3, "<init>", "(LGearObservatory$GearTrain;)V", prog_5_method_1_code, 2, none, [], 1212, z_c32),
  (3, "chainLength", "(II)I", prog_5_method_2_code, 3, (some .int), [], 3117, z_c33),
  (3, "extendChain", "(LGearObservatory$GearTrain;[IIIII)I", prog_5_method_3_code, 9, (some .int), [], 3120, z_c34),
  (3, "sizeOfTrain", "(I)I", prog_5_method_4_code, 2, (some .int), [], 3072, z_c35),
  (3, "countByWalks", "()I", prog_5_method_5_code, 3, (some .int), [], 3089, z_c36),
  (3, "forgetSeen", "()V", prog_5_method_6_code, 2, none, [], 3076, z_c37),
  (3, "walkFrom", "(LGearObservatory$GearTrain;[ZII)I", prog_5_method_7_code, 7, (some .int), [], 3079, z_c38),
  (3, "countByUniting", "()I", prog_5_method_8_code, 5, (some .int), [], 3097, z_c39),
  (3, "renameSet", "(II)V", prog_5_method_9_code, 4, none, [], 3101, z_c40),
  (3, "numerator", "(II)I", prog_5_method_10_code, 4, (some .int), [], 3124, z_c41),
  (3, "denominator", "(II)I", prog_5_method_11_code, 3, (some .int), [], 3137, z_c42),
  (3, "numeratorAlongChain", "(II)I", prog_5_method_12_code, 9, (some .int), [], 3145, z_c43),
  (3, "reduced", "(II)I", prog_5_method_13_code, 6, (some .int), [], 3127, z_c44),
  (3, "playOfGaps", "(II)I", prog_5_method_14_code, 7, (some .int), [], 3153, z_c45),
  (3, "playOfTrial", "(II)I", prog_5_method_15_code, 6, (some .int), [], 3162, z_c46),
  (3, "methodsAgreeFor", "(II)Z", prog_5_method_16_code, 3, (some .boolean), [], 4156, z_c47),
  (4, "<init>", "()V", prog_6_method_1_code, 2, none, [], 2021, z_c48),
  (4, "begin", "(LGearObservatory$State;)V", prog_6_method_2_code, 3, none, [], 2075, z_c49)]
def z_t2 : List z_Rec := [(4, "takeBack", "(LGearObservatory$State;)V", prog_6_method_3_code, 3, none, [], 5054, z_c50),
  (4, "keep", "()V", prog_6_method_4_code, 1, none, [], 2233, z_c51),
  (4, "undoLatest", "(LGearObservatory$State;)V", prog_6_method_5_code, 2, none, [], 5082, z_c52),
  (5, "<init>", "(I)V", prog_7_method_1_code, 2, none, [], 1192, z_c53),
  (5, "clear", "()V", prog_7_method_2_code, 1, none, [], 5026, z_c54),
  (5, "put", "(C)Z", prog_7_method_3_code, 2, (some .boolean), [], 5108, z_c55),
  (6, "<init>", "()V", prog_8_method_1_code, 1, none, [], 1120, z_c56),
  (6, "copyFrom", "(LGearObservatory$Sky;)V", prog_8_method_2_code, 2, none, [], 2095, z_c57),
  (6, "placeOf", "(I)I", prog_8_method_3_code, 3, (some .int), [], 3207, z_c58),
  (6, "add", "(II)I", prog_8_method_4_code, 4, (some .int), [], 4007, z_c59),
  (6, "removeAt", "(I)I", prog_8_method_5_code, 3, (some .int), [], 4019, z_c60),
  (6, "letPass", "(I)I", prog_8_method_6_code, 3, (some .int), [], 4039, z_c61),
  (6, "directionLater", "(II)I", prog_8_method_7_code, 3, (some .int), [], 4043, z_c62),
  (6, "idNearest", "(I)I", prog_8_method_8_code, 6, (some .int), [], 4064, z_c63),
  (7, "<init>", "()V", prog_9_method_1_code, 1, none, [], 1039, z_c64),
  (7, "copyFrom", "(LGearObservatory$State;)V", prog_9_method_2_code, 2, none, [], 2079, z_c65),
  (7, "directionOfSpoke", "(III)I", prog_9_method_3_code, 8, (some .int), [], 3192, z_c66),
  (7, "leastDistance", "(III)I", prog_9_method_4_code, 6, (some .int), [], 3211, z_c67),
  (7, "bestTurn", "(II)I", prog_9_method_6_code, 8, (some .int), [], 3226, z_c68),
  (7, "isAligned", "(II)Z", prog_9_method_7_code, 4, (some .boolean), [], 4148, z_c69),
  (8, "<init>", "()V", prog_10_method_1_code, 1, none, [], 1099, z_c70),
  (8, "copyFrom", "(LGearObservatory$Wheels;)V", prog_10_method_2_code, 2, none, [], 2090, z_c71),
  (8, "hasWheel", "(I)Z", prog_10_method_3_code, 2, (some .boolean), [], 3188, z_c72),
  (8, "add", "(II)I", prog_10_method_4_code, 4, (some .int), [], 3176, z_c73),
  (9, "<init>", "()V", prog_1_method_1_code, 3, none, [], 1031, z_c74)]
def z_t3 : List z_Rec := [(9, "addGear", "(I)I", prog_1_method_2_code, 2, (some .int), [], 2071, z_c75),
  (9, "mesh", "(III)I", prog_1_method_3_code, 4, (some .int), [], 5153, z_c76),
  (9, "part", "(II)I", prog_1_method_4_code, 3, (some .int), [], 3000, z_c77),
  (9, "turn", "(II)I", prog_1_method_5_code, 3, (some .int), [], 3024, z_c78),
  (9, "gearCount", "()I", prog_1_method_6_code, 1, (some .int), [], 3048, z_c79),
  (9, "teeth", "(I)I", prog_1_method_7_code, 2, (some .int), [], 5164, z_c80),
  (9, "position", "(I)I", prog_1_method_8_code, 2, (some .int), [], 3052, z_c81),
  (9, "meshCount", "()I", prog_1_method_9_code, 1, (some .int), [], 5160, z_c82),
  (9, "doMesh", "(II)Z", prog_1_method_10_code, 3, (some .boolean), [], 5168, z_c83),
  (9, "slack", "(II)I", prog_1_method_11_code, 3, (some .int), [], 5172, z_c84),
  (9, "gap", "(II)I", prog_1_method_12_code, 3, (some .int), [], 3060, z_c85),
  (9, "trainSize", "(I)I", prog_1_method_14_code, 2, (some .int), [], 3068, z_c86),
  (9, "trainCount", "()I", prog_1_method_15_code, 1, (some .int), [], 3085, z_c87),
  (9, "trainCountByUnions", "()I", prog_1_method_16_code, 1, (some .int), [], 3093, z_c88),
  (9, "turnedTeeth", "()I", prog_1_method_17_code, 1, (some .int), [], 3105, z_c89),
  (9, "ratioNumerator", "(II)I", prog_1_method_18_code, 3, (some .int), [], 3109, z_c90),
  (9, "ratioDenominator", "(II)I", prog_1_method_19_code, 3, (some .int), [], 3133, z_c91),
  (9, "ratioNumeratorByChain", "(II)I", prog_1_method_20_code, 3, (some .int), [], 3141, z_c92),
  (9, "freePlay", "(II)I", prog_1_method_21_code, 3, (some .int), [], 3149, z_c93),
  (9, "freePlayByTurning", "(II)I", prog_1_method_22_code, 3, (some .int), [], 3158, z_c94),
  (9, "addWheel", "(II)I", prog_1_method_23_code, 3, (some .int), [], 3168, z_c95),
  (9, "wheelCount", "()I", prog_1_method_24_code, 1, (some .int), [], 5176, z_c96),
  (9, "gearOf", "(I)I", prog_1_method_25_code, 2, (some .int), [], 5180, z_c97),
  (9, "spokeDirection", "(II)I", prog_1_method_26_code, 3, (some .int), [], 3180, z_c98),
  (9, "distanceToStar", "(II)I", prog_1_method_28_code, 3, (some .int), [], 3199, z_c99)]
def z_t4 : List z_Rec := [(9, "teethToFollow", "(II)I", prog_1_method_29_code, 3, (some .int), [], 3222, z_c100),
  (9, "follow", "(II)I", prog_1_method_30_code, 3, (some .int), [], 3231, z_c101),
  (9, "addStar", "(II)I", prog_1_method_31_code, 3, (some .int), [], 3239, z_c102),
  (9, "removeStar", "(I)I", prog_1_method_32_code, 2, (some .int), [], 4011, z_c103),
  (9, "starCount", "()I", prog_1_method_33_code, 1, (some .int), [], 5184, z_c104),
  (9, "star", "(I)I", prog_1_method_34_code, 2, (some .int), [], 4023, z_c105),
  (9, "direction", "(I)I", prog_1_method_35_code, 2, (some .int), [], 4027, z_c106),
  (9, "passHours", "(I)I", prog_1_method_36_code, 2, (some .int), [], 4031, z_c107),
  (9, "directionAfter", "(II)I", prog_1_method_37_code, 6, (some .int), [], 4048, z_c108),
  (9, "directionAfterAtOnce", "(II)I", prog_1_method_38_code, 4, (some .int), [], 4055, z_c109),
  (9, "nearestStar", "(I)I", prog_1_method_39_code, 2, (some .int), [], 4060, z_c110),
  (9, "catalogue", "(CI)I", prog_1_method_40_code, 3, (some .int), [], 4069, z_c111),
  (9, "forget", "(CI)I", prog_1_method_41_code, 3, (some .int), [], 4089, z_c112),
  (9, "isCatalogued", "(CI)Z", prog_1_method_42_code, 3, (some .boolean), [], 4101, z_c113),
  (9, "entryPosition", "(CII)I", prog_1_method_43_code, 5, (some .int), [], 4108, z_c114),
  (9, "changedSince", "(CI)I", prog_1_method_44_code, 3, (some .int), [], 4120, z_c115),
  (9, "alignedFraction", "(I)F", prog_1_method_46_code, 5, (some .float), [], 4129, z_c116),
  (9, "isConsistent", "()Z", prog_1_method_49_code, 5, (some .boolean), [], 4152, z_c117),
  (9, "feed", "(C)I", prog_1_method_50_code, 2, (some .int), [], 5104, z_c118),
  (9, "execute", "()I", prog_1_method_51_code, 3, (some .int), [], 4164, z_c119),
  (9, "errorPosition", "()I", prog_1_method_52_code, 1, (some .int), [], 5195, z_c120),
  (9, "failedCommand", "()I", prog_1_method_53_code, 1, (some .int), [], 5074, z_c121),
  (9, "undo", "()I", prog_1_method_54_code, 1, (some .int), [], 5078, z_c122),
  (9, "save", "()I", prog_1_method_56_code, 1, (some .int), [], 5087, z_c123),
  (9, "restore", "()I", prog_1_method_57_code, 1, (some .int), [], 5092, z_c124)]
def z_t5 : List z_Rec := [(9, "tryGear", "(I)I", prog_1_method_58_code, 2, (some .int), [], 2105, z_c125),
  (9, "tryMesh", "(III)I", prog_1_method_59_code, 4, (some .int), [], 5046, z_c126),
  (9, "tryPart", "(II)I", prog_1_method_60_code, 4, (some .int), [], 3004, z_c127),
  (9, "tryTurn", "(II)I", prog_1_method_61_code, 3, (some .int), [], 3028, z_c128),
  (9, "tryWheel", "(II)I", prog_1_method_62_code, 3, (some .int), [], 3172, z_c129),
  (9, "tryFollow", "(II)I", prog_1_method_63_code, 6, (some .int), [], 3235, z_c130),
  (9, "tryStar", "(II)I", prog_1_method_64_code, 3, (some .int), [], 4003, z_c131),
  (9, "tryRemoval", "(I)I", prog_1_method_65_code, 3, (some .int), [], 4015, z_c132),
  (9, "tryHours", "(I)I", prog_1_method_66_code, 2, (some .int), [], 4035, z_c133),
  (9, "tryEntry", "(CI)I", prog_1_method_67_code, 3, (some .int), [], 4073, z_c134),
  (9, "tryForgetting", "(CI)I", prog_1_method_68_code, 4, (some .int), [], 4093, z_c135),
  (9, "settled", "(I)I", prog_1_method_69_code, 2, (some .int), [], 2116, z_c136),
  (9, "performUpToFailure", "()I", prog_1_method_70_code, 2, (some .int), [], 5030, z_c137),
  (9, "perform", "(I)I", prog_1_method_71_code, 5, (some .int), [], 5034, z_c138),
  (9, "needGear", "(I)V", prog_1_method_72_code, 2, none, [], 3056, z_c139),
  (9, "needWheel", "(I)V", prog_1_method_73_code, 2, none, [], 3184, z_c140),
  (9, "neededMesh", "(II)I", prog_1_method_74_code, 4, (some .int), [], 3064, z_c141),
  (9, "needConnected", "(II)V", prog_1_method_75_code, 3, none, [], 3113, z_c142),
  (9, "neededStar", "(I)I", prog_1_method_76_code, 3, (some .int), [], 3203, z_c143),
  (9, "needHoursAhead", "(I)V", prog_1_method_77_code, 1, none, [], 4051, z_c144),
  (9, "needKey", "(CI)V", prog_1_method_78_code, 2, none, [], 4104, z_c145),
  (9, "neededEntry", "(CI)I", prog_1_method_79_code, 4, (some .int), [], 4112, z_c146),
  (9, "isKey", "(CI)Z", prog_1_method_80_code, 2, (some .boolean), [], 4076, z_c147),
  (9, "isWithin", "(III)Z", prog_1_method_81_code, 3, (some .boolean), [], 2108, z_c148),
  (9, "distanceBetween", "(II)I", prog_1_method_82_code, 3, (some .int), [], 3215, z_c149)]
def z_t6 : List z_Rec := [(11, "at", "([II)I", method_2_code, 2, (some .int), [], 5095, z_c150),
  (11, "put", "(LGearObservatory;Ljava/lang/String;)V", method_3_code, 3, none, [], 5098, z_c151),
  (11, "build", "([I)LGearObservatory;", method_4_code, 6, (some (.object "GearObservatory")), [], 5111, z_c152),
  (11, "act", "(LGearObservatory;IIII)I", method_5_code, 6, (some .int), [(0, 85, 201, 92), (86, 94, 201, 92), (95, 101, 201, 92), (102, 108, 201, 92), (109, 115, 201, 92), (116, 122, 201, 92), (123, 128, 201, 92), (129, 134, 201, 92), (135, 142, 201, 92), (143, 150, 201, 92), (151, 157, 201, 92), (158, 164, 201, 92), (165, 171, 201, 92), (172, 178, 201, 92), (179, 185, 201, 92), (186, 192, 201, 92), (193, 200, 201, 92), (0, 85, 207, 94), (86, 94, 207, 94), (95, 101, 207, 94), (102, 108, 207, 94), (109, 115, 207, 94), (116, 122, 207, 94), (123, 128, 207, 94), (129, 134, 207, 94), (135, 142, 207, 94), (143, 150, 207, 94), (151, 157, 207, 94), (158, 164, 207, 94), (165, 171, 207, 94), (172, 178, 207, 94), (179, 185, 207, 94), (186, 192, 207, 94), (193, 200, 207, 94), (0, 85, 213, 96), (86, 94, 213, 96), (95, 101, 213, 96), (102, 108, 213, 96), (109, 115, 213, 96), (116, 122, 213, 96), (123, 128, 213, 96), (129, 134, 213, 96), (135, 142, 213, 96), (143, 150, 213, 96), (151, 157, 213, 96), (158, 164, 213, 96), (165, 171, 213, 96), (172, 178, 213, 96), (179, 185, 213, 96), (186, 192, 213, 96), (193, 200, 213, 96), (0, 85, 219, 98), (86, 94, 219, 98), (95, 101, 219, 98), (102, 108, 219, 98), (109, 115, 219, 98), (116, 122, 219, 98), (123, 128, 219, 98), (129, 134, 219, 98), (135, 142, 219, 98), (143, 150, 219, 98), (151, 157, 219, 98), (158, 164, 219, 98), (165, 171, 219, 98), (172, 178, 219, 98), (179, 185, 219, 98), (186, 192, 219, 98), (193, 200, 219, 98)], 5114, z_c153),
  (11, "state", "(LGearObservatory;)I", method_6_code, 4, (some .int), [], 5156, z_c154),
  (11, "law", "([I)Z", code, 10, (some .boolean), [], 0, z_c155),
  (11, "runs", "(LGearObservatory;)I", method_13_code, 2, (some .int), [(0, 4, 5, 94), (0, 4, 8, 261)], 5187, z_c156),
  (11, "fails", "(LGearObservatory;Ljava/lang/String;I)Z", method_14_code, 3, (some .boolean), [], 5191, z_c157),
  (12, "abs", "(I)I", prog_22_method_59_code, 1, (some .int), [], 3039, z_c158),
  (12, "max", "(II)I", prog_22_method_65_code, 2, (some .int), [], 1196, z_c159),
  (12, "min", "(II)I", prog_22_method_69_code, 2, (some .int), [], 2236, z_c160),
  (12, "floorMod", "(II)I", prog_22_method_50_code, 3, (some .int), [], 3195, z_c161)]
def z_tabs : List (List z_Rec) := [z_t0, z_t1, z_t2, z_t3, z_t4, z_t5, z_t6]
def z_rec (k : Nat) : Option z_Rec := match z_tabs[k / 25]? with
  | some l => l[k % 25]?
  | none => none
end ZT
end
section
/-! The table is what the machine's files hold: decoded by the kernel, every link a word of the Statement's tables. -/
section ZK
def z_gt : List Cond := lw_tbl.filter goodWord
def z_ch : Nat → List Cond
  | 0 => k2_sels lw_privs | 1 => tables_1_1 | 2 => tables_1_2 | 3 => tables_1_3 | 4 => tables_1_4 | 5 => tables_1_5 | _ => []
theorem z_ch_in {q : Nat} {w : Cond} (h : w ∈ z_ch q) : w ∈ lw_tbl := by
  have e : tables_1 = tables_1_1 ++ (tables_1_2 ++ (tables_1_3 ++ (tables_1_4 ++ tables_1_5))) := rfl
  unfold lw_tbl
  rw [e]
  unfold z_ch at h
  split at h <;> first | (cases h; done) | (simp only [List.mem_append]; simp only [h, true_or, or_true])
def z_at (p : Nat) (w : Cond) : Bool := decide ((z_ch (p / 1000))[p % 1000]? = some w) && goodWord w
theorem z_at_mem {p : Nat} {w : Cond} (h : z_at p w = true) : w ∈ z_gt := by
  simp only [z_at, Bool.and_eq_true, decide_eq_true_eq] at h
  exact List.mem_filter.mpr ⟨z_ch_in (List.mem_of_getElem? h.1), h.2⟩
def z_y (r : z_Rec) : MethodName := ⟨z_own r.1, r.2.1, r.2.2.1⟩
/-- the nest words that the calls of private members need -/
def z_nest : List Cond := [.methodLinkNest RX9 11 ⟨RX7, "<init>", "()V"⟩ RX9, .methodLinkNest RX7 11 ⟨RX2, "<init>", "()V"⟩ RX9, .methodLinkNest RX7 20 ⟨RX8, "<init>", "()V"⟩ RX9, .methodLinkNest RX7 27 ⟨RX6, "<init>", "()V"⟩ RX9, .methodLinkNest RX7 34 ⟨RX1, "<init>", "()V"⟩ RX9, .methodLinkNest RX3 11 ⟨RX2, "<init>", "()V"⟩ RX9, .methodLinkNest RX4 17 ⟨RX7, "<init>", "()V"⟩ RX9, .methodLinkNest RX7 75 ⟨RX9, "distanceBetween", "(II)I"⟩ RX9, .methodLinkNest RX6 46 ⟨RX9, "distanceBetween", "(II)I"⟩ RX9]
theorem z_nest_ok : z_nest.all (fun w => decide (w ∈ lw_tbl)) = true := by decide +kernel
def z_sidx : Nat → Nat
  | 0 => 46 | 1 => 56 | 2 => 62 | 3 => 64 | 4 => 66 | 5 => 71 | 6 => 171 | 7 => 183 | 8 => 191 | 9 => 193 | 10 => 199 | 11 => 201 | 12 => 203 | 13 => 205 | 14 => 207 | 15 => 209 | 16 => 211 | 17 => 213 | 18 => 215 | 19 => 217 | _ => 226
def z_scl (j : Nat) : String := bif Nat.blt j 6 then RX0 else RL
def z_nargs (ds : String) : Option Nat := (parseMethodDescriptor ds).map (fun d => d.parameters.length)
def z_ckF (own : Nat) (nm : String) (put : Bool) (idx : Nat) (ax : List Nat) : Bool := match ax with
  | [ci, j, p] => match z_cl[ci]? with
    | some (C, T, N) => decide (j < N) && (z_at p (.fieldLink (z_own own) idx (T j).1 (T j).2.1 (T j).2.2.1) && (!put || (!(T j).2.2.2 || (decide (nm = "<init>") && decide ((T j).1 = z_own own)))))
    | none => false
  | _ => false
def z_ckN (own idx : Nat) (ax : List Nat) : Bool := match ax with
  | [ci, N, p1, p2, p3] => match z_cl[ci]? with
    | some (C, _, N') => decide (N = N') && (z_at p1 (.classLink (z_own own) idx C) && (z_at p2 (.instantiable C N) && z_at p3 (.initialized C)))
    | none => false
  | [_] => true
  | _ => false
def z_ckA (t : ArrayType) (ax : List Nat) : Bool := match ax with
  | [g, p] => decide (g < 5) && (decide (newarray.typeOf t = z_aty g) && z_at p (.arrayClass (z_aty g)))
  | _ => false
def z_ckQ (own idx : Nat) (ax : List Nat) : Bool := match ax with
  | [5, p1, _] => z_at p1 (.classLink (z_own own) idx RX7)
  | _ => false
def z_ckC (own idx : Nat) (ax : List Nat) : Bool := match ax with
  | [0, p, v] => z_at p (.constant (z_own own) idx (Int32.ofNat v))
  | [1, j] => decide (z_own own = z_scl j) && (decide (j < 21) && decide (idx = z_sidx j))
  | _ => false
def z_ckI (op own idx : Nat) (ax : List Nat) : Bool := match ax with
  | [kd, k2, n, p1, p2, p3, p4, p5] => match z_rec k2 with
    | some r => decide (z_nargs r.2.2.1 = some n) && (z_at p4 (.initialized (z_own r.1)) && (match kd with
      | 0 => decide (op = 0) && (decide (r.1 < 10) && (z_at p1 (.methodLink (z_own own) idx (z_y r)) && (z_at p2 (.instanceMethod (z_y r)) && (z_at p3 (.selects (z_own r.1) (z_y r) (z_y r)) && z_at p5 (.code (z_y r) r.2.2.2.1 r.2.2.2.2.1 r.2.2.2.2.2.1)))))
      | 1 => decide (op = 1) && (z_at p1 (.methodLink (z_own own) idx (z_y r)) && (z_at p2 (.static (z_y r)) && z_at p5 (.code (z_y r) r.2.2.2.1 r.2.2.2.2.1 r.2.2.2.2.2.1)))
      | 2 => decide (op = 1) && (decide (.methodLinkNest (z_own own) idx (z_y r) RX9 ∈ z_nest) && (z_at p2 (.static (z_y r)) && z_at p5 (.code (z_y r) r.2.2.2.1 r.2.2.2.2.1 r.2.2.2.2.2.1)))
      | 3 => decide (op = 2) && (decide (r.2.1 = "<init>") && (decide (r.2.2.2.2.2.1 = none) && (z_at p1 (.methodLink (z_own own) idx (z_y r)) && (z_at p2 (.instanceMethod (z_y r)) && z_at p5 (.code (z_y r) r.2.2.2.1 r.2.2.2.2.1 none)))))
      | 4 => decide (op = 2) && (decide (r.2.1 = "<init>") && (decide (r.2.2.2.2.2.1 = none) && (decide (.methodLinkNest (z_own own) idx (z_y r) RX9 ∈ z_nest) && (z_at p2 (.instanceMethod (z_y r)) && z_at p5 (.code (z_y r) r.2.2.2.1 r.2.2.2.2.1 none)))))
      | 5 => decide (op = 1) && (decide (r.1 = 11) && (z_at p1 (.methodLink (z_own own) idx (z_y r)) && (z_at p2 (.static (z_y r)) && z_at p5 (.codeWith (z_y r) r.2.2.2.1 r.2.2.2.2.1 r.2.2.2.2.2.1 r.2.2.2.2.2.2.1))))
      | _ => false))
    | none => false
  | [6, _, _, p1, p2, p3] => decide (op = 2) && (z_at p1 (.methodLink (z_own own) idx Lib.objectInit) && (z_at p2 (.instanceMethod Lib.objectInit) && z_at p3 (.code Lib.objectInit ⟨#[0xb1]⟩ 1 none)))
  | [7, _, _, p1, p2, p3, p4] => decide (op = 1) && (z_at p1 (.methodLink (z_own own) idx arraycopyName) && (z_at p2 (.native arraycopyName) && (z_at p3 (.static arraycopyName) && z_at p4 (.initialized "java/lang/System"))))
  | [8] => decide (op = 0) && ((decide (own = 0) && decide (idx = 77)) || (decide (own = 11) && decide (idx = 7)))
  | [9] => decide (op = 0) && ((decide (own = 0) && decide (idx = 81)) || (decide (own = 11) && decide (idx = 13)))
  | [] => true
  | _ => false
def z_ckL (own : Nat) (nm : String) (i : Instr) (ax : List Nat) : Bool := match i with
  | .getfield idx => z_ckF own nm false idx ax
  | .putfield idx => z_ckF own nm true idx ax
  | .new idx => z_ckN own idx ax
  | .newarray t => z_ckA t ax
  | .anewarray idx => z_ckQ own idx ax
  | .ldc idx => z_ckC own idx ax
  | .invokevirtual idx => z_ckI 0 own idx ax
  | .invokestatic idx => z_ckI 1 own idx ax
  | .invokespecial idx => z_ckI 2 own idx ax
  | _ => true
def z_ckE (own : Nat) (nm : String) (b : ByteArray) (e : z_En) : Bool := decide (decode b e.1 = .ok (e.2.1, e.2.2.1)) && z_ckL own nm e.2.1 e.2.2.2
def z_ckR (r : z_Rec) : Bool := plainFor (z_y r) && r.2.2.2.2.2.2.2.2.all (z_ckE r.1 r.2.1 r.2.2.2.1)
theorem z_okp {r : z_Rec} (h1 : plainFor (z_y r) = true) (h2 : r.2.2.2.2.2.2.2.2.all (z_ckE r.1 r.2.1 r.2.2.2.1) = true) : z_ckR r = true := by
  unfold z_ckR; rw [h1, h2]; rfl
theorem z_pl (o : Nat) (n d : String) (h : plainFor ⟨z_own o, n, d⟩ = true) : plainFor ⟨z_own o, n, d⟩ = true := h
theorem z_all2 {α : Type} {a b : List α} {p : α → Bool} (h1 : a.all p = true) (h2 : b.all p = true) : (a ++ b).all p = true := by rw [List.all_append, h1, h2]; rfl
theorem z_find_mem {l : List z_En} {pc : Nat} {q : Instr × Nat × List Nat} (h : z_find l pc = some q) : (pc, q) ∈ l := by
  induction l with
  | nil => cases h
  | cons a l ih =>
    unfold z_find at h
    by_cases e : Nat.beq a.1 pc = true
    · rw [e] at h
      have e2 : a.1 = pc := Nat.eq_of_beq_eq_true e
      have e3 : a.2 = q := Option.some.inj h
      rw [← e2, ← e3]
      exact List.mem_cons_self
    · have e1 : Nat.beq a.1 pc = false := Bool.eq_false_iff.mpr e
      rw [e1] at h
      exact List.mem_cons_of_mem _ (ih h)
theorem z_entry {k pc : Nat} {r : z_Rec} {q : Instr × Nat × List Nat} (hT : ∀ (k : Nat) (r : z_Rec), z_rec k = some r → z_ckR r = true) (h : z_rec k = some r) (hq : z_find r.2.2.2.2.2.2.2.2 pc = some q) : decode r.2.2.2.1 pc = .ok (q.1, q.2.1) ∧ z_ckL r.1 r.2.1 q.1 q.2.2 = true := by
  have h0 := hT k r h
  simp only [z_ckR, Bool.and_eq_true] at h0
  have h1 := List.all_eq_true.mp h0.2 _ (z_find_mem hq)
  simp only [z_ckE, Bool.and_eq_true, decide_eq_true_eq] at h1
  exact h1
end ZK
end
section
/-! A run of the small interpreter is a run of the machine: what lies where, and the steps within a frame. -/
section ZS
def z_ad (aA sA : Nat → Nat) (k : Nat) : Nat := if k < 1000 then aA k else sA (k - 1000)
def z_V (ad : Nat → Nat) : Value → Value
  | .ref k => .ref (ad k)
  | v => v
def z_A (ad : Nat → Nat) (a : vp_A) : vp_A := match a with
  | (n, .inr (.inr (.inr (.inr f)))) => (n, .inr (.inr (.inr (.inr (fun j => (f j).map ad)))))
  | a => a
def z_E (ad : Nat → Nat) (cA : Nat → ClassId) (e : va_E) : va_E := match e with
  | .inl q => .inl (cA q.1, z_A ad q.2)
  | .inr o => .inr (o.1, o.2.map (z_V ad))
def z_W (ad : Nat → Nat) (cA : Nat → ClassId) (h : List va_E) : va_W := h.mapIdx (fun k e => (ad k, z_E ad cA e))
def z_L (ad : Nat → Nat) (ls : z_Ls) : z_Ls := ls.map (fun q => (q.1, z_V ad q.2))
def z_A0 (b0 : Nat) : Nat → Prop := fun q => b0 ≤ q
def z_tys (cA : Nat → ClassId) : List (ClassId × FieldType) := [(cA 0, .int), (cA 1, .char), (cA 2, .boolean), (cA 3, .long), (cA 4, .double), (cA 5, .object RX7)]
def z_txt : Nat → String
  | 0 => "gear " | 1 => "mesh " | 2 => "turn " | 3 => "wheel " | 4 => "note " | 5 => "hour " | 6 => "turn 0+7;turn 1-30;hour 5" | 7 => "hour 1;turn 0+0" | 8 => "gear 7" | 9 => "turn 0" | 10 => "mesh 0-1" | 11 => "wheel 0*" | 12 => "note a" | 13 => "gear 123" | 14 => "" | 15 => "hour 9;" | 16 => "note A0" | 17 => "turn 0*5" | 18 => "g" | 19 => "z" | _ => "gear 40;gear 20;gear 30;mesh 0-1/3;mesh 2-1/2"
/-- the String constants -/
def z_Str (b0 : Nat) (sA : Nat → Nat) (U : State) (H : Heap) : Prop :=
  (∀ j : Nat, j < 21 → vk_R (z_scl j) (z_sidx j) (z_txt j) (sA j) U) ∧ (∃ adV : Nat → Nat, vk_S 21 ((List.range 21).map (fun j => (z_str j).length)) ((List.range 21).map (fun j => (z_str j).map Int32.ofNat)) sA adV (z_A0 b0) U H) ∧ va_Z "java/lang/String" "COMPACT_STRINGS" "Z" (.int 1) (z_A0 b0) U H ∧ va_Zq "jdk/internal/util/Preconditions" "SIOOBE_FORMATTER" "Ljava/util/function/BiFunction;" (z_A0 b0) U H
def z_dec : List String := ["java/lang/RuntimeException", "java/lang/Exception", "java/lang/Throwable"]
/-- what holds of the machine all through the run -/
def z_G (sc : Nat × (Nat → Int32)) (D : va_G) (b0 : Nat) (sA : Nat → Nat) (cA : Nat → ClassId) (U : State) (H : Heap) : Prop :=
  va_K D z_cl (z_tys cA) U ∧ (∀ w ∈ z_nest, va_Nw w U) ∧ va_AO RX7 U ∧ vx_Zq Bundle.tN "UNASSIGNED_STACK" Bundle.steD (z_A0 b0) U H ∧ vx_Zq Bundle.tN "SUPPRESSED_SENTINEL" Bundle.listD (z_A0 b0) U H ∧ z_Str b0 sA U H ∧
  ((∀ i j : Nat, i < 6 → j < 6 → i ≠ j → va_Nc (z_xn i) (z_xn j) U) ∧ (∀ j : Nat, j < 6 → va_Nw (.castable (z_xn j) (z_xn j)) U) ∧ (∀ C ∈ z_dec, va_Nw (.declares ⟨C, "<init>", "()V"⟩) U)) ∧ va_X (sA 1000) sc.1 sc.2 U H ∧ sA 1000 < H.size ∧ ¬ z_A0 b0 (sA 1000)
theorem z_V_cat (ad : Nat → Nat) (v : Value) : (z_V ad v).category = v.category := by cases v <;> rfl
theorem z_W_get (ad : Nat → Nat) (cA : Nat → ClassId) (h : List va_E) (k : Nat) : (z_W ad cA h)[k]? = (h[k]?).map (fun e => (ad k, z_E ad cA e)) := by
  unfold z_W; rw [List.getElem?_mapIdx]
theorem z_W_at {ad : Nat → Nat} {cA : Nat → ClassId} {h : List va_E} {k : Nat} {e : va_E} (hk : h[k]? = some e) : (z_W ad cA h)[k]? = some (ad k, z_E ad cA e) := by
  rw [z_W_get, hk]; rfl
theorem z_W_set (ad : Nat → Nat) (cA : Nat → ClassId) (h : List va_E) (k : Nat) (e : va_E) : z_W ad cA (h.set k e) = (z_W ad cA h).set k (ad k, z_E ad cA e) := by
  apply List.ext_getElem?
  intro i
  rw [z_W_get, List.getElem?_set, List.getElem?_set, z_W_get]
  have hlen : (z_W ad cA h).length = h.length := by unfold z_W; rw [List.length_mapIdx]
  by_cases e1 : k = i
  · subst e1
    by_cases e2 : k < h.length
    · simp [e2, hlen]
    · simp [e2, hlen]
  · simp [e1]
theorem z_W_push (ad : Nat → Nat) (cA : Nat → ClassId) (h : List va_E) (e : va_E) : z_W ad cA (h ++ [e]) = z_W ad cA h ++ [(ad h.length, z_E ad cA e)] := by
  unfold z_W; rw [List.mapIdx_append]; simp
theorem z_cat_map (ad : Nat → Nat) (st : List Value) : ((st.map (z_V ad)).map fun v => v.category).sum = z_cat st := by
  unfold z_cat
  rw [List.map_map]
  congr 1
  apply List.map_congr_left
  intro v _
  exact z_V_cat ad v
theorem z_get_mem {ls : z_Ls} {i : Nat} {v : Value} (h : z_get ls i = some v) : (i, v) ∈ ls := by
  induction ls with
  | nil => cases h
  | cons a l ih =>
    unfold z_get at h
    by_cases e : Nat.beq a.1 i = true
    · rw [e] at h
      have e2 : a.1 = i := Nat.eq_of_beq_eq_true e
      have e3 : a.2 = v := Option.some.inj h
      rw [← e2, ← e3]
      exact List.mem_cons_self
    · have e1 : Nat.beq a.1 i = false := Bool.eq_false_iff.mpr e
      rw [e1] at h
      exact List.mem_cons_of_mem _ (ih h)
theorem z_L_mem {ad : Nat → Nat} {ls : z_Ls} {i : Nat} {v : Value} (h : (i, v) ∈ ls) : (i, z_V ad v) ∈ z_L ad ls := List.mem_map.mpr ⟨(i, v), h, rfl⟩
theorem z_ins_mem {q x : Nat × Value} {l : z_Ls} (h : x ∈ z_ins q l) : x = q ∨ x ∈ l := by
  induction l with
  | nil => exact Or.inl (List.mem_singleton.mp h)
  | cons a l ih =>
    unfold z_ins at h
    by_cases e : Nat.ble q.1 a.1 = true
    · rw [e] at h
      exact List.mem_cons.mp h
    · have e1 : Nat.ble q.1 a.1 = false := Bool.eq_false_iff.mpr e
      rw [e1] at h
      rcases List.mem_cons.mp h with h | h
      · exact Or.inr (by rw [h]; exact List.mem_cons_self)
      · rcases ih h with h | h
        · exact Or.inl h
        · exact Or.inr (List.mem_cons_of_mem _ h)
theorem z_has_sub {lsM : Array Slot} {nL : Nat} {l l' : z_Ls} (h : lv_has lsM nL l) (hs : ∀ q ∈ l', q ∈ l) : lv_has lsM nL l' := ⟨h.1, h.2.1, fun q hq => h.2.2 q (hs q hq)⟩
theorem z_lget {ad : Nat → Nat} {lsM : Array Slot} {nL : Nat} {ls : z_Ls} {i : Nat} {v : Value} (hl : lv_has lsM nL (z_L ad ls)) (h : z_get ls i = some v) : lsM[i]? = some (.val (z_V ad v)) := hl.2.2 _ (z_L_mem (z_get_mem h))
theorem z_L_filter (ad : Nat → Nat) (ls : z_Ls) (p : Nat × Value → Bool) (hp : ∀ q : Nat × Value, p (q.1, z_V ad q.2) = p q) : (z_L ad ls).filter p = z_L ad (ls.filter p) := by
  unfold z_L
  rw [List.filter_map]
  congr 1
  apply List.filter_congr
  intro q _
  exact hp q
theorem z_has1 {ad : Nat → Nat} {lsM : Array Slot} {nL : Nat} {ls : z_Ls} {i : Nat} {v : Value} (h : lv_has lsM nL ((i, z_V ad v) :: (z_L ad ls).filter (fun q => !(q.1 == i) && !(q.1 + 1 == i && q.2.category == 2)))) : lv_has lsM nL (z_L ad (z_st1 ls i v)) := by
  refine z_has_sub h (fun q hq => ?_)
  rw [z_L_filter _ _ _ (fun q => by simp only [z_V_cat])]
  obtain ⟨x, hx, rfl⟩ := List.mem_map.mp hq
  rcases z_ins_mem hx with rfl | hx
  · exact List.mem_cons_self
  · exact List.mem_cons_of_mem _ (List.mem_map.mpr ⟨x, hx, rfl⟩)
theorem z_has2 {ad : Nat → Nat} {lsM : Array Slot} {nL : Nat} {ls : z_Ls} {i : Nat} {v : Value} (h : lv_has lsM nL ((i, z_V ad v) :: (z_L ad ls).filter (fun q => !(q.1 == i) && (!(q.1 == i + 1) && !(q.1 + 1 == i && q.2.category == 2))))) : lv_has lsM nL (z_L ad (z_st2 ls i v)) := by
  refine z_has_sub h (fun q hq => ?_)
  rw [z_L_filter _ _ _ (fun q => by simp only [z_V_cat])]
  obtain ⟨x, hx, rfl⟩ := List.mem_map.mp hq
  rcases z_ins_mem hx with rfl | hx
  · exact List.mem_cons_self
  · exact List.mem_cons_of_mem _ (List.mem_map.mpr ⟨x, hx, rfl⟩)
theorem z_inb_in {i : Int32} {n : Nat} (h : z_inb i n = true) : vp_in i n := by
  simp only [z_inb, Bool.and_eq_true, Bool.not_eq_true', decide_eq_false_iff_not, decide_eq_true_eq] at h
  intro q
  rcases q with q | q
  · exact h.1 q
  · exact absurd h.2 (Nat.not_lt.mpr q)
theorem z_tgt_eq {pc t : Nat} {off : Int} (h : z_tgt pc off = some t) : (pc : Int) + off = (t : Int) := by
  unfold z_tgt at h
  split at h
  · rename_i h0
    cases h
    exact (Int.toNat_of_nonneg h0).symm
  · cases h
/-- what holds at a frame: the machine's parts, the code by the table, the words -/
def z_F (sc : Nat × (Nat → Int32)) (D : va_G) (b0 : Nat) (sA : Nat → Nat) (cA : Nat → ClassId) (r : z_Rec) (p : Program) (l : Launch) (s : State) (m : MethodId) (args : Array Value) (meth : Method) (c : Code) : Prop :=
  p.tables.exec = Jvm.exec ∧ c.code = r.2.2.2.1 ∧ meth.sig.returnType = r.2.2.2.2.2.1 ∧ c.maxLocals = r.2.2.2.2.1 ∧ s.vm.findClass (z_own r.1) = some m.cls ∧ (∀ w ∈ z_gt, w.before args s = true) ∧ meth.locks = false ∧ c.exceptionTable.toList = tableOf r.2.2.2.2.2.2.1 ∧ meth.name = r.2.1 ∧ l.stackTraces = false ∧ z_G sc D b0 sA cA s s.heap
/-- the heap holds the cells; what was there before the frame is as it was -/
def z_I (D : va_G) (b0 : Nat) (aA sA : Nat → Nat) (cA : Nat → ClassId) (n0 sl0 : Nat) (s : State) (hp : z_H) (H : Heap) (locs : List Loc) : Prop :=
  va_P D z_cl (z_W (z_ad aA sA) cA hp.1) H ∧ va_D (z_A0 b0) (z_W (z_ad aA sA) cA hp.1) ∧ va_S (z_A0 b0) s.heap H locs ∧ (H.size ≤ b0 + z_n hp ∧ b0 ≤ H.size) ∧ s.heap.size ≤ b0 + n0 ∧ n0 ≤ z_n hp ∧ sl0 ≤ hp.2.2
def z_K (p : Program) (l : Launch) (e : Env) (R : Room) (s : State) (m : MethodId) (args : Array Value) (below : List Frame) (meth : Method) (c : Code) (Q : State → Prop) (D : va_G) (b0 : Nat) (aA sA : Nat → Nat) (cA : Nat → ClassId) (nL n0 sl0 : Nat) (C : z_C) : Prop :=
  ∀ (lsM : Array Slot) (H : Heap) (locs : List Loc), lv_has lsM nL (z_L (z_ad aA sA) C.2.1) → z_I D b0 aA sA cA n0 sl0 s C.2.2.2 H locs → W p l e R s m args below meth c H locs (z_n C.2.2.2 - n0) (C.2.2.2.2.2 - sl0) Q (F0 m C.1 lsM (C.2.2.1.map (z_V (z_ad aA sA))))
/-- rows are only added -/
def z_ag (n : Nat) (aA aA' : Nat → Nat) : Prop := ∀ k, k < n → aA' k = aA k
theorem z_ag_rfl {n : Nat} {aA : Nat → Nat} : z_ag n aA aA := fun _ _ => rfl
theorem z_ag_trans {n m : Nat} {a1 a2 a3 : Nat → Nat} (h : z_ag n a1 a2) (hm : n ≤ m) (h2 : z_ag m a2 a3) : z_ag n a1 a3 := fun k hk => (h2 k (by omega)).trans (h k hk)
def z_upA (aA : Nat → Nat) (n a : Nat) : Nat → Nat := fun k => if k = n then a else aA k
theorem z_upA_ag {aA : Nat → Nat} {n a : Nat} : z_ag n aA (z_upA aA n a) := fun k hk => if_neg (by omega)
/-- a cell's references name rows that stand -/
def z_ewf (n : Nat) (e : va_E) : Prop := match e with
  | .inl (_, _, .inr (.inr (.inr (.inr f)))) => ∀ j b, f j = some b → z_vwf n (.ref b) = true
  | .inl _ => True
  | .inr o => ∀ v ∈ o.2, z_vwf n v = true
def z_hwf (hp : z_H) : Prop := ∀ (k : Nat) (e : va_E), hp.1[k]? = some e → z_ewf hp.1.length e
theorem z_vwf_up {n m : Nat} (h : n ≤ m) {v : Value} (hv : z_vwf n v = true) : z_vwf m v = true := by
  cases v <;> first | rfl | skip
  rename_i k
  have h1 : (Nat.blt k n || Nat.ble 1000 k) = true := hv
  show (Nat.blt k m || Nat.ble 1000 k) = true
  rw [Bool.or_eq_true] at h1 ⊢
  rcases h1 with h1 | h1
  · have h2 : k + 1 ≤ n := Nat.le_of_ble_eq_true h1
    exact Or.inl (Nat.ble_eq_true_of_le (Nat.le_trans h2 h))
  · exact Or.inr h1
theorem z_ewf_up {n m : Nat} (h : n ≤ m) {e : va_E} (he : z_ewf n e) : z_ewf m e := by
  unfold z_ewf at he ⊢
  split at he
  · exact fun j b hb => z_vwf_up h (he j b hb)
  · trivial
  · exact fun v hv => z_vwf_up h (he v hv)
theorem z_ad_ag {n : Nat} {aA aA' sA : Nat → Nat} (h : z_ag n aA aA') {k : Nat} (hk : k < n ∨ 1000 ≤ k) : z_ad aA' sA k = z_ad aA sA k := by
  unfold z_ad
  by_cases h1 : k < 1000
  · rw [if_pos h1, if_pos h1]
    rcases hk with hk | hk
    · exact h k hk
    · omega
  · rw [if_neg h1, if_neg h1]
theorem z_vwf_k {n k : Nat} (h : z_vwf n (.ref k) = true) : k < n ∨ 1000 ≤ k := by
  have h1 : (Nat.blt k n || Nat.ble 1000 k) = true := h
  rw [Bool.or_eq_true] at h1
  exact h1.imp (fun q => Nat.le_of_ble_eq_true (show Nat.ble (k + 1) n = true from q)) Nat.le_of_ble_eq_true
theorem z_V_ag {n : Nat} {aA aA' sA : Nat → Nat} (h : z_ag n aA aA') {v : Value} (hv : z_vwf n v = true) : z_V (z_ad aA' sA) v = z_V (z_ad aA sA) v := by
  cases v <;> first | rfl | skip
  show Value.ref _ = Value.ref _
  rw [z_ad_ag h (z_vwf_k hv)]
theorem z_st_ag {n : Nat} {aA aA' sA : Nat → Nat} (h : z_ag n aA aA') {st : List Value} (hv : st.all (z_vwf n) = true) : st.map (z_V (z_ad aA' sA)) = st.map (z_V (z_ad aA sA)) :=
  List.map_congr_left (fun v hq => z_V_ag h (List.all_eq_true.mp hv v hq))
theorem z_L_ag {n : Nat} {aA aA' sA : Nat → Nat} (h : z_ag n aA aA') {ls : z_Ls} (hv : ls.all (fun q => z_vwf n q.2) = true) : z_L (z_ad aA' sA) ls = z_L (z_ad aA sA) ls :=
  List.map_congr_left (fun q hq => by rw [z_V_ag h (List.all_eq_true.mp hv q hq)])
theorem z_E_ag {n : Nat} {aA aA' sA : Nat → Nat} {cA : Nat → ClassId} (h : z_ag n aA aA') {e : va_E} (he : z_ewf n e) : z_E (z_ad aA' sA) cA e = z_E (z_ad aA sA) cA e := by
  rcases e with ⟨t, m, f | f | f | f | f⟩ | o
  · rfl
  · rfl
  · rfl
  · rfl
  · have he2 : ∀ j b, f j = some b → z_vwf n (.ref b) = true := he
    show Sum.inl (cA t, m, Sum.inr (Sum.inr (Sum.inr (Sum.inr (fun j => (f j).map (z_ad aA' sA)))))) = Sum.inl (cA t, m, Sum.inr (Sum.inr (Sum.inr (Sum.inr (fun j => (f j).map (z_ad aA sA))))))
    have : (fun j => (f j).map (z_ad aA' sA)) = (fun j => (f j).map (z_ad aA sA)) := by
      funext j
      cases hf : f j with
      | none => rfl
      | some b => exact congrArg some (z_ad_ag h (z_vwf_k (he2 j b hf)))
    rw [this]
  · exact congrArg Sum.inr (Prod.ext rfl (List.map_congr_left (fun v hq => z_V_ag h (he v hq))))
theorem z_W_ag {aA aA' sA : Nat → Nat} {cA : Nat → ClassId} {hp : z_H} (hw : z_hwf hp) (h : z_ag hp.1.length aA aA') : z_W (z_ad aA' sA) cA hp.1 = z_W (z_ad aA sA) cA hp.1 := by
  apply List.ext_getElem?
  intro k
  rw [z_W_get, z_W_get]
  cases hk : hp.1[k]? with
  | none => rfl
  | some e =>
    have hl := (List.getElem?_eq_some_iff.mp hk).1
    show some (z_ad aA' sA k, z_E (z_ad aA' sA) cA e) = some (z_ad aA sA k, z_E (z_ad aA sA) cA e)
    rw [z_E_ag h (hw k e hk), z_ad_ag h (Or.inl hl)]
end ZS
end
section
/-! Each step of the small interpreter within a frame is a step of the machine. -/
section ZP
variable {p : Program} {l : Launch} {e : Env} {R : Room} {s : State} {m : MethodId} {args : Array Value} {below : List Frame} {meth : Method} {c : Code} {Q : State → Prop} {D : va_G} {b0 : Nat} {aA sA : Nat → Nat} {cA : Nat → ClassId} {nL n0 sl0 : Nat} {r : z_Rec} {sc : Nat × (Nat → Int32)}
theorem z_bound {H : Heap} {locs : List Loc} {cells slots : Nat} {g : JFrame} (h : H.size ≤ s.heap.size + cells → W p l e R s m args below meth c H locs cells slots Q g) : W p l e R s m args below meth c H locs cells slots Q g := by
  intro T hT X
  refine h ?_ T hT X
  have h1 := X.same.2.2.1
  rw [← hT]
  exact h1
theorem z_S_tr {A : Nat → Prop} {H0 H H1 : Heap} {l1 l2 : List Loc} (h1 : va_S A H0 H l1) (h2 : va_S A H H1 l2) : va_S A H0 H1 l2 :=
  ⟨Nat.le_trans h1.1 h2.1, fun q hq hA => (h2.2.1 q (Nat.lt_of_lt_of_le hq h1.1) hA).trans (h1.2.1 q hq hA), h2.2.2⟩
theorem z_S_self {A : Nat → Prop} {H0 H : Heap} {l1 : List Loc} (h1 : va_S A H0 H l1) : va_S A H H l1 := ⟨Nat.le_refl _, fun _ _ _ => rfl, h1.2.2⟩
theorem z_wr {hp : z_H} {H H1 : Heap} {locs locs1 : List Loc} {a : Nat} {e1 : va_E} (hI : z_I D b0 aA sA cA n0 sl0 s hp H locs) (hP : va_P D z_cl ((z_W (z_ad aA sA) cA hp.1).set a (z_ad aA sA a, z_E (z_ad aA sA) cA e1)) H1) (hD : va_D (z_A0 b0) ((z_W (z_ad aA sA) cA hp.1).set a (z_ad aA sA a, z_E (z_ad aA sA) cA e1))) (hS : va_S (z_A0 b0) H H1 locs1) (hb : H1.size ≤ s.heap.size + (z_n hp - n0)) : z_I D b0 aA sA cA n0 sl0 s (hp.1.set a e1, hp.2) H1 locs1 := by
  obtain ⟨i1, i2, i3, i4, i5, i6, i7⟩ := hI
  have hn : z_n (hp.1.set a e1, hp.2) = z_n hp := by unfold z_n; rw [List.length_set]
  refine ⟨?_, ?_, z_S_tr i3 hS, ?_, i5, ?_, i7⟩
  · rw [z_W_set]; exact hP
  · rw [z_W_set]; exact hD
  · rw [hn]
    have := hS.1
    refine ⟨by omega, by omega⟩
  · rw [hn]; exact i6
section Pure
variable {pc : Nat} {ls : z_Ls} {st st' : List Value} {hp : z_H} {C : z_C}
theorem z_s_iconst (F : z_F sc D b0 sA cA r p l s m args meth c) {n : Int} (hdg : decode r.2.2.2.1 pc = .ok (.iconst n, 1)) (k : z_K p l e R s m args below meth c Q D b0 aA sA cA nL n0 sl0 (pc + 1, ls, .int (Int32.ofInt n) :: st, hp)) : z_K p l e R s m args below meth c Q D b0 aA sA cA nL n0 sl0 (pc, ls, st, hp) :=
  fun lsM H locs hl hI => lv_iconst F.1 F.2.1 hdg rfl (k lsM H locs hl hI)
theorem z_s_bipush (F : z_F sc D b0 sA cA r p l s m args meth c) {n : Int} (hdg : decode r.2.2.2.1 pc = .ok (.bipush n, 2)) (k : z_K p l e R s m args below meth c Q D b0 aA sA cA nL n0 sl0 (pc + 2, ls, .int (Int8.ofInt n).toInt32 :: st, hp)) : z_K p l e R s m args below meth c Q D b0 aA sA cA nL n0 sl0 (pc, ls, st, hp) :=
  fun lsM H locs hl hI => lv_bipush F.1 F.2.1 hdg rfl (k lsM H locs hl hI)
theorem z_s_sipush (F : z_F sc D b0 sA cA r p l s m args meth c) {n : Int} (hdg : decode r.2.2.2.1 pc = .ok (.sipush n, 3)) (k : z_K p l e R s m args below meth c Q D b0 aA sA cA nL n0 sl0 (pc + 3, ls, .int (Int16.ofInt n).toInt32 :: st, hp)) : z_K p l e R s m args below meth c Q D b0 aA sA cA nL n0 sl0 (pc, ls, st, hp) :=
  fun lsM H locs hl hI => lv_sipush F.1 F.2.1 hdg rfl (k lsM H locs hl hI)
theorem z_s_lconst (F : z_F sc D b0 sA cA r p l s m args meth c) {n : Fin 2} (hdg : decode r.2.2.2.1 pc = .ok (.lconst n, 1)) (k : z_K p l e R s m args below meth c Q D b0 aA sA cA nL n0 sl0 (pc + 1, ls, .long (Int64.ofNat (n : Nat)) :: st, hp)) : z_K p l e R s m args below meth c Q D b0 aA sA cA nL n0 sl0 (pc, ls, st, hp) :=
  fun lsM H locs hl hI => lv_lconst F.1 F.2.1 hdg rfl (k lsM H locs hl hI)
theorem z_s_dconst (F : z_F sc D b0 sA cA r p l s m args meth c) {n : Fin 2} (hdg : decode r.2.2.2.1 pc = .ok (.dconst n, 1)) (h : (if n = 0 then some (pc + 1, ls, .double FP.dconst0 :: st, hp) else none) = some C) (k : z_K p l e R s m args below meth c Q D b0 aA sA cA nL n0 sl0 C) : z_K p l e R s m args below meth c Q D b0 aA sA cA nL n0 sl0 (pc, ls, st, hp) := by
  split at h
  · rename_i h0
    subst h0
    cases h
    exact fun lsM H locs hl hI => lv_dconst0 F.1 F.2.1 hdg (k lsM H locs hl hI)
  · cases h
theorem z_s_fconst (F : z_F sc D b0 sA cA r p l s m args meth c) {n : Fin 3} (hdg : decode r.2.2.2.1 pc = .ok (.fconst n, 1)) (h : (if n = 0 then some (pc + 1, ls, .float FP.fconst0 :: st, hp) else if n = 1 then some (pc + 1, ls, .float FP.fconst1 :: st, hp) else none) = some C) (k : z_K p l e R s m args below meth c Q D b0 aA sA cA nL n0 sl0 C) : z_K p l e R s m args below meth c Q D b0 aA sA cA nL n0 sl0 (pc, ls, st, hp) := by
  split at h
  · rename_i h0
    subst h0
    cases h
    exact fun lsM H locs hl hI => lv_fconst0 F.1 F.2.1 hdg (k lsM H locs hl hI)
  · split at h
    · rename_i h0
      subst h0
      cases h
      exact fun lsM H locs hl hI => lv_fconst1 F.1 F.2.1 hdg (k lsM H locs hl hI)
    · cases h
theorem z_mk_eq {pc' : Nat} {o : Option (List Value)} (h : z_mk pc' ls hp o = some C) : ∃ st', o = some st' ∧ C = (pc', ls, st', hp) := by
  cases o with
  | none => cases h
  | some x => cases h; exact ⟨x, rfl, rfl⟩
theorem z_ldI_eq {i : Nat} (h : z_ldI ls i st = some st') : ∃ x, z_get ls i = some (.int x) ∧ st' = .int x :: st := by
  unfold z_ldI at h
  split at h
  · rename_i x hx; cases h; exact ⟨x, hx, rfl⟩
  · cases h
theorem z_ldA_eq {i : Nat} (h : z_ldA ls i st = some st') : ∃ x, z_get ls i = some (.ref x) ∧ st' = .ref x :: st := by
  unfold z_ldA at h
  split at h
  · rename_i x hx; cases h; exact ⟨x, hx, rfl⟩
  · cases h
theorem z_ldF_eq {i : Nat} (h : z_ldF ls i st = some st') : ∃ x, z_get ls i = some (.float x) ∧ st' = .float x :: st := by
  unfold z_ldF at h
  split at h
  · rename_i x hx; cases h; exact ⟨x, hx, rfl⟩
  · cases h
theorem z_ldD_eq {i : Nat} (h : z_ldD ls i st = some st') : ∃ x, z_get ls i = some (.double x) ∧ st' = .double x :: st := by
  unfold z_ldD at h
  split at h
  · rename_i x hx; cases h; exact ⟨x, hx, rfl⟩
  · cases h
theorem z_s_iload_n (F : z_F sc D b0 sA cA r p l s m args meth c) {i : Fin 4} (hdg : decode r.2.2.2.1 pc = .ok (.iload_n i, 1)) (h : z_mk (pc + 1) ls hp (z_ldI ls i st) = some C) (k : z_K p l e R s m args below meth c Q D b0 aA sA cA nL n0 sl0 C) : z_K p l e R s m args below meth c Q D b0 aA sA cA nL n0 sl0 (pc, ls, st, hp) := by
  obtain ⟨st', h1, rfl⟩ := z_mk_eq h
  obtain ⟨x, h2, rfl⟩ := z_ldI_eq h1
  exact fun lsM H locs hl hI => lv_iload_n F.1 F.2.1 hdg rfl (z_lget hl h2) (k lsM H locs hl hI)
theorem z_s_iload (F : z_F sc D b0 sA cA r p l s m args meth c) {i : Nat} (hdg : decode r.2.2.2.1 pc = .ok (.iload i, 2)) (h : z_mk (pc + 2) ls hp (z_ldI ls i st) = some C) (k : z_K p l e R s m args below meth c Q D b0 aA sA cA nL n0 sl0 C) : z_K p l e R s m args below meth c Q D b0 aA sA cA nL n0 sl0 (pc, ls, st, hp) := by
  obtain ⟨st', h1, rfl⟩ := z_mk_eq h
  obtain ⟨x, h2, rfl⟩ := z_ldI_eq h1
  exact fun lsM H locs hl hI => lv_iload F.1 F.2.1 hdg (z_lget hl h2) (k lsM H locs hl hI)
theorem z_s_aload_n (F : z_F sc D b0 sA cA r p l s m args meth c) {i : Fin 4} (hdg : decode r.2.2.2.1 pc = .ok (.aload_n i, 1)) (h : z_mk (pc + 1) ls hp (z_ldA ls i st) = some C) (k : z_K p l e R s m args below meth c Q D b0 aA sA cA nL n0 sl0 C) : z_K p l e R s m args below meth c Q D b0 aA sA cA nL n0 sl0 (pc, ls, st, hp) := by
  obtain ⟨st', h1, rfl⟩ := z_mk_eq h
  obtain ⟨x, h2, rfl⟩ := z_ldA_eq h1
  exact fun lsM H locs hl hI => lv_aload_n F.1 F.2.1 hdg rfl (z_lget hl h2) (k lsM H locs hl hI)
theorem z_s_aload (F : z_F sc D b0 sA cA r p l s m args meth c) {i : Nat} (hdg : decode r.2.2.2.1 pc = .ok (.aload i, 2)) (h : z_mk (pc + 2) ls hp (z_ldA ls i st) = some C) (k : z_K p l e R s m args below meth c Q D b0 aA sA cA nL n0 sl0 C) : z_K p l e R s m args below meth c Q D b0 aA sA cA nL n0 sl0 (pc, ls, st, hp) := by
  obtain ⟨st', h1, rfl⟩ := z_mk_eq h
  obtain ⟨x, h2, rfl⟩ := z_ldA_eq h1
  exact fun lsM H locs hl hI => lv_aload F.1 F.2.1 hdg (z_lget hl h2) (k lsM H locs hl hI)
theorem z_s_fload (F : z_F sc D b0 sA cA r p l s m args meth c) {i : Nat} (hdg : decode r.2.2.2.1 pc = .ok (.fload i, 2)) (h : z_mk (pc + 2) ls hp (z_ldF ls i st) = some C) (k : z_K p l e R s m args below meth c Q D b0 aA sA cA nL n0 sl0 C) : z_K p l e R s m args below meth c Q D b0 aA sA cA nL n0 sl0 (pc, ls, st, hp) := by
  obtain ⟨st', h1, rfl⟩ := z_mk_eq h
  obtain ⟨x, h2, rfl⟩ := z_ldF_eq h1
  exact fun lsM H locs hl hI => lv_fload F.1 F.2.1 hdg (z_lget hl h2) (k lsM H locs hl hI)
theorem z_s_dload (F : z_F sc D b0 sA cA r p l s m args meth c) {i : Nat} (hdg : decode r.2.2.2.1 pc = .ok (.dload i, 2)) (h : z_mk (pc + 2) ls hp (z_ldD ls i st) = some C) (k : z_K p l e R s m args below meth c Q D b0 aA sA cA nL n0 sl0 C) : z_K p l e R s m args below meth c Q D b0 aA sA cA nL n0 sl0 (pc, ls, st, hp) := by
  obtain ⟨st', h1, rfl⟩ := z_mk_eq h
  obtain ⟨x, h2, rfl⟩ := z_ldD_eq h1
  exact fun lsM H locs hl hI => lv_dload F.1 F.2.1 hdg (z_lget hl h2) (k lsM H locs hl hI)
theorem z_sI_eq {pc' i : Nat} (h : z_sI nL pc' ls i st hp = some C) : ∃ x rr, st = .int x :: rr ∧ i < nL ∧ C = (pc', z_st1 ls i (.int x), rr, hp) := by
  unfold z_sI at h
  split at h
  · split at h
    · rename_i x rr h1; cases h; exact ⟨x, rr, rfl, h1, rfl⟩
    · cases h
  · cases h
theorem z_sA_eq {pc' i : Nat} (h : z_sA nL pc' ls i st hp = some C) : ∃ x rr, st = .ref x :: rr ∧ i < nL ∧ C = (pc', z_st1 ls i (.ref x), rr, hp) := by
  unfold z_sA at h
  split at h
  · split at h
    · rename_i x rr h1; cases h; exact ⟨x, rr, rfl, h1, rfl⟩
    · cases h
  · cases h
theorem z_sF_eq {pc' i : Nat} (h : z_sF nL pc' ls i st hp = some C) : ∃ x rr, st = .float x :: rr ∧ i < nL ∧ C = (pc', z_st1 ls i (.float x), rr, hp) := by
  unfold z_sF at h
  split at h
  · split at h
    · rename_i x rr h1; cases h; exact ⟨x, rr, rfl, h1, rfl⟩
    · cases h
  · cases h
theorem z_sD_eq {pc' i : Nat} (h : z_sD nL pc' ls i st hp = some C) : ∃ x rr, st = .double x :: rr ∧ i + 1 < nL ∧ C = (pc', z_st2 ls i (.double x), rr, hp) := by
  unfold z_sD at h
  split at h
  · split at h
    · rename_i x rr h1; cases h; exact ⟨x, rr, rfl, h1, rfl⟩
    · cases h
  · cases h
theorem z_s_istore_n (F : z_F sc D b0 sA cA r p l s m args meth c) {i : Fin 4} (hdg : decode r.2.2.2.1 pc = .ok (.istore_n i, 1)) (h : z_sI nL (pc + 1) ls i st hp = some C) (k : z_K p l e R s m args below meth c Q D b0 aA sA cA nL n0 sl0 C) : z_K p l e R s m args below meth c Q D b0 aA sA cA nL n0 sl0 (pc, ls, st, hp) := by
  obtain ⟨x, rr, rfl, h1, rfl⟩ := z_sI_eq h
  exact fun lsM H locs hl hI => lv_istore_n F.1 F.2.1 hdg rfl hl h1 rfl (fun ls' hl' => k ls' H locs (z_has1 (v := .int x) hl') hI)
theorem z_s_istore (F : z_F sc D b0 sA cA r p l s m args meth c) {i : Nat} (hdg : decode r.2.2.2.1 pc = .ok (.istore i, 2)) (h : z_sI nL (pc + 2) ls i st hp = some C) (k : z_K p l e R s m args below meth c Q D b0 aA sA cA nL n0 sl0 C) : z_K p l e R s m args below meth c Q D b0 aA sA cA nL n0 sl0 (pc, ls, st, hp) := by
  obtain ⟨x, rr, rfl, h1, rfl⟩ := z_sI_eq h
  exact fun lsM H locs hl hI => lv_istore F.1 F.2.1 hdg hl h1 rfl (fun ls' hl' => k ls' H locs (z_has1 (v := .int x) hl') hI)
theorem z_s_astore_n (F : z_F sc D b0 sA cA r p l s m args meth c) {i : Fin 4} (hdg : decode r.2.2.2.1 pc = .ok (.astore_n i, 1)) (h : z_sA nL (pc + 1) ls i st hp = some C) (k : z_K p l e R s m args below meth c Q D b0 aA sA cA nL n0 sl0 C) : z_K p l e R s m args below meth c Q D b0 aA sA cA nL n0 sl0 (pc, ls, st, hp) := by
  obtain ⟨x, rr, rfl, h1, rfl⟩ := z_sA_eq h
  exact fun lsM H locs hl hI => lv_astore_n F.1 F.2.1 hdg rfl hl h1 rfl (fun ls' hl' => k ls' H locs (z_has1 (v := .ref x) hl') hI)
theorem z_s_astore (F : z_F sc D b0 sA cA r p l s m args meth c) {i : Nat} (hdg : decode r.2.2.2.1 pc = .ok (.astore i, 2)) (h : z_sA nL (pc + 2) ls i st hp = some C) (k : z_K p l e R s m args below meth c Q D b0 aA sA cA nL n0 sl0 C) : z_K p l e R s m args below meth c Q D b0 aA sA cA nL n0 sl0 (pc, ls, st, hp) := by
  obtain ⟨x, rr, rfl, h1, rfl⟩ := z_sA_eq h
  exact fun lsM H locs hl hI => lv_astore F.1 F.2.1 hdg hl h1 rfl (fun ls' hl' => k ls' H locs (z_has1 (v := .ref x) hl') hI)
theorem z_s_fstore (F : z_F sc D b0 sA cA r p l s m args meth c) {i : Nat} (hdg : decode r.2.2.2.1 pc = .ok (.fstore i, 2)) (h : z_sF nL (pc + 2) ls i st hp = some C) (k : z_K p l e R s m args below meth c Q D b0 aA sA cA nL n0 sl0 C) : z_K p l e R s m args below meth c Q D b0 aA sA cA nL n0 sl0 (pc, ls, st, hp) := by
  obtain ⟨x, rr, rfl, h1, rfl⟩ := z_sF_eq h
  exact fun lsM H locs hl hI => lv_fstore F.1 F.2.1 hdg hl h1 rfl (fun ls' hl' => k ls' H locs (z_has1 (v := .float x) hl') hI)
theorem z_s_dstore (F : z_F sc D b0 sA cA r p l s m args meth c) {i : Nat} (hdg : decode r.2.2.2.1 pc = .ok (.dstore i, 2)) (h : z_sD nL (pc + 2) ls i st hp = some C) (k : z_K p l e R s m args below meth c Q D b0 aA sA cA nL n0 sl0 C) : z_K p l e R s m args below meth c Q D b0 aA sA cA nL n0 sl0 (pc, ls, st, hp) := by
  obtain ⟨x, rr, rfl, h1, rfl⟩ := z_sD_eq h
  exact fun lsM H locs hl hI => lv_dstore F.1 F.2.1 hdg hl h1 rfl (fun ls' hl' => k ls' H locs (z_has2 (v := .double x) hl') hI)
theorem z_s_iinc (F : z_F sc D b0 sA cA r p l s m args meth c) {i : Nat} {n : Int} (hdg : decode r.2.2.2.1 pc = .ok (.iinc i n, 3)) (h : z_inc nL (pc + 3) ls i n st hp = some C) (k : z_K p l e R s m args below meth c Q D b0 aA sA cA nL n0 sl0 C) : z_K p l e R s m args below meth c Q D b0 aA sA cA nL n0 sl0 (pc, ls, st, hp) := by
  unfold z_inc at h
  split at h
  · rename_i x hx
    split at h
    · rename_i h1
      cases h
      intro lsM H locs hl hI
      obtain ⟨j, hj⟩ := List.getElem?_of_mem (z_L_mem (ad := z_ad aA sA) (z_get_mem hx))
      exact lv_iinc F.1 F.2.1 hdg hl (k := j) (x := x) hj rfl h1 rfl (fun ls' hl' => k ls' H locs (z_has1 (v := .int (x + Int32.ofInt n)) hl') hI)
    · cases h
  · cases h
theorem z_i2_eq {f : Int32 → Int32 → Option Value} (h : z_i2 f st = some st') : ∃ x y v rr, st = .int y :: .int x :: rr ∧ f x y = some v ∧ st' = v :: rr := by
  unfold z_i2 at h
  split at h
  · split at h
    · rename_i v hv; cases h; exact ⟨_, _, v, _, rfl, hv, rfl⟩
    · cases h
  · cases h
theorem z_i1_eq {f : Int32 → Option Value} (h : z_i1 f st = some st') : ∃ x v rr, st = .int x :: rr ∧ f x = some v ∧ st' = v :: rr := by
  unfold z_i1 at h
  split at h
  · split at h
    · rename_i v hv; cases h; exact ⟨_, v, _, rfl, hv, rfl⟩
    · cases h
  · cases h
theorem z_s_iadd (F : z_F sc D b0 sA cA r p l s m args meth c) (hdg : decode r.2.2.2.1 pc = .ok (.iadd, 1)) (h : z_mk (pc + 1) ls hp (z_i2 (fun x y => some (.int (x + y))) st) = some C) (k : z_K p l e R s m args below meth c Q D b0 aA sA cA nL n0 sl0 C) : z_K p l e R s m args below meth c Q D b0 aA sA cA nL n0 sl0 (pc, ls, st, hp) := by
  obtain ⟨st', h1, rfl⟩ := z_mk_eq h
  obtain ⟨x, y, v, rr, rfl, h2, rfl⟩ := z_i2_eq h1
  cases h2
  exact fun lsM H locs hl hI => lv_iadd F.1 F.2.1 hdg (k lsM H locs hl hI)
theorem z_s_isub (F : z_F sc D b0 sA cA r p l s m args meth c) (hdg : decode r.2.2.2.1 pc = .ok (.isub, 1)) (h : z_mk (pc + 1) ls hp (z_i2 (fun x y => some (.int (x - y))) st) = some C) (k : z_K p l e R s m args below meth c Q D b0 aA sA cA nL n0 sl0 C) : z_K p l e R s m args below meth c Q D b0 aA sA cA nL n0 sl0 (pc, ls, st, hp) := by
  obtain ⟨st', h1, rfl⟩ := z_mk_eq h
  obtain ⟨x, y, v, rr, rfl, h2, rfl⟩ := z_i2_eq h1
  cases h2
  exact fun lsM H locs hl hI => lv_isub F.1 F.2.1 hdg (k lsM H locs hl hI)
theorem z_s_imul (F : z_F sc D b0 sA cA r p l s m args meth c) (hdg : decode r.2.2.2.1 pc = .ok (.imul, 1)) (h : z_mk (pc + 1) ls hp (z_i2 (fun x y => some (.int (x * y))) st) = some C) (k : z_K p l e R s m args below meth c Q D b0 aA sA cA nL n0 sl0 C) : z_K p l e R s m args below meth c Q D b0 aA sA cA nL n0 sl0 (pc, ls, st, hp) := by
  obtain ⟨st', h1, rfl⟩ := z_mk_eq h
  obtain ⟨x, y, v, rr, rfl, h2, rfl⟩ := z_i2_eq h1
  cases h2
  exact fun lsM H locs hl hI => lv_imul F.1 F.2.1 hdg (k lsM H locs hl hI)
theorem z_s_iand (F : z_F sc D b0 sA cA r p l s m args meth c) (hdg : decode r.2.2.2.1 pc = .ok (.iand, 1)) (h : z_mk (pc + 1) ls hp (z_i2 (fun x y => some (.int (x &&& y))) st) = some C) (k : z_K p l e R s m args below meth c Q D b0 aA sA cA nL n0 sl0 C) : z_K p l e R s m args below meth c Q D b0 aA sA cA nL n0 sl0 (pc, ls, st, hp) := by
  obtain ⟨st', h1, rfl⟩ := z_mk_eq h
  obtain ⟨x, y, v, rr, rfl, h2, rfl⟩ := z_i2_eq h1
  cases h2
  exact fun lsM H locs hl hI => lv_iand F.1 F.2.1 hdg (k lsM H locs hl hI)
theorem z_s_ishr (F : z_F sc D b0 sA cA r p l s m args meth c) (hdg : decode r.2.2.2.1 pc = .ok (.ishr, 1)) (h : z_mk (pc + 1) ls hp (z_i2 (fun x y => some (.int (x >>> (y &&& 31)))) st) = some C) (k : z_K p l e R s m args below meth c Q D b0 aA sA cA nL n0 sl0 C) : z_K p l e R s m args below meth c Q D b0 aA sA cA nL n0 sl0 (pc, ls, st, hp) := by
  obtain ⟨st', h1, rfl⟩ := z_mk_eq h
  obtain ⟨x, y, v, rr, rfl, h2, rfl⟩ := z_i2_eq h1
  cases h2
  exact fun lsM H locs hl hI => lv_ishr F.1 F.2.1 hdg (k lsM H locs hl hI)
theorem z_s_ixor (F : z_F sc D b0 sA cA r p l s m args meth c) (hdg : decode r.2.2.2.1 pc = .ok (.ixor, 1)) (h : z_mk (pc + 1) ls hp (z_i2 (fun x y => some (.int (x ^^^ y))) st) = some C) (k : z_K p l e R s m args below meth c Q D b0 aA sA cA nL n0 sl0 C) : z_K p l e R s m args below meth c Q D b0 aA sA cA nL n0 sl0 (pc, ls, st, hp) := by
  obtain ⟨st', h1, rfl⟩ := z_mk_eq h
  obtain ⟨x, y, v, rr, rfl, h2, rfl⟩ := z_i2_eq h1
  cases h2
  exact fun lsM H locs hl hI => lv_ixor F.1 F.2.1 hdg (k lsM H locs hl hI)
theorem z_s_idiv (F : z_F sc D b0 sA cA r p l s m args meth c) (hdg : decode r.2.2.2.1 pc = .ok (.idiv, 1)) (h : z_mk (pc + 1) ls hp (z_i2 (fun x y => if y = 0 then none else some (.int (x / y))) st) = some C) (k : z_K p l e R s m args below meth c Q D b0 aA sA cA nL n0 sl0 C) : z_K p l e R s m args below meth c Q D b0 aA sA cA nL n0 sl0 (pc, ls, st, hp) := by
  obtain ⟨st', h1, rfl⟩ := z_mk_eq h
  obtain ⟨x, y, v, rr, rfl, h2, rfl⟩ := z_i2_eq h1
  split at h2
  · cases h2
  · rename_i hne
    cases h2
    exact fun lsM H locs hl hI => lv_idiv F.1 F.2.1 hdg hne (k lsM H locs hl hI)
theorem z_s_irem (F : z_F sc D b0 sA cA r p l s m args meth c) (hdg : decode r.2.2.2.1 pc = .ok (.irem, 1)) (h : z_mk (pc + 1) ls hp (z_i2 (fun x y => if y = 0 then none else some (.int (x - x / y * y))) st) = some C) (k : z_K p l e R s m args below meth c Q D b0 aA sA cA nL n0 sl0 C) : z_K p l e R s m args below meth c Q D b0 aA sA cA nL n0 sl0 (pc, ls, st, hp) := by
  obtain ⟨st', h1, rfl⟩ := z_mk_eq h
  obtain ⟨x, y, v, rr, rfl, h2, rfl⟩ := z_i2_eq h1
  split at h2
  · cases h2
  · rename_i hne
    cases h2
    exact fun lsM H locs hl hI => lv_irem F.1 F.2.1 hdg hne (k lsM H locs hl hI)
theorem z_s_ineg (F : z_F sc D b0 sA cA r p l s m args meth c) (hdg : decode r.2.2.2.1 pc = .ok (.ineg, 1)) (h : z_mk (pc + 1) ls hp (z_i1 (fun x => some (.int (-x))) st) = some C) (k : z_K p l e R s m args below meth c Q D b0 aA sA cA nL n0 sl0 C) : z_K p l e R s m args below meth c Q D b0 aA sA cA nL n0 sl0 (pc, ls, st, hp) := by
  obtain ⟨st', h1, rfl⟩ := z_mk_eq h
  obtain ⟨x, v, rr, rfl, h2, rfl⟩ := z_i1_eq h1
  cases h2
  exact fun lsM H locs hl hI => lv_ineg F.1 F.2.1 hdg (k lsM H locs hl hI)
theorem z_s_i2c (F : z_F sc D b0 sA cA r p l s m args meth c) (hdg : decode r.2.2.2.1 pc = .ok (.i2c, 1)) (h : z_mk (pc + 1) ls hp (z_i1 (fun x => some (.int (x.toUInt32 % 65536).toInt32)) st) = some C) (k : z_K p l e R s m args below meth c Q D b0 aA sA cA nL n0 sl0 C) : z_K p l e R s m args below meth c Q D b0 aA sA cA nL n0 sl0 (pc, ls, st, hp) := by
  obtain ⟨st', h1, rfl⟩ := z_mk_eq h
  obtain ⟨x, v, rr, rfl, h2, rfl⟩ := z_i1_eq h1
  cases h2
  exact fun lsM H locs hl hI => lv_i2c F.1 F.2.1 hdg rfl (k lsM H locs hl hI)
theorem z_s_i2l (F : z_F sc D b0 sA cA r p l s m args meth c) (hdg : decode r.2.2.2.1 pc = .ok (.i2l, 1)) (h : z_mk (pc + 1) ls hp (z_i1 (fun x => some (.long x.toInt64)) st) = some C) (k : z_K p l e R s m args below meth c Q D b0 aA sA cA nL n0 sl0 C) : z_K p l e R s m args below meth c Q D b0 aA sA cA nL n0 sl0 (pc, ls, st, hp) := by
  obtain ⟨st', h1, rfl⟩ := z_mk_eq h
  obtain ⟨x, v, rr, rfl, h2, rfl⟩ := z_i1_eq h1
  cases h2
  exact fun lsM H locs hl hI => lv_i2l F.1 F.2.1 hdg rfl (k lsM H locs hl hI)
theorem z_s_i2d (F : z_F sc D b0 sA cA r p l s m args meth c) (hdg : decode r.2.2.2.1 pc = .ok (.i2d, 1)) (h : z_mk (pc + 1) ls hp (z_i1 (fun x => some (.double (FP.i2d x))) st) = some C) (k : z_K p l e R s m args below meth c Q D b0 aA sA cA nL n0 sl0 C) : z_K p l e R s m args below meth c Q D b0 aA sA cA nL n0 sl0 (pc, ls, st, hp) := by
  obtain ⟨st', h1, rfl⟩ := z_mk_eq h
  obtain ⟨x, v, rr, rfl, h2, rfl⟩ := z_i1_eq h1
  cases h2
  exact fun lsM H locs hl hI => lv_i2d F.1 F.2.1 hdg (k lsM H locs hl hI)
theorem z_s_i2f (F : z_F sc D b0 sA cA r p l s m args meth c) (hdg : decode r.2.2.2.1 pc = .ok (.i2f, 1)) (h : z_mk (pc + 1) ls hp (z_i1 (fun x => some (.float (FP.i2f x))) st) = some C) (k : z_K p l e R s m args below meth c Q D b0 aA sA cA nL n0 sl0 C) : z_K p l e R s m args below meth c Q D b0 aA sA cA nL n0 sl0 (pc, ls, st, hp) := by
  obtain ⟨st', h1, rfl⟩ := z_mk_eq h
  obtain ⟨x, v, rr, rfl, h2, rfl⟩ := z_i1_eq h1
  cases h2
  exact fun lsM H locs hl hI => lv_i2f F.1 F.2.1 hdg (k lsM H locs hl hI)
end Pure
end ZP
end
section
section ZP2
variable {p : Program} {l : Launch} {e : Env} {R : Room} {s : State} {m : MethodId} {args : Array Value} {below : List Frame} {meth : Method} {c : Code} {Q : State → Prop} {D : va_G} {b0 : Nat} {aA sA : Nat → Nat} {cA : Nat → ClassId} {nL n0 sl0 : Nat} {r : z_Rec} {sc : Nat × (Nat → Int32)}
variable {pc : Nat} {ls : z_Ls} {st st' : List Value} {hp : z_H} {C : z_C}
theorem z_s_f2d (F : z_F sc D b0 sA cA r p l s m args meth c) (hdg : decode r.2.2.2.1 pc = .ok (.f2d, 1)) (h : (match st with
    | .float x :: rr => if FP.f2d x &&& 0x7fffffffffffffff ≤ 0x7ff0000000000000 then some (pc + 1, ls, .double (FP.f2d x) :: rr, hp) else none
    | _ => none) = some C) (k : z_K p l e R s m args below meth c Q D b0 aA sA cA nL n0 sl0 C) : z_K p l e R s m args below meth c Q D b0 aA sA cA nL n0 sl0 (pc, ls, st, hp) := by
  split at h
  · split at h
    · rename_i h1; cases h; exact fun lsM H locs hl hI => lv_f2d F.1 F.2.1 hdg h1 (k lsM H locs hl hI)
    · cases h
  · cases h
theorem z_s_ddiv (F : z_F sc D b0 sA cA r p l s m args meth c) (hdg : decode r.2.2.2.1 pc = .ok (.ddiv, 1)) (h : (match st with
    | .double y :: .double x :: rr => if FP.ddiv x y &&& 0x7fffffffffffffff ≤ 0x7ff0000000000000 then some (pc + 1, ls, .double (FP.ddiv x y) :: rr, hp) else none
    | _ => none) = some C) (k : z_K p l e R s m args below meth c Q D b0 aA sA cA nL n0 sl0 C) : z_K p l e R s m args below meth c Q D b0 aA sA cA nL n0 sl0 (pc, ls, st, hp) := by
  split at h
  · split at h
    · rename_i h1; cases h; exact fun lsM H locs hl hI => lv_ddiv F.1 F.2.1 hdg h1 (k lsM H locs hl hI)
    · cases h
  · cases h
theorem z_s_fdiv (F : z_F sc D b0 sA cA r p l s m args meth c) (hdg : decode r.2.2.2.1 pc = .ok (.fdiv, 1)) (h : (match st with
    | .float y :: .float x :: rr => if FP.fdiv x y &&& 0x7fffffff ≤ 0x7f800000 then some (pc + 1, ls, .float (FP.fdiv x y) :: rr, hp) else none
    | _ => none) = some C) (k : z_K p l e R s m args below meth c Q D b0 aA sA cA nL n0 sl0 C) : z_K p l e R s m args below meth c Q D b0 aA sA cA nL n0 sl0 (pc, ls, st, hp) := by
  split at h
  · split at h
    · rename_i h1; cases h; exact fun lsM H locs hl hI => lv_fdiv F.1 F.2.1 hdg h1 (k lsM H locs hl hI)
    · cases h
  · cases h
theorem z_s_lcmp (F : z_F sc D b0 sA cA r p l s m args meth c) (hdg : decode r.2.2.2.1 pc = .ok (.lcmp, 1)) (h : (match st with
    | .long y :: .long x :: rr => some (pc + 1, ls, .int (lg_cmp x y) :: rr, hp)
    | _ => none) = some C) (k : z_K p l e R s m args below meth c Q D b0 aA sA cA nL n0 sl0 C) : z_K p l e R s m args below meth c Q D b0 aA sA cA nL n0 sl0 (pc, ls, st, hp) := by
  split at h
  · cases h; exact fun lsM H locs hl hI => W.lcmp F.1 F.2.1 hdg (k lsM H locs hl hI)
  · cases h
theorem z_s_dcmp (F : z_F sc D b0 sA cA r p l s m args meth c) {op : CmpOp} (hdg : decode r.2.2.2.1 pc = .ok (.dcmp op, 1)) (h : (match st with
    | .double y :: .double x :: rr => some (pc + 1, ls, .int (Op.cmpValue (FP.dcmp x y) op) :: rr, hp)
    | _ => none) = some C) (k : z_K p l e R s m args below meth c Q D b0 aA sA cA nL n0 sl0 C) : z_K p l e R s m args below meth c Q D b0 aA sA cA nL n0 sl0 (pc, ls, st, hp) := by
  split at h
  · cases h; exact fun lsM H locs hl hI => lv_dcmp F.1 F.2.1 hdg (k lsM H locs hl hI)
  · cases h
theorem z_s_fcmp (F : z_F sc D b0 sA cA r p l s m args meth c) {op : CmpOp} (hdg : decode r.2.2.2.1 pc = .ok (.fcmp op, 1)) (h : (match st with
    | .float y :: .float x :: rr => some (pc + 1, ls, .int (Op.cmpValue (FP.fcmp x y) op) :: rr, hp)
    | _ => none) = some C) (k : z_K p l e R s m args below meth c Q D b0 aA sA cA nL n0 sl0 C) : z_K p l e R s m args below meth c Q D b0 aA sA cA nL n0 sl0 (pc, ls, st, hp) := by
  split at h
  · cases h; exact fun lsM H locs hl hI => lv_fcmp F.1 F.2.1 hdg (k lsM H locs hl hI)
  · cases h
theorem z_s_dup (F : z_F sc D b0 sA cA r p l s m args meth c) (hdg : decode r.2.2.2.1 pc = .ok (.dup, 1)) (h : z_mk (pc + 1) ls hp (z_dup st) = some C) (k : z_K p l e R s m args below meth c Q D b0 aA sA cA nL n0 sl0 C) : z_K p l e R s m args below meth c Q D b0 aA sA cA nL n0 sl0 (pc, ls, st, hp) := by
  obtain ⟨st', h1, rfl⟩ := z_mk_eq h
  unfold z_dup at h1
  split at h1
  · split at h1
    · rename_i hc; cases h1; exact fun lsM H locs hl hI => lv_dup F.1 F.2.1 hdg (by rw [z_V_cat]; exact hc) (k lsM H locs hl hI)
    · cases h1
  · cases h1
theorem z_s_dup2 (F : z_F sc D b0 sA cA r p l s m args meth c) (hdg : decode r.2.2.2.1 pc = .ok (.dup2, 1)) (h : z_mk (pc + 1) ls hp (z_dup2 st) = some C) (k : z_K p l e R s m args below meth c Q D b0 aA sA cA nL n0 sl0 C) : z_K p l e R s m args below meth c Q D b0 aA sA cA nL n0 sl0 (pc, ls, st, hp) := by
  obtain ⟨st', h1, rfl⟩ := z_mk_eq h
  unfold z_dup2 at h1
  split at h1
  · split at h1
    · rename_i hc; cases h1; exact fun lsM H locs hl hI => lv_dup2_11 F.1 F.2.1 hdg (by rw [z_V_cat]; exact hc.1) (by rw [z_V_cat]; exact hc.2) (k lsM H locs hl hI)
    · cases h1
  · cases h1
theorem z_s_pop (F : z_F sc D b0 sA cA r p l s m args meth c) (hdg : decode r.2.2.2.1 pc = .ok (.pop, 1)) (h : z_mk (pc + 1) ls hp (z_pop st) = some C) (k : z_K p l e R s m args below meth c Q D b0 aA sA cA nL n0 sl0 C) : z_K p l e R s m args below meth c Q D b0 aA sA cA nL n0 sl0 (pc, ls, st, hp) := by
  obtain ⟨st', h1, rfl⟩ := z_mk_eq h
  unfold z_pop at h1
  split at h1
  · split at h1
    · rename_i hc; cases h1; exact fun lsM H locs hl hI => lv_pop F.1 F.2.1 hdg (by rw [z_V_cat]; exact hc) (k lsM H locs hl hI)
    · cases h1
  · cases h1
theorem z_cut_mem {ax : List Nat} {ls : z_Ls} {x : Nat × Value} (h : x ∈ z_cut ax ls) : x ∈ ls := by
  unfold z_cut at h
  split at h
  · exact (List.mem_filter.mp h).1
  · exact h
theorem z_has_cut {ad : Nat → Nat} {lsM : Array Slot} {nL : Nat} {ls : z_Ls} {ax : List Nat} (h : lv_has lsM nL (z_L ad ls)) : lv_has lsM nL (z_L ad (z_cut ax ls)) := by
  refine z_has_sub h (fun q hq => ?_)
  obtain ⟨x, hx, rfl⟩ := List.mem_map.mp hq
  exact List.mem_map.mpr ⟨x, z_cut_mem hx, rfl⟩
theorem z_s_goto {ax : List Nat} (F : z_F sc D b0 sA cA r p l s m args meth c) {off : Int} (hdg : decode r.2.2.2.1 pc = .ok (.goto off, 3)) (h : z_gto pc off (z_cut ax ls) st hp = some C) (k : z_K p l e R s m args below meth c Q D b0 aA sA cA nL n0 sl0 C) : z_K p l e R s m args below meth c Q D b0 aA sA cA nL n0 sl0 (pc, ls, st, hp) := by
  unfold z_gto at h
  split at h
  · rename_i t ht; cases h; exact fun lsM H locs hl hI => lv_goto F.1 F.2.1 hdg (z_tgt_eq ht) (k lsM H locs (z_has_cut hl) hI)
  · cases h
theorem z_s_ifnull (F : z_F sc D b0 sA cA r p l s m args meth c) {off : Int} (hdg : decode r.2.2.2.1 pc = .ok (.ifnull off, 3)) (h : z_ifn pc off ls st hp = some C) (k : z_K p l e R s m args below meth c Q D b0 aA sA cA nL n0 sl0 C) : z_K p l e R s m args below meth c Q D b0 aA sA cA nL n0 sl0 (pc, ls, st, hp) := by
  unfold z_ifn at h
  split at h
  · cases h; exact fun lsM H locs hl hI => lv_ifnull F.1 F.2.1 hdg (k lsM H locs hl hI)
  · cases h
theorem z_s_if (F : z_F sc D b0 sA cA r p l s m args meth c) {cc : ClassFile.Cond} {off : Int} (hdg : decode r.2.2.2.1 pc = .ok (.ifCond cc off, 3)) (h : z_ifc cc pc off ls st hp = some C) (k : z_K p l e R s m args below meth c Q D b0 aA sA cA nL n0 sl0 C) : z_K p l e R s m args below meth c Q D b0 aA sA cA nL n0 sl0 (pc, ls, st, hp) := by
  unfold z_ifc at h
  split at h
  · rename_i x rr
    split at h
    · rename_i t ht
      have ht' := z_tgt_eq ht
      intro lsM H locs hl hI
      have kt : z_cmp0 cc x = true → W p l e R s m args below meth c H locs (z_n hp - n0) (hp.2.2 - sl0) Q (F0 m t lsM (rr.map (z_V (z_ad aA sA)))) := fun q => by
        rw [q] at h; cases h; exact k lsM H locs hl hI
      have kf : z_cmp0 cc x = false → W p l e R s m args below meth c H locs (z_n hp - n0) (hp.2.2 - sl0) Q (F0 m (pc + 3) lsM (rr.map (z_V (z_ad aA sA)))) := fun q => by
        rw [q] at h; cases h; exact k lsM H locs hl hI
      clear h k
      cases cc
      · exact lv_if_eq F.1 F.2.1 hdg ht' (fun q => kt (decide_eq_true q)) (fun q => kf (decide_eq_false q))
      · exact lv_if_ne F.1 F.2.1 hdg ht' (fun q => kt (decide_eq_true q)) (fun q => kf (decide_eq_false (fun hh => hh q)))
      · exact lv_if_lt F.1 F.2.1 hdg ht' (fun q => kt (decide_eq_true q)) (fun q => kf (decide_eq_false q))
      · exact lv_if_ge F.1 F.2.1 hdg ht' (fun q => kt (decide_eq_true q)) (fun q => kf (decide_eq_false q))
      · exact lv_if_gt F.1 F.2.1 hdg ht' (fun q => kt (decide_eq_true q)) (fun q => kf (decide_eq_false q))
      · exact lv_if_le F.1 F.2.1 hdg ht' (fun q => kt (decide_eq_true q)) (fun q => kf (decide_eq_false q))
    · cases h
  · cases h
theorem z_s_icmp (F : z_F sc D b0 sA cA r p l s m args meth c) {cc : ClassFile.Cond} {off : Int} (hdg : decode r.2.2.2.1 pc = .ok (.if_icmp cc off, 3)) (h : z_icm cc pc off ls st hp = some C) (k : z_K p l e R s m args below meth c Q D b0 aA sA cA nL n0 sl0 C) : z_K p l e R s m args below meth c Q D b0 aA sA cA nL n0 sl0 (pc, ls, st, hp) := by
  unfold z_icm at h
  split at h
  · rename_i y x rr
    split at h
    · rename_i t ht
      have ht' := z_tgt_eq ht
      intro lsM H locs hl hI
      have kt : z_cmp2 cc x y = true → W p l e R s m args below meth c H locs (z_n hp - n0) (hp.2.2 - sl0) Q (F0 m t lsM (rr.map (z_V (z_ad aA sA)))) := fun q => by
        rw [q] at h; cases h; exact k lsM H locs hl hI
      have kf : z_cmp2 cc x y = false → W p l e R s m args below meth c H locs (z_n hp - n0) (hp.2.2 - sl0) Q (F0 m (pc + 3) lsM (rr.map (z_V (z_ad aA sA)))) := fun q => by
        rw [q] at h; cases h; exact k lsM H locs hl hI
      clear h k
      cases cc
      · exact lv_icmp_eq F.1 F.2.1 hdg ht' (fun q => kt (decide_eq_true q)) (fun q => kf (decide_eq_false q))
      · exact lv_icmp_ne F.1 F.2.1 hdg ht' (fun q => kt (decide_eq_true q)) (fun q => kf (decide_eq_false (fun hh => hh q)))
      · exact lv_icmp_lt F.1 F.2.1 hdg ht' (fun q => kt (decide_eq_true q)) (fun q => kf (decide_eq_false q))
      · exact lv_icmp_ge F.1 F.2.1 hdg ht' (fun q => kt (decide_eq_true q)) (fun q => kf (decide_eq_false q))
      · exact lv_icmp_gt F.1 F.2.1 hdg ht' (fun q => kt (decide_eq_true q)) (fun q => kf (decide_eq_false q))
      · exact lv_icmp_le F.1 F.2.1 hdg ht' (fun q => kt (decide_eq_true q)) (fun q => kf (decide_eq_false q))
    · cases h
  · cases h
theorem z_gto_eq {off : Int} {ls : z_Ls} {st : List Value} {hp : z_H} (h : z_gto pc off ls st hp = some C) : ∃ t : Nat, (pc : Int) + off = (t : Int) ∧ C = (t, ls, st, hp) := by
  unfold z_gto at h
  split at h
  · rename_i t ht; cases h; exact ⟨t, z_tgt_eq ht, rfl⟩
  · cases h
theorem z_s_tsw (F : z_F sc D b0 sA cA r p l s m args meth c) {dflt lo hi : Int} {offs : Array Int} {len : Nat} (hdg : decode r.2.2.2.1 pc = .ok (.tableswitch dflt lo hi offs, len)) (h : z_tsw pc dflt lo hi offs ls st hp = some C) (k : z_K p l e R s m args below meth c Q D b0 aA sA cA nL n0 sl0 C) : z_K p l e R s m args below meth c Q D b0 aA sA cA nL n0 sl0 (pc, ls, st, hp) := by
  unfold z_tsw at h
  split at h
  · split at h
    · rename_i x rr h1
      obtain ⟨t, ht, rfl⟩ := z_gto_eq h
      exact fun lsM H locs hl hI => lv_tableOut F.1 F.2.1 hdg h1 ht (k lsM H locs hl hI)
    · rename_i x rr h1
      split at h
      · rename_i off ho
        obtain ⟨t, ht, rfl⟩ := z_gto_eq h
        exact fun lsM H locs hl hI => lv_tableIn F.1 F.2.1 hdg (fun q => h1 (Or.inl q)) (fun q => h1 (Or.inr q)) ho ht (k lsM H locs hl hI)
      · cases h
  · cases h
theorem z_s_lsw (F : z_F sc D b0 sA cA r p l s m args meth c) {dflt : Int} {ps : Array (Int × Int)} {len : Nat} (hdg : decode r.2.2.2.1 pc = .ok (.lookupswitch dflt ps, len)) (h : z_lsw pc dflt ps ls st hp = some C) (k : z_K p l e R s m args below meth c Q D b0 aA sA cA nL n0 sl0 C) : z_K p l e R s m args below meth c Q D b0 aA sA cA nL n0 sl0 (pc, ls, st, hp) := by
  unfold z_lsw at h
  split at h
  · by_cases hq : (ps.toList.zip (ps.toList.drop 1)).all (fun (a, next) => a.1 < next.1) = true
    · rw [hq] at h
      obtain ⟨t, ht, rfl⟩ := z_gto_eq h
      exact fun lsM H locs hl hI => lv_lookup F.1 F.2.1 hdg hq rfl ht (k lsM H locs hl hI)
    · rw [Bool.eq_false_iff.mpr hq] at h; cases h
  · cases h
-- fields
theorem z_lays : ∀ (ci : Nat) (C : String) (T : u_T) (N : Nat), z_cl[ci]? = some (C, T, N) → (∀ w ∈ u_ws C T N, w ∈ z_gt) := by
  have h0 : ∀ q ∈ z_cl, (u_ws q.1 q.2.1 q.2.2).all (fun w => decide (w ∈ lw_tbl) && goodWord w) = true := by decide +kernel
  intro ci C T N h w hw
  have h1 := List.all_eq_true.mp (h0 _ (List.mem_of_getElem? h)) w hw
  simp only [Bool.and_eq_true, decide_eq_true_eq] at h1
  exact List.mem_filter.mpr h1
theorem z_clty (ci : Nat) (C : String) (T : u_T) (N : Nat) (h : z_cl[ci]? = some (C, T, N)) : (∀ k, k < N → parseFieldDescriptor (T k).2.2.1 = some (z_ty ci k)) ∧ (∀ a, a < N → ∀ b, b < N → a ≠ b → (T a).2.1 ≠ (T b).2.1) := by
  match ci, h with
  | 0, h => cases h; exact ⟨tyX0_ok, nmX0⟩
  | 1, h => cases h; exact ⟨tyX1_ok, nmX1⟩
  | 2, h => cases h; exact ⟨tyX2_ok, nmX2⟩
  | 3, h => cases h; exact ⟨tyX3_ok, nmX3⟩
  | 4, h => cases h; exact ⟨tyX4_ok, nmX4⟩
  | 5, h => cases h; exact ⟨tyX5_ok, nmX5⟩
  | 6, h => cases h; exact ⟨tyX6_ok, nmX6⟩
  | 7, h => cases h; exact ⟨tyX7_ok, nmX7⟩
  | 8, h => cases h; exact ⟨tyX8_ok, nmX8⟩
  | 9, h => cases h; exact ⟨tyX9_ok, nmX9⟩
  | n + 10, h => exact absurd (List.getElem?_eq_some_iff.mp h).1 (by show ¬ n + 10 < 10; omega)
theorem z_ckF_eq {own : Nat} {nm : String} {put : Bool} {idx ci j : Nat} {ax : List Nat} (h : z_ckF own nm put idx (ci :: j :: ax) = true) : ∃ (C : String) (T : u_T) (N : Nat), z_cl[ci]? = some (C, T, N) ∧ j < N ∧ Jvm.Cond.fieldLink (z_own own) idx (T j).1 (T j).2.1 (T j).2.2.1 ∈ z_gt ∧ (put = true → (T j).2.2.2 = true → nm = "<init>" ∧ (T j).1 = z_own own) := by
  match ax, h with
  | [pl], h =>
    dsimp only [z_ckF] at h
    split at h
    · rename_i C T N hc
      simp only [Bool.and_eq_true, decide_eq_true_eq, Bool.or_eq_true, Bool.not_eq_true'] at h
      obtain ⟨h1, h2, h3⟩ := h
      refine ⟨C, T, N, hc, h1, z_at_mem h2, fun hp hf => ?_⟩
      rcases h3 with h3 | h3
      · rw [hp] at h3; cases h3
      · rcases h3 with h3 | h3
        · rw [hf] at h3; cases h3
        · exact h3
    · cases h
  | [], h => exact absurd h Bool.false_ne_true
  | _ :: _ :: _, h => exact absurd h Bool.false_ne_true
theorem z_s_getf (F : z_F sc D b0 sA cA r p l s m args meth c) {idx : Nat} {ax : List Nat} (hdg : decode r.2.2.2.1 pc = .ok (.getfield idx, 3)) (hck : z_ckF r.1 r.2.1 false idx ax = true) (h : z_mk (pc + 3) ls hp (z_gf ax st hp) = some C) (k : z_K p l e R s m args below meth c Q D b0 aA sA cA nL n0 sl0 C) : z_K p l e R s m args below meth c Q D b0 aA sA cA nL n0 sl0 (pc, ls, st, hp) := by
  obtain ⟨st', h1, rfl⟩ := z_mk_eq h
  unfold z_gf at h1
  split at h1
  · rename_i ci j ax' a rr
    split at h1
    · rename_i c' fs hc
      split at h1
      · rename_i hci
        subst hci
        split at h1
        · rename_i v hv
          cases h1
          obtain ⟨CC, T, N, hcl, hj, hlink, -⟩ := z_ckF_eq hck
          intro lsM H locs hl hI
          have hE := z_W_at (ad := z_ad aA sA) (cA := cA) hc
          exact va_get (own := z_own r.1) F.1 F.2.1 F.2.2.2.2.2.1 (z_lays _ _ _ _ hcl) F.2.2.2.2.1 F.2.2.2.2.2.2.2.2.2.2.1 hI.1 a hE hcl j hj (F.2.2.2.2.2.1 _ hlink) (fun x hx => hx) (v := z_V (z_ad aA sA) v) (by rw [List.getElem?_map, hv]; rfl) hdg (k lsM H locs hl hI)
        · cases h1
      · cases h1
    · cases h1
  · cases h1
theorem z_narrow_V {ad : Nat → Nat} {ty : FieldType} {v : Value} (h : narrow ty v = v) : narrow ty (z_V ad v) = z_V ad v := by
  cases v with
  | ref a => cases ty <;> rfl
  | _ => exact h
theorem z_fits_V {ad : Nat → Nat} {ty : FieldType} {v : Value} (h : fits ty v = true) : fits ty (z_V ad v) = true := by
  cases v with
  | ref a => cases ty <;> first | rfl | exact h
  | _ => exact h
theorem z_kw {pc' a : Nat} {e1 : va_E} {H1 : Heap} {locs1 : List Loc} {lsM : Array Slot} (k : z_K p l e R s m args below meth c Q D b0 aA sA cA nL n0 sl0 (pc', ls, st, (hp.1.set a e1, hp.2))) (hl : lv_has lsM nL (z_L (z_ad aA sA) ls)) (hI : z_I D b0 aA sA cA n0 sl0 s (hp.1.set a e1, hp.2) H1 locs1) : W p l e R s m args below meth c H1 locs1 (z_n hp - n0) (hp.2.2 - sl0) Q (F0 m pc' lsM (st.map (z_V (z_ad aA sA)))) := by
  have hn : z_n (hp.1.set a e1, hp.2) = z_n hp := by unfold z_n; rw [List.length_set]
  have h := k lsM H1 locs1 hl hI
  rw [← hn]
  exact h
theorem z_s_putf (F : z_F sc D b0 sA cA r p l s m args meth c) {idx : Nat} {ax : List Nat} (hdg : decode r.2.2.2.1 pc = .ok (.putfield idx, 3)) (hck : z_ckF r.1 r.2.1 true idx ax = true) (h : z_pf ax pc ls st hp = some C) (k : z_K p l e R s m args below meth c Q D b0 aA sA cA nL n0 sl0 C) : z_K p l e R s m args below meth c Q D b0 aA sA cA nL n0 sl0 (pc, ls, st, hp) := by
  unfold z_pf at h
  split at h
  · rename_i ci j ax' v a rr
    split at h
    · rename_i c' fs hc
      split at h
      · rename_i hcond
        obtain ⟨hci, hjl, hnr, hft, -⟩ := hcond
        subst hci
        cases h
        obtain ⟨CC, T, N, hcl, hj, hlink, hfin⟩ := z_ckF_eq hck
        obtain ⟨hty, hnm⟩ := z_clty _ _ _ _ hcl
        intro lsM H locs hl hI
        have hE := z_W_at (ad := z_ad aA sA) (cA := cA) hc
        have hset : z_E (z_ad aA sA) cA (.inr (c', fs.set j v)) = .inr (c', (fs.map (z_V (z_ad aA sA))).set j (z_V (z_ad aA sA) v)) := by
          show Sum.inr (c', (fs.set j v).map (z_V (z_ad aA sA))) = _
          rw [List.map_set]
        have hjl' : j < (fs.map (z_V (z_ad aA sA))).length := by rw [List.length_map]; exact hjl
        cases hfl : (T j).2.2.2 with
        | false =>
          exact va_put (own := z_own r.1) F.1 F.2.1 F.2.2.2.2.2.1 (z_lays _ _ _ _ hcl) (z_ty c') hty hnm F.2.2.2.2.1 F.2.2.2.2.2.2.2.2.2.2.1 hI.1 hI.2.1 (z_S_self hI.2.2.1) a hE hcl j hj (F.2.2.2.2.2.1 _ hlink) (fun x hx => hx) hfl (hty j hj) (z_narrow_V hnr) (z_fits_V hft) hjl' hdg (fun H1 locs1 hP1 hD1 hS1 => z_bound fun hb => z_kw k hl (z_wr (e1 := .inr (c', fs.set j v)) hI (by rw [hset]; exact hP1) (by rw [hset]; exact hD1) hS1 hb))
        | true =>
          obtain ⟨hin, hdecl⟩ := hfin rfl hfl
          exact va_putF (own := z_own r.1) F.1 F.2.1 F.2.2.2.2.2.1 (z_lays _ _ _ _ hcl) (z_ty c') hty hnm F.2.2.2.2.1 F.2.2.2.2.2.2.2.2.2.2.1 hI.1 hI.2.1 (z_S_self hI.2.2.1) a hE hcl j hj (F.2.2.2.2.2.1 _ hlink) (fun x hx => hx) hfl (F.2.2.2.2.2.2.2.2.1.trans hin) hdecl (hty j hj) (z_narrow_V hnr) (z_fits_V hft) hjl' hdg (fun H1 locs1 hP1 hD1 hS1 => z_bound fun hb => z_kw k hl (z_wr (e1 := .inr (c', fs.set j v)) hI (by rw [hset]; exact hP1) (by rw [hset]; exact hD1) hS1 hb))
      · cases h
    · cases h
  · cases h
end ZP2
end
section
section ZP3
variable {p : Program} {l : Launch} {e : Env} {R : Room} {s : State} {m : MethodId} {args : Array Value} {below : List Frame} {meth : Method} {c : Code} {Q : State → Prop} {D : va_G} {b0 : Nat} {aA sA : Nat → Nat} {cA : Nat → ClassId} {nL n0 sl0 : Nat} {r : z_Rec} {sc : Nat × (Nat → Int32)}
variable {pc : Nat} {ls : z_Ls} {st st' : List Value} {hp : z_H} {C : z_C}
theorem z_band {a b : Nat} {x : Bool} (h : (Nat.beq a b && x) = true) : a = b ∧ x = true := by
  rw [Bool.and_eq_true] at h
  exact ⟨Nat.eq_of_beq_eq_true h.1, h.2⟩
theorem z_ald_eq {t : Nat} (h : z_ald sc t st hp = some st') : ∃ (i : Int32) (a : Nat) (rr : List Value) (n : Nat) (f : Nat → Int32), st = .int i :: .ref a :: rr ∧ z_hg sc hp a = some (.inl (t, n, .inl f)) ∧ vp_in i n ∧ st' = .int (f i.toNatClampNeg) :: rr := by
  unfold z_ald at h
  split at h
  · rename_i i a rr
    split at h
    · rename_i t0 n f hc
      by_cases hb : (Nat.beq t0 t && z_inb i n) = true
      · rw [hb] at h
        obtain ⟨h1, h2⟩ := z_band hb
        subst h1
        cases h
        exact ⟨i, a, rr, n, f, rfl, hc, z_inb_in h2, rfl⟩
      · rw [Bool.eq_false_iff.mpr hb] at h; cases h
    · cases h
  · cases h
theorem z_hg_eq {a : Nat} {x : va_E} (h : z_hg sc hp a = some x) : (a = 2000 ∧ x = .inl (0, sc.1, .inl sc.2)) ∨ hp.1[a]? = some x := by
  unfold z_hg at h
  by_cases e : Nat.beq a 2000 = true
  · rw [e] at h
    exact Or.inl ⟨Nat.eq_of_beq_eq_true e, (Option.some.inj h).symm⟩
  · rw [Bool.eq_false_iff.mpr e] at h
    exact Or.inr h
theorem z_s_iald (F : z_F sc D b0 sA cA r p l s m args meth c) (hdg : decode r.2.2.2.1 pc = .ok (.iaload, 1)) (h : z_mk (pc + 1) ls hp (z_ald sc 0 st hp) = some C) (k : z_K p l e R s m args below meth c Q D b0 aA sA cA nL n0 sl0 C) : z_K p l e R s m args below meth c Q D b0 aA sA cA nL n0 sl0 (pc, ls, st, hp) := by
  obtain ⟨st', h1, rfl⟩ := z_mk_eq h
  obtain ⟨i, a, rr, n, f, rfl, hc, hin, rfl⟩ := z_ald_eq h1
  rcases z_hg_eq hc with ⟨rfl, hx⟩ | hc
  · cases hx
    exact fun lsM H locs hl hI => va_sld F.1 F.2.1 F.2.2.2.2.2.2.2.2.2.2.2.2.2.2.2.2.2.1 F.2.2.2.2.2.2.2.2.2.2.2.2.2.2.2.2.2.2.1 F.2.2.2.2.2.2.2.2.2.2.2.2.2.2.2.2.2.2.2 hI.2.2.1 hin hdg (k lsM H locs hl hI)
  · exact fun lsM H locs hl hI => va_iald F.1 F.2.1 F.2.2.2.2.2.2.2.2.2.2.1 hI.1 a 0 (z_W_at hc) rfl hin hdg (k lsM H locs hl hI)
theorem z_s_cald (F : z_F sc D b0 sA cA r p l s m args meth c) (hdg : decode r.2.2.2.1 pc = .ok (.caload, 1)) (h : z_mk (pc + 1) ls hp (z_ald sc 1 st hp) = some C) (k : z_K p l e R s m args below meth c Q D b0 aA sA cA nL n0 sl0 C) : z_K p l e R s m args below meth c Q D b0 aA sA cA nL n0 sl0 (pc, ls, st, hp) := by
  obtain ⟨st', h1, rfl⟩ := z_mk_eq h
  obtain ⟨i, a, rr, n, f, rfl, hc, hin, rfl⟩ := z_ald_eq h1
  rcases z_hg_eq hc with ⟨rfl, hx⟩ | hc
  · cases hx
  · exact fun lsM H locs hl hI => va_cald F.1 F.2.1 F.2.2.2.2.2.2.2.2.2.2.1 hI.1 a 1 (z_W_at hc) rfl hin hdg (k lsM H locs hl hI)
theorem z_s_zald (F : z_F sc D b0 sA cA r p l s m args meth c) (hdg : decode r.2.2.2.1 pc = .ok (.baload, 1)) (h : z_mk (pc + 1) ls hp (z_ald sc 2 st hp) = some C) (k : z_K p l e R s m args below meth c Q D b0 aA sA cA nL n0 sl0 C) : z_K p l e R s m args below meth c Q D b0 aA sA cA nL n0 sl0 (pc, ls, st, hp) := by
  obtain ⟨st', h1, rfl⟩ := z_mk_eq h
  obtain ⟨i, a, rr, n, f, rfl, hc, hin, rfl⟩ := z_ald_eq h1
  rcases z_hg_eq hc with ⟨rfl, hx⟩ | hc
  · cases hx
  · exact fun lsM H locs hl hI => va_zald F.1 F.2.1 F.2.2.2.2.2.2.2.2.2.2.1 hI.1 a 2 (z_W_at hc) rfl hin hdg (k lsM H locs hl hI)
theorem z_ast_eq {t : Nat} {g : Int32 → Int32} (h : z_ast t g pc ls st hp = some C) : ∃ (x i : Int32) (a : Nat) (rr : List Value) (n : Nat) (f : Nat → Int32), st = .int x :: .int i :: .ref a :: rr ∧ hp.1[a]? = some (.inl (t, n, .inl f)) ∧ vp_in i n ∧ C = (pc + 1, ls, rr, (hp.1.set a (.inl (t, n, .inl (upd f i.toNatClampNeg (g x)))), hp.2)) := by
  unfold z_ast at h
  split at h
  · rename_i x i a rr
    split at h
    · rename_i t0 n f hc
      by_cases hb : (Nat.beq t0 t && z_inb i n) = true
      · rw [hb] at h
        obtain ⟨h1, h2⟩ := z_band hb
        subst h1
        cases h
        exact ⟨x, i, a, rr, n, f, rfl, hc, z_inb_in h2, rfl⟩
      · rw [Bool.eq_false_iff.mpr hb] at h; cases h
    · cases h
  · cases h
theorem z_s_iast (F : z_F sc D b0 sA cA r p l s m args meth c) (hdg : decode r.2.2.2.1 pc = .ok (.iastore, 1)) (h : z_ast 0 id pc ls st hp = some C) (k : z_K p l e R s m args below meth c Q D b0 aA sA cA nL n0 sl0 C) : z_K p l e R s m args below meth c Q D b0 aA sA cA nL n0 sl0 (pc, ls, st, hp) := by
  obtain ⟨x, i, a, rr, n, f, rfl, hc, hin, rfl⟩ := z_ast_eq h
  exact fun lsM H locs hl hI => va_iast F.1 F.2.1 F.2.2.2.2.2.2.2.2.2.2.1 hI.1 hI.2.1 (z_S_self hI.2.2.1) a 0 (z_W_at hc) rfl hin hdg (fun H1 locs1 hP1 hD1 hS1 => z_bound fun hb => z_kw k hl (z_wr (e1 := .inl (0, n, .inl (upd f i.toNatClampNeg x))) hI hP1 hD1 hS1 hb))
theorem z_s_cast (F : z_F sc D b0 sA cA r p l s m args meth c) (hdg : decode r.2.2.2.1 pc = .ok (.castore, 1)) (h : z_ast 1 (vp_nar .char) pc ls st hp = some C) (k : z_K p l e R s m args below meth c Q D b0 aA sA cA nL n0 sl0 C) : z_K p l e R s m args below meth c Q D b0 aA sA cA nL n0 sl0 (pc, ls, st, hp) := by
  obtain ⟨x, i, a, rr, n, f, rfl, hc, hin, rfl⟩ := z_ast_eq h
  exact fun lsM H locs hl hI => va_cast F.1 F.2.1 F.2.2.2.2.2.2.2.2.2.2.1 hI.1 hI.2.1 (z_S_self hI.2.2.1) a 1 (z_W_at hc) rfl hin hdg (fun H1 locs1 hP1 hD1 hS1 => z_bound fun hb => z_kw k hl (z_wr (e1 := .inl (1, n, .inl (upd f i.toNatClampNeg (vp_nar .char x)))) hI hP1 hD1 hS1 hb))
theorem z_s_zast (F : z_F sc D b0 sA cA r p l s m args meth c) (hdg : decode r.2.2.2.1 pc = .ok (.bastore, 1)) (h : z_ast 2 (vp_nar .boolean) pc ls st hp = some C) (k : z_K p l e R s m args below meth c Q D b0 aA sA cA nL n0 sl0 C) : z_K p l e R s m args below meth c Q D b0 aA sA cA nL n0 sl0 (pc, ls, st, hp) := by
  obtain ⟨x, i, a, rr, n, f, rfl, hc, hin, rfl⟩ := z_ast_eq h
  exact fun lsM H locs hl hI => va_zast F.1 F.2.1 F.2.2.2.2.2.2.2.2.2.2.1 hI.1 hI.2.1 (z_S_self hI.2.2.1) a 2 (z_W_at hc) rfl hin hdg (fun H1 locs1 hP1 hD1 hS1 => z_bound fun hb => z_kw k hl (z_wr (e1 := .inl (2, n, .inl (upd f i.toNatClampNeg (vp_nar .boolean x)))) hI hP1 hD1 hS1 hb))
theorem z_s_lald (F : z_F sc D b0 sA cA r p l s m args meth c) (hdg : decode r.2.2.2.1 pc = .ok (.laload, 1)) (h : z_mk (pc + 1) ls hp (z_lald st hp) = some C) (k : z_K p l e R s m args below meth c Q D b0 aA sA cA nL n0 sl0 C) : z_K p l e R s m args below meth c Q D b0 aA sA cA nL n0 sl0 (pc, ls, st, hp) := by
  obtain ⟨st', h1, rfl⟩ := z_mk_eq h
  unfold z_lald at h1
  split at h1
  · rename_i i a rr
    split at h1
    · rename_i t0 n f hc
      by_cases hb : (Nat.beq t0 3 && z_inb i n) = true
      · rw [hb] at h1
        obtain ⟨h2, h3⟩ := z_band hb
        subst h2
        cases h1
        exact fun lsM H locs hl hI => va_lald F.1 F.2.1 F.2.2.2.2.2.2.2.2.2.2.1 hI.1 a 3 (z_W_at hc) rfl (z_inb_in h3) hdg (k lsM H locs hl hI)
      · rw [Bool.eq_false_iff.mpr hb] at h1; cases h1
    · cases h1
  · cases h1
theorem z_s_dald (F : z_F sc D b0 sA cA r p l s m args meth c) (hdg : decode r.2.2.2.1 pc = .ok (.daload, 1)) (h : z_mk (pc + 1) ls hp (z_dald st hp) = some C) (k : z_K p l e R s m args below meth c Q D b0 aA sA cA nL n0 sl0 C) : z_K p l e R s m args below meth c Q D b0 aA sA cA nL n0 sl0 (pc, ls, st, hp) := by
  obtain ⟨st', h1, rfl⟩ := z_mk_eq h
  unfold z_dald at h1
  split at h1
  · rename_i i a rr
    split at h1
    · rename_i t0 n f hc
      by_cases hb : (Nat.beq t0 4 && z_inb i n) = true
      · rw [hb] at h1
        obtain ⟨h2, h3⟩ := z_band hb
        subst h2
        cases h1
        exact fun lsM H locs hl hI => va_dald F.1 F.2.1 F.2.2.2.2.2.2.2.2.2.2.1 hI.1 a 4 (z_W_at hc) rfl (z_inb_in h3) hdg (k lsM H locs hl hI)
      · rw [Bool.eq_false_iff.mpr hb] at h1; cases h1
    · cases h1
  · cases h1
theorem z_s_last (F : z_F sc D b0 sA cA r p l s m args meth c) (hdg : decode r.2.2.2.1 pc = .ok (.lastore, 1)) (h : z_last pc ls st hp = some C) (k : z_K p l e R s m args below meth c Q D b0 aA sA cA nL n0 sl0 C) : z_K p l e R s m args below meth c Q D b0 aA sA cA nL n0 sl0 (pc, ls, st, hp) := by
  unfold z_last at h
  split at h
  · rename_i x i a rr
    split at h
    · rename_i t0 n f hc
      by_cases hb : (Nat.beq t0 3 && z_inb i n) = true
      · rw [hb] at h
        obtain ⟨h2, h3⟩ := z_band hb
        subst h2
        cases h
        exact fun lsM H locs hl hI => va_last F.1 F.2.1 F.2.2.2.2.2.2.2.2.2.2.1 hI.1 hI.2.1 (z_S_self hI.2.2.1) a 3 (z_W_at hc) rfl (z_inb_in h3) hdg (fun H1 locs1 hP1 hD1 hS1 => z_bound fun hb => z_kw k hl (z_wr (e1 := .inl (3, n, .inr (.inl (vp_updL f i.toNatClampNeg x)))) hI hP1 hD1 hS1 hb))
      · rw [Bool.eq_false_iff.mpr hb] at h; cases h
    · cases h
  · cases h
theorem z_s_dast (F : z_F sc D b0 sA cA r p l s m args meth c) (hdg : decode r.2.2.2.1 pc = .ok (.dastore, 1)) (h : z_dast pc ls st hp = some C) (k : z_K p l e R s m args below meth c Q D b0 aA sA cA nL n0 sl0 C) : z_K p l e R s m args below meth c Q D b0 aA sA cA nL n0 sl0 (pc, ls, st, hp) := by
  unfold z_dast at h
  split at h
  · rename_i x i a rr
    split at h
    · rename_i t0 n f hc
      by_cases hb : (Nat.beq t0 4 && z_inb i n) = true
      · rw [hb] at h
        obtain ⟨h2, h3⟩ := z_band hb
        subst h2
        cases h
        exact fun lsM H locs hl hI => va_dast F.1 F.2.1 F.2.2.2.2.2.2.2.2.2.2.1 hI.1 hI.2.1 (z_S_self hI.2.2.1) a 4 (z_W_at hc) rfl (z_inb_in h3) hdg (fun H1 locs1 hP1 hD1 hS1 => z_bound fun hb => z_kw k hl (z_wr (e1 := .inl (4, n, .inr (.inr (.inr (.inl (vf_upd f i.toNatClampNeg x)))))) hI hP1 hD1 hS1 hb))
      · rw [Bool.eq_false_iff.mpr hb] at h; cases h
    · cases h
  · cases h
theorem z_s_qald (F : z_F sc D b0 sA cA r p l s m args meth c) (hdg : decode r.2.2.2.1 pc = .ok (.aaload, 1)) (h : z_mk (pc + 1) ls hp (z_qald st hp) = some C) (k : z_K p l e R s m args below meth c Q D b0 aA sA cA nL n0 sl0 C) : z_K p l e R s m args below meth c Q D b0 aA sA cA nL n0 sl0 (pc, ls, st, hp) := by
  obtain ⟨st', h1, rfl⟩ := z_mk_eq h
  unfold z_qald at h1
  split at h1
  · rename_i i a rr
    split at h1
    · rename_i t0 n f hc
      by_cases hb : (Nat.beq t0 5 && z_inb i n) = true
      · rw [hb] at h1
        obtain ⟨h2, h3⟩ := z_band hb
        subst h2
        cases h1
        intro lsM H locs hl hI
        have hk := k lsM H locs hl hI
        have hv : z_V (z_ad aA sA) (va_rf (f i.toNatClampNeg)) = va_rf ((f i.toNatClampNeg).map (z_ad aA sA)) := by
          cases f i.toNatClampNeg <;> rfl
        have hk2 : W p l e R s m args below meth c H locs (z_n hp - n0) (hp.2.2 - sl0) Q (F0 m (pc + 1) lsM (va_rf ((f i.toNatClampNeg).map (z_ad aA sA)) :: rr.map (z_V (z_ad aA sA)))) := by
          rw [← hv]; exact hk
        exact va_aldq (C := RX7) (f := fun j => (f j).map (z_ad aA sA)) F.1 F.2.1 F.2.2.2.2.2.2.2.2.2.2.1 hI.1 a 5 (z_W_at hc) rfl (z_inb_in h3) hdg hk2
      · rw [Bool.eq_false_iff.mpr hb] at h1; cases h1
    · cases h1
  · cases h1
theorem z_s_qast (F : z_F sc D b0 sA cA r p l s m args meth c) (hdg : decode r.2.2.2.1 pc = .ok (.aastore, 1)) (h : z_qast pc ls st hp = some C) (k : z_K p l e R s m args below meth c Q D b0 aA sA cA nL n0 sl0 C) : z_K p l e R s m args below meth c Q D b0 aA sA cA nL n0 sl0 (pc, ls, st, hp) := by
  unfold z_qast at h
  split at h
  · rename_i v i a rr
    split at h
    · rename_i t0 n f c0 fs hc hcv
      by_cases hb : (Nat.beq t0 5 && (Nat.beq c0 7 && z_inb i n)) = true
      · rw [hb] at h
        obtain ⟨h2, h3⟩ := z_band hb
        obtain ⟨h4, h5⟩ := z_band h3
        subst h2
        subst h4
        cases h
        intro lsM H locs hl hI
        have he : z_E (z_ad aA sA) cA (.inl (5, n, .inr (.inr (.inr (.inr (va_up f i.toNatClampNeg (some v))))))) = .inl (cA 5, n, .inr (.inr (.inr (.inr (va_up (fun j => (f j).map (z_ad aA sA)) i.toNatClampNeg (some (z_ad aA sA v))))))) := by
          show Sum.inl (cA 5, n, Sum.inr (Sum.inr (Sum.inr (Sum.inr (fun j => (va_up f i.toNatClampNeg (some v) j).map (z_ad aA sA)))))) = _
          congr 7
          funext j
          unfold va_up
          by_cases hj : j = i.toNatClampNeg
          · rw [if_pos hj, if_pos hj]; rfl
          · rw [if_neg hj, if_neg hj]
        exact va_astq (f := fun j => (f j).map (z_ad aA sA)) F.1 F.2.1 F.2.2.2.2.2.2.2.2.2.2.1 hI.1 hI.2.1 (z_S_self hI.2.2.1) a 5 v 7 (z_W_at hc) rfl (z_W_at hcv) rfl (z_inb_in h5) hdg (fun H1 locs1 hP1 hD1 hS1 => z_bound fun hb => z_kw k hl (z_wr (e1 := .inl (5, n, .inr (.inr (.inr (.inr (va_up f i.toNatClampNeg (some v))))))) hI (by rw [he]; exact hP1) (by rw [he]; exact hD1) hS1 hb))
      · rw [Bool.eq_false_iff.mpr hb] at h; cases h
    · cases h
  · cases h
theorem z_A_len (ad : Nat → Nat) (x : vp_A) : (z_A ad x).1 = x.1 := by
  obtain ⟨n, x⟩ := x
  rcases x with x | x | x | x | x <;> rfl
theorem z_tys_at (cA : Nat → ClassId) {t : Nat} (h : t < 6) : (z_tys cA)[t]? = some (cA t, z_aty t) := by
  match t, h with
  | 0, _ => rfl
  | 1, _ => rfl
  | 2, _ => rfl
  | 3, _ => rfl
  | 4, _ => rfl
  | 5, _ => rfl
  | n + 6, h => omega
theorem z_s_len (F : z_F sc D b0 sA cA r p l s m args meth c) (hdg : decode r.2.2.2.1 pc = .ok (.arraylength, 1)) (h : z_mk (pc + 1) ls hp (z_len sc st hp) = some C) (k : z_K p l e R s m args below meth c Q D b0 aA sA cA nL n0 sl0 C) : z_K p l e R s m args below meth c Q D b0 aA sA cA nL n0 sl0 (pc, ls, st, hp) := by
  obtain ⟨st', h1, rfl⟩ := z_mk_eq h
  unfold z_len at h1
  split at h1
  · rename_i a rr
    split at h1
    · rename_i t0 x hc
      by_cases hb : Nat.blt t0 6 = true
      · rw [hb] at h1
        cases h1
        have hlt : t0 < 6 := Nat.lt_of_lt_of_le (Nat.lt_succ_self t0) (Nat.le_of_ble_eq_true hb)
        rcases z_hg_eq hc with ⟨rfl, hx⟩ | hc
        · cases hx
          exact fun lsM H locs hl hI => va_slen F.1 F.2.1 F.2.2.2.2.2.2.2.2.2.2.2.2.2.2.2.2.2.1 F.2.2.2.2.2.2.2.2.2.2.2.2.2.2.2.2.2.2.1 F.2.2.2.2.2.2.2.2.2.2.2.2.2.2.2.2.2.2.2 hI.2.2.1 hdg (k lsM H locs hl hI)
        exact fun lsM H locs hl hI => va_alen F.1 F.2.1 F.2.2.2.2.2.2.2.2.2.2.1 hI.1 a t0 (z_W_at hc) (z_tys_at cA hlt) (by rw [z_A_len]) hdg (k lsM H locs hl hI)
      · rw [Bool.eq_false_iff.mpr hb] at h1; cases h1
    · cases h1
  · cases h1
-- what is made
theorem z_al {e1 : va_E} {H H' : Heap} {locs : List Loc} {sl : Nat} (hw : z_hwf hp) (hI : z_I D b0 aA sA cA n0 sl0 s hp H locs) (hlen : hp.1.length < 999) (hcell : va_at D z_cl (H.size, z_E (z_ad (z_upA aA hp.1.length H.size) sA) cA e1) H') (hsz : H'.size = H.size + 1) (hold : ∀ q, q < H.size → H'[q]? = H[q]?) :
    z_I D b0 (z_upA aA hp.1.length H.size) sA cA n0 sl0 s (hp.1 ++ [e1], hp.2.1, hp.2.2 + sl) H' locs ∧ z_ad (z_upA aA hp.1.length H.size) sA hp.1.length = H.size ∧ z_n (hp.1 ++ [e1], hp.2.1, hp.2.2 + sl) - n0 = z_n hp - n0 + 1 ∧ hp.2.2 + sl - sl0 = hp.2.2 - sl0 + sl := by
  obtain ⟨i1, i2, i3, i4, i5, i6, i7⟩ := hI
  have had : z_ad (z_upA aA hp.1.length H.size) sA hp.1.length = H.size := by
    unfold z_ad z_upA
    rw [if_pos (by omega), if_pos rfl]
  have hWa := z_W_ag (aA := aA) (aA' := z_upA aA hp.1.length H.size) (sA := sA) (cA := cA) hw z_upA_ag
  have hn : z_n (hp.1 ++ [e1], hp.2.1, hp.2.2 + sl) = z_n hp + 1 := by
    unfold z_n
    rw [List.length_append]
    show hp.1.length + 1 + hp.2.1 = hp.1.length + hp.2.1 + 1
    omega
  have hk : ∀ (k : Nat) (x : Nat × va_E), (z_W (z_ad aA sA) cA hp.1)[k]? = some x → H'[x.1]? = H[x.1]? := fun k x hx => hold x.1 ((i1 k x hx).lt)
  refine ⟨⟨?_, ?_, ?_, ?_, i5, ?_, ?_⟩, had, ?_, ?_⟩
  · rw [z_W_push, had, hWa]
    refine (i1.kept hk).app (fun k x hx => ?_)
    have hz : k < 1 := (List.getElem?_eq_some_iff.mp hx).1
    rw [show k = 0 by omega] at hx
    cases hx
    exact hcell
  · rw [z_W_push, had, hWa]
    refine i2.push i1 rfl ?_
    show b0 ≤ H.size
    exact i4.2
  · exact ⟨Nat.le_trans i3.1 (by omega), fun x h1 h2 => (hold x (Nat.lt_of_lt_of_le h1 i3.1)).trans (i3.2.1 x h1 h2), i3.2.2⟩
  · rw [hn, hsz]
    omega
  · rw [hn]; omega
  · show sl0 ≤ hp.2.2 + sl
    omega
  · rw [hn]; omega
  · omega
theorem z_cb {t : Nat} (h : t < 5) {n : Nat} (hn : n < 100000) : n * componentBytes (z_aty t) ≤ 536870912 := by
  have h8 : componentBytes (z_aty t) ≤ 8 := by
    match t, h with
    | 0, _ => decide
    | 1, _ => decide
    | 2, _ => decide
    | 3, _ => decide
    | 4, _ => decide
    | n + 5, h => omega
  have : n * componentBytes (z_aty t) ≤ 100000 * 8 := Nat.mul_le_mul (by omega) h8
  omega
theorem z_new_cell {ad : Nat → Nat} {cA : Nat → ClassId} {t n : Nat} (h : t < 6) : z_E ad cA (z_new t n) = .inl (cA t, z_A ad (match z_new t n with | .inl q => q.2 | .inr _ => (0, .inl (fun _ => 0)))) ∧ vp_cell (cA t) (z_A ad (match z_new t n with | .inl q => q.2 | .inr _ => (0, .inl (fun _ => 0)))) = arrV (cA t) n (fun _ => defaultValue (z_aty t)) := by
  match t, h with
  | 0, _ => exact ⟨rfl, rfl⟩
  | 1, _ => exact ⟨rfl, rfl⟩
  | 2, _ => exact ⟨rfl, rfl⟩
  | 3, _ => exact ⟨rfl, rfl⟩
  | 4, _ => exact ⟨rfl, rfl⟩
  | 5, _ => exact ⟨rfl, rfl⟩
  | n + 6, h => omega
theorem z_RA {t : Nat} (h : t < 5) {U : State} {c1 : ClassId} (hr : va_RA U c1 (z_aty t)) : U.vm.findClass ("[" ++ (z_aty t).toString) = some c1 := by
  match t, h with
  | 0, _ => exact hr
  | 1, _ => exact hr
  | 2, _ => exact hr
  | 3, _ => exact hr
  | 4, _ => exact hr
  | n + 5, h => omega
theorem z_s_newa (F : z_F sc D b0 sA cA r p l s m args meth c) {at0 : ArrayType} {ax : List Nat} (hdg : decode r.2.2.2.1 pc = .ok (.newarray at0, 2)) (hck : z_ckA at0 ax = true) (h : z_mka ax (pc + 2) ls st hp = some C) (hRc : z_n C.2.2.2 - n0 ≤ R.cells) (hRs : C.2.2.2.2.2 - sl0 ≤ R.slots) (hw : z_hwf hp) (k : ∀ aA' : Nat → Nat, z_ag hp.1.length aA aA' → z_K p l e R s m args below meth c Q D b0 aA' sA cA nL n0 sl0 C) : z_K p l e R s m args below meth c Q D b0 aA sA cA nL n0 sl0 (pc, ls, st, hp) := by
  unfold z_mka at h
  split at h
  · rename_i t ax' n rr
    split at h
    · rename_i hc
      obtain ⟨hn0, hnb, hj, hlen, ht6⟩ := hc
      cases h
      match ax', hck with
      | [pl], hck =>
        simp only [z_ckA, Bool.and_eq_true, decide_eq_true_eq] at hck
        obtain ⟨ht5, hty, hat⟩ := hck
        intro lsM H locs hl hI
        have harr : (Jvm.Cond.arrayClass (newarray.typeOf at0)).before args s = true := by rw [hty]; exact F.2.2.2.2.2.1 _ (z_at_mem hat)
        obtain ⟨q1, q2⟩ := z_new_cell (ad := z_ad (z_upA aA hp.1.length H.size) sA) (cA := cA) (n := n.toNatClampNeg) ht6
        have hnn : z_n (hp.1 ++ [z_new t n.toNatClampNeg], hp.2.1, hp.2.2 + n.toNatClampNeg) = z_n hp + 1 := by
          unfold z_n
          rw [List.length_append]
          show hp.1.length + 1 + hp.2.1 = hp.1.length + hp.2.1 + 1
          omega
        have i6 : n0 ≤ z_n hp := hI.2.2.2.2.2.1
        have i7 : sl0 ≤ hp.2.2 := hI.2.2.2.2.2.2
        have hRc' : z_n hp + 1 - n0 ≤ R.cells := by rw [← hnn]; exact hRc
        have hRs' : hp.2.2 + n.toNatClampNeg - sl0 ≤ R.slots := hRs
        have hA1 : z_n hp - n0 + 1 ≤ R.cells := by omega
        have hA2 : hp.2.2 - sl0 + n.toNatClampNeg ≤ R.slots := by omega
        refine va_newaK F.1 F.2.1 harr rfl hdg rfl hn0 rfl (by rw [hty]; exact z_cb ht5 hnb) hA1 hA2 rfl fun H1 c1 e1 z1 o1 hAr hNm => ?_
        have hcA : c1 = cA t := by
          have h1 := z_RA ht5 (F.2.2.2.2.2.2.2.2.2.2.1.2 t _ (z_tys_at cA ht6)).2
          rw [hty, h1] at hNm
          exact (Option.some.inj hNm).symm
        subst hcA
        obtain ⟨g1, g2, g3, g4⟩ := z_al (e1 := z_new t n.toNatClampNeg) (sl := n.toNatClampNeg) hw hI hlen (by
          rw [q1]
          show H1[H.size]? = some (vp_cell _ _)
          rw [q2, ← hty]
          exact e1) z1 o1
        have hwf := hj
        unfold z_wfb at hwf
        rw [Bool.and_eq_true] at hwf
        have hk := k _ (z_upA_ag (a := H.size)) lsM H1 locs (by rw [z_L_ag z_upA_ag hwf.1]; exact hl) g1
        show W p l e R s m args below meth c H1 locs (z_n hp - n0 + 1) (hp.2.2 - sl0 + n.toNatClampNeg) Q (F0 m (pc + 2) lsM (.ref H.size :: rr.map (z_V (z_ad aA sA))))
        rw [← g3, ← g4, ← z_st_ag z_upA_ag hwf.2, ← g2]
        exact hk
      | [], hck => exact absurd hck Bool.false_ne_true
      | _ :: _ :: _, hck => exact absurd hck Bool.false_ne_true
    · cases h
  · cases h
end ZP3
end
section
section ZP4
variable {p : Program} {l : Launch} {e : Env} {R : Room} {s : State} {m : MethodId} {args : Array Value} {below : List Frame} {meth : Method} {c : Code} {Q : State → Prop} {D : va_G} {b0 : Nat} {aA sA : Nat → Nat} {cA : Nat → ClassId} {nL n0 sl0 : Nat} {r : z_Rec} {sc : Nat × (Nat → Int32)}
variable {pc : Nat} {ls : z_Ls} {st st' : List Value} {hp : z_H} {C : z_C}
theorem z_s_anew (F : z_F sc D b0 sA cA r p l s m args meth c) {idx : Nat} {ax : List Nat} (hdg : decode r.2.2.2.1 pc = .ok (.anewarray idx, 3)) (hck : z_ckQ r.1 idx ax = true) (h : z_mka ax (pc + 3) ls st hp = some C) (hRc : z_n C.2.2.2 - n0 ≤ R.cells) (hRs : C.2.2.2.2.2 - sl0 ≤ R.slots) (hw : z_hwf hp) (k : ∀ aA' : Nat → Nat, z_ag hp.1.length aA aA' → z_K p l e R s m args below meth c Q D b0 aA' sA cA nL n0 sl0 C) : z_K p l e R s m args below meth c Q D b0 aA sA cA nL n0 sl0 (pc, ls, st, hp) := by
  unfold z_mka at h
  split at h
  · rename_i t ax' n rr
    split at h
    · rename_i hc
      obtain ⟨hn0, hnb, hj, hlen, ht6⟩ := hc
      cases h
      have ht5 : t = 5 ∧ Jvm.Cond.classLink (z_own r.1) idx RX7 ∈ z_gt := by
        unfold z_ckQ at hck
        split at hck
        · rename_i p1 p2 he
          cases he
          exact ⟨rfl, z_at_mem hck⟩
        · cases hck
      obtain ⟨rfl, hlink⟩ := ht5
      intro lsM H locs hl hI
      have hnn : z_n (hp.1 ++ [z_new 5 n.toNatClampNeg], hp.2.1, hp.2.2 + n.toNatClampNeg) = z_n hp + 1 := by
        unfold z_n
        rw [List.length_append]
        show hp.1.length + 1 + hp.2.1 = hp.1.length + hp.2.1 + 1
        omega
      have i6 : n0 ≤ z_n hp := hI.2.2.2.2.2.1
      have i7 : sl0 ≤ hp.2.2 := hI.2.2.2.2.2.2
      have hRc' : z_n hp + 1 - n0 ≤ R.cells := by rw [← hnn]; exact hRc
      have hRs' : hp.2.2 + n.toNatClampNeg - sl0 ≤ R.slots := hRs
      have hA1 : z_n hp - n0 + 1 ≤ R.cells := by omega
      have hA2 : hp.2.2 - sl0 + n.toNatClampNeg ≤ R.slots := by omega
      have hover := F.2.2.2.2.2.2.2.2.2.2.2.2.1
      refine W.anew F.1 F.2.1 F.2.2.2.2.1 (F.2.2.2.2.2.1 _ hlink) (va_AO.use hover) rfl hdg rfl hn0 (by omega) hA1 hA2 fun c1 kA comp f1 f2 f3 f4 => ?_
      generalize hH1 : H.push ({ cls := c1, slots := Array.replicate n.toNatClampNeg .null, vm := .none } : Cell) = H1
      have z1 : H1.size = H.size + 1 := by rw [← hH1, Array.size_push]
      have e1 : H1[H.size]? = some (arrV c1 n.toNatClampNeg (fun _ => .null)) := by rw [← hH1, Array.getElem?_push_size, ← arrV_new]
      have o1 : ∀ q : Nat, q < H.size → H1[q]? = H[q]? := fun q hq => by rw [← hH1, Array.getElem?_push, if_neg (Nat.ne_of_lt hq)]
      have hcA : c1 = cA 5 := by
        obtain ⟨kB, comB, g1, g2, g3, g4⟩ := (F.2.2.2.2.2.2.2.2.2.2.1.2 5 _ (z_tys_at cA (t := 5) (by omega))).2
        exact Option.some.inj (f1.symm.trans g4)
      subst hcA
      obtain ⟨q1, q2⟩ := z_new_cell (ad := z_ad (z_upA aA hp.1.length H.size) sA) (cA := cA) (n := n.toNatClampNeg) (t := 5) (by omega)
      obtain ⟨g1, g2, g3, g4⟩ := z_al (e1 := z_new 5 n.toNatClampNeg) (sl := n.toNatClampNeg) hw hI hlen (by
        rw [q1]
        show H1[H.size]? = some (vp_cell _ _)
        rw [q2]
        exact e1) z1 o1
      have hwf := hj
      unfold z_wfb at hwf
      rw [Bool.and_eq_true] at hwf
      have hk := k _ (z_upA_ag (a := H.size)) lsM H1 locs (by rw [z_L_ag z_upA_ag hwf.1]; exact hl) g1
      show W p l e R s m args below meth c H1 locs (z_n hp - n0 + 1) (hp.2.2 - sl0 + n.toNatClampNeg) Q (F0 m (pc + 3) lsM (.ref H.size :: rr.map (z_V (z_ad aA sA))))
      rw [← g3, ← g4, ← z_st_ag z_upA_ag hwf.2, ← g2]
      exact hk
    · cases h
  · cases h
theorem z_defs : ∀ (ci : Nat) (C : String) (T : u_T) (N : Nat), z_cl[ci]? = some (C, T, N) → ∀ j, j < N → defaultValue (z_ty ci j) = z_def (z_ty ci j) := by
  intro ci C T N h
  match ci, h with
  | 0, h => cases h; decide +kernel
  | 1, h => cases h; decide +kernel
  | 2, h => cases h; decide +kernel
  | 3, h => cases h; decide +kernel
  | 4, h => cases h; decide +kernel
  | 5, h => cases h; decide +kernel
  | 6, h => cases h; decide +kernel
  | 7, h => cases h; decide +kernel
  | 8, h => cases h; decide +kernel
  | 9, h => cases h; decide +kernel
  | n + 10, h => exact absurd (List.getElem?_eq_some_iff.mp h).1 (by show ¬ n + 10 < 10; omega)
theorem z_def_V (ad : Nat → Nat) (t : FieldType) : z_V ad (z_def t) = z_def t := by cases t <;> rfl
theorem z_s_newo (F : z_F sc D b0 sA cA r p l s m args meth c) {idx : Nat} {ax : List Nat} (hdg : decode r.2.2.2.1 pc = .ok (.new idx, 3)) (hck : z_ckN r.1 idx ax = true) (h : z_mko ax pc ls st hp = some C) (hRc : z_n C.2.2.2 - n0 ≤ R.cells) (hRs : C.2.2.2.2.2 - sl0 ≤ R.slots) (hw : z_hwf hp) (k : ∀ aA' : Nat → Nat, z_ag hp.1.length aA aA' → z_K p l e R s m args below meth c Q D b0 aA' sA cA nL n0 sl0 C) : z_K p l e R s m args below meth c Q D b0 aA sA cA nL n0 sl0 (pc, ls, st, hp) := by
  unfold z_mko at h
  split at h
  · rename_i ci N ax'
    split at h
    · rename_i hc
      obtain ⟨hj, hlen⟩ := hc
      cases h
      have hq : ∃ (CC : String) (T : u_T), z_cl[ci]? = some (CC, T, N) ∧ Jvm.Cond.classLink (z_own r.1) idx CC ∈ z_gt ∧ Jvm.Cond.instantiable CC N ∈ z_gt ∧ Jvm.Cond.initialized CC ∈ z_gt := by
        match ax', hck with
        | [p1, p2, p3], hck =>
          dsimp only [z_ckN] at hck
          split at hck
          · rename_i CC T N' hcl
            simp only [Bool.and_eq_true, decide_eq_true_eq] at hck
            obtain ⟨h1, h2, h3, h4⟩ := hck
            subst h1
            exact ⟨CC, T, hcl, z_at_mem h2, z_at_mem h3, z_at_mem h4⟩
          · cases hck
        | [], hck => exact absurd hck Bool.false_ne_true
        | [_], hck => exact absurd hck Bool.false_ne_true
        | [_, _], hck => exact absurd hck Bool.false_ne_true
        | _ :: _ :: _ :: _ :: _, hck => exact absurd hck Bool.false_ne_true
      obtain ⟨CC, T, hcl, w1, w2, w3⟩ := hq
      intro lsM H locs hl hI
      have hKn := F.2.2.2.2.2.2.2.2.2.2.1.1 ci _ hcl
      have hnn : z_n (hp.1 ++ [.inr (ci, (List.range N).map (fun j => z_def (z_ty ci j)))], hp.2.1, hp.2.2 + N) = z_n hp + 1 := by
        unfold z_n
        rw [List.length_append]
        show hp.1.length + 1 + hp.2.1 = hp.1.length + hp.2.1 + 1
        omega
      have i6 : n0 ≤ z_n hp := hI.2.2.2.2.2.1
      have i7 : sl0 ≤ hp.2.2 := hI.2.2.2.2.2.2
      have hRc' : z_n hp + 1 - n0 ≤ R.cells := by rw [← hnn]; exact hRc
      have hRs' : hp.2.2 + N - sl0 ≤ R.slots := hRs
      have hA1 : z_n hp - n0 + 1 ≤ R.cells := by omega
      have hA2 : hp.2.2 - sl0 + N ≤ R.slots := by omega
      refine W.newcK F.1 F.2.1 F.2.2.2.2.1 (F.2.2.2.2.2.1 _ w1) (F.2.2.2.2.2.1 _ w2) (F.2.2.2.2.2.1 _ w3) rfl hdg hA1 hA2 hKn.2.1 rfl fun H1 kC hkC e1 z1 o1 => ?_
      have hcell : va_at D z_cl (H.size, z_E (z_ad (z_upA aA hp.1.length H.size) sA) cA (.inr (ci, (List.range N).map (fun j => z_def (z_ty ci j))))) H1 := by
        refine ⟨_, hcl, (u_born (z_ty ci) F.2.2.2.2.2.1 (z_lays _ _ _ _ hcl) hKn hkC e1 (z_clty _ _ _ _ hcl).1).to (fun j hj => ?_)⟩
        show defaultValue (z_ty ci j) = (((List.range N).map (fun j => z_def (z_ty ci j))).map (z_V (z_ad (z_upA aA hp.1.length H.size) sA))).getD j .null
        rw [z_defs _ _ _ _ hcl j hj, List.getD_eq_getElem?_getD, List.getElem?_map, List.getElem?_map, List.getElem?_range hj]
        show z_def (z_ty ci j) = z_V (z_ad (z_upA aA hp.1.length H.size) sA) (z_def (z_ty ci j))
        rw [z_def_V]
      obtain ⟨g1, g2, g3, g4⟩ := z_al (e1 := .inr (ci, (List.range N).map (fun j => z_def (z_ty ci j)))) (sl := N) hw hI hlen hcell z1 o1
      have hwf := hj
      unfold z_wfb at hwf
      rw [Bool.and_eq_true] at hwf
      have hk := k _ (z_upA_ag (a := H.size)) lsM H1 locs (by rw [z_L_ag z_upA_ag hwf.1]; exact hl) g1
      show W p l e R s m args below meth c H1 locs (z_n hp - n0 + 1) (hp.2.2 - sl0 + N) Q (F0 m (pc + 3) lsM (.ref H.size :: st.map (z_V (z_ad aA sA))))
      rw [← g3, ← g4, ← z_st_ag z_upA_ag hwf.2, ← g2]
      exact hk
    · cases h
  · cases h
theorem z_s_ldc (F : z_F sc D b0 sA cA r p l s m args meth c) {idx : Nat} {ax : List Nat} (hdg : decode r.2.2.2.1 pc = .ok (.ldc idx, 2)) (hck : z_ckC r.1 idx ax = true) (h : z_mk (pc + 2) ls hp (z_ldc ax st) = some C) (k : z_K p l e R s m args below meth c Q D b0 aA sA cA nL n0 sl0 C) : z_K p l e R s m args below meth c Q D b0 aA sA cA nL n0 sl0 (pc, ls, st, hp) := by
  obtain ⟨st', h1, rfl⟩ := z_mk_eq h
  unfold z_ldc at h1
  split at h1
  · rename_i pl v
    cases h1
    exact fun lsM H locs hl hI => lv_ldc F.1 F.2.1 F.2.2.2.2.1 (F.2.2.2.2.2.1 _ (z_at_mem (p := pl) hck)) hdg (k lsM H locs hl hI)
  · rename_i j
    cases h1
    simp only [z_ckC, Bool.and_eq_true, decide_eq_true_eq] at hck
    obtain ⟨h1, h2, h3⟩ := hck
    intro lsM H locs hl hI
    have hown : s.vm.findClass (z_scl j) = some m.cls := by
      have := F.2.2.2.2.1
      rw [h1] at this
      exact this
    subst h3
    have hk := k lsM H locs hl hI
    have had : z_ad aA sA (1000 + j) = sA j := by
      unfold z_ad
      rw [if_neg (by omega), Nat.add_sub_cancel_left]
    have hk2 : W p l e R s m args below meth c H locs (z_n hp - n0) (hp.2.2 - sl0) Q (F0 m (pc + 2) lsM (.ref (sA j) :: st.map (z_V (z_ad aA sA)))) := by
      rw [← had]; exact hk
    exact va_ldcS (own := z_scl j) F.1 F.2.1 hown (F.2.2.2.2.2.2.2.2.2.2.2.2.2.2.2.1.1 j h2) hdg hk2
  · cases h1
theorem z_s_objI (F : z_F sc D b0 sA cA r p l s m args meth c) (hnL : r.2.2.2.2.1 = nL) {idx : Nat} {ax : List Nat} {d : Nat} (hd1 : d ≤ R.frames) (hd2 : 46 * d ≤ R.locals) (hdg : decode r.2.2.2.1 pc = .ok (.invokespecial idx, 3)) (hck : z_ckI 2 r.1 idx (6 :: ax) = true) (h : z_jo d pc ls st hp = some C) (k : z_K p l e R s m args below meth c Q D b0 aA sA cA nL n0 sl0 C) : z_K p l e R s m args below meth c Q D b0 aA sA cA nL n0 sl0 (pc, ls, st, hp) := by
  unfold z_jo at h
  split at h
  · rename_i a rr
    split at h
    · rename_i hc
      cases h
      have hq : Jvm.Cond.methodLink (z_own r.1) idx Lib.objectInit ∈ z_gt ∧ Jvm.Cond.instanceMethod Lib.objectInit ∈ z_gt ∧ Jvm.Cond.code Lib.objectInit ⟨#[0xb1]⟩ 1 none ∈ z_gt := by
        unfold z_ckI at hck
        split at hck
        · rename_i he
          cases he
          split at hck
          · simp at hck
          · cases hck
        · rename_i p1 p2 p3 he
          cases he
          simp only [Bool.and_eq_true, decide_eq_true_eq] at hck
          exact ⟨z_at_mem hck.2.1, z_at_mem hck.2.2.1, z_at_mem hck.2.2.2⟩
        · rename_i he; cases he
        · rename_i he; cases he
        · rename_i he; cases he
        · rename_i he; cases he
        · cases hck
      intro lsM H locs hl hI
      refine W.objInit F.1 F.2.1 F.2.2.2.2.1 (F.2.2.2.2.2.1 _ hq.1) (F.2.2.2.2.2.1 _ hq.2.1) (F.2.2.2.2.2.1 _ hq.2.2) rfl (by rw [F.2.2.2.1, hnL]; exact hl.1) rfl hdg (by omega) ?_ (k lsM H locs hl hI)
      have h8 : 2 * (F0 m pc lsM ((Value.ref a :: rr).map (z_V (z_ad aA sA)))).monitorRoom + ((rr.map (z_V (z_ad aA sA))).map fun v => v.category).sum ≤ 8 := lv_room (by rw [z_cat_map]; exact hc.2)
      show 2 * (F0 m pc lsM ((Value.ref a :: rr).map (z_V (z_ad aA sA)))).monitorRoom + ((rr.map (z_V (z_ad aA sA))).map fun v => v.category).sum + 12 ≤ R.locals
      omega
    · cases h
  · cases h
theorem z_s_copy (F : z_F sc D b0 sA cA r p l s m args meth c) (hnL : r.2.2.2.2.1 = nL) {idx : Nat} {ax : List Nat} {d : Nat} (hd1 : d ≤ R.frames) (hd2 : 46 * d ≤ R.locals) (hdg : decode r.2.2.2.1 pc = .ok (.invokestatic idx, 3)) (hck : z_ckI 1 r.1 idx (7 :: ax) = true) (h : z_jc d pc ls st hp = some C) (k : z_K p l e R s m args below meth c Q D b0 aA sA cA nL n0 sl0 C) : z_K p l e R s m args below meth c Q D b0 aA sA cA nL n0 sl0 (pc, ls, st, hp) := by
  unfold z_jc at h
  split at h
  · rename_i hc8
    unfold z_cpy at h
    split at h
    · rename_i n dp a sp b rr
      split at h
      · rename_i t0 n0' f t1 n1 g hcb hca
        split at h
        · rename_i hc
          obtain ⟨rfl, rfl, h1, h2, h3, h4, h5⟩ := hc
          cases h
          have hq : Jvm.Cond.methodLink (z_own r.1) idx arraycopyName ∈ z_gt ∧ Jvm.Cond.native arraycopyName ∈ z_gt ∧ Jvm.Cond.static arraycopyName ∈ z_gt ∧ Jvm.Cond.initialized "java/lang/System" ∈ z_gt := by
            unfold z_ckI at hck
            split at hck
            · rename_i he
              cases he
              split at hck
              · simp at hck
              · cases hck
            · rename_i he; cases he
            · rename_i p1 p2 p3 p4 he
              cases he
              simp only [Bool.and_eq_true, decide_eq_true_eq] at hck
              exact ⟨z_at_mem hck.2.1, z_at_mem hck.2.2.1, z_at_mem hck.2.2.2.1, z_at_mem hck.2.2.2.2⟩
            · rename_i he; cases he
            · rename_i he; cases he
            · rename_i he; cases he
            · cases hck
          intro lsM H locs hl hI
          have hrr : z_cat rr ≤ 8 := by
            have := hc8.2
            unfold z_cat at this ⊢
            simp only [List.map_cons, List.sum_cons] at this
            omega
          refine va_copyi F.1 F.2.1 (by rw [F.2.2.2.1, hnL]; exact hl.1.symm) F.2.2.2.2.1 (F.2.2.2.2.2.1 _ hq.1) (F.2.2.2.2.2.1 _ hq.2.1) (F.2.2.2.2.2.1 _ hq.2.2.1) (F.2.2.2.2.2.1 _ hq.2.2.2) F.2.2.2.2.2.2.2.2.2.2.1 hI.1 hI.2.1 (z_S_self hI.2.2.1) b a 0 0 (z_W_at hcb) (z_W_at hca) rfl rfl rfl h1 h2 h3 h4 h5 (fun _ _ => rfl) (by omega) ?_ hdg (fun H1 locs1 hP1 hD1 hS1 => z_bound fun hb => z_kw k hl (z_wr (e1 := .inl (0, n1, .inl (va_cpy f g sp.toNatClampNeg dp.toNatClampNeg n.toNatClampNeg))) hI hP1 hD1 hS1 hb))
          have hw : nativeFrameWords "java/lang/System" "arraycopy" 5 + 11 ≤ 30 := by decide
          have hz := z_cat_map (z_ad aA sA) rr
          omega
        · cases h
      · cases h
    · cases h
  · cases h
end ZP4
end
section
/-! The interpreter with calls, ends and throws. -/
section ZX
/-- an instruction's length; 0: any -/
def z_ln (i : Instr) : Nat := match i with
  | .tableswitch .. | .lookupswitch .. => 0
  | .bipush _ | .ldc _ | .iload _ | .aload _ | .fload _ | .dload _ | .istore _ | .astore _ | .fstore _ | .dstore _ | .newarray _ => 2
  | .sipush _ | .iinc .. | .ifCond .. | .if_icmp .. | .goto _ | .ifnull _ | .getfield _ | .putfield _ | .anewarray _ | .new _ | .invokespecial _ | .invokestatic _ | .invokevirtual _ => 3
  | _ => 1
def z_lok (i : Instr) (len : Nat) : Bool := Nat.beq (z_ln i) len || Nat.beq (z_ln i) 0
/-- what a method ends with -/
def z_fin (ret : Option FieldType) (i : Instr) (st : List Value) : Option (Option Value) := match i with
  | .ireturn => match st, ret with
    | [.int x], some t => if narrow t (.int x) = .int x then some (some (.int x)) else none
    | _, _ => none
  | .freturn => match st, ret with
    | [.float x], some .float => some (some (.float x))
    | _, _ => none
  | .areturn => match st, ret with
    | [.ref x], some (.object _) => some (some (.ref x))
    | _, _ => none
  | .dreturn => match st, ret with
    | [.double x], some .double => some (some (.double x))
    | _, _ => none
  | .return_ => match st, ret with
    | [], none => some none
    | _, _ => none
  | _ => none
/-- 0: within the frame, 1: an end, 2: an exception made and thrown, 3: a call -/
def z_kd (i : Instr) (ax : List Nat) : Nat := match i with
  | .ireturn | .freturn | .dreturn | .areturn | .return_ => 1
  | .new _ => match ax with
    | [_] => 2
    | _ => 0
  | .invokespecial _ | .invokestatic _ | .invokevirtual _ => match ax with
    | [_, _, _, _, _, _, _, _] => 3
    | _ => 0
  | _ => 0
def z_xl : Nat → Nat × Nat
  | 0 => (216, 218) | 1 => (179, 181) | 2 => (308, 310) | 3 => (243, 245) | 4 => (281, 283) | _ => (325, 327)
def z_isI (l : List z_En) (pc : Nat) (i : Instr) (n : Nat) : Bool := match z_find l pc with
  | some (j, m, _) => decide (j = i) && Nat.beq m n
  | none => false
def z_thr (r : z_Rec) (d pc : Nat) (i : Instr) (ax : List Nat) (st : List Value) (hp : z_H) : Option (Nat × z_H) := match ax with
  | [e] => bif Nat.ble 100 e && (Nat.blt e 106 && (Nat.beq r.1 9 && (r.2.2.2.2.2.2.1.isEmpty && (st.isEmpty && (Nat.ble 6 d && (decide (i = .new (z_xl (e - 100)).1) && (z_isI r.2.2.2.2.2.2.2.2 (pc + 3) .dup 1 && (z_isI r.2.2.2.2.2.2.2.2 (pc + 4) (.invokespecial (z_xl (e - 100)).2) 3 && z_isI r.2.2.2.2.2.2.2.2 (pc + 7) .athrow 1)))))))) then some (e - 100, (hp.1, hp.2.1 + 1, hp.2.2 + 6)) else none
  | _ => none
/-- the arguments of a call, and what stays on the stack -/
def z_args (kd n : Nat) (st : List Value) : Option (List Value × List Value) := bif Nat.ble n st.length then
    (match kd with
      | 0 | 3 | 4 => match st.drop n with
        | .ref b :: rr => some (.ref b :: (st.take n).reverse, rr)
        | _ => none
      | _ => some ((st.take n).reverse, st.drop n))
  else none
/-- the receiver is of the method's class -/
def z_rcv (kd c : Nat) (as : List Value) (hp : z_H) : Bool := match kd with
  | 0 => match as with
    | .ref b :: _ => match hp.1[b]? with
      | some (.inr (c', _)) => Nat.beq c' c
      | _ => false
    | _ => false
  | _ => true
/-- the classes that the law's handlers name, as exceptions -/
def z_xc : Nat → Option Nat
  | 92 => some 0 | 94 => some 1 | 96 => some 2 | 98 => some 3 | 261 => some 5 | _ => none
/-- none: not known; some none: not caught here -/
def z_hd (own : Nat) (pc E : Nat) : List (Nat × Nat × Nat × Nat) → Option (Option Nat)
  | [] => some none
  | (a, b, h, t) :: l => bif Nat.ble a pc && Nat.blt pc b then (bif Nat.beq own 11 then (match z_xc t with
      | some e => bif Nat.beq e E then some (some h) else z_hd own pc E l
      | none => none) else none) else z_hd own pc E l
/-- a handler's first instruction lays the exception aside -/
def z_hs (i : Instr) : Option Nat := match i with
  | .astore k => some k
  | .astore_n k => some (k : Nat)
  | _ => none
def z_rm (ls : z_Ls) (i : Nat) : z_Ls := ls.filter (fun q => !(q.1 == i) && !(q.1 + 1 == i && q.2.category == 2))
def z_ex (sc : Nat × (Nat → Int32)) : Nat → Nat → Nat → Nat → z_Ls → List Value → z_H → Option (z_R × z_H)
  | 0, _, _, _, _, _, _ => none
  | f + 1, d, k, pc, ls, st, hp => match z_rec k with
    | none => none
    | some r => match z_find r.2.2.2.2.2.2.2.2 pc with
      | none => none
      | some (i, len, ax) => bif z_lok i len then
        (match z_kd i ax with
        | 0 => match z_loc sc d r.2.2.2.2.1 i ax pc ls st hp with
          | some C => z_ex sc f d k C.1 C.2.1 C.2.2.1 C.2.2.2
          | none => none
        | 1 => match z_fin r.2.2.2.2.2.1 i st with
          | some v => some (.inl v, hp)
          | none => none
        | 2 => match z_thr r d pc i ax st hp with
          | some x => some (.inr x.1, x.2)
          | none => none
        | _ => match ax with
          | kd :: k2 :: n :: _ => match z_rec k2, z_args kd n st with
            | some r2, some (as, rr) => bif Nat.ble 1 d && (Nat.ble (lg_sl as).length r2.2.2.2.2.1 && (Nat.ble r2.2.2.2.2.1 20 && (Nat.ble (z_cat rr) 8 && (z_rcv kd r2.1 as hp && (Nat.beq kd 5 || r2.2.2.2.2.2.2.1.isEmpty))))) then
              (match z_ex sc f (d - 1) k2 0 (lv_args 0 as) [] hp with
              | some (.inl v, hp') => bif z_cok hp hp' ls rr v then z_ex sc f d k (pc + 3) ls (v.toList ++ rr) hp' else none
              | some (.inr E, hp') => bif Nat.ble kd 1 then (match z_hd r.1 pc E r.2.2.2.2.2.2.1 with
                | some none => some (.inr E, hp')
                | some (some h) => match z_find r.2.2.2.2.2.2.2.2 h with
                  | some (j, m, _) => match z_hs j with
                    | some x => bif z_lok j m && (Nat.blt x r.2.2.2.2.1 && z_cok hp hp' (z_rm ls x) [] none) then z_ex sc f d k (h + m) (z_rm ls x) [] hp' else none
                    | none => none
                  | none => none
                | none => none) else none
              | none => none)
              else none
            | _, _ => none
          | _ => none)
        else none
end ZX
end
section
/-! String.length and String.charAt, on the String constants. -/
section ZSTR
section
variable {p : Program} {l : Launch} {e : Env} {R : Room} {s : State} {m : MethodId} {args : Array Value} {below : List Frame} {meth : Method} {c : Code} {Q : State → Prop}
theorem j_ofM {y : MethodName} {ws ws' : List Jvm.Cond} {rm : Room} {Pc : Array Value → State → Prop} {Qc : Array Value → State → Outcome → State → Prop} {mc ms : Nat} {free : Addr → Prop} {cc : ByteArray} {maxL : Nat} {ret : Option FieldType}
    (hy : plainFor y = true) (hw : ws = Jvm.Cond.code y cc maxL ret :: ws')
    (body : ∀ p e s m args below meth c s₁, BodyLoose p l y (headSpec ws rm) cc maxL ret e s m args below meth c s₁ → c.maxLocals = maxL → Pc args s →
      W p l e (headSpec ws rm).room s m args below meth c s.heap [] 0 0 (MQ below Qc args s mc ms free) (entryFrame m args maxL)) : Met l y ws rm Pc Qc mc ms free := by
  refine MetFree.of_bodySF (code := cc) (maxLocals := maxL) (ret := ret) hy ?_ ?_
  · intro args s m h hn
    obtain ⟨meth, c, h1, h2, h3, h4, h5, h6, -, -⟩ := Cond.code_spec hn (atoms_spec (ws := ws) h _ (by rw [hw]; exact List.mem_cons_self))
    exact ⟨meth, c, h1, h2, h3, h4, h5, h6⟩
  · intro p e s m args below meth c s₁ B hml hP _
    have hh0 : s₁.heap = s.heap := by rw [B.state]; rfl
    obtain ⟨t, a1, o, b1, b2, b3⟩ := body p e s m args below meth c s₁ B hml hP s₁ hh0 (Stand.of_body B)
    exact ⟨t, o, a1, b1, b2, ⟨b3.1, b3.2⟩⟩
/-- such a callee writes nothing -/
def j_Q (v : Option Value) : Array Value → State → Outcome → State → Prop := fun _ st o t => o = .returned v ∧ t.heap = st.heap
theorem j_run {pc : Nat} {H : Heap} {locs : List Loc} {cells slots : Nat} {ls : Array Slot} {st0 rest : List Value} {v : Option Value} {a : Array Value} (hr : va_Run p l e R s m args below meth c H locs cells slots 0 0 (F0 m pc ls st0) rest (j_Q v a) (fun _ => False)) (kk : W p l e R s m args below meth c H locs cells slots Q (F0 m (pc + 3) ls (v.toList ++ rest))) : W p l e R s m args below meth c H locs cells slots Q (F0 m pc ls st0) := by
  intro T hT X
  obtain ⟨v', st₀, t, T', L, h0, X', hL, e1, e2, ⟨hv, hh⟩, stp⟩ := hr T hT X
  cases hv
  have hn : L = [] := List.eq_nil_iff_forall_not_mem.mpr (fun q hq => hL q hq)
  subst hn
  rw [List.append_nil] at X'
  obtain ⟨t2, a1, b1⟩ := kk T' (by rw [e1, hh, h0]) X'
  exact ⟨t2, stp t2 a1, b1⟩
theorem j_good (w : Jvm.Cond) (h : w ∈ z_gt) : w ∈ z_gt ∧ ((w.onTables && w.keeps) = true ∨ ∃ ty, w = .arrayClass ty) := ⟨h, good_of_word (List.mem_filter.mp h).2⟩
theorem j_goodl {ws : List Jvm.Cond} (h : ∀ w ∈ ws, w ∈ z_gt) : GoodIn z_gt ws := fun w hw => j_good w (h w hw)
end
def j_len : MethodName := ⟨"java/lang/String", "length", "()I"⟩
def j_cod : MethodName := ⟨"java/lang/String", "coder", "()B"⟩
def j_chr : MethodName := ⟨"java/lang/String", "charAt", "(I)C"⟩
def j_lat : MethodName := ⟨"java/lang/String", "isLatin1", "()Z"⟩
def j_chk : MethodName := ⟨"java/lang/String", "checkIndex", "(II)V"⟩
def j_lch : MethodName := ⟨"java/lang/StringLatin1", "charAt", "([BI)C"⟩
def j_pre : MethodName := ⟨"jdk/internal/util/Preconditions", "checkIndex", "(IILjava/util/function/BiFunction;)I"⟩
abbrev j_BF : String := "Ljava/util/function/BiFunction;"
def j_ws (y : MethodName) (cc : ByteArray) (n : Nat) (ret : Option FieldType) : List Jvm.Cond := Jvm.Cond.code y cc n ret :: z_gt
theorem j_ws_in {y : MethodName} {cc : ByteArray} {n : Nat} {ret : Option FieldType} (h : Jvm.Cond.code y cc n ret ∈ z_gt) : ∀ w ∈ j_ws y cc n ret, w ∈ z_gt := fun w hw => by
  rcases List.mem_cons.mp hw with rfl | hw
  · exact h
  · exact hw
theorem j_w1 : Jvm.Cond.methodLink RX0 77 j_len ∈ z_gt := z_at_mem (p := 4182) (by decide +kernel)
theorem j_w33 : Jvm.Cond.methodLink RL 7 j_len ∈ z_gt := z_at_mem (p := 5099) (by decide +kernel)
theorem j_w34 : Jvm.Cond.methodLink RL 13 j_chr ∈ z_gt := z_at_mem (p := 5100) (by decide +kernel)
theorem j_w2 : Jvm.Cond.instanceMethod j_len ∈ z_gt := z_at_mem (p := 4183) (by decide +kernel)
theorem j_w3 : Jvm.Cond.selects "java/lang/String" j_len j_len ∈ z_gt := z_at_mem (p := 4184) (by decide +kernel)
theorem j_w4 : Jvm.Cond.code j_len prog_24_method_54_code 1 (some .int) ∈ z_gt := z_at_mem (p := 4185) (by decide +kernel)
theorem j_w5 : Jvm.Cond.methodLink "java/lang/String" 335 j_cod ∈ z_gt := z_at_mem (p := 4186) (by decide +kernel)
theorem j_w6 : Jvm.Cond.instanceMethod j_cod ∈ z_gt := z_at_mem (p := 4187) (by decide +kernel)
theorem j_w7 : Jvm.Cond.selects "java/lang/String" j_cod j_cod ∈ z_gt := z_at_mem (p := 4188) (by decide +kernel)
theorem j_w8 : Jvm.Cond.code j_cod prog_24_method_152_code 1 (some .byte) ∈ z_gt := z_at_mem (p := 4189) (by decide +kernel)
theorem j_w9 : Jvm.Cond.fieldLink "java/lang/String" 38 "java/lang/String" "COMPACT_STRINGS" "Z" ∈ z_gt := z_at_mem (p := 4190) (by decide +kernel)
theorem j_w10 : Jvm.Cond.methodLink RX0 81 j_chr ∈ z_gt := z_at_mem (p := 4192) (by decide +kernel)
theorem j_w11 : Jvm.Cond.instanceMethod j_chr ∈ z_gt := z_at_mem (p := 4193) (by decide +kernel)
theorem j_w12 : Jvm.Cond.selects "java/lang/String" j_chr j_chr ∈ z_gt := z_at_mem (p := 4194) (by decide +kernel)
theorem j_w13 : Jvm.Cond.code j_chr prog_24_method_56_code 2 (some .char) ∈ z_gt := z_at_mem (p := 4195) (by decide +kernel)
theorem j_w14 : Jvm.Cond.methodLink "java/lang/String" 492 j_lat ∈ z_gt := z_at_mem (p := 4196) (by decide +kernel)
theorem j_w15 : Jvm.Cond.instanceMethod j_lat ∈ z_gt := z_at_mem (p := 4197) (by decide +kernel)
theorem j_w16 : Jvm.Cond.selects "java/lang/String" j_lat j_lat ∈ z_gt := z_at_mem (p := 4198) (by decide +kernel)
theorem j_w17 : Jvm.Cond.code j_lat prog_24_method_154_code 1 (some .boolean) ∈ z_gt := z_at_mem (p := 4199) (by decide +kernel)
theorem j_w18 : Jvm.Cond.methodLink "java/lang/String" 495 j_lch ∈ z_gt := z_at_mem (p := 4200) (by decide +kernel)
theorem j_w19 : Jvm.Cond.static j_lch ∈ z_gt := z_at_mem (p := 4201) (by decide +kernel)
theorem j_w20 : Jvm.Cond.code j_lch prog_25_method_2_code 2 (some .char) ∈ z_gt := z_at_mem (p := 4202) (by decide +kernel)
theorem j_w21 : Jvm.Cond.methodLink "java/lang/StringLatin1" 9 j_chk ∈ z_gt := z_at_mem (p := 4203) (by decide +kernel)
theorem j_w22 : Jvm.Cond.static j_chk ∈ z_gt := z_at_mem (p := 4204) (by decide +kernel)
theorem j_w23 : Jvm.Cond.code j_chk prog_24_method_155_code 2 none ∈ z_gt := z_at_mem (p := 4205) (by decide +kernel)
theorem j_w24 : Jvm.Cond.fieldLink "java/lang/String" 1053 "jdk/internal/util/Preconditions" "SIOOBE_FORMATTER" j_BF ∈ z_gt := z_at_mem (p := 4206) (by decide +kernel)
theorem j_w25 : Jvm.Cond.methodLink "java/lang/String" 1059 j_pre ∈ z_gt := z_at_mem (p := 4208) (by decide +kernel)
theorem j_w26 : Jvm.Cond.static j_pre ∈ z_gt := z_at_mem (p := 4209) (by decide +kernel)
theorem j_w27 : Jvm.Cond.code j_pre prog_33_method_11_code 3 (some .int) ∈ z_gt := z_at_mem (p := 4210) (by decide +kernel)
theorem j_w28 : Jvm.Cond.fieldLink "java/lang/String" 9 "java/lang/String" "value" "[B" ∈ z_gt := z_at_mem (p := 5233) (by decide +kernel)
theorem j_w29 : Jvm.Cond.fieldLink "java/lang/String" 15 "java/lang/String" "coder" "B" ∈ z_gt := z_at_mem (p := 5234) (by decide +kernel)
theorem j_w30 : Jvm.Cond.initialized "java/lang/String" ∈ z_gt := z_at_mem (p := 1017) (by decide +kernel)
theorem j_w31 : Jvm.Cond.initialized "java/lang/StringLatin1" ∈ z_gt := z_at_mem (p := 1022) (by decide +kernel)
theorem j_w32 : Jvm.Cond.initialized "jdk/internal/util/Preconditions" ∈ z_gt := z_at_mem (p := 1023) (by decide +kernel)
theorem jd_cod_0 : decode prog_24_method_152_code 0 = .ok (.getstatic 38, 3) := by decide +kernel
theorem jd_cod_3 : decode prog_24_method_152_code 3 = .ok (.ifCond .eq 10, 3) := by decide +kernel
theorem jd_cod_6 : decode prog_24_method_152_code 6 = .ok (.aload_n 0, 1) := by decide +kernel
theorem jd_cod_7 : decode prog_24_method_152_code 7 = .ok (.getfield 15, 3) := by decide +kernel
theorem jd_cod_10 : decode prog_24_method_152_code 10 = .ok (.goto 4, 3) := by decide +kernel
theorem jd_cod_14 : decode prog_24_method_152_code 14 = .ok (.ireturn, 1) := by decide +kernel
theorem jd_lat_0 : decode prog_24_method_154_code 0 = .ok (.getstatic 38, 3) := by decide +kernel
theorem jd_lat_3 : decode prog_24_method_154_code 3 = .ok (.ifCond .eq 14, 3) := by decide +kernel
theorem jd_lat_6 : decode prog_24_method_154_code 6 = .ok (.aload_n 0, 1) := by decide +kernel
theorem jd_lat_7 : decode prog_24_method_154_code 7 = .ok (.getfield 15, 3) := by decide +kernel
theorem jd_lat_10 : decode prog_24_method_154_code 10 = .ok (.ifCond .ne 7, 3) := by decide +kernel
theorem jd_lat_13 : decode prog_24_method_154_code 13 = .ok (.iconst 1, 1) := by decide +kernel
theorem jd_lat_14 : decode prog_24_method_154_code 14 = .ok (.goto 4, 3) := by decide +kernel
theorem jd_lat_18 : decode prog_24_method_154_code 18 = .ok (.ireturn, 1) := by decide +kernel
theorem jd_len_0 : decode prog_24_method_54_code 0 = .ok (.aload_n 0, 1) := by decide +kernel
theorem jd_len_1 : decode prog_24_method_54_code 1 = .ok (.getfield 9, 3) := by decide +kernel
theorem jd_len_4 : decode prog_24_method_54_code 4 = .ok (.arraylength, 1) := by decide +kernel
theorem jd_len_5 : decode prog_24_method_54_code 5 = .ok (.aload_n 0, 1) := by decide +kernel
theorem jd_len_6 : decode prog_24_method_54_code 6 = .ok (.invokevirtual 335, 3) := by decide +kernel
theorem jd_len_9 : decode prog_24_method_54_code 9 = .ok (.ishr, 1) := by decide +kernel
theorem jd_len_10 : decode prog_24_method_54_code 10 = .ok (.ireturn, 1) := by decide +kernel
theorem jd_pre_0 : decode prog_33_method_11_code 0 = .ok (.iload_n 0, 1) := by decide +kernel
theorem jd_pre_1 : decode prog_33_method_11_code 1 = .ok (.ifCond .lt 8, 3) := by decide +kernel
theorem jd_pre_4 : decode prog_33_method_11_code 4 = .ok (.iload_n 0, 1) := by decide +kernel
theorem jd_pre_5 : decode prog_33_method_11_code 5 = .ok (.iload_n 1, 1) := by decide +kernel
theorem jd_pre_6 : decode prog_33_method_11_code 6 = .ok (.if_icmp .lt 10, 3) := by decide +kernel
theorem jd_pre_16 : decode prog_33_method_11_code 16 = .ok (.iload_n 0, 1) := by decide +kernel
theorem jd_pre_17 : decode prog_33_method_11_code 17 = .ok (.ireturn, 1) := by decide +kernel
theorem jd_chk_0 : decode prog_24_method_155_code 0 = .ok (.iload_n 0, 1) := by decide +kernel
theorem jd_chk_1 : decode prog_24_method_155_code 1 = .ok (.iload_n 1, 1) := by decide +kernel
theorem jd_chk_2 : decode prog_24_method_155_code 2 = .ok (.getstatic 1053, 3) := by decide +kernel
theorem jd_chk_5 : decode prog_24_method_155_code 5 = .ok (.invokestatic 1059, 3) := by decide +kernel
theorem jd_chk_8 : decode prog_24_method_155_code 8 = .ok (.pop, 1) := by decide +kernel
theorem jd_chk_9 : decode prog_24_method_155_code 9 = .ok (.return_, 1) := by decide +kernel
theorem jd_lch_0 : decode prog_25_method_2_code 0 = .ok (.iload_n 1, 1) := by decide +kernel
theorem jd_lch_1 : decode prog_25_method_2_code 1 = .ok (.aload_n 0, 1) := by decide +kernel
theorem jd_lch_2 : decode prog_25_method_2_code 2 = .ok (.arraylength, 1) := by decide +kernel
theorem jd_lch_3 : decode prog_25_method_2_code 3 = .ok (.invokestatic 9, 3) := by decide +kernel
theorem jd_lch_6 : decode prog_25_method_2_code 6 = .ok (.aload_n 0, 1) := by decide +kernel
theorem jd_lch_7 : decode prog_25_method_2_code 7 = .ok (.iload_n 1, 1) := by decide +kernel
theorem jd_lch_8 : decode prog_25_method_2_code 8 = .ok (.baload, 1) := by decide +kernel
theorem jd_lch_9 : decode prog_25_method_2_code 9 = .ok (.sipush 255, 3) := by decide +kernel
theorem jd_lch_12 : decode prog_25_method_2_code 12 = .ok (.iand, 1) := by decide +kernel
theorem jd_lch_13 : decode prog_25_method_2_code 13 = .ok (.i2c, 1) := by decide +kernel
theorem jd_lch_14 : decode prog_25_method_2_code 14 = .ok (.ireturn, 1) := by decide +kernel
theorem jd_chr_0 : decode prog_24_method_56_code 0 = .ok (.aload_n 0, 1) := by decide +kernel
theorem jd_chr_1 : decode prog_24_method_56_code 1 = .ok (.invokevirtual 492, 3) := by decide +kernel
theorem jd_chr_4 : decode prog_24_method_56_code 4 = .ok (.ifCond .eq 12, 3) := by decide +kernel
theorem jd_chr_7 : decode prog_24_method_56_code 7 = .ok (.aload_n 0, 1) := by decide +kernel
theorem jd_chr_8 : decode prog_24_method_56_code 8 = .ok (.getfield 9, 3) := by decide +kernel
theorem jd_chr_11 : decode prog_24_method_56_code 11 = .ok (.iload_n 1, 1) := by decide +kernel
theorem jd_chr_12 : decode prog_24_method_56_code 12 = .ok (.invokestatic 495, 3) := by decide +kernel
theorem jd_chr_15 : decode prog_24_method_56_code 15 = .ok (.ireturn, 1) := by decide +kernel
/-- a String constant: its cell a, its bytes' cell v, n bytes f -/
def j_S (A : Nat → Prop) (a v n : Nat) (f : Nat → Int32) (U : State) (H : Heap) : Prop := va_O "java/lang/String" a A U H ∧ va_OF "java/lang/String" "coder" "B" (.int 0) a A U H ∧ va_OF "java/lang/String" "value" "[B" (.ref v) a A U H ∧ va_T .byte v n (fun j => .int (f j)) A U H ∧ va_Z "java/lang/String" "COMPACT_STRINGS" "Z" (.int 1) A U H ∧ va_Zq "jdk/internal/util/Preconditions" "SIOOBE_FORMATTER" j_BF A U H
section
variable {A : Nat → Prop} {a v n : Nat} {f : Nat → Int32} {u U : State} {H H1 : Heap}
theorem j_S_moved (hvm : u.vm.Alike U.vm) (h : j_S A a v n f u H) : j_S A a v n f U H := ⟨h.1.moved hvm, h.2.1.moved hvm, h.2.2.1.moved hvm, h.2.2.2.1.moved hvm, h.2.2.2.2.1.moved hvm, h.2.2.2.2.2.moved hvm⟩
theorem j_S_kept (h : j_S A a v n f U H) (hq : ∀ a : Nat, a < H.size → ¬ A a → H1[a]? = H[a]?) : j_S A a v n f U H1 := ⟨h.1.kept hq, h.2.1.kept hq, h.2.2.1.kept hq, h.2.2.2.1.kept hq, h.2.2.2.2.1.kept hq, h.2.2.2.2.2.kept hq⟩
abbrev j_rm (fr lo : Nat) : Room := { frames := fr, cells := 0, slots := 0, locals := lo }
/-- what a String's method starts from -/
def j_P (av : List Value) (A : Nat → Prop) (a v n : Nat) (f : Nat → Int32) : Array Value → State → Prop := fun w U => w = av.toArray ∧ j_S A a v n f U U.heap
theorem j_P_blind {av : List Value} : FrameBlind (j_P av A a v n f) := fun w U g mk q => ⟨q.1, j_S_moved (u := U) (U := U.calling g mk w) (Vm.Alike.refl U.vm) q.2⟩
end
section
variable {l : Launch} {A : Nat → Prop} {a v n : Nat} {f : Nat → Int32}
theorem j_coder : Met l j_cod (j_ws j_cod prog_24_method_152_code 1 (some .byte)) (j_rm 0 0) (j_P [.ref a] A a v n f) (j_Q (some (.int 0))) 0 0 (fun _ => False) := by
  refine j_ofM (cc := prog_24_method_152_code) (maxL := 1) (ret := some .byte) (by decide +kernel) rfl ?_
  intro p e s m args below meth c s₁ B hml hv
  obtain ⟨rfl, hO, hC, hV, hT, hZ, hX⟩ := hv
  have hx := B.exec
  have hb := B.bytes
  have hr := B.returns
  have hts := atoms_spec (ws := j_ws j_cod prog_24_method_152_code 1 (some .byte)) B.pre
  have hg : ∀ w ∈ z_gt, w.before _ s = true := fun w hw => hts w (List.mem_cons_of_mem _ hw)
  have hown : s.vm.findClass "java/lang/String" = some m.cls := findClass_of_methodNamed B.named
  have hlocks := B.notSynchronized
  have hS : va_S A s.heap s.heap [] := va_S.rf
  have hl := lv_entry ([.ref a]) (n := 1) (Nat.le_of_ble_eq_true rfl)
  rw [lg_entry_eq]
  generalize (lg_sl ([.ref a]) ++ List.replicate (1 - (lg_sl ([.ref a])).length) Slot.unset).toArray = ls at hl ⊢
  have hl : lv_has ls 1 [(0, .ref a)] := hl
  refine va_gets hx hb hZ hS hown (hg _ j_w9) (fun _ h => h) jd_cod_0 ?_
  refine lv_if_eq hx hb jd_cod_3 (tgt := 13) rfl (fun h => absurd h (by decide)) (fun _ => ?_)
  refine lv_aload_n hx hb jd_cod_6 rfl (lv_at hl 0 rfl) ?_
  refine vk_getf hx hb hC hS hown (hg _ j_w29) (fun _ h => h) jd_cod_7 ?_
  refine lv_goto hx hb jd_cod_10 (tgt := 14) rfl ?_
  exact W.zret (v := 0) hx hb hr (congrArg Value.int (by decide : (0 : Int32).toInt8.toInt32 = 0)) (fun t ht _ => ⟨rfl, ht⟩) (fun _ h => absurd h List.not_mem_nil) jd_cod_14
theorem j_latin : Met l j_lat (j_ws j_lat prog_24_method_154_code 1 (some .boolean)) (j_rm 0 0) (j_P [.ref a] A a v n f) (j_Q (some (.int 1))) 0 0 (fun _ => False) := by
  refine j_ofM (cc := prog_24_method_154_code) (maxL := 1) (ret := some .boolean) (by decide +kernel) rfl ?_
  intro p e s m args below meth c s₁ B hml hv
  obtain ⟨rfl, hO, hC, hV, hT, hZ, hX⟩ := hv
  have hx := B.exec
  have hb := B.bytes
  have hr := B.returns
  have hts := atoms_spec (ws := j_ws j_lat prog_24_method_154_code 1 (some .boolean)) B.pre
  have hg : ∀ w ∈ z_gt, w.before _ s = true := fun w hw => hts w (List.mem_cons_of_mem _ hw)
  have hown : s.vm.findClass "java/lang/String" = some m.cls := findClass_of_methodNamed B.named
  have hlocks := B.notSynchronized
  have hS : va_S A s.heap s.heap [] := va_S.rf
  have hl := lv_entry ([.ref a]) (n := 1) (Nat.le_of_ble_eq_true rfl)
  rw [lg_entry_eq]
  generalize (lg_sl ([.ref a]) ++ List.replicate (1 - (lg_sl ([.ref a])).length) Slot.unset).toArray = ls at hl ⊢
  have hl : lv_has ls 1 [(0, .ref a)] := hl
  refine va_gets hx hb hZ hS hown (hg _ j_w9) (fun _ h => h) jd_lat_0 ?_
  refine lv_if_eq hx hb jd_lat_3 (tgt := 17) rfl (fun h => absurd h (by decide)) (fun _ => ?_)
  refine lv_aload_n hx hb jd_lat_6 rfl (lv_at hl 0 rfl) ?_
  refine vk_getf hx hb hC hS hown (hg _ j_w29) (fun _ h => h) jd_lat_7 ?_
  refine lv_if_ne hx hb jd_lat_10 (tgt := 17) rfl (fun h => absurd rfl h) (fun _ => ?_)
  refine lv_iconst (v := 1) hx hb jd_lat_13 (by decide) ?_
  refine lv_goto hx hb jd_lat_14 (tgt := 18) rfl ?_
  exact W.zret (v := 1) hx hb hr (congrArg Value.int (by decide : (1 : Int32) &&& 1 = 1)) (fun t ht _ => ⟨rfl, ht⟩) (fun _ h => absurd h List.not_mem_nil) jd_lat_18
theorem j_length (hn : n < 2147483648) : Met l j_len (j_ws j_len prog_24_method_54_code 1 (some .int)) (j_rm 1 20) (j_P [.ref a] A a v n f) (j_Q (some (.int (Int32.ofNat n)))) 0 0 (fun _ => False) := by
  refine j_ofM (cc := prog_24_method_54_code) (maxL := 1) (ret := some .int) (by decide +kernel) rfl ?_
  intro p e s m args below meth c s₁ B hml hv
  obtain ⟨rfl, hJ⟩ := hv
  obtain ⟨hO, hC, hV, hT, hZ, hX⟩ := id hJ
  have hx := B.exec
  have hb := B.bytes
  have hr := B.returns
  have hts := atoms_spec (ws := j_ws j_len prog_24_method_54_code 1 (some .int)) B.pre
  have hg : ∀ w ∈ z_gt, w.before _ s = true := fun w hw => hts w (List.mem_cons_of_mem _ hw)
  have hown : s.vm.findClass "java/lang/String" = some m.cls := findClass_of_methodNamed B.named
  have hlocks := B.notSynchronized
  have hS : va_S A s.heap s.heap [] := va_S.rf
  have hl := lv_entry ([.ref a]) (n := 1) (Nat.le_of_ble_eq_true rfl)
  rw [lg_entry_eq]
  generalize (lg_sl ([.ref a]) ++ List.replicate (1 - (lg_sl ([.ref a])).length) Slot.unset).toArray = ls at hl ⊢
  have hl : lv_has ls 1 [(0, .ref a)] := hl
  refine lv_aload_n hx hb jd_len_0 rfl (lv_at hl 0 rfl) ?_
  refine vk_getf hx hb hV hS hown (hg _ j_w28) (fun _ h => h) jd_len_1 ?_
  refine va_tlen hx hb hT hS rfl jd_len_4 ?_
  refine lv_aload_n hx hb jd_len_5 rfl (lv_at hl 0 rfl) ?_
  obtain ⟨cell, r1, r2, r3, -⟩ := hO
  refine j_run (va_runV (As := []) (rest := [.int (Int32.ofNat n)]) (b := a) (C := "java/lang/String") ⟨hx, hb, hml, hown, hg⟩ (j_coder (A := A) (a := a) (v := v) (n := n) (f := f)) (cwV 0 hg (j_goodl (fun w hw => ?_)) rfl rfl rfl ⟨rfl, by decide +kernel⟩ ⟨Nat.le_of_ble_eq_true rfl, Nat.le_of_ble_eq_true rfl⟩) ⟨j_P_blind, ⟨cell, r1, r2, r3⟩, fun U hU hW => ⟨rfl, by rw [hU]; exact j_S_moved hW.alike hJ⟩⟩ rfl rfl hl.1 rfl (lv_room (Nat.le_of_ble_eq_true rfl)) jd_len_6 ⟨Nat.zero_le _, Nat.zero_le _⟩) ?_
  · simp only [wsV, List.mem_append, List.mem_cons, List.not_mem_nil, or_false] at hw
    rcases hw with (rfl | rfl | rfl | rfl) | hw
    · exact j_w5
    · exact j_w6
    · exact j_w7
    · exact j_w30
    · exact j_ws_in j_w8 _ hw
  · refine lv_ishr hx hb jd_len_9 ?_
    have e0 : Int32.ofNat n >>> ((0 : Int32) &&& 31) = Int32.ofNat n := by
      rw [show (0 : Int32) &&& 31 = 0 by decide]
      exact Int32.shiftRight_zero
    rw [e0]
    exact W.iret (v := Int32.ofNat n) hx hb hr (fun t ht _ => ⟨rfl, ht⟩) (fun _ h => absurd h List.not_mem_nil) jd_len_10
/-- Preconditions.checkIndex, within -/
theorem j_precond {i k : Int32} {w : Value} (h0 : ¬ i < 0) (h1 : i < k) (hw : w.category = 1) : Met l j_pre (j_ws j_pre prog_33_method_11_code 3 (some .int)) (j_rm 0 0) (fun z _ => z = [.int i, .int k, w].toArray) (j_Q (some (.int i))) 0 0 (fun _ => False) := by
  refine j_ofM (cc := prog_33_method_11_code) (maxL := 3) (ret := some .int) (by decide +kernel) rfl ?_
  intro p e s m args below meth c s₁ B hml hv
  subst hv
  have hx := B.exec
  have hb := B.bytes
  have hr := B.returns
  have hlocks := B.notSynchronized
  have hl := lv_entry ([.int i, .int k, w]) (n := 3) (by cases w <;> first | exact Nat.le_of_ble_eq_true rfl | exact absurd (show (2 : Nat) = 1 from hw) (by decide))
  rw [lg_entry_eq]
  generalize (lg_sl ([.int i, .int k, w]) ++ List.replicate (3 - (lg_sl ([.int i, .int k, w])).length) Slot.unset).toArray = ls at hl ⊢
  have hl : lv_has ls 3 [(0, .int i), (1, .int k), (2, w)] := hl
  refine lv_iload_n hx hb jd_pre_0 rfl (lv_at hl 0 rfl) ?_
  refine lv_if_lt hx hb jd_pre_1 (tgt := 9) rfl (fun h => absurd h h0) (fun _ => ?_)
  refine lv_iload_n hx hb jd_pre_4 rfl (lv_at hl 0 rfl) ?_
  refine lv_iload_n hx hb jd_pre_5 rfl (lv_at hl 1 rfl) ?_
  refine lv_icmp_lt hx hb jd_pre_6 (tgt := 16) rfl (fun _ => ?_) (fun h => absurd h1 h)
  refine lv_iload_n hx hb jd_pre_16 rfl (lv_at hl 0 rfl) ?_
  exact W.iret (v := i) hx hb hr (fun t ht _ => ⟨rfl, ht⟩) (fun _ h => absurd h List.not_mem_nil) jd_pre_17
theorem j_check {i k : Int32} (h0 : ¬ i < 0) (h1 : i < k) : Met l j_chk (j_ws j_chk prog_24_method_155_code 2 none) (j_rm 1 22) (j_P [.int i, .int k] A a v n f) (j_Q none) 0 0 (fun _ => False) := by
  refine j_ofM (cc := prog_24_method_155_code) (maxL := 2) (ret := none) (by decide +kernel) rfl ?_
  intro p e s m args below meth c s₁ B hml hv
  obtain ⟨rfl, hJ⟩ := hv
  obtain ⟨hO, hC, hV, hT, hZ, hX⟩ := id hJ
  have hx := B.exec
  have hb := B.bytes
  have hr := B.returns
  have hts := atoms_spec (ws := j_ws j_chk prog_24_method_155_code 2 none) B.pre
  have hg : ∀ w ∈ z_gt, w.before _ s = true := fun w hw => hts w (List.mem_cons_of_mem _ hw)
  have hown : s.vm.findClass "java/lang/String" = some m.cls := findClass_of_methodNamed B.named
  have hlocks := B.notSynchronized
  have hS : va_S A s.heap s.heap [] := va_S.rf
  have hl := lv_entry ([.int i, .int k]) (n := 2) (Nat.le_of_ble_eq_true rfl)
  rw [lg_entry_eq]
  generalize (lg_sl ([.int i, .int k]) ++ List.replicate (2 - (lg_sl ([.int i, .int k])).length) Slot.unset).toArray = ls at hl ⊢
  have hl : lv_has ls 2 [(0, .int i), (1, .int k)] := hl
  obtain ⟨w, hw, hZw⟩ : ∃ w : Value, w.category = 1 ∧ va_Z "jdk/internal/util/Preconditions" "SIOOBE_FORMATTER" j_BF w A s s.heap := by
    rcases hX with h | ⟨t, h⟩
    · exact ⟨_, rfl, h⟩
    · exact ⟨_, rfl, h⟩
  refine lv_iload_n hx hb jd_chk_0 rfl (lv_at hl 0 rfl) ?_
  refine lv_iload_n hx hb jd_chk_1 rfl (lv_at hl 1 rfl) ?_
  refine va_gets hx hb hZw hS hown (hg _ j_w24) (fun _ h => h) jd_chk_2 ?_
  refine j_run (va_runS (As := [.int i, .int k, w]) (rest := []) ⟨hx, hb, hml, hown, hg⟩ (j_precond (w := w) h0 h1 hw) ⟨callB_of 3 hg (j_goodl (j_ws_in j_w27)) rfl rfl rfl (hg _ j_w32) (hg _ j_w25) (by decide +kernel) ⟨Nat.le_of_ble_eq_true rfl, Nat.le_of_ble_eq_true rfl⟩, hg _ j_w26⟩ ⟨fun _ _ _ _ q => q, fun U hU hW => rfl⟩ rfl rfl hl.1 rfl (lv_room (Nat.le_of_ble_eq_true rfl)) jd_chk_5 ⟨Nat.zero_le _, Nat.zero_le _⟩) ?_
  refine lv_pop hx hb jd_chk_8 rfl ?_
  exact W.vret hx hb hr (fun t ht _ => ⟨rfl, ht⟩) (fun _ h => absurd h List.not_mem_nil) jd_chk_9
theorem j_lcharAt {i : Int32} {x : Int32} (h0 : ¬ i < 0) (h1 : i < Int32.ofNat n) (hin : vp_in i n) (hx1 : ((f i.toNatClampNeg &&& 255).toUInt32 % 65536).toInt32 = x) (hx2 : narrow .char (.int x) = .int x) : Met l j_lch (j_ws j_lch prog_25_method_2_code 2 (some .char)) (j_rm 2 43) (j_P [.ref v, .int i] A a v n f) (j_Q (some (.int x))) 0 0 (fun _ => False) := by
  refine j_ofM (cc := prog_25_method_2_code) (maxL := 2) (ret := some .char) (by decide +kernel) rfl ?_
  intro p e s m args below meth c s₁ B hml hv
  obtain ⟨rfl, hJ⟩ := hv
  obtain ⟨hO, hC, hV, hT, hZ, hX⟩ := id hJ
  have hx := B.exec
  have hb := B.bytes
  have hr := B.returns
  have hts := atoms_spec (ws := j_ws j_lch prog_25_method_2_code 2 (some .char)) B.pre
  have hg : ∀ w ∈ z_gt, w.before _ s = true := fun w hw => hts w (List.mem_cons_of_mem _ hw)
  have hown : s.vm.findClass "java/lang/StringLatin1" = some m.cls := findClass_of_methodNamed B.named
  have hlocks := B.notSynchronized
  have hS : va_S A s.heap s.heap [] := va_S.rf
  have hl := lv_entry ([.ref v, .int i]) (n := 2) (Nat.le_of_ble_eq_true rfl)
  rw [lg_entry_eq]
  generalize (lg_sl ([.ref v, .int i]) ++ List.replicate (2 - (lg_sl ([.ref v, .int i])).length) Slot.unset).toArray = ls at hl ⊢
  have hl : lv_has ls 2 [(0, .ref v), (1, .int i)] := hl
  refine lv_iload_n hx hb jd_lch_0 rfl (lv_at hl 1 rfl) ?_
  refine lv_aload_n hx hb jd_lch_1 rfl (lv_at hl 0 rfl) ?_
  refine va_tlen hx hb hT hS rfl jd_lch_2 ?_
  refine j_run (va_runS (As := [.int i, .int (Int32.ofNat n)]) (rest := []) ⟨hx, hb, hml, hown, hg⟩ (j_check (A := A) (a := a) (v := v) (n := n) (f := f) h0 h1) ⟨callB_of 2 hg (j_goodl (j_ws_in j_w23)) rfl rfl rfl (hg _ j_w30) (hg _ j_w21) (by decide +kernel) ⟨Nat.le_of_ble_eq_true rfl, Nat.le_of_ble_eq_true rfl⟩, hg _ j_w22⟩ ⟨j_P_blind, fun U hU hW => ⟨rfl, by rw [hU]; exact j_S_moved hW.alike hJ⟩⟩ rfl rfl hl.1 rfl (lv_room (Nat.le_of_ble_eq_true rfl)) jd_lch_3 ⟨Nat.zero_le _, Nat.zero_le _⟩) ?_
  refine lv_aload_n hx hb jd_lch_6 rfl (lv_at hl 0 rfl) ?_
  refine lv_iload_n hx hb jd_lch_7 rfl (lv_at hl 1 rfl) ?_
  refine va_tb hx hb hT hS hin (v := .int (f i.toNatClampNeg)) rfl jd_lch_8 ?_
  refine lv_sipush (v := 255) hx hb jd_lch_9 (by decide) ?_
  refine lv_iand hx hb jd_lch_12 ?_
  refine lv_i2c hx hb jd_lch_13 hx1 ?_
  exact W.zret (v := x) hx hb hr hx2 (fun t ht _ => ⟨rfl, ht⟩) (fun _ h => absurd h List.not_mem_nil) jd_lch_14
theorem j_charAt {i : Int32} {x : Int32} (h0 : ¬ i < 0) (h1 : i < Int32.ofNat n) (hin : vp_in i n) (hx1 : ((f i.toNatClampNeg &&& 255).toUInt32 % 65536).toInt32 = x) (hx2 : narrow .char (.int x) = .int x) : Met l j_chr (j_ws j_chr prog_24_method_56_code 2 (some .char)) (j_rm 3 64) (j_P [.ref a, .int i] A a v n f) (j_Q (some (.int x))) 0 0 (fun _ => False) := by
  refine j_ofM (cc := prog_24_method_56_code) (maxL := 2) (ret := some .char) (by decide +kernel) rfl ?_
  intro p e s m args below meth c s₁ B hml hv
  obtain ⟨rfl, hJ⟩ := hv
  obtain ⟨hO, hC, hV, hT, hZ, hX⟩ := id hJ
  have hx := B.exec
  have hb := B.bytes
  have hr := B.returns
  have hts := atoms_spec (ws := j_ws j_chr prog_24_method_56_code 2 (some .char)) B.pre
  have hg : ∀ w ∈ z_gt, w.before _ s = true := fun w hw => hts w (List.mem_cons_of_mem _ hw)
  have hown : s.vm.findClass "java/lang/String" = some m.cls := findClass_of_methodNamed B.named
  have hlocks := B.notSynchronized
  have hS : va_S A s.heap s.heap [] := va_S.rf
  have hl := lv_entry ([.ref a, .int i]) (n := 2) (Nat.le_of_ble_eq_true rfl)
  rw [lg_entry_eq]
  generalize (lg_sl ([.ref a, .int i]) ++ List.replicate (2 - (lg_sl ([.ref a, .int i])).length) Slot.unset).toArray = ls at hl ⊢
  have hl : lv_has ls 2 [(0, .ref a), (1, .int i)] := hl
  obtain ⟨cell, r1, r2, r3, -⟩ := hO
  refine lv_aload_n hx hb jd_chr_0 rfl (lv_at hl 0 rfl) ?_
  refine j_run (va_runV (As := []) (rest := []) (b := a) (C := "java/lang/String") ⟨hx, hb, hml, hown, hg⟩ (j_latin (A := A) (a := a) (v := v) (n := n) (f := f)) (cwV 0 hg (j_goodl (fun w hw => ?_)) rfl rfl rfl ⟨rfl, by decide +kernel⟩ ⟨Nat.le_of_ble_eq_true rfl, Nat.le_of_ble_eq_true rfl⟩) ⟨j_P_blind, ⟨cell, r1, r2, r3⟩, fun U hU hW => ⟨rfl, by rw [hU]; exact j_S_moved hW.alike hJ⟩⟩ rfl rfl hl.1 rfl (lv_room (Nat.le_of_ble_eq_true rfl)) jd_chr_1 ⟨Nat.zero_le _, Nat.zero_le _⟩) ?_
  · simp only [wsV, List.mem_append, List.mem_cons, List.not_mem_nil, or_false] at hw
    rcases hw with (rfl | rfl | rfl | rfl) | hw
    · exact j_w14
    · exact j_w15
    · exact j_w16
    · exact j_w30
    · exact j_ws_in j_w17 _ hw
  · refine lv_if_eq hx hb jd_chr_4 (tgt := 16) rfl (fun h => absurd h (by decide)) (fun _ => ?_)
    refine lv_aload_n hx hb jd_chr_7 rfl (lv_at hl 0 rfl) ?_
    refine vk_getf hx hb hV hS hown (hg _ j_w28) (fun _ h => h) jd_chr_8 ?_
    refine lv_iload_n hx hb jd_chr_11 rfl (lv_at hl 1 rfl) ?_
    refine j_run (va_runS (As := [.ref v, .int i]) (rest := []) ⟨hx, hb, hml, hown, hg⟩ (j_lcharAt (A := A) (a := a) (v := v) (n := n) (f := f) h0 h1 hin hx1 hx2) ⟨callB_of 2 hg (j_goodl (j_ws_in j_w20)) rfl rfl rfl (hg _ j_w31) (hg _ j_w18) (by decide +kernel) ⟨Nat.le_of_ble_eq_true rfl, Nat.le_of_ble_eq_true rfl⟩, hg _ j_w19⟩ ⟨j_P_blind, fun U hU hW => ⟨rfl, by rw [hU]; exact j_S_moved hW.alike hJ⟩⟩ rfl rfl hl.1 rfl (lv_room (Nat.le_of_ble_eq_true rfl)) jd_chr_12 ⟨Nat.zero_le _, Nat.zero_le _⟩) ?_
    exact W.zret (v := x) hx hb hr hx2 (fun t ht _ => ⟨rfl, ht⟩) (fun _ h => absurd h List.not_mem_nil) jd_chr_15
end
end ZSTR
end
section
/-! The steps that call String.length and String.charAt. -/
section ZSC
variable {p : Program} {l : Launch} {e : Env} {R : Room} {s : State} {m : MethodId} {args : Array Value} {below : List Frame} {meth : Method} {c : Code} {Q : State → Prop} {D : va_G} {b0 : Nat} {aA sA : Nat → Nat} {cA : Nat → ClassId} {nL n0 sl0 : Nat} {r : z_Rec} {sc : Nat × (Nat → Int32)}
variable {pc : Nat} {ls : z_Ls} {st st' : List Value} {hp : z_H} {C : z_C}
theorem z_op8v {own idx : Nat} {ax : List Nat} (h : z_ckI 0 own idx (8 :: ax) = true) : (own = 0 ∧ idx = 77) ∨ (own = 11 ∧ idx = 7) := by
  unfold z_ckI at h
  split at h
  · rename_i he
    cases he
    split at h
    · simp at h
    · cases h
  all_goals first
    | (rename_i he; cases he; done)
    | (rename_i he; cases he; simp only [Bool.and_eq_true, Bool.or_eq_true, decide_eq_true_eq] at h; exact h.2)
    | (cases h; done)
theorem z_op9v {own idx : Nat} {ax : List Nat} (h : z_ckI 0 own idx (9 :: ax) = true) : (own = 0 ∧ idx = 81) ∨ (own = 11 ∧ idx = 13) := by
  unfold z_ckI at h
  split at h
  · rename_i he
    cases he
    split at h
    · simp at h
    · cases h
  all_goals first
    | (rename_i he; cases he; done)
    | (rename_i he; cases he; simp only [Bool.and_eq_true, Bool.or_eq_true, decide_eq_true_eq] at h; exact h.2)
    | (cases h; done)
theorem j_tab : ∀ j, j < 21 → ((List.range 21).map (fun j => (z_str j).length)).getD j 0 = (z_str j).length ∧ ((List.range 21).map (fun j => (z_str j).map Int32.ofNat)).getD j [] = (z_str j).map Int32.ofNat ∧ (z_str j).length ≤ 50 := by
  intro j hj
  rcases (show j = 0 ∨ j = 1 ∨ j = 2 ∨ j = 3 ∨ j = 4 ∨ j = 5 ∨ j = 6 ∨ j = 7 ∨ j = 8 ∨ j = 9 ∨ j = 10 ∨ j = 11 ∨ j = 12 ∨ j = 13 ∨ j = 14 ∨ j = 15 ∨ j = 16 ∨ j = 17 ∨ j = 18 ∨ j = 19 ∨ j = 20 by omega) with rfl | rfl | rfl | rfl | rfl | rfl | rfl | rfl | rfl | rfl | rfl | rfl | rfl | rfl | rfl | rfl | rfl | rfl | rfl | rfl | rfl <;> exact ⟨rfl, rfl, by decide⟩
theorem j_ch : ∀ j, j < 21 → ∀ i, i < 50 → ((((((z_str j).map Int32.ofNat).getD i 0 &&& 255).toUInt32 % 65536).toInt32 = Int32.ofNat ((z_str j).getD i 0)) ∧ (Int32.ofNat ((z_str j).getD i 0)).toUInt32.toUInt16.toUInt32.toInt32 = Int32.ofNat ((z_str j).getD i 0)) := by decide +kernel
theorem j_at {a : Nat} (h : Nat.ble 1000 a = true) (h2 : Nat.blt a 1021 = true) : ∃ j, j < 21 ∧ a = 1000 + j := by
  have h1 := Nat.le_of_ble_eq_true h
  have h3 := Nat.le_of_ble_eq_true h2
  exact ⟨a - 1000, by omega, by omega⟩
theorem j_ad {j : Nat} : z_ad aA sA (1000 + j) = sA j := by
  unfold z_ad
  rw [if_neg (by omega), Nat.add_sub_cancel_left]
theorem j_get (F : z_F sc D b0 sA cA r p l s m args meth c) {j : Nat} (hj : j < 21) : ∃ v, j_S (z_A0 b0) (sA j) v (z_str j).length (fun i => ((z_str j).map Int32.ofNat).getD i 0) s s.heap := by
  obtain ⟨-, -, -, -, -, ⟨-, ⟨adV, h7⟩, h8, h9⟩, -⟩ := F.2.2.2.2.2.2.2.2.2.2
  obtain ⟨k1, k2, k3, k4⟩ := h7.1 j hj
  obtain ⟨e1, e2, -⟩ := j_tab j hj
  rw [e1, e2] at k4
  exact ⟨adV j, k1, k2, k3, k4, h8, h9⟩
theorem j_lt {i : Int32} {n : Nat} (hn : n ≤ 50) (h : z_inb i n = true) : ¬ i < 0 ∧ i < Int32.ofNat n ∧ i.toNatClampNeg < n := by
  simp only [z_inb, Bool.and_eq_true, Bool.not_eq_true', decide_eq_false_iff_not, decide_eq_true_eq] at h
  refine ⟨h.1, ?_, h.2⟩
  have h1 : i.toInt.toNat < n := h.2
  rw [Int32.lt_iff_toInt_lt, Int32.toInt_ofNat_of_lt (by omega)]
  omega
theorem z_s_strl (F : z_F sc D b0 sA cA r p l s m args meth c) (hnL : r.2.2.2.2.1 = nL) {idx : Nat} {ax : List Nat} {d : Nat} (hd1 : d ≤ R.frames) (hd2 : 46 * d ≤ R.locals) (hdg : decode r.2.2.2.1 pc = .ok (.invokevirtual idx, 3)) (hck : z_ckI 0 r.1 idx (8 :: ax) = true) (h : z_jl d pc ls st hp = some C) (hRc : z_n C.2.2.2 - n0 ≤ R.cells) (hRs : C.2.2.2.2.2 - sl0 ≤ R.slots) (k : z_K p l e R s m args below meth c Q D b0 aA sA cA nL n0 sl0 C) : z_K p l e R s m args below meth c Q D b0 aA sA cA nL n0 sl0 (pc, ls, st, hp) := by
  unfold z_jl at h
  split at h
  · rename_i hc
    obtain ⟨st', h1, rfl⟩ := z_mk_eq h
    unfold z_slen at h1
    split at h1
    · rename_i a rr
      cases hq : (Nat.ble 1000 a && Nat.blt a 1021) with
      | false => rw [hq] at h1; cases h1
      | true =>
        rw [hq] at h1
        rw [Bool.and_eq_true] at hq
        obtain ⟨j, hj, rfl⟩ := j_at hq.1 hq.2
        rw [Nat.add_sub_cancel_left] at h1
        cases h1
        have hwx : ∃ C0 : String, z_own r.1 = C0 ∧ Jvm.Cond.methodLink C0 idx j_len ∈ z_gt := by
          rcases z_op8v hck with ⟨h9, rfl⟩ | ⟨h9, rfl⟩
          · exact ⟨RX0, by rw [h9]; rfl, j_w1⟩
          · exact ⟨RL, by rw [h9]; rfl, j_w33⟩
        obtain ⟨C0, hown0, hwl⟩ := hwx
        intro lsM H locs hl hI
        have hk := k lsM H locs hl hI
        have hts := F.2.2.2.2.2.1
        have hS := hI.2.2.1
        obtain ⟨v, hJ⟩ := j_get F hj
        have hJH := j_S_kept hJ hS.2.1
        obtain ⟨cell, q1, q2, q3, -⟩ := hJH.1
        have hown : s.vm.findClass C0 = some m.cls := by
          have := F.2.2.2.2.1
          rw [hown0] at this
          exact this
        have hrr : z_cat rr ≤ 8 := by
          have := hc.2
          unfold z_cat at this ⊢
          simp only [List.map_cons, List.sum_cons] at this
          omega
        have hg : W p l e R s m args below meth c H locs (z_n hp - n0) (hp.2.2 - sl0) Q (F0 m pc lsM (.ref (sA j) :: rr.map (z_V (z_ad aA sA)))) := by
          refine j_run (va_runV (As := []) (rest := rr.map (z_V (z_ad aA sA))) (b := sA j) (C := "java/lang/String") ⟨F.1, F.2.1, F.2.2.2.1, hown, hts⟩ (j_length (A := z_A0 b0) (a := sA j) (v := v) (f := fun i => ((z_str j).map Int32.ofNat).getD i 0) (show (z_str j).length < 2147483648 by have := (j_tab j hj).2.2; omega)) (cwV 0 hts (j_goodl (fun w hw => ?_)) rfl rfl rfl ⟨rfl, by decide +kernel⟩ ⟨by show 1 + 1 ≤ R.frames; omega, by show 8 + (1 + 11) + 20 ≤ R.locals; omega⟩) ⟨j_P_blind, ⟨cell, q1, q2, q3⟩, fun U hU hW => ⟨rfl, by rw [hU]; exact j_S_moved hW.alike hJH⟩⟩ rfl rfl (hl.1.trans hnL.symm) rfl (lv_room (by rw [z_cat_map]; exact hrr)) hdg ⟨hRc, hRs⟩) hk
          simp only [wsV, List.mem_append, List.mem_cons, List.not_mem_nil, or_false] at hw
          rcases hw with (rfl | rfl | rfl | rfl) | hw
          · exact hwl
          · exact j_w2
          · exact j_w3
          · exact j_w30
          · exact j_ws_in j_w4 _ hw
        rw [← j_ad (aA := aA) (sA := sA)] at hg
        exact hg
    · cases h1
  · cases h
theorem z_s_strc (F : z_F sc D b0 sA cA r p l s m args meth c) (hnL : r.2.2.2.2.1 = nL) {idx : Nat} {ax : List Nat} {d : Nat} (hd1 : d ≤ R.frames) (hd2 : 46 * d ≤ R.locals) (hdg : decode r.2.2.2.1 pc = .ok (.invokevirtual idx, 3)) (hck : z_ckI 0 r.1 idx (9 :: ax) = true) (h : z_jx d pc ls st hp = some C) (hRc : z_n C.2.2.2 - n0 ≤ R.cells) (hRs : C.2.2.2.2.2 - sl0 ≤ R.slots) (k : z_K p l e R s m args below meth c Q D b0 aA sA cA nL n0 sl0 C) : z_K p l e R s m args below meth c Q D b0 aA sA cA nL n0 sl0 (pc, ls, st, hp) := by
  unfold z_jx at h
  split at h
  · rename_i hc
    obtain ⟨st', h1, rfl⟩ := z_mk_eq h
    unfold z_sch at h1
    split at h1
    · rename_i i a rr
      cases hq : (Nat.ble 1000 a && Nat.blt a 1021 && z_inb i (z_str (a - 1000)).length) with
      | false => rw [hq] at h1; cases h1
      | true =>
        rw [hq] at h1
        rw [Bool.and_eq_true, Bool.and_eq_true] at hq
        obtain ⟨j, hj, rfl⟩ := j_at hq.1.1 hq.1.2
        rw [Nat.add_sub_cancel_left] at h1 hq
        cases h1
        have hwx : ∃ C0 : String, z_own r.1 = C0 ∧ Jvm.Cond.methodLink C0 idx j_chr ∈ z_gt := by
          rcases z_op9v hck with ⟨h9, rfl⟩ | ⟨h9, rfl⟩
          · exact ⟨RX0, by rw [h9]; rfl, j_w10⟩
          · exact ⟨RL, by rw [h9]; rfl, j_w34⟩
        obtain ⟨C0, hown0, hwl⟩ := hwx
        intro lsM H locs hl hI
        have hk := k lsM H locs hl hI
        have hts := F.2.2.2.2.2.1
        have hS := hI.2.2.1
        obtain ⟨v, hJ⟩ := j_get F hj
        have hJH := j_S_kept hJ hS.2.1
        obtain ⟨cell, q1, q2, q3, -⟩ := hJH.1
        have hown : s.vm.findClass C0 = some m.cls := by
          have := F.2.2.2.2.1
          rw [hown0] at this
          exact this
        have hrr : z_cat rr ≤ 8 := by
          have := hc.2
          unfold z_cat at this ⊢
          simp only [List.map_cons, List.sum_cons] at this
          omega
        have h6 := (j_tab j hj).2.2
        obtain ⟨g1, g2, g3⟩ := j_lt h6 hq.2
        obtain ⟨y1, y2⟩ := j_ch j hj i.toNatClampNeg (by omega)
        have hg : W p l e R s m args below meth c H locs (z_n hp - n0) (hp.2.2 - sl0) Q (F0 m pc lsM (.int i :: .ref (sA j) :: rr.map (z_V (z_ad aA sA)))) := by
          refine j_run (va_runV (As := [.int i]) (rest := rr.map (z_V (z_ad aA sA))) (b := sA j) (C := "java/lang/String") ⟨F.1, F.2.1, F.2.2.2.1, hown, hts⟩ (j_charAt (A := z_A0 b0) (a := sA j) (v := v) (n := (z_str j).length) (f := fun i => ((z_str j).map Int32.ofNat).getD i 0) (x := Int32.ofNat ((z_str j).getD i.toNatClampNeg 0)) g1 g2 (z_inb_in hq.2) y1 (congrArg Value.int y2)) (cwV 1 hts (j_goodl (fun w hw => ?_)) rfl rfl rfl ⟨rfl, by decide +kernel⟩ ⟨by show 3 + 1 ≤ R.frames; omega, by show 8 + (2 + 11) + 64 ≤ R.locals; omega⟩) ⟨j_P_blind, ⟨cell, q1, q2, q3⟩, fun U hU hW => ⟨rfl, by rw [hU]; exact j_S_moved hW.alike hJH⟩⟩ rfl rfl (hl.1.trans hnL.symm) rfl (lv_room (by rw [z_cat_map]; exact hrr)) hdg ⟨hRc, hRs⟩) hk
          simp only [wsV, List.mem_append, List.mem_cons, List.not_mem_nil, or_false] at hw
          rcases hw with (rfl | rfl | rfl | rfl) | hw
          · exact hwl
          · exact j_w11
          · exact j_w12
          · exact j_w30
          · exact j_ws_in j_w13 _ hw
        rw [← j_ad (aA := aA) (sA := sA)] at hg
        exact hg
    · cases h1
  · cases h
end ZSC
end
section
/-! A step within a frame, by its instruction; and what a run makes only grows. -/
section ZD
variable {p : Program} {l : Launch} {e : Env} {R : Room} {s : State} {m : MethodId} {args : Array Value} {below : List Frame} {meth : Method} {c : Code} {Q : State → Prop} {D : va_G} {b0 : Nat} {aA sA : Nat → Nat} {cA : Nat → ClassId} {nL n0 sl0 : Nat} {r : z_Rec} {sc : Nat × (Nat → Int32)}
variable {pc : Nat} {ls : z_Ls} {st st' : List Value} {hp : z_H} {C : z_C}
theorem z_lok_eq {i : Instr} {len n : Nat} (h : z_lok i len = true) (h1 : z_ln i = n) (h0 : n ≠ 0) : len = n := by
  unfold z_lok at h
  rw [Bool.or_eq_true] at h
  rcases h with h | h
  · exact (Nat.eq_of_beq_eq_true h).symm.trans h1
  · exact absurd ((Nat.eq_of_beq_eq_true h).symm.trans h1).symm h0
def z_mn (hp : z_H) (C : z_C) : Prop := z_n hp ≤ z_n C.2.2.2 ∧ hp.2.2 ≤ C.2.2.2.2.2 ∧ hp.1.length ≤ C.2.2.2.1.length ∧ (z_hwf hp → z_hwf C.2.2.2)
theorem z_mn_rfl {pc : Nat} {ls : z_Ls} {st : List Value} : z_mn hp (pc, ls, st, hp) := ⟨Nat.le_refl _, Nat.le_refl _, Nat.le_refl _, id⟩
theorem z_hw_set {a : Nat} {x : va_E} (hx : z_ewf hp.1.length x) (hw : z_hwf hp) : z_hwf (hp.1.set a x, hp.2) := by
  intro k e hk
  show z_ewf (hp.1.set a x).length e
  rw [List.length_set]
  have hk2 : (hp.1.set a x)[k]? = some e := hk
  rw [List.getElem?_set] at hk2
  by_cases h1 : a = k
  · rw [if_pos h1] at hk2
    by_cases h2 : a < hp.1.length
    · rw [if_pos h2] at hk2; cases hk2; exact hx
    · rw [if_neg h2] at hk2; cases hk2
  · rw [if_neg h1] at hk2
    exact hw k e hk2
theorem z_hw_app {x : va_E} {j sl : Nat} (hx : z_ewf (hp.1.length + 1) x) (hw : z_hwf hp) : z_hwf (hp.1 ++ [x], j, sl) := by
  intro k e hk
  show z_ewf (hp.1 ++ [x]).length e
  rw [List.length_append]
  have hk2 : (hp.1 ++ [x])[k]? = some e := hk
  by_cases h1 : k < hp.1.length
  · rw [List.getElem?_append_left h1] at hk2
    exact z_ewf_up (Nat.le_add_right _ _) (hw k e hk2)
  · rw [List.getElem?_append_right (Nat.le_of_not_lt h1)] at hk2
    have h2 := (List.getElem?_eq_some_iff.mp hk2).1
    have h3 : k - hp.1.length = 0 := by
      have : k - hp.1.length < 1 := h2
      omega
    rw [h3] at hk2
    cases hk2
    exact hx
theorem z_mn_set {pc : Nat} {ls : z_Ls} {st : List Value} {a : Nat} {x : va_E} (hx : z_hwf hp → z_ewf hp.1.length x) : z_mn hp (pc, ls, st, (hp.1.set a x, hp.2)) := ⟨by unfold z_n; rw [List.length_set]; exact Nat.le_refl _, Nat.le_refl _, by show hp.1.length ≤ (hp.1.set a x).length; rw [List.length_set]; exact Nat.le_refl _, fun hw => z_hw_set (hx hw) hw⟩
theorem z_new_wf {n t m : Nat} : z_ewf n (z_new t m) := by
  unfold z_new
  split
  · trivial
  · trivial
  · intro j b hb; cases hb
  · trivial
theorem z_def_wf {n : Nat} {t : FieldType} : z_vwf n (z_def t) = true := by cases t <;> rfl
theorem z_mn_mk {pc' : Nat} {o : Option (List Value)} (h : z_mk pc' ls hp o = some C) : z_mn hp C := by
  obtain ⟨st', -, rfl⟩ := z_mk_eq h
  exact z_mn_rfl
theorem z_mn_gto {off : Int} (h : z_gto pc off ls st hp = some C) : z_mn hp C := by
  obtain ⟨t, -, rfl⟩ := z_gto_eq h
  exact z_mn_rfl
theorem z_mn_mka {ax : List Nat} (h : z_mka ax pc ls st hp = some C) : z_mn hp C := by
  unfold z_mka at h
  split at h
  · split at h
    · rename_i hc
      cases h
      refine ⟨?_, Nat.le_add_right _ _, by show hp.1.length ≤ (hp.1 ++ [_]).length; rw [List.length_append]; exact Nat.le_add_right _ _, z_hw_app z_new_wf⟩
      unfold z_n
      rw [List.length_append]
      show hp.1.length + hp.2.1 ≤ hp.1.length + 1 + hp.2.1
      omega
    · cases h
  · cases h
theorem z_mn_mko {ax : List Nat} (h : z_mko ax pc ls st hp = some C) : z_mn hp C := by
  unfold z_mko at h
  split at h
  · split at h
    · rename_i hc
      cases h
      refine ⟨?_, Nat.le_add_right _ _, by show hp.1.length ≤ (hp.1 ++ [_]).length; rw [List.length_append]; exact Nat.le_add_right _ _, z_hw_app (fun v hv => by obtain ⟨j, -, rfl⟩ := List.mem_map.mp hv; exact z_def_wf)⟩
      unfold z_n
      rw [List.length_append]
      show hp.1.length + hp.2.1 ≤ hp.1.length + 1 + hp.2.1
      omega
    · cases h
  · cases h
theorem z_mn_cpy (h : z_cpy pc ls st hp = some C) : z_mn hp C := by
  unfold z_cpy at h
  split at h
  · split at h
    · split at h
      · cases h; exact z_mn_set (fun _ => trivial)
      · cases h
    · cases h
  · cases h
theorem z_mn_jdk {ax : List Nat} {d : Nat} (h : z_jdk ax d pc ls st hp = some C) : z_mn hp C := by
  unfold z_jdk at h
  split at h
  · unfold z_jo at h
    split at h
    · split at h
      · cases h; exact z_mn_rfl
      · cases h
    · cases h
  · unfold z_jc at h
    split at h
    · exact z_mn_cpy h
    · cases h
  · unfold z_jl at h
    split at h
    · exact z_mn_mk h
    · cases h
  · unfold z_jx at h
    split at h
    · exact z_mn_mk h
    · cases h
  · cases h
theorem z_mn_ifc {cc : ClassFile.Cond} {off : Int} (h : z_ifc cc pc off ls st hp = some C) : z_mn hp C := by
  unfold z_ifc at h
  split at h
  · split at h
    · rename_i x rr _ t _
      cases hq : z_cmp0 cc _ <;> rw [hq] at h <;> cases h <;> exact z_mn_rfl
    · cases h
  · cases h
theorem z_mn_icm {cc : ClassFile.Cond} {off : Int} (h : z_icm cc pc off ls st hp = some C) : z_mn hp C := by
  unfold z_icm at h
  split at h
  · split at h
    · cases hq : z_cmp2 cc _ _ <;> rw [hq] at h <;> cases h <;> exact z_mn_rfl
    · cases h
  · cases h
theorem z_mn_ifn {off : Int} (h : z_ifn pc off ls st hp = some C) : z_mn hp C := by
  unfold z_ifn at h
  split at h
  · cases h; exact z_mn_rfl
  · cases h
theorem z_mn_tsw {dflt lo hi : Int} {offs : Array Int} (h : z_tsw pc dflt lo hi offs ls st hp = some C) : z_mn hp C := by
  unfold z_tsw at h
  split at h
  · split at h
    · exact z_mn_gto h
    · split at h
      · exact z_mn_gto h
      · cases h
  · cases h
theorem z_mn_lsw {dflt : Int} {ps : Array (Int × Int)} (h : z_lsw pc dflt ps ls st hp = some C) : z_mn hp C := by
  unfold z_lsw at h
  split at h
  · cases hq : (ps.toList.zip (ps.toList.drop 1)).all (fun (a, next) => a.1 < next.1) <;> rw [hq] at h
    · cases h
    · exact z_mn_gto h
  · cases h
theorem z_mn_pf {ax : List Nat} (h : z_pf ax pc ls st hp = some C) : z_mn hp C := by
  unfold z_pf at h
  split at h
  · split at h
    · rename_i c0 fs hc
      split at h
      · rename_i hcc
        cases h
        refine z_mn_set (fun hw => ?_)
        have h1 := hw _ _ hc
        intro w hwm
        rcases List.mem_or_eq_of_mem_set hwm with q | q
        · exact h1 w q
        · rw [q]; exact hcc.2.2.2.2
      · cases h
    · cases h
  · cases h
theorem z_mn_ast {t : Nat} {g : Int32 → Int32} (h : z_ast t g pc ls st hp = some C) : z_mn hp C := by
  obtain ⟨x, i, a, rr, n, f, -, -, -, rfl⟩ := z_ast_eq h
  exact z_mn_set (fun _ => trivial)
theorem z_mn_last (h : z_last pc ls st hp = some C) : z_mn hp C := by
  unfold z_last at h
  split at h
  · rename_i x i a rr
    split at h
    · rename_i t0 n f hc
      cases hq : (Nat.beq t0 3 && z_inb i n) <;> rw [hq] at h <;> cases h <;> exact z_mn_set (fun _ => trivial)
    · cases h
  · cases h
theorem z_mn_dast (h : z_dast pc ls st hp = some C) : z_mn hp C := by
  unfold z_dast at h
  split at h
  · rename_i x i a rr
    split at h
    · rename_i t0 n f hc
      cases hq : (Nat.beq t0 4 && z_inb i n) <;> rw [hq] at h <;> cases h <;> exact z_mn_set (fun _ => trivial)
    · cases h
  · cases h
theorem z_mn_qast (h : z_qast pc ls st hp = some C) : z_mn hp C := by
  unfold z_qast at h
  split at h
  · rename_i v i a rr
    split at h
    · rename_i t0 n f c0 fs hc hcv
      cases hq : (Nat.beq t0 5 && (Nat.beq c0 7 && z_inb i n)) <;> rw [hq] at h <;> cases h
      refine z_mn_set (fun hw => ?_)
      have h1 : ∀ j b, f j = some b → z_vwf hp.1.length (.ref b) = true := hw _ _ hc
      show ∀ j b, va_up f i.toNatClampNeg (some v) j = some b → z_vwf hp.1.length (.ref b) = true
      intro j b hb
      unfold va_up at hb
      by_cases hj : j = i.toNatClampNeg
      · rw [if_pos hj] at hb
        cases hb
        have h2 := (List.getElem?_eq_some_iff.mp hcv).1
        show (Nat.blt v hp.1.length || Nat.ble 1000 v) = true
        rw [Bool.or_eq_true]
        exact Or.inl (Nat.ble_eq_true_of_le h2)
      · rw [if_neg hj] at hb
        exact h1 j b hb
    · cases h
  · cases h
theorem z_op6 {op own idx : Nat} {ax : List Nat} (h : z_ckI op own idx (6 :: ax) = true) (hne : op ≠ 2) : False := by
  unfold z_ckI at h
  split at h
  · rename_i he
    cases he
    split at h
    · simp at h
    · cases h
  all_goals first
    | (rename_i he; cases he; simp only [Bool.and_eq_true, decide_eq_true_eq] at h; exact hne h.1)
    | (rename_i he; cases he; done)
    | (cases h; done)
theorem z_op7 {op own idx : Nat} {ax : List Nat} (h : z_ckI op own idx (7 :: ax) = true) (hne : op ≠ 1) : False := by
  unfold z_ckI at h
  split at h
  · rename_i he
    cases he
    split at h
    · simp at h
    · cases h
  all_goals first
    | (rename_i he; cases he; simp only [Bool.and_eq_true, decide_eq_true_eq] at h; exact hne h.1)
    | (rename_i he; cases he; done)
    | (cases h; done)
theorem z_op8 {op own idx : Nat} {ax : List Nat} (h : z_ckI op own idx (8 :: ax) = true) (hne : op ≠ 0) : False := by
  unfold z_ckI at h
  split at h
  · rename_i he
    cases he
    split at h
    · simp at h
    · cases h
  all_goals first
    | (rename_i he; cases he; simp only [Bool.and_eq_true, decide_eq_true_eq] at h; exact hne h.1)
    | (rename_i he; cases he; done)
    | (cases h; done)
theorem z_op9 {op own idx : Nat} {ax : List Nat} (h : z_ckI op own idx (9 :: ax) = true) (hne : op ≠ 0) : False := by
  unfold z_ckI at h
  split at h
  · rename_i he
    cases he
    split at h
    · simp at h
    · cases h
  all_goals first
    | (rename_i he; cases he; simp only [Bool.and_eq_true, decide_eq_true_eq] at h; exact hne h.1)
    | (rename_i he; cases he; done)
    | (cases h; done)
theorem z_s_jdk2 (F : z_F sc D b0 sA cA r p l s m args meth c) (hnL : r.2.2.2.2.1 = nL) {idx : Nat} {ax : List Nat} {d : Nat} (hd1 : d ≤ R.frames) (hd2 : 46 * d ≤ R.locals) (hdg : decode r.2.2.2.1 pc = .ok (.invokespecial idx, 3)) (hck : z_ckI 2 r.1 idx ax = true) (h : z_jdk ax d pc ls st hp = some C) (k : z_K p l e R s m args below meth c Q D b0 aA sA cA nL n0 sl0 C) : z_K p l e R s m args below meth c Q D b0 aA sA cA nL n0 sl0 (pc, ls, st, hp) := by
  unfold z_jdk at h
  split at h
  · exact z_s_objI F hnL hd1 hd2 hdg hck h k
  · exact (z_op7 hck (by decide)).elim
  · exact (z_op8 hck (by decide)).elim
  · exact (z_op9 hck (by decide)).elim
  · cases h
theorem z_s_jdk1 (F : z_F sc D b0 sA cA r p l s m args meth c) (hnL : r.2.2.2.2.1 = nL) {idx : Nat} {ax : List Nat} {d : Nat} (hd1 : d ≤ R.frames) (hd2 : 46 * d ≤ R.locals) (hdg : decode r.2.2.2.1 pc = .ok (.invokestatic idx, 3)) (hck : z_ckI 1 r.1 idx ax = true) (h : z_jdk ax d pc ls st hp = some C) (k : z_K p l e R s m args below meth c Q D b0 aA sA cA nL n0 sl0 C) : z_K p l e R s m args below meth c Q D b0 aA sA cA nL n0 sl0 (pc, ls, st, hp) := by
  unfold z_jdk at h
  split at h
  · exact (z_op6 hck (by decide)).elim
  · exact z_s_copy F hnL hd1 hd2 hdg hck h k
  · exact (z_op8 hck (by decide)).elim
  · exact (z_op9 hck (by decide)).elim
  · cases h
theorem z_s_jdk0 (F : z_F sc D b0 sA cA r p l s m args meth c) (hnL : r.2.2.2.2.1 = nL) {idx : Nat} {ax : List Nat} {d : Nat} (hd1 : d ≤ R.frames) (hd2 : 46 * d ≤ R.locals) (hdg : decode r.2.2.2.1 pc = .ok (.invokevirtual idx, 3)) (hck : z_ckI 0 r.1 idx ax = true) (h : z_jdk ax d pc ls st hp = some C) (hRc : z_n C.2.2.2 - n0 ≤ R.cells) (hRs : C.2.2.2.2.2 - sl0 ≤ R.slots) (k : z_K p l e R s m args below meth c Q D b0 aA sA cA nL n0 sl0 C) : z_K p l e R s m args below meth c Q D b0 aA sA cA nL n0 sl0 (pc, ls, st, hp) := by
  unfold z_jdk at h
  split at h
  · exact (z_op6 hck (by decide)).elim
  · exact (z_op7 hck (by decide)).elim
  · exact z_s_strl F hnL hd1 hd2 hdg hck h hRc hRs k
  · exact z_s_strc F hnL hd1 hd2 hdg hck h hRc hRs k
  · cases h
theorem z_loc_sound (F : z_F sc D b0 sA cA r p l s m args meth c) (hnL : r.2.2.2.2.1 = nL) {i : Instr} {len : Nat} {ax : List Nat} {d : Nat} (hd1 : d ≤ R.frames) (hd2 : 46 * d ≤ R.locals) (hdg : decode r.2.2.2.1 pc = .ok (i, len)) (hlen : z_lok i len = true) (hck : z_ckL r.1 r.2.1 i ax = true) (h : z_loc sc d nL i ax pc ls st hp = some C) (hRc : z_n C.2.2.2 - n0 ≤ R.cells) (hRs : C.2.2.2.2.2 - sl0 ≤ R.slots) (hw : z_hwf hp) (kA : ∀ aA' : Nat → Nat, z_ag hp.1.length aA aA' → z_K p l e R s m args below meth c Q D b0 aA' sA cA nL n0 sl0 C) : z_K p l e R s m args below meth c Q D b0 aA sA cA nL n0 sl0 (pc, ls, st, hp) := by
  have k := kA aA z_ag_rfl
  have L : ∀ n, z_ln i = n → n ≠ 0 → decode r.2.2.2.1 pc = .ok (i, n) := fun n h1 h0 => by rw [z_lok_eq hlen h1 h0] at hdg; exact hdg
  cases i
  case iconst n => exact z_s_iconst F (L 1 rfl (by decide)) (by cases h; exact k)
  case bipush n => exact z_s_bipush F (L 2 rfl (by decide)) (by cases h; exact k)
  case sipush n => exact z_s_sipush F (L 3 rfl (by decide)) (by cases h; exact k)
  case lconst n => exact z_s_lconst F (L 1 rfl (by decide)) (by cases h; exact k)
  case dconst n => exact z_s_dconst F (L 1 rfl (by decide)) h k
  case fconst n => exact z_s_fconst F (L 1 rfl (by decide)) h k
  case ldc n => exact z_s_ldc F (L 2 rfl (by decide)) hck h k
  case iload_n n => exact z_s_iload_n F (L 1 rfl (by decide)) h k
  case iload n => exact z_s_iload F (L 2 rfl (by decide)) h k
  case aload_n n => exact z_s_aload_n F (L 1 rfl (by decide)) h k
  case aload n => exact z_s_aload F (L 2 rfl (by decide)) h k
  case fload n => exact z_s_fload F (L 2 rfl (by decide)) h k
  case dload n => exact z_s_dload F (L 2 rfl (by decide)) h k
  case istore_n n => exact z_s_istore_n F (L 1 rfl (by decide)) h k
  case istore n => exact z_s_istore F (L 2 rfl (by decide)) h k
  case astore_n n => exact z_s_astore_n F (L 1 rfl (by decide)) h k
  case astore n => exact z_s_astore F (L 2 rfl (by decide)) h k
  case fstore n => exact z_s_fstore F (L 2 rfl (by decide)) h k
  case dstore n => exact z_s_dstore F (L 2 rfl (by decide)) h k
  case iinc n q => exact z_s_iinc F (L 3 rfl (by decide)) h k
  case iadd  => exact z_s_iadd F (L 1 rfl (by decide)) h k
  case isub  => exact z_s_isub F (L 1 rfl (by decide)) h k
  case imul  => exact z_s_imul F (L 1 rfl (by decide)) h k
  case iand  => exact z_s_iand F (L 1 rfl (by decide)) h k
  case ishr  => exact z_s_ishr F (L 1 rfl (by decide)) h k
  case ixor  => exact z_s_ixor F (L 1 rfl (by decide)) h k
  case idiv  => exact z_s_idiv F (L 1 rfl (by decide)) h k
  case irem  => exact z_s_irem F (L 1 rfl (by decide)) h k
  case ineg  => exact z_s_ineg F (L 1 rfl (by decide)) h k
  case i2c  => exact z_s_i2c F (L 1 rfl (by decide)) h k
  case i2l  => exact z_s_i2l F (L 1 rfl (by decide)) h k
  case i2d  => exact z_s_i2d F (L 1 rfl (by decide)) h k
  case i2f  => exact z_s_i2f F (L 1 rfl (by decide)) h k
  case f2d  => exact z_s_f2d F (L 1 rfl (by decide)) h k
  case ddiv  => exact z_s_ddiv F (L 1 rfl (by decide)) h k
  case fdiv  => exact z_s_fdiv F (L 1 rfl (by decide)) h k
  case lcmp  => exact z_s_lcmp F (L 1 rfl (by decide)) h k
  case dcmp n => exact z_s_dcmp F (L 1 rfl (by decide)) h k
  case fcmp n => exact z_s_fcmp F (L 1 rfl (by decide)) h k
  case dup  => exact z_s_dup F (L 1 rfl (by decide)) h k
  case dup2  => exact z_s_dup2 F (L 1 rfl (by decide)) h k
  case pop  => exact z_s_pop F (L 1 rfl (by decide)) h k
  case ifCond n q => exact z_s_if F (L 3 rfl (by decide)) h k
  case if_icmp n q => exact z_s_icmp F (L 3 rfl (by decide)) h k
  case goto n => exact z_s_goto F (L 3 rfl (by decide)) h k
  case ifnull n => exact z_s_ifnull F (L 3 rfl (by decide)) h k
  case tableswitch a b1 c1 d1 => exact z_s_tsw F hdg h k
  case lookupswitch a b1 => exact z_s_lsw F hdg h k
  case getfield n => exact z_s_getf F (L 3 rfl (by decide)) hck h k
  case putfield n => exact z_s_putf F (L 3 rfl (by decide)) hck h k
  case iaload  => exact z_s_iald F (L 1 rfl (by decide)) h k
  case caload  => exact z_s_cald F (L 1 rfl (by decide)) h k
  case baload  => exact z_s_zald F (L 1 rfl (by decide)) h k
  case iastore  => exact z_s_iast F (L 1 rfl (by decide)) h k
  case castore  => exact z_s_cast F (L 1 rfl (by decide)) h k
  case bastore  => exact z_s_zast F (L 1 rfl (by decide)) h k
  case laload  => exact z_s_lald F (L 1 rfl (by decide)) h k
  case lastore  => exact z_s_last F (L 1 rfl (by decide)) h k
  case daload  => exact z_s_dald F (L 1 rfl (by decide)) h k
  case dastore  => exact z_s_dast F (L 1 rfl (by decide)) h k
  case aaload  => exact z_s_qald F (L 1 rfl (by decide)) h k
  case aastore  => exact z_s_qast F (L 1 rfl (by decide)) h k
  case arraylength  => exact z_s_len F (L 1 rfl (by decide)) h k
  case newarray n => exact z_s_newa F (L 2 rfl (by decide)) hck h hRc hRs hw kA
  case anewarray n => exact z_s_anew F (L 3 rfl (by decide)) hck h hRc hRs hw kA
  case new n => exact z_s_newo F (L 3 rfl (by decide)) hck h hRc hRs hw kA
  case invokespecial n => exact z_s_jdk2 F hnL hd1 hd2 (L 3 rfl (by decide)) hck h k
  case invokestatic n => exact z_s_jdk1 F hnL hd1 hd2 (L 3 rfl (by decide)) hck h k
  case invokevirtual n => exact z_s_jdk0 F hnL hd1 hd2 (L 3 rfl (by decide)) hck h hRc hRs k
  all_goals (cases h)
theorem z_loc_mn {i : Instr} {ax : List Nat} {d : Nat} (h : z_loc sc d nL i ax pc ls st hp = some C) : z_mn hp C := by
  cases i
  case iconst n => exact by cases h; exact z_mn_rfl
  case bipush n => exact by cases h; exact z_mn_rfl
  case sipush n => exact by cases h; exact z_mn_rfl
  case lconst n => exact by cases h; exact z_mn_rfl
  case dconst n => have h : (if _ then some _ else none) = some C := h; split at h <;> cases h; exact z_mn_rfl
  case fconst n => 
    unfold z_loc at h
    dsimp only at h
    split at h
    · cases h; exact z_mn_rfl
    · split at h
      · cases h; exact z_mn_rfl
      · cases h
  case ldc n => exact z_mn_mk h
  case iload_n n => exact z_mn_mk h
  case iload n => exact z_mn_mk h
  case aload_n n => exact z_mn_mk h
  case aload n => exact z_mn_mk h
  case fload n => exact z_mn_mk h
  case dload n => exact z_mn_mk h
  case istore_n n => exact by obtain ⟨x, rr, -, -, rfl⟩ := z_sI_eq h; exact z_mn_rfl
  case istore n => exact by obtain ⟨x, rr, -, -, rfl⟩ := z_sI_eq h; exact z_mn_rfl
  case astore_n n => exact by obtain ⟨x, rr, -, -, rfl⟩ := z_sA_eq h; exact z_mn_rfl
  case astore n => exact by obtain ⟨x, rr, -, -, rfl⟩ := z_sA_eq h; exact z_mn_rfl
  case fstore n => exact by obtain ⟨x, rr, -, -, rfl⟩ := z_sF_eq h; exact z_mn_rfl
  case dstore n => exact by obtain ⟨x, rr, -, -, rfl⟩ := z_sD_eq h; exact z_mn_rfl
  case iinc n q => 
    have h : z_inc _ _ _ _ _ _ _ = some C := h
    unfold z_inc at h
    split at h
    · split at h
      · cases h; exact z_mn_rfl
      · cases h
    · cases h
  case iadd  => exact z_mn_mk h
  case isub  => exact z_mn_mk h
  case imul  => exact z_mn_mk h
  case iand  => exact z_mn_mk h
  case ishr  => exact z_mn_mk h
  case ixor  => exact z_mn_mk h
  case idiv  => exact z_mn_mk h
  case irem  => exact z_mn_mk h
  case ineg  => exact z_mn_mk h
  case i2c  => exact z_mn_mk h
  case i2l  => exact z_mn_mk h
  case i2d  => exact z_mn_mk h
  case i2f  => exact z_mn_mk h
  case f2d  => 
    unfold z_loc at h
    dsimp only at h
    split at h
    · split at h
      · cases h; exact z_mn_rfl
      · cases h
    · cases h
  case ddiv  => 
    unfold z_loc at h
    dsimp only at h
    split at h
    · split at h
      · cases h; exact z_mn_rfl
      · cases h
    · cases h
  case fdiv  => 
    unfold z_loc at h
    dsimp only at h
    split at h
    · split at h
      · cases h; exact z_mn_rfl
      · cases h
    · cases h
  case lcmp  => 
    unfold z_loc at h
    dsimp only at h
    split at h
    · cases h; exact z_mn_rfl
    · cases h
  case dcmp n => 
    unfold z_loc at h
    dsimp only at h
    split at h
    · cases h; exact z_mn_rfl
    · cases h
  case fcmp n => 
    unfold z_loc at h
    dsimp only at h
    split at h
    · cases h; exact z_mn_rfl
    · cases h
  case dup  => exact z_mn_mk h
  case dup2  => exact z_mn_mk h
  case pop  => exact z_mn_mk h
  case ifCond n q => exact z_mn_ifc h
  case if_icmp n q => exact z_mn_icm h
  case goto n => exact z_mn_gto h
  case ifnull n => exact z_mn_ifn (off := n) h
  case tableswitch a b1 c1 d1 => exact z_mn_tsw h
  case lookupswitch a b1 => exact z_mn_lsw h
  case getfield n => exact z_mn_mk h
  case putfield n => exact z_mn_pf h
  case iaload  => exact z_mn_mk h
  case caload  => exact z_mn_mk h
  case baload  => exact z_mn_mk h
  case iastore  => exact z_mn_ast h
  case castore  => exact z_mn_ast h
  case bastore  => exact z_mn_ast h
  case laload  => exact z_mn_mk h
  case lastore  => exact z_mn_last h
  case daload  => exact z_mn_mk h
  case dastore  => exact z_mn_dast h
  case aaload  => exact z_mn_mk h
  case aastore  => exact z_mn_qast h
  case arraylength  => exact z_mn_mk h
  case newarray n => exact z_mn_mka h
  case anewarray n => exact z_mn_mka h
  case new n => exact z_mn_mko h
  case invokespecial n => exact z_mn_jdk h
  case invokestatic n => exact z_mn_jdk h
  case invokevirtual n => exact z_mn_jdk h
  all_goals (cases h)
end ZD
end
section
section ZTH
def z_xat (e : Nat) : List Cond := vx_at0 RX9 (z_xl e).2 (z_xn e) ["java/lang/RuntimeException", "java/lang/Exception"]
theorem z_xat_ok : (List.range 6).all (fun e => (z_xat e).all (fun w => (!goodWord w || decide (w ∈ lw_tbl)) && (goodWord w || decide (w = Jvm.Cond.castable (z_xn e) (z_xn e) ∨ w ∈ z_dec.map (fun C => Jvm.Cond.declares ⟨C, "<init>", "()V"⟩))))) = true := by decide +kernel
theorem z_xat_ot : (List.range 6).all (fun e => (z_xat e).all vx_ot) = true := by decide +kernel
theorem z_xnk : (List.range 6).all (fun e => decide (Jvm.Cond.classLink RX9 (z_xl e).1 (z_xn e) ∈ lw_tbl) && (goodWord (Jvm.Cond.classLink RX9 (z_xl e).1 (z_xn e)) && (decide (Jvm.Cond.initialized (z_xn e) ∈ lw_tbl) && (goodWord (Jvm.Cond.initialized (z_xn e)) && (vx_ot (Jvm.Cond.classLink RX9 (z_xl e).1 (z_xn e)) && (vx_ot (Jvm.Cond.initialized (z_xn e)) && (Bundle.fit (z_xn e)))))))) = true := by decide +kernel
theorem z_xcl : ([0, 1, 2, 3, 5] : List Nat).all (fun e => decide (Jvm.Cond.classLink RL ([92, 94, 96, 98, 0, 261].getD e 0) (z_xn e) ∈ lw_tbl) && (goodWord (Jvm.Cond.classLink RL ([92, 94, 96, 98, 0, 261].getD e 0) (z_xn e)) && decide (Jvm.Cond.castable (z_xn e) (z_xn e) ∈ lw_tbl))) = true := by decide +kernel
end ZTH
end
section
/-! A run of the interpreter is a run of the machine: the frames, the calls, the throws. -/
section ZM
theorem z_G_warm {sc : Nat × (Nat → Int32)} {D : va_G} {b0 : Nat} {sA : Nat → Nat} {cA : Nat → ClassId} {s U : State} {H0 H1 : Heap} (h : z_G sc D b0 sA cA s H0) (hW : s.WarmedH U.vm) (hz : H0.size ≤ H1.size) (hq : ∀ a : Nat, a < H0.size → ¬ z_A0 b0 a → H1[a]? = H0[a]?) : z_G sc D b0 sA cA U H1 := by
  obtain ⟨h1, h2, h3, h4, h5, ⟨h6, ⟨adV, h7⟩, h8, h8b⟩, ⟨h9, h10, h11⟩, h12, h13, h14⟩ := h
  have hA := hW.alike
  refine ⟨h1.moved hA, ?_, h3.moved hA, (h4.moved hA).kept hq, (h5.moved hA).kept hq, ⟨fun j hj => (h6 j hj).warm hW, ⟨adV, (h7.moved hA).kept hq⟩, (h8.moved hA).kept hq, (h8b.moved hA).kept hq⟩, ⟨fun i j hi hj hij => (h9 i j hi hj hij).moved hA, fun j hj => (h10 j hj).warmC hW, fun C hC => (h11 C hC).warmD hW⟩, (h12.moved hA).kept (hq _ h13 h14), Nat.lt_of_lt_of_le h13 hz, h14⟩
  intro w hw
  have hx := h2 w hw
  simp only [z_nest, List.mem_cons, List.not_mem_nil, or_false] at hw
  rcases hw with rfl | rfl | rfl | rfl | rfl | rfl | rfl | rfl | rfl <;> exact hx.warmM hW
theorem z_lgsl (ad : Nat → Nat) (as : List Value) : (lg_sl (as.map (z_V ad))).length = (lg_sl as).length := by
  induction as with
  | nil => rfl
  | cons v l ih =>
    have e : ∀ (w : Value) (ws : List Value), lg_sl (w :: ws) = (if w.category = 2 then [.val w, .second] else [.val w]) ++ lg_sl ws := fun w ws => by unfold lg_sl; rw [List.flatMap_cons]
    rw [List.map_cons, e, e, List.length_append, List.length_append, ih, z_V_cat]
    split <;> rfl
theorem z_lvargs (ad : Nat → Nat) (as : List Value) : ∀ i : Nat, lv_args i (as.map (z_V ad)) = z_L ad (lv_args i as) := by
  induction as with
  | nil => intro i; rfl
  | cons v l ih =>
    intro i
    show (i, z_V ad v) :: lv_args (if (z_V ad v).category = 2 then i + 2 else i + 1) (l.map (z_V ad)) = (i, z_V ad v) :: z_L ad (lv_args (if v.category = 2 then i + 2 else i + 1) l)
    rw [z_V_cat, ih]
def z_Hq (D : va_G) (b0 : Nat) (aA sA : Nat → Nat) (cA : Nat → ClassId) (hp : z_H) (H : Heap) : Prop :=
  va_P D z_cl (z_W (z_ad aA sA) cA hp.1) H ∧ va_D (z_A0 b0) (z_W (z_ad aA sA) cA hp.1) ∧ b0 ≤ H.size
def z_Qc (n1 : Nat) (D : va_G) (b0 : Nat) (aA sA : Nat → Nat) (cA : Nat → ClassId) (res : z_R) (hp' : z_H) : Array Value → State → Outcome → State → Prop := fun _ st o t =>
  ∃ (v : Option Value) (aA' : Nat → Nat), res = .inl v ∧ z_ag n1 aA aA' ∧ o = .returned (v.map (z_V (z_ad aA' sA))) ∧ z_Hq D b0 aA' sA cA hp' t.heap ∧ va_F (z_A0 b0) st t
def z_XC (n1 : Nat) (D : va_G) (b0 : Nat) (aA sA : Nat → Nat) (cA : Nat → ClassId) (res : z_R) (hp' : z_H) : String → State → State → Prop := fun E st t =>
  ∃ (j : Nat) (aA' : Nat → Nat), res = .inr j ∧ z_ag n1 aA aA' ∧ E = z_xn j ∧ j < 6 ∧ z_Hq D b0 aA' sA cA hp' t.heap ∧ va_F (z_A0 b0) st t
def z_QE (n1 : Nat) (D : va_G) (b0 : Nat) (aA sA : Nat → Nat) (cA : Nat → ClassId) (below : List Frame) (args : Array Value) (s : State) (res : z_R) (hp' : z_H) (n0 sl0 : Nat) : State → Prop :=
  vx_MQ below (z_Qc n1 D b0 aA sA cA res hp') (z_XC n1 D b0 aA sA cA res hp') args s (z_n hp' - n0) (hp'.2.2 - sl0) (z_A0 b0)
def z_Pc (sc : Nat × (Nat → Int32)) (D : va_G) (b0 : Nat) (aA sA : Nat → Nat) (cA : Nat → ClassId) (as : List Value) (hp : z_H) : Array Value → State → Prop := fun a U =>
  a = (as.map (z_V (z_ad aA sA))).toArray ∧ z_Hq D b0 aA sA cA hp U.heap ∧ U.heap.size ≤ b0 + z_n hp ∧ z_G sc D b0 sA cA U U.heap
/-- what a run says of the machine -/
def z_WS (sc : Nat × (Nat → Int32)) (D : va_G) (b0 : Nat) (aA sA : Nat → Nat) (cA : Nat → ClassId) (l : Launch) (d k pc : Nat) (ls : z_Ls) (st : List Value) (hp : z_H) (res : z_R) (hp' : z_H) : Prop :=
  ∀ (r : z_Rec), z_rec k = some r → ∀ (p : Program) (e : Env) (R : Room) (s : State) (m : MethodId) (args : Array Value) (below : List Frame) (meth : Method) (c : Code) (n0 sl0 n1 : Nat) (aA0 : Nat → Nat), z_hwf hp → n1 ≤ hp.1.length → z_ag n1 aA0 aA → z_F sc D b0 sA cA r p l s m args meth c → d ≤ R.frames → 46 * d ≤ R.locals → z_n hp' - n0 ≤ R.cells → hp'.2.2 - sl0 ≤ R.slots →
    z_K p l e R s m args below meth c (z_QE n1 D b0 aA0 sA cA below args s res hp' n0 sl0) D b0 aA sA cA r.2.2.2.2.1 n0 sl0 (pc, ls, st, hp)
section Calls
variable {l : Launch} {sc : Nat × (Nat → Int32)} {D : va_G} {b0 : Nat} {aA sA : Nat → Nat} {cA : Nat → ClassId}
theorem z_plain : ∀ o : Nat, z_own o ≠ "java/lang/invoke/MethodHandle" ∧ z_own o ≠ "java/lang/invoke/VarHandle" := by
  intro o
  unfold z_own
  split <;> decide +kernel
theorem z_ofW {y : MethodName} {ws ws' : List Jvm.Cond} {rm : Room} {Pc : Array Value → State → Prop} {Qc : Array Value → State → Outcome → State → Prop} {XC : String → State → State → Prop} {mc ms : Nat} {free : Addr → Prop} {cc : ByteArray} {maxL : Nat} {ret : Option FieldType}
    (hy : plainFor y = true) (hw : ws = Jvm.Cond.code y cc maxL ret :: ws')
    (body : ∀ p e s m args below meth c s₁, BodyLoose p l y (headSpec ws rm) cc maxL ret e s m args below meth c s₁ → c.maxLocals = maxL → (∀ x ∈ c.exceptionTable.toList, False) → Pc args s →
      W p l e (headSpec ws rm).room s m args below meth c s.heap [] 0 0 (vx_MQ below Qc XC args s mc ms free) (entryFrame m args maxL)) : vx_Met l y ws rm Pc Qc XC mc ms free := by
  refine MetFree.of_bodySF (code := cc) (maxLocals := maxL) (ret := ret) hy ?_ ?_
  · intro args s m h hn
    obtain ⟨meth, c, h1, h2, h3, h4, h5, h6, -, -⟩ := Cond.code_spec hn (atoms_spec (ws := ws) h _ (by rw [hw]; exact List.mem_cons_self))
    exact ⟨meth, c, h1, h2, h3, h4, h5, h6⟩
  · intro p e s m args below meth c s₁ B hml hP _
    have hh0 : s₁.heap = s.heap := by rw [B.state]; rfl
    have ht : ∀ x ∈ c.exceptionTable.toList, False := by
      obtain ⟨meth9, c9, h1, h2, -, -, -, -, h7, -⟩ := Cond.code_spec B.named (atoms_spec (ws := ws) B.pre _ (by rw [hw]; exact List.mem_cons_self))
      cases Option.some.inj (h1.symm.trans B.method)
      cases Option.some.inj (h2.symm.trans (Stand.of_body B).code)
      intro x hx
      rw [Array.isEmpty_iff.mp h7] at hx
      cases hx
    obtain ⟨t, a1, o, b1, b2, b3⟩ := body p e s m args below meth c s₁ B hml ht hP s₁ hh0 (Stand.of_body B)
    exact ⟨t, o, a1, b1, b2, b3⟩
def z_rm0 (d : Nat) (hp hp' : z_H) : Room := { frames := d, cells := z_n hp' - z_n hp, slots := hp'.2.2 - hp.2.2, locals := 46 * d }
/-- the body of a method, from the entry -/
theorem z_body {d k : Nat} {as : List Value} {hp hp' : z_H} {res : z_R} {r : z_Rec} {ws : List Jvm.Cond} (hr : z_rec k = some r) (hw : z_hwf hp) (IH : z_WS sc D b0 aA sA cA l d k 0 (lv_args 0 as) [] hp res hp') (hlg : (lg_sl as).length ≤ r.2.2.2.2.1) (hl : l.stackTraces = false) (hgt : ∀ w ∈ z_gt, w ∈ ws)
    {p : Program} {e : Env} {s : State} {m : MethodId} {args : Array Value} {below : List Frame} {meth : Method} {c : Code} {s₁ : State} (B : BodyLoose p l (z_y r) (headSpec ws (z_rm0 d hp hp')) r.2.2.2.1 r.2.2.2.2.1 r.2.2.2.2.2.1 e s m args below meth c s₁) (hml : c.maxLocals = r.2.2.2.2.1) (ht : c.exceptionTable.toList = tableOf r.2.2.2.2.2.2.1) (hP : z_Pc sc D b0 aA sA cA as hp args s) :
    W p l e (headSpec ws (z_rm0 d hp hp')).room s m args below meth c s.heap [] 0 0 (vx_MQ below (z_Qc hp.1.length D b0 aA sA cA res hp') (z_XC hp.1.length D b0 aA sA cA res hp') args s (z_n hp' - z_n hp) (hp'.2.2 - hp.2.2) (z_A0 b0)) (entryFrame m args r.2.2.2.2.1) := by
  obtain ⟨rfl, ⟨hq1, hq2, hq3⟩, hsz, hG⟩ := hP
  have hts := atoms_spec (ws := ws) B.pre
  have F : z_F sc D b0 sA cA r p l s m _ meth c := ⟨B.exec, B.bytes, B.returns, hml, findClass_of_methodNamed B.named, fun w hw => hts w (hgt w hw), B.notSynchronized, ht, (name_of_methodNamed B.named B.method).1, hl, hG⟩
  have K := IH r hr p e (z_rm0 d hp hp') s m _ below meth c (z_n hp) hp.2.2 hp.1.length aA hw (Nat.le_refl _) z_ag_rfl F (Nat.le_refl _) (Nat.le_refl _) (Nat.le_refl _) (Nat.le_refl _)
  rw [lg_entry_eq]
  have hlv := lv_entry (as.map (z_V (z_ad aA sA))) (n := r.2.2.2.2.1) (by rw [z_lgsl]; exact hlg)
  rw [z_lvargs] at hlv
  have hk := K _ s.heap [] hlv ⟨hq1, hq2, va_S.rf, ⟨hsz, hq3⟩, hsz, Nat.le_refl _, Nat.le_refl _⟩
  rw [show z_n ((0, lv_args 0 as, ([] : List Value), hp) : z_C).2.2.2 - z_n hp = 0 from Nat.sub_self _, show ((0, lv_args 0 as, ([] : List Value), hp) : z_C).2.2.2.2.2 - hp.2.2 = 0 from Nat.sub_self _] at hk
  exact hk
def z_ws (r : z_Rec) : List Jvm.Cond := Jvm.Cond.code (z_y r) r.2.2.2.1 r.2.2.2.2.1 r.2.2.2.2.2.1 :: z_gt
def z_wsH (r : z_Rec) : List Jvm.Cond := Jvm.Cond.codeWith (z_y r) r.2.2.2.1 r.2.2.2.2.1 r.2.2.2.2.2.1 r.2.2.2.2.2.2.1 :: z_gt
theorem z_met {d k : Nat} {as : List Value} {hp hp' : z_H} {res : z_R} {r : z_Rec} (hr : z_rec k = some r) (hw : z_hwf hp) (IH : z_WS sc D b0 aA sA cA l d k 0 (lv_args 0 as) [] hp res hp') (hlg : (lg_sl as).length ≤ r.2.2.2.2.1) (hl : l.stackTraces = false) (hh : r.2.2.2.2.2.2.1 = []) (hy : plainFor (z_y r) = true) : vx_Met l (z_y r) (z_ws r) (z_rm0 d hp hp') (z_Pc sc D b0 aA sA cA as hp) (z_Qc hp.1.length D b0 aA sA cA res hp') (z_XC hp.1.length D b0 aA sA cA res hp') (z_n hp' - z_n hp) (hp'.2.2 - hp.2.2) (z_A0 b0) := by
  refine z_ofW (cc := r.2.2.2.1) (maxL := r.2.2.2.2.1) (ret := r.2.2.2.2.2.1) hy rfl ?_
  intro p e s m args below meth c s₁ B hml ht hP
  exact z_body hr hw IH hlg hl (fun w hw => List.mem_cons_of_mem _ hw) B hml (by rw [hh]; exact List.eq_nil_iff_forall_not_mem.mpr (fun x hx => ht x hx)) hP
theorem z_metH {d k : Nat} {as : List Value} {hp hp' : z_H} {res : z_R} {r : z_Rec} (hr : z_rec k = some r) (hw : z_hwf hp) (IH : z_WS sc D b0 aA sA cA l d k 0 (lv_args 0 as) [] hp res hp') (hlg : (lg_sl as).length ≤ r.2.2.2.2.1) (hl : l.stackTraces = false) (hy : plainName (z_own r.1) = true) : vx_Met l (z_y r) (z_wsH r) (z_rm0 d hp hp') (z_Pc sc D b0 aA sA cA as hp) (z_Qc hp.1.length D b0 aA sA cA res hp') (z_XC hp.1.length D b0 aA sA cA res hp') (z_n hp' - z_n hp) (hp'.2.2 - hp.2.2) (z_A0 b0) := by
  refine vx_ofWH (cc := r.2.2.2.1) (maxL := r.2.2.2.2.1) (ret := r.2.2.2.2.2.1) (hh := r.2.2.2.2.2.2.1) hy rfl ?_
  intro p e s m args below meth c s₁ B hml hP
  exact z_body hr hw IH hlg hl (fun w hw => List.mem_cons_of_mem _ hw) B hml (vx_table (x := z_y r) B (atoms_spec (ws := z_wsH r) B.pre _ List.mem_cons_self)) hP
/-- a callee that returns -/
theorem z_met_ret {y : MethodName} {ws : List Jvm.Cond} {rm : Room} {Pc : Array Value → State → Prop} {n1 : Nat} {v : Option Value} {hp' : z_H} {mc ms : Nat} {free : Addr → Prop} (h : vx_Met l y ws rm Pc (z_Qc n1 D b0 aA sA cA (.inl v) hp') (z_XC n1 D b0 aA sA cA (.inl v) hp') mc ms free) : Met l y ws rm Pc (z_Qc n1 D b0 aA sA cA (.inl v) hp') mc ms free := by
  intro p e ha hc hk s m args below hf happ hP hK
  obtain ⟨n, o, h1, h2, h3, h4⟩ := h p e ha hc hk s m args below hf happ hP hK
  refine ⟨n, o, h1, h2, h3, ?_⟩
  rcases h4 with h4 | ⟨q, -, E, ce, L, ⟨j, aX, hj, -⟩, -⟩
  · exact h4
  · cases hj
theorem z_blind {as : List Value} {hp : z_H} : FrameBlind (z_Pc sc D b0 aA sA cA as hp) := by
  intro a U g mk h
  obtain ⟨h1, h2, h3, h4⟩ := h
  exact ⟨h1, h2, h3, z_G_warm (U := U.calling g mk a) h4 (State.WarmedH.refl U) (Nat.le_refl _) (fun _ _ _ => rfl)⟩
theorem z_good : GoodIn z_gt z_gt := fun w hw => ⟨hw, good_of_word (List.mem_filter.mp hw).2⟩
theorem z_goodl {ws : List Jvm.Cond} (h : ∀ w ∈ ws, w ∈ z_gt) : GoodIn z_gt ws := fun w hw => z_good w (h w hw)
end Calls
end ZM
end
section
section ZN
variable {p : Program} {l : Launch} {e : Env} {R : Room} {s : State} {m : MethodId} {args : Array Value} {below : List Frame} {meth : Method} {c : Code} {Q : State → Prop} {D : va_G} {b0 : Nat} {aA sA : Nat → Nat} {cA : Nat → ClassId} {nL n0 sl0 : Nat} {r : z_Rec} {sc : Nat × (Nat → Int32)}
variable {pc : Nat} {ls : z_Ls} {st st' : List Value} {hp hp' : z_H} {res : z_R}
theorem z_run_W {H : Heap} {locs : List Loc} {cells slots mc ms n1 : Nat} {lsM : Array Slot} {st0 rest : List Value} {a : Array Value} (hr : vx_Run p l e R s m args below meth c H locs cells slots mc ms (F0 m pc lsM st0) rest (z_Qc n1 D b0 aA sA cA res hp' a) (z_XC n1 D b0 aA sA cA res hp') (z_A0 b0)) (hS : va_S (z_A0 b0) s.heap H locs)
    (kr : ∀ (v : Option Value) (aA' : Nat → Nat), res = .inl v → z_ag n1 aA aA' → ∀ (H1 : Heap) (locs1 : List Loc), z_Hq D b0 aA' sA cA hp' H1 → va_S (z_A0 b0) s.heap H1 locs1 → W p l e R s m args below meth c H1 locs1 (cells + mc) (slots + ms) Q (F0 m (pc + 3) lsM ((v.map (z_V (z_ad aA' sA))).toList ++ rest)))
    (kx : ∀ (j : Nat) (aA' : Nat → Nat), res = .inr j → j < 6 → z_ag n1 aA aA' → ∀ (H1 : Heap) (locs1 : List Loc) (q9 : Addr) (ce : Cell), z_Hq D b0 aA' sA cA hp' H1 → va_S (z_A0 b0) s.heap H1 locs1 → H1[q9]? = some ce → ce.vm = .none → s.vm.findClass (z_xn j) = some ce.cls → vx_W p l e R s m args below meth c H1 locs1 (cells + mc) (slots + ms) Q (F0 m pc lsM rest) q9) :
    W p l e R s m args below meth c H locs cells slots Q (F0 m pc lsM st0) := by
  intro T hT X
  rcases hr T hT X with ⟨v, st₀, t, T', L, h0, X', hL, e1, e2, ⟨v', aX, hv1, hag, hv2, hH, hF⟩, stp⟩ | ⟨q, st₀, t, T', L, E, ce, h0, X', hL, e1, e2, ⟨j, aX, hj1, hag, hj2, hj3, hH, hF⟩, hce, hcv, hcl, stp⟩
  · cases hv2
    obtain ⟨k1, k2, k3⟩ := vx_keep h0 e1 hS (fun _ _ h => h) (fun _ h => h) hL hF
    obtain ⟨t2, a1, b1⟩ := kr v' aX hv1 hag T'.heap (locs ++ L) (by rw [e1]; exact hH) k3 T' rfl X'
    exact ⟨t2, stp t2 a1, b1⟩
  · subst hj2
    obtain ⟨k1, k2, k3⟩ := vx_keep h0 e1 hS (fun _ _ h => h) (fun _ h => h) hL hF
    obtain ⟨t2, a1, b1⟩ := kx j aX hj1 hj3 hag T'.heap (locs ++ L) q ce (by rw [e1]; exact hH) k3 (by rw [e1]; exact hce) hcv hcl T' rfl X'
    exact ⟨t2, stp.trans a1, b1⟩
theorem z_run_ret {H : Heap} {locs : List Loc} {cells slots mc ms : Nat} {g : JFrame} {rest : List Value} {Qa : State → Outcome → State → Prop} {XC : String → State → State → Prop} {free : Addr → Prop} (h : va_Run p l e R s m args below meth c H locs cells slots mc ms g rest Qa free) : vx_Run p l e R s m args below meth c H locs cells slots mc ms g rest Qa XC free := fun T hT X => Or.inl (h T hT X)
theorem z_args_eq {kd n : Nat} {as rr : List Value} (h : z_args kd n st = some (as, rr)) : n ≤ st.length ∧ (((kd = 0 ∨ kd = 3 ∨ kd = 4) ∧ ∃ b, as = .ref b :: (st.take n).reverse ∧ st.drop n = .ref b :: rr) ∨ (¬ (kd = 0 ∨ kd = 3 ∨ kd = 4) ∧ as = (st.take n).reverse ∧ rr = st.drop n)) := by
  unfold z_args at h
  by_cases hn : Nat.ble n st.length = true
  · rw [hn] at h
    refine ⟨Nat.le_of_ble_eq_true hn, ?_⟩
    dsimp only [cond_true] at h
    split at h
    · split at h
      · rename_i b rr' hd; cases h; exact Or.inl ⟨Or.inl rfl, b, rfl, hd⟩
      · cases h
    · split at h
      · rename_i b rr' hd; cases h; exact Or.inl ⟨Or.inr (Or.inl rfl), b, rfl, hd⟩
      · cases h
    · split at h
      · rename_i b rr' hd; cases h; exact Or.inl ⟨Or.inr (Or.inr rfl), b, rfl, hd⟩
      · cases h
    · rename_i h0 h3 h4
      cases h
      exact Or.inr ⟨by intro q; rcases q with q | q | q; exact h0 q; exact h3 q; exact h4 q, rfl, rfl⟩
  · rw [Bool.eq_false_iff.mpr hn] at h; cases h
/-- a call, by its kind -/
theorem z_call (hT : ∀ (k : Nat) (r : z_Rec), z_rec k = some r → z_ckR r = true) (F : z_F sc D b0 sA cA r p l s m args meth c) {i : Instr} {op idx kd k2 n d : Nat} {tl : List Nat} {as rr : List Value} {r2 : z_Rec} (hop : (op = 0 ∧ i = .invokevirtual idx) ∨ (op = 1 ∧ i = .invokestatic idx) ∨ (op = 2 ∧ i = .invokespecial idx))
    (hdg : decode r.2.2.2.1 pc = .ok (i, 3)) (hlen : tl.length = 5) (hck : z_ckI op r.1 idx (kd :: k2 :: n :: tl) = true) (hr2 : z_rec k2 = some r2) (ha : z_args kd n st = some (as, rr)) (hlg : (lg_sl as).length ≤ r2.2.2.2.2.1) (hmL : r2.2.2.2.2.1 ≤ 20) (hcat : z_cat rr ≤ 8) (hrc : z_rcv kd r2.1 as hp = true) (hh : kd = 5 ∨ r2.2.2.2.2.2.2.1 = []) (hres : kd ≤ 1 ∨ ∃ v, res = .inl v)
    (hw : z_hwf hp) (IH : z_WS sc D b0 aA sA cA l d k2 0 (lv_args 0 as) [] hp res hp') (hd1 : d + 1 ≤ R.frames) (hd2 : 46 * (d + 1) ≤ R.locals) (hm1 : z_n hp ≤ z_n hp') (hm2 : hp.2.2 ≤ hp'.2.2) (hRc : z_n hp' - n0 ≤ R.cells) (hRs : hp'.2.2 - sl0 ≤ R.slots)
    {lsM : Array Slot} {H : Heap} {locs : List Loc} (hsz : lsM.size = r.2.2.2.2.1) (hI : z_I D b0 aA sA cA n0 sl0 s hp H locs) :
    ∃ a, vx_Run p l e R s m args below meth c H locs (z_n hp - n0) (hp.2.2 - sl0) (z_n hp' - z_n hp) (hp'.2.2 - hp.2.2) (F0 m pc lsM (st.map (z_V (z_ad aA sA)))) (rr.map (z_V (z_ad aA sA))) (z_Qc hp.1.length D b0 aA sA cA res hp' a) (z_XC hp.1.length D b0 aA sA cA res hp') (z_A0 b0) := by
  obtain ⟨i1, i2, i3, i4, i5, i6, i7⟩ := hI
  have hts := F.2.2.2.2.2.1
  have hpl : plainFor (z_y r2) = true := by
    have h0 := hT k2 r2 hr2
    simp only [z_ckR, Bool.and_eq_true] at h0
    exact h0.1
  have hst := F.2.2.2.2.2.2.2.2.2.1
  have hG := F.2.2.2.2.2.2.2.2.2.2
  obtain ⟨hn, hcase⟩ := z_args_eq ha
  have hf : z_n hp - n0 + (z_n hp' - z_n hp) ≤ R.cells ∧ hp.2.2 - sl0 + (hp'.2.2 - hp.2.2) ≤ R.slots := ⟨by omega, by omega⟩
  have S : CallFix p m c r.2.2.2.1 r.2.2.2.2.1 s args z_gt (z_own r.1) := ⟨F.1, F.2.1, F.2.2.2.1, F.2.2.2.2.1, hts⟩
  have hR : (z_rm0 d hp hp').frames + 1 ≤ R.frames ∧ 8 + (r2.2.2.2.2.1 + 11) + (z_rm0 d hp hp').locals ≤ R.locals := ⟨hd1, by show 8 + (r2.2.2.2.2.1 + 11) + 46 * d ≤ R.locals; omega⟩
  have hblind : FrameBlind (z_Pc sc D b0 aA sA cA as hp) := z_blind
  have hpre : ∀ U : State, U.heap = H → s.WarmedH U.vm → z_Pc sc D b0 aA sA cA as hp (as.map (z_V (z_ad aA sA))).toArray U := fun U hU hW => ⟨rfl, by rw [hU]; exact ⟨i1, i2, i4.2⟩, by rw [hU]; exact i4.1, by rw [hU]; exact z_G_warm hG hW i3.1 i3.2.1⟩
  have hroom : 2 * (F0 m pc lsM (st.map (z_V (z_ad aA sA)))).monitorRoom + ((rr.map (z_V (z_ad aA sA))).map fun v => v.category).sum ≤ 8 := lv_room (by rw [z_cat_map]; exact hcat)
  have hlenT : ((st.take n).reverse.map (z_V (z_ad aA sA))).length = n := by rw [List.length_map, List.length_reverse, List.length_take]; omega
  have hsplit : st.map (z_V (z_ad aA sA)) = ((st.take n).reverse.map (z_V (z_ad aA sA))).reverse ++ (st.drop n).map (z_V (z_ad aA sA)) := by
    rw [← List.map_reverse, List.reverse_reverse, ← List.map_append, List.take_append_drop]
  obtain ⟨p1, p2, p3, p4, p5, rfl⟩ : ∃ p1 p2 p3 p4 p5, tl = [p1, p2, p3, p4, p5] := by
    match tl, hlen with
    | [a1, a2, a3, a4, a5], _ => exact ⟨a1, a2, a3, a4, a5, rfl⟩
  unfold z_ckI at hck
  dsimp only at hck
  rw [hr2] at hck
  dsimp only at hck
  simp only [Bool.and_eq_true, decide_eq_true_eq] at hck
  obtain ⟨hna, hini, hck⟩ := hck
  have hnd : z_own r2.1 ≠ "java/lang/invoke/MethodHandle" ∧ z_own r2.1 ≠ "java/lang/invoke/VarHandle" ∧ (parseMethodDescriptor (z_y r2).desc).map (fun d => d.parameters.length) = some n := ⟨(z_plain r2.1).1, (z_plain r2.1).2, hna⟩
  split at hck
  · -- virtual
    simp only [Bool.and_eq_true, decide_eq_true_eq] at hck
    obtain ⟨ho, hc11, w1, w2, w3, w5⟩ := hck
    rcases hop with ⟨-, rfl⟩ | ⟨q, -⟩ | ⟨q, -⟩
    · rcases hcase with ⟨-, b, has, hdr⟩ | ⟨q, -⟩
      · have hM := z_met hr2 hw IH hlg hst (hh.resolve_left (by decide)) hpl
        refine ⟨_, vx_runV (As := (st.take n).reverse.map (z_V (z_ad aA sA))) (C := z_own r2.1) (b := z_ad aA sA b) S hM (cwV n hts (z_goodl (ws := wsV (z_own r.1) idx (z_own r2.1) (z_y r2) (z_ws r2)) ?_) rfl rfl rfl ⟨rfl, hnd⟩ hR) ⟨hblind, ?_, ?_⟩ rfl hlenT hsz ?_ hroom hdg hf⟩
        · intro w hw
          simp only [wsV, z_ws, List.mem_append, List.mem_cons, List.not_mem_nil, or_false] at hw
          rcases hw with (rfl | rfl | rfl | rfl) | rfl | hw
          · exact z_at_mem w1
          · exact z_at_mem w2
          · exact z_at_mem w3
          · exact z_at_mem hini
          · exact z_at_mem w5
          · exact hw
        · rw [has] at hrc
          simp only [z_rcv] at hrc
          split at hrc
          · rename_i c' fs hcell
            have hc' : c' = r2.1 := Nat.eq_of_beq_eq_true hrc
            subst hc'
            obtain ⟨q, hq1, hq2⟩ : ∃ q : vw_C, z_cl[r2.1]? = some q ∧ q.1 = z_own r2.1 := by
              match hx : r2.1, hc11 with
              | 0, _ => exact ⟨_, rfl, rfl⟩
              | 1, _ => exact ⟨_, rfl, rfl⟩
              | 2, _ => exact ⟨_, rfl, rfl⟩
              | 3, _ => exact ⟨_, rfl, rfl⟩
              | 4, _ => exact ⟨_, rfl, rfl⟩
              | 5, _ => exact ⟨_, rfl, rfl⟩
              | 6, _ => exact ⟨_, rfl, rfl⟩
              | 7, _ => exact ⟨_, rfl, rfl⟩
              | 8, _ => exact ⟨_, rfl, rfl⟩
              | 9, _ => exact ⟨_, rfl, rfl⟩
              | q + 10, h => omega
            have hv := va_recv hG.1 i1 hq1 (z_W_at (ad := z_ad aA sA) (cA := cA) hcell)
            rw [hq2] at hv
            exact hv
          · cases hrc
        · have e1 : (Value.ref (z_ad aA sA b) :: (st.take n).reverse.map (z_V (z_ad aA sA))) = as.map (z_V (z_ad aA sA)) := by rw [has]; rfl
          rw [e1]
          exact hpre
        · show st.map (z_V (z_ad aA sA)) = _
          rw [hsplit, hdr]
          rfl
      · exact absurd (Or.inl rfl) q
    · omega
    · omega
  · -- static
    simp only [Bool.and_eq_true, decide_eq_true_eq] at hck
    obtain ⟨ho, w1, w2, w5⟩ := hck
    rcases hop with ⟨q, -⟩ | ⟨-, rfl⟩ | ⟨q, -⟩
    · omega
    · rcases hcase with ⟨q, -⟩ | ⟨-, has, hdr⟩
      · omega
      · subst hdr
        have hM := z_met hr2 hw IH hlg hst (hh.resolve_left (by decide)) hpl
        have hcb : CallB R s args (z_own r.1) idx (z_y r2) r2.2.2.2.1 r2.2.2.2.2.1 r2.2.2.2.2.2.1 (z_ws r2) (z_rm0 d hp hp') (z_n hp' - z_n hp) (hp'.2.2 - hp.2.2) n := callB_of n hts (z_goodl (fun w hw => by
            rcases List.mem_cons.mp hw with rfl | hw
            · exact z_at_mem w5
            · exact hw)) rfl rfl rfl (hts _ (z_at_mem hini)) (hts _ (z_at_mem w1)) hnd hR
        refine ⟨_, vx_runS (As := (st.take n).reverse.map (z_V (z_ad aA sA))) S hM ⟨hcb, hts _ (z_at_mem w2)⟩ ⟨hblind, ?_⟩ rfl hlenT hsz hsplit hroom hdg hf⟩
        rw [← has]
        exact hpre
    · omega
  · -- static, of a nest mate
    simp only [Bool.and_eq_true, decide_eq_true_eq] at hck
    obtain ⟨ho, w1, w2, w5⟩ := hck
    obtain ⟨v, rfl⟩ := hres.resolve_left (by decide)
    rcases hop with ⟨q, -⟩ | ⟨-, rfl⟩ | ⟨q, -⟩
    · omega
    · rcases hcase with ⟨q, -⟩ | ⟨-, has, hdr⟩
      · omega
      · subst hdr
        have hM := z_met_ret (z_met hr2 hw IH hlg hst (hh.resolve_left (by decide)) hpl)
        have hcn := va_cnB (R := R) (own := z_own r.1) (host := RX9) (index := idx) (y := z_y r2) (bytes := r2.2.2.2.1) (maxL := r2.2.2.2.2.1) (ret := r2.2.2.2.2.2.1) (ws := z_ws r2) (rm := z_rm0 d hp hp') (mc := z_n hp' - z_n hp) (ms := hp'.2.2 - hp.2.2) n hts (z_goodl (fun w hw => by
            rcases List.mem_cons.mp hw with rfl | hw
            · exact z_at_mem w5
            · exact hw)) rfl rfl rfl (hG.2.1 _ w1) (hts _ (z_at_mem hini)) hnd hR
        refine ⟨_, z_run_ret (va_runSN (As := (st.take n).reverse.map (z_V (z_ad aA sA))) S hM ⟨hcn, hts _ (z_at_mem w2), trivial⟩ ⟨hblind, ?_⟩ rfl hlenT hsz hsplit hroom hdg hf)⟩
        rw [← has]
        exact hpre
    · omega
  · -- a constructor
    simp only [Bool.and_eq_true, decide_eq_true_eq] at hck
    obtain ⟨ho, hnm, hret, w1, w2, w5⟩ := hck
    obtain ⟨v, rfl⟩ := hres.resolve_left (by decide)
    rcases hop with ⟨q, -⟩ | ⟨q, -⟩ | ⟨-, rfl⟩
    · omega
    · omega
    · rcases hcase with ⟨-, b, has, hdr⟩ | ⟨q, -⟩
      · have hM := z_met_ret (z_met hr2 hw IH hlg hst (hh.resolve_left (by decide)) hpl)
        have hcb : CallB R s args (z_own r.1) idx (z_y r2) r2.2.2.2.1 r2.2.2.2.2.1 none (z_ws r2) (z_rm0 d hp hp') (z_n hp' - z_n hp) (hp'.2.2 - hp.2.2) n := callB_of n hts (z_goodl (fun w hw => by
            rcases List.mem_cons.mp hw with rfl | hw
            · rw [hret]; exact z_at_mem w5
            · exact hw)) (by unfold z_ws; rw [hret]) rfl rfl (hts _ (z_at_mem hini)) (hts _ (z_at_mem w1)) hnd hR
        refine ⟨_, z_run_ret (va_runI (As := (st.take n).reverse.map (z_V (z_ad aA sA))) (b := z_ad aA sA b) S hM ⟨hcb, hnm, hts _ (z_at_mem w2)⟩ ⟨hblind, ?_⟩ rfl hlenT hsz ?_ hroom hdg hf)⟩
        · have e1 : (Value.ref (z_ad aA sA b) :: (st.take n).reverse.map (z_V (z_ad aA sA))) = as.map (z_V (z_ad aA sA)) := by rw [has]; rfl
          rw [e1]
          exact hpre
        · show st.map (z_V (z_ad aA sA)) = _
          rw [hsplit, hdr]
          rfl
      · omega
  · -- a nest mate's constructor
    simp only [Bool.and_eq_true, decide_eq_true_eq] at hck
    obtain ⟨ho, hnm, hret, w1, w2, w5⟩ := hck
    obtain ⟨v, rfl⟩ := hres.resolve_left (by decide)
    rcases hop with ⟨q, -⟩ | ⟨q, -⟩ | ⟨-, rfl⟩
    · omega
    · omega
    · rcases hcase with ⟨-, b, has, hdr⟩ | ⟨q, -⟩
      · have hM := z_met_ret (z_met hr2 hw IH hlg hst (hh.resolve_left (by decide)) hpl)
        have hcn := va_cnB (R := R) (own := z_own r.1) (host := RX9) (index := idx) (y := z_y r2) (bytes := r2.2.2.2.1) (maxL := r2.2.2.2.2.1) (ret := none) (ws := z_ws r2) (rm := z_rm0 d hp hp') (mc := z_n hp' - z_n hp) (ms := hp'.2.2 - hp.2.2) n hts (z_goodl (fun w hw => by
            rcases List.mem_cons.mp hw with rfl | hw
            · rw [hret]; exact z_at_mem w5
            · exact hw)) (by unfold z_ws; rw [hret]) rfl rfl (hG.2.1 _ w1) (hts _ (z_at_mem hini)) hnd hR
        refine ⟨_, z_run_ret (va_runIN (As := (st.take n).reverse.map (z_V (z_ad aA sA))) (b := z_ad aA sA b) S hM ⟨hcn, hnm, hts _ (z_at_mem w2)⟩ ⟨hblind, ?_⟩ rfl hlenT hsz ?_ hroom hdg hf)⟩
        · have e1 : (Value.ref (z_ad aA sA b) :: (st.take n).reverse.map (z_V (z_ad aA sA))) = as.map (z_V (z_ad aA sA)) := by rw [has]; rfl
          rw [e1]
          exact hpre
        · show st.map (z_V (z_ad aA sA)) = _
          rw [hsplit, hdr]
          rfl
      · omega
  · -- static, with a table
    simp only [Bool.and_eq_true, decide_eq_true_eq] at hck
    obtain ⟨ho, hc11, w1, w2, w5⟩ := hck
    obtain ⟨v, rfl⟩ := hres.resolve_left (by decide)
    rcases hop with ⟨q, -⟩ | ⟨-, rfl⟩ | ⟨q, -⟩
    · omega
    · rcases hcase with ⟨q, -⟩ | ⟨-, has, hdr⟩
      · omega
      · subst hdr
        have hM := z_met_ret (z_metH hr2 hw IH hlg hst (by rw [hc11]; decide))
        have hcw := vx_cwSW (R := R) (own := z_own r.1) (index := idx) (y := z_y r2) (bytes := r2.2.2.2.1) (maxL := r2.2.2.2.2.1) (ret := r2.2.2.2.2.2.1) (hh := r2.2.2.2.2.2.2.1) (ws := z_wsH r2) (rm := z_rm0 d hp hp') (mc := z_n hp' - z_n hp) (ms := hp'.2.2 - hp.2.2) n hts (z_goodl (ws := va_wsS (z_own r.1) idx (z_y r2) (z_wsH r2)) (fun w hw => by
            simp only [va_wsS, z_wsH, List.mem_append, List.mem_cons, List.not_mem_nil, or_false] at hw
            rcases hw with (rfl | rfl | rfl) | rfl | hw
            · exact z_at_mem w1
            · exact z_at_mem w2
            · exact z_at_mem hini
            · exact z_at_mem w5
            · exact hw)) rfl rfl rfl hnd hR
        refine ⟨_, z_run_ret (vx_runSW (As := (st.take n).reverse.map (z_V (z_ad aA sA))) S hM hcw ⟨hblind, ?_⟩ rfl hlenT hsz hsplit hroom hdg hf)⟩
        rw [← has]
        exact hpre
    · omega
  · cases hck
end ZN
end
section
section ZO
variable {p : Program} {l : Launch} {e : Env} {R : Room} {s : State} {m : MethodId} {args : Array Value} {below : List Frame} {meth : Method} {c : Code} {Q : State → Prop} {D : va_G} {b0 : Nat} {aA sA : Nat → Nat} {cA : Nat → ClassId} {nL n0 sl0 : Nat} {r : z_Rec} {sc : Nat × (Nat → Int32)}
variable {pc : Nat} {ls : z_Ls} {st st' : List Value} {hp hp' : z_H} {res : z_R}
theorem z_fin_sound (F : z_F sc D b0 sA cA r p l s m args meth c) {i : Instr} {len : Nat} {v : Option Value} (hdg : decode r.2.2.2.1 pc = .ok (i, len)) (hlen : z_lok i len = true) (h : z_fin r.2.2.2.2.2.1 i st = some v) {n1 : Nat} {aA0 : Nat → Nat} (hag : z_ag n1 aA0 aA) : z_K p l e R s m args below meth c (z_QE n1 D b0 aA0 sA cA below args s (.inl v) hp n0 sl0) D b0 aA sA cA nL n0 sl0 (pc, ls, st, hp) := by
  have L : ∀ n, z_ln i = n → n ≠ 0 → decode r.2.2.2.1 pc = .ok (i, n) := fun n h1 h0 => by rw [z_lok_eq hlen h1 h0] at hdg; exact hdg
  have hret := F.2.2.1
  have hlk := F.2.2.2.2.2.2.1
  intro lsM H locs hl hI
  have hf : ∀ q ∈ locs, z_A0 b0 q.base := hI.2.2.1.2.2
  unfold z_fin at h
  split at h
  · split at h
    · rename_i x t hrt
      split at h
      · rename_i hn
        cases h
        exact vx_ret (W.zret F.1 F.2.1 (hret.trans hrt) hn (fun t ht hW => ⟨_, aA, rfl, hag, rfl, by rw [ht]; exact ⟨hI.1, hI.2.1, hI.2.2.2.1.2⟩, hI.2.2.1.F ht⟩) hf (L 1 rfl (by decide)) hlk)
      · cases h
    · cases h
  · split at h
    · rename_i x hrt
      cases h
      exact vx_ret (W.fret F.1 F.2.1 (hret.trans hrt) (fun t ht hW => ⟨_, aA, rfl, hag, rfl, by rw [ht]; exact ⟨hI.1, hI.2.1, hI.2.2.2.1.2⟩, hI.2.2.1.F ht⟩) hf (L 1 rfl (by decide)) hlk)
    · cases h
  · split at h
    · rename_i x nm hrt
      cases h
      exact vx_ret (W.aret F.1 F.2.1 (hret.trans hrt) (Or.inl ⟨_, rfl⟩) (Or.inr ⟨_, rfl⟩) (fun t ht hW => ⟨_, aA, rfl, hag, rfl, by rw [ht]; exact ⟨hI.1, hI.2.1, hI.2.2.2.1.2⟩, hI.2.2.1.F ht⟩) hf (L 1 rfl (by decide)) hlk)
    · cases h
  · split at h
    · rename_i x hrt
      cases h
      exact vx_ret (W.dret F.1 F.2.1 (hret.trans hrt) (fun t ht hW => ⟨_, aA, rfl, hag, rfl, by rw [ht]; exact ⟨hI.1, hI.2.1, hI.2.2.2.1.2⟩, hI.2.2.1.F ht⟩) hf (L 1 rfl (by decide)) hlk)
    · cases h
  · split at h
    · rename_i hrt
      cases h
      exact vx_ret (W.vret F.1 F.2.1 (hret.trans hrt) (fun t ht hW => ⟨none, aA, rfl, hag, rfl, by rw [ht]; exact ⟨hI.1, hI.2.1, hI.2.2.2.1.2⟩, hI.2.2.1.F ht⟩) hf (L 1 rfl (by decide)) hlk)
    · cases h
  · cases h
theorem z_isI_eq {lst : List z_En} {pc n : Nat} {i : Instr} (h : z_isI lst pc i n = true) : ∃ ax, z_find lst pc = some (i, n, ax) := by
  unfold z_isI at h
  split at h
  · rename_i j mm ax hf
    simp only [Bool.and_eq_true, decide_eq_true_eq] at h
    obtain ⟨rfl, h2⟩ := h
    exact ⟨ax, by rw [hf, Nat.eq_of_beq_eq_true h2]⟩
  · cases h
theorem z_thr_eq {d : Nat} {i : Instr} {ax : List Nat} {E : Nat} (h : z_thr r d pc i ax st hp = some (E, hp')) : E < 6 ∧ hp' = (hp.1, hp.2.1 + 1, hp.2.2 + 6) ∧ r.1 = 9 ∧ r.2.2.2.2.2.2.1 = [] ∧ st = [] ∧ 6 ≤ d ∧ i = .new (z_xl E).1 ∧ (∃ ax, z_find r.2.2.2.2.2.2.2.2 (pc + 3) = some (.dup, 1, ax)) ∧ (∃ ax, z_find r.2.2.2.2.2.2.2.2 (pc + 4) = some (.invokespecial (z_xl E).2, 3, ax)) ∧ ∃ ax, z_find r.2.2.2.2.2.2.2.2 (pc + 7) = some (.athrow, 1, ax) := by
  unfold z_thr at h
  split at h
  · rename_i e0
    generalize hb : (Nat.ble 100 e0 && (Nat.blt e0 106 && (Nat.beq r.1 9 && (r.2.2.2.2.2.2.1.isEmpty && (st.isEmpty && (Nat.ble 6 d && (decide (i = .new (z_xl (e0 - 100)).1) && (z_isI r.2.2.2.2.2.2.2.2 (pc + 3) .dup 1 && (z_isI r.2.2.2.2.2.2.2.2 (pc + 4) (.invokespecial (z_xl (e0 - 100)).2) 3 && z_isI r.2.2.2.2.2.2.2.2 (pc + 7) .athrow 1))))))))) = b at h
    cases b with
    | false => cases h
    | true =>
      cases h
      simp only [Bool.and_eq_true, decide_eq_true_eq] at hb
      obtain ⟨h1, h2, h3, h4, h5, h6, h7, h8, h9, h10⟩ := hb
      have h2' : e0 + 1 ≤ 106 := Nat.le_of_ble_eq_true h2
      have h1' := Nat.le_of_ble_eq_true h1
      exact ⟨by omega, rfl, Nat.eq_of_beq_eq_true h3, List.isEmpty_iff.mp h4, List.isEmpty_iff.mp h5, Nat.le_of_ble_eq_true h6, h7, z_isI_eq h8, z_isI_eq h9, z_isI_eq h10⟩
  · cases h
theorem z_xat_hold {U : State} {a : Array Value} (hts : ∀ w ∈ z_gt, w.before a U = true) (hc : ∀ j : Nat, j < 6 → va_Nw (.castable (z_xn j) (z_xn j)) U) (hd : ∀ C ∈ z_dec, va_Nw (.declares ⟨C, "<init>", "()V"⟩) U) {E : Nat} (hE : E < 6) : ∀ w ∈ z_xat E, w.before a U = true := by
  intro w hw
  have h1 := List.all_eq_true.mp (List.all_eq_true.mp z_xat_ok E (List.mem_range.mpr hE)) w hw
  simp only [Bool.and_eq_true, Bool.or_eq_true, Bool.not_eq_true', decide_eq_true_eq] at h1
  obtain ⟨h2, h3⟩ := h1
  by_cases hg : goodWord w = true
  · rcases h2 with h2 | h2
    · rw [hg] at h2; cases h2
    · exact hts w (List.mem_filter.mpr ⟨h2, hg⟩)
  · rcases h3 with h3 | rfl | h3
    · exact absurd h3 hg
    · exact va_Nw.use rfl (hc E hE)
    · obtain ⟨C, hC, rfl⟩ := List.mem_map.mp h3
      exact va_Nw.use rfl (hd C hC)
theorem z_thr_sound (hT : ∀ (k : Nat) (r : z_Rec), z_rec k = some r → z_ckR r = true) {k : Nat} (hr : z_rec k = some r) (F : z_F sc D b0 sA cA r p l s m args meth c) (hnL : r.2.2.2.2.1 = nL) {i : Instr} {len d E : Nat} {ax : List Nat} (hd1 : d ≤ R.frames) (hd2 : 46 * d ≤ R.locals) (hdg : decode r.2.2.2.1 pc = .ok (i, len)) (hlen : z_lok i len = true) (h : z_thr r d pc i ax st hp = some (E, hp')) (hRc : z_n hp' - n0 ≤ R.cells) (hRs : hp'.2.2 - sl0 ≤ R.slots) {n1 : Nat} {aA0 : Nat → Nat} (hag : z_ag n1 aA0 aA) : z_K p l e R s m args below meth c (z_QE n1 D b0 aA0 sA cA below args s (.inr E) hp' n0 sl0) D b0 aA sA cA nL n0 sl0 (pc, ls, st, hp) := by
  have L : ∀ n, z_ln i = n → n ≠ 0 → decode r.2.2.2.1 pc = .ok (i, n) := fun n h1 h0 => by rw [z_lok_eq hlen h1 h0] at hdg; exact hdg
  obtain ⟨hE, rfl, hr9, hh, rfl, h6, rfl, ⟨ax1, f1⟩, ⟨ax2, f2⟩, ⟨ax3, f3⟩⟩ := z_thr_eq h
  have d1 := (z_entry hT hr f1).1
  have d2 := (z_entry hT hr f2).1
  have d3 := (z_entry hT hr f3).1
  intro lsM H locs hl hI
  have hG := F.2.2.2.2.2.2.2.2.2.2
  have hts := F.2.2.2.2.2.1
  have hown := F.2.2.2.2.1
  rw [hr9] at hown
  have hx := List.all_eq_true.mp z_xnk E (List.mem_range.mpr hE)
  simp only [Bool.and_eq_true, decide_eq_true_eq] at hx
  obtain ⟨x1, x2, x3, x4, x5, x6, x7⟩ := hx
  have hot := List.all_eq_true.mp z_xat_ot E (List.mem_range.mpr hE)
  have hn1 : z_n (hp.1, hp.2.1 + 1, hp.2.2 + 6) = z_n hp + 1 := rfl
  have i6 : n0 ≤ z_n hp := hI.2.2.2.2.2.1
  have i7 : sl0 ≤ hp.2.2 := hI.2.2.2.2.2.2
  rw [hn1] at hRc
  have hRs' : hp.2.2 + 6 - sl0 ≤ R.slots := hRs
  have htab : c.exceptionTable.toList = [] := by rw [F.2.2.2.2.2.2.2.1, hh]; rfl
  have hA1 : z_n hp - n0 + 1 ≤ R.cells := by omega
  have hA2 : hp.2.2 - sl0 + 6 ≤ R.slots := by omega
  have hA3 : z_n hp - n0 + 1 ≤ z_n hp + 1 - n0 := by omega
  have hA4 : hp.2.2 - sl0 + 6 ≤ hp.2.2 + 6 - sl0 := by omega
  refine vx_throw0 (A := z_A0 b0) (mc := z_n hp + 1 - n0) (ms := hp.2.2 + 6 - sl0) F.1 F.2.1 F.2.2.2.2.2.2.2.2.2.1 (own := RX9) (cls := z_xn E) (names := ["java/lang/RuntimeException", "java/lang/Exception"]) (ik := (z_xl E).1) (ic := (z_xl E).2) hown x7 (by decide +kernel) (hts _ (List.mem_filter.mpr ⟨x1, x2⟩)) (hts _ (List.mem_filter.mpr ⟨x3, x4⟩)) (z_xat_hold hts hG.2.2.2.2.2.2.1.2.1 hG.2.2.2.2.2.2.1.2.2 hE) ?_ hG.2.2.2.1 hG.2.2.2.2.1 hI.2.2.1 (by rw [F.2.2.2.1, hnL]; exact hl.1) (L 3 rfl (by decide)) d1 d2 d3 (by rw [htab]; intro x hx; cases hx) (by show 2 + 3 < R.frames; omega) (by show 0 + (13 * (2 + 1) + 42) ≤ R.locals; omega) hA1 hA2 F.2.2.2.2.2.2.1 ?_ hI.2.2.1.2.2 hA3 hA4
  · intro w hw
    rcases List.mem_cons.mp hw with rfl | hw
    · exact x5
    · rcases List.mem_cons.mp hw with rfl | hw
      · exact x6
      · exact List.all_eq_true.mp hot w hw
  · intro t hA hz hq
    refine ⟨E, aA, rfl, hag, rfl, hE, ⟨hI.1.kept (fun k x hx => hq x.1 ((hI.1 k x hx).lt)), hI.2.1, Nat.le_trans hI.2.2.2.1.2 hz⟩, ⟨Nat.le_trans hI.2.2.1.1 hz, fun q h1 h2 => (hq q (Nat.lt_of_lt_of_le h1 hI.2.2.1.1)).trans (hI.2.2.1.2.1 q h1 h2)⟩⟩
theorem z_xc_lt {t e0 : Nat} (h : z_xc t = some e0) : (e0 < 6 ∧ e0 ≠ 4) ∧ t = [92, 94, 96, 98, 0, 261].getD e0 0 := by
  unfold z_xc at h
  split at h <;> cases h <;> exact ⟨⟨by decide, by decide⟩, rfl⟩
theorem z_dble (a b : Nat) : decide (a ≤ b) = Nat.ble a b := by
  cases hb : Nat.ble a b with
  | true => exact decide_eq_true (Nat.le_of_ble_eq_true hb)
  | false => exact decide_eq_false (fun q => by rw [Nat.ble_eq_true_of_le q] at hb; cases hb)
theorem z_covers (a b h t pc : Nat) : covers ⟨a, b, h, t⟩ pc = (Nat.ble a pc && Nat.blt pc b) := by
  show (decide (a ≤ pc) && decide (pc < b)) = (Nat.ble a pc && Nat.blt pc b)
  rw [z_dble]
  congr 1
  exact z_dble (pc + 1) b
/-- past the rows that don't take it -/
theorem z_hd_out {own E : Nat} : ∀ {lst : List (Nat × Nat × Nat × Nat)}, z_hd own pc E lst = some none → ∀ z ∈ tableOf lst, covers z pc = false ∨ (own = 11 ∧ ∃ e0, (e0 < 6 ∧ e0 ≠ 4) ∧ e0 ≠ E ∧ z.catchType = [92, 94, 96, 98, 0, 261].getD e0 0) := by
  intro lst
  induction lst with
  | nil => intro _ z hz; cases hz
  | cons q lst ih =>
    obtain ⟨a, b, hh, t⟩ := q
    intro h z hz
    unfold z_hd at h
    have hz2 : z = ⟨a, b, hh, t⟩ ∨ z ∈ tableOf lst := List.mem_cons.mp hz
    cases hc : (Nat.ble a pc && Nat.blt pc b) with
    | false =>
      rw [hc] at h
      rcases hz2 with rfl | hz2
      · exact Or.inl (by rw [z_covers]; exact hc)
      · exact ih h z hz2
    | true =>
      rw [hc] at h
      dsimp only [cond_true] at h
      cases ho : Nat.beq own 11 with
      | false => rw [ho] at h; cases h
      | true =>
        rw [ho] at h
        dsimp only [cond_true] at h
        split at h
        · rename_i e0 hx
          obtain ⟨q1, q2⟩ := z_xc_lt hx
          cases he : Nat.beq e0 E with
          | true => rw [he] at h; cases h
          | false =>
            rw [he] at h
            rcases hz2 with rfl | hz2
            · exact Or.inr ⟨Nat.eq_of_beq_eq_true ho, e0, q1, (fun q => by rw [q, Nat.beq_refl] at he; cases he), q2⟩
            · exact ih h z hz2
        · cases h
/-- the row that takes it -/
theorem z_hd_in {own E h0 : Nat} : ∀ {lst : List (Nat × Nat × Nat × Nat)}, z_hd own pc E lst = some (some h0) → own = 11 ∧ (E < 6 ∧ E ≠ 4) ∧ ∃ (pre suf : List ExceptionTableEntry) (x : ExceptionTableEntry), tableOf lst = pre ++ x :: suf ∧ (∀ z ∈ pre, covers z pc = false ∨ (∃ e0, (e0 < 6 ∧ e0 ≠ 4) ∧ e0 ≠ E ∧ z.catchType = [92, 94, 96, 98, 0, 261].getD e0 0)) ∧ covers x pc = true ∧ x.catchType = [92, 94, 96, 98, 0, 261].getD E 0 ∧ x.handlerPc = h0 := by
  intro lst
  induction lst with
  | nil => intro h; cases h
  | cons q lst ih =>
    obtain ⟨a, b, hh, t⟩ := q
    intro h
    unfold z_hd at h
    have ht : tableOf ((a, b, hh, t) :: lst) = (⟨a, b, hh, t⟩ : ExceptionTableEntry) :: tableOf lst := rfl
    cases hc : (Nat.ble a pc && Nat.blt pc b) with
    | false =>
      rw [hc] at h
      obtain ⟨g1, g2, pre, suf, x, g3, g4, g5⟩ := ih h
      refine ⟨g1, g2, ⟨a, b, hh, t⟩ :: pre, suf, x, by rw [ht, g3]; rfl, fun z hz => ?_, g5⟩
      rcases List.mem_cons.mp hz with rfl | hz
      · exact Or.inl (by rw [z_covers]; exact hc)
      · exact g4 z hz
    | true =>
      rw [hc] at h
      dsimp only [cond_true] at h
      cases ho : Nat.beq own 11 with
      | false => rw [ho] at h; cases h
      | true =>
        rw [ho] at h
        dsimp only [cond_true] at h
        split at h
        · rename_i e0 hx
          obtain ⟨q1, q2⟩ := z_xc_lt hx
          cases he : Nat.beq e0 E with
          | true =>
            rw [he] at h
            have h2 : hh = h0 := Option.some.inj (Option.some.inj h)
            have h3 := Nat.eq_of_beq_eq_true he
            subst h2 h3
            exact ⟨Nat.eq_of_beq_eq_true ho, q1, [], tableOf lst, ⟨a, b, hh, t⟩, ht, fun z hz => absurd hz List.not_mem_nil, by rw [z_covers]; exact hc, q2, rfl⟩
          | false =>
            rw [he] at h
            obtain ⟨g1, g2, pre, suf, x, g3, g4, g5⟩ := ih h
            refine ⟨g1, g2, ⟨a, b, hh, t⟩ :: pre, suf, x, by rw [ht, g3]; rfl, fun z hz => ?_, g5⟩
            rcases List.mem_cons.mp hz with rfl | hz
            · exact Or.inr ⟨e0, q1, (fun q => by rw [q, Nat.beq_refl] at he; cases he), q2⟩
            · exact g4 z hz
        · cases h
end ZO
end
section
section ZQ
variable {sc : Nat × (Nat → Int32)}
theorem z_xcw {args : Array Value} {s : State} (hts : ∀ w ∈ z_gt, w.before args s = true) {e0 : Nat} (h : e0 < 6 ∧ e0 ≠ 4) : (Jvm.Cond.classLink RL ([92, 94, 96, 98, 0, 261].getD e0 0) (z_xn e0)).before args s = true := by
  have hm : e0 ∈ ([0, 1, 2, 3, 5] : List Nat) := by
    obtain ⟨h1, h2⟩ := h
    rcases (show e0 = 0 ∨ e0 = 1 ∨ e0 = 2 ∨ e0 = 3 ∨ e0 = 5 by omega) with rfl | rfl | rfl | rfl | rfl <;> decide
  have hx := List.all_eq_true.mp z_xcl e0 hm
  simp only [Bool.and_eq_true, decide_eq_true_eq] at hx
  exact hts _ (List.mem_filter.mpr ⟨hx.1, hx.2.1⟩)
theorem z_ct0 {e0 : Nat} (h : e0 < 6 ∧ e0 ≠ 4) : [92, 94, 96, 98, 0, 261].getD e0 0 ≠ 0 := by
  match e0, h with
  | 0, _ => decide
  | 1, _ => decide
  | 2, _ => decide
  | 3, _ => decide
  | 4, h => exact absurd rfl h.2
  | 5, _ => decide
  | n + 6, h => omega
theorem z_hs_eq {j : Instr} {x : Nat} (h : z_hs j = some x) : j = .astore x ∨ ∃ y : Fin 4, j = .astore_n y ∧ (y : Nat) = x := by
  unfold z_hs at h
  split at h
  · cases h; exact Or.inl rfl
  · rename_i y; cases h; exact Or.inr ⟨y, rfl, rfl⟩
  · cases h
/-- the map of addresses with which a caller goes on -/
theorem z_pick {D : va_G} {b0 : Nat} {aA aX sA : Nat → Nat} {cA : Nat → ClassId} {hp hp1 : z_H} {ls : z_Ls} {rr : List Value} {v : Option Value} {H1 : Heap} (hc : z_cok hp hp1 ls rr v = true) (hw1 : z_hwf hp1) (hle : hp.1.length ≤ hp1.1.length) (hag : z_ag hp.1.length aA aX) (hH : z_Hq D b0 aX sA cA hp1 H1) :
    ∃ aY : Nat → Nat, z_ag hp.1.length aA aY ∧ z_Hq D b0 aY sA cA hp1 H1 ∧ z_L (z_ad aY sA) ls = z_L (z_ad aA sA) ls ∧ rr.map (z_V (z_ad aY sA)) = rr.map (z_V (z_ad aA sA)) ∧ v.map (z_V (z_ad aY sA)) = v.map (z_V (z_ad aX sA)) := by
  unfold z_cok at hc
  rw [Bool.or_eq_true, Bool.and_eq_true] at hc
  rcases hc with ⟨h1, h2⟩ | h1
  · have h3 := Nat.eq_of_beq_eq_true h1
    have hag1 : z_ag hp1.1.length aA aX := by rw [h3]; exact hag
    have hW := z_W_ag (sA := sA) (cA := cA) hw1 hag1
    refine ⟨aA, z_ag_rfl, ⟨by rw [← hW]; exact hH.1, by rw [← hW]; exact hH.2.1, hH.2.2⟩, rfl, rfl, ?_⟩
    cases v with
    | none => rfl
    | some w => cases w <;> first | rfl | cases h2
  · unfold z_wfb at h1
    rw [Bool.and_eq_true] at h1
    exact ⟨aX, hag, hH, z_L_ag hag h1.1, z_st_ag hag h1.2, rfl⟩
/-- A RUN OF THE INTERPRETER IS A RUN OF THE MACHINE -/
theorem z_main (hT : ∀ (k : Nat) (r : z_Rec), z_rec k = some r → z_ckR r = true) : ∀ (f d k pc : Nat) (ls : z_Ls) (st : List Value) (hp : z_H) (res : z_R) (hp' : z_H), z_ex sc f d k pc ls st hp = some (res, hp') →
    (z_n hp ≤ z_n hp' ∧ hp.2.2 ≤ hp'.2.2 ∧ hp.1.length ≤ hp'.1.length ∧ (z_hwf hp → z_hwf hp') ∧ ∀ E, res = .inr E → E < 6) ∧ ∀ (l : Launch) (D : va_G) (b0 : Nat) (aA sA : Nat → Nat) (cA : Nat → ClassId), z_WS sc D b0 aA sA cA l d k pc ls st hp res hp' := by
  intro f
  induction f with
  | zero => intro d k pc ls st hp res hp' h; cases h
  | succ f ih =>
    intro d k pc ls st hp res hp' h
    unfold z_ex at h
    split at h
    · cases h
    rename_i r hr
    split at h
    · cases h
    rename_i i len ax hfd
    have hent := z_entry hT hr hfd
    have hdg : decode r.2.2.2.1 pc = .ok (i, len) := hent.1
    have hck : z_ckL r.1 r.2.1 i ax = true := hent.2
    by_cases hlk : z_lok i len = true
    · rw [hlk] at h
      dsimp only [cond_true] at h
      split at h
      · -- within the frame
        split at h
        · rename_i C hC
          obtain ⟨⟨m1, m2, m4, m5, m3⟩, W1⟩ := ih _ _ _ _ _ _ _ _ h
          have hm := z_loc_mn hC
          refine ⟨⟨Nat.le_trans hm.1 m1, Nat.le_trans hm.2.1 m2, Nat.le_trans hm.2.2.1 m4, fun q => m5 (hm.2.2.2 q), m3⟩, ?_⟩
          intro l D b0 aA sA cA r' hr' p e R s m args below meth c n0 sl0 n1 aA0 hw hn1 hag F hd1 hd2 hRc hRs
          cases Option.some.inj (hr'.symm.trans hr)
          exact z_loc_sound F rfl hd1 hd2 hdg hlk hck hC (Nat.le_trans (Nat.sub_le_sub_right m1 _) hRc) (Nat.le_trans (Nat.sub_le_sub_right m2 _) hRs) hw (fun aA' hag2 => W1 l D b0 aA' sA cA r hr p e R s m args below meth c n0 sl0 n1 aA0 (hm.2.2.2 hw) (Nat.le_trans hn1 hm.2.2.1) (z_ag_trans hag hn1 hag2) F hd1 hd2 hRc hRs)
        · cases h
      · -- an end
        split at h
        · rename_i v hv
          cases h
          refine ⟨⟨Nat.le_refl _, Nat.le_refl _, Nat.le_refl _, id, fun E q => by cases q⟩, ?_⟩
          intro l D b0 aA sA cA r' hr' p e R s m args below meth c n0 sl0 n1 aA0 hw hn1 hag F hd1 hd2 hRc hRs
          cases Option.some.inj (hr'.symm.trans hr)
          exact z_fin_sound F hdg hlk hv hag
        · cases h
      · -- a throw
        split at h
        · rename_i x hx
          cases h
          obtain ⟨E, hp2⟩ := x
          obtain ⟨hE, e2, -⟩ := z_thr_eq hx
          refine ⟨⟨?_, ?_, ?_, ?_, fun E' q => by cases q; exact hE⟩, ?_⟩
          · rw [e2]; exact Nat.le_succ _
          · rw [e2]; exact Nat.le_add_right _ _
          · rw [e2]; exact Nat.le_refl _
          · rw [e2]; exact fun q => q
          · intro l D b0 aA sA cA r' hr' p e R s m args below meth c n0 sl0 n1 aA0 hw hn1 hag F hd1 hd2 hRc hRs
            cases Option.some.inj (hr'.symm.trans hr)
            exact z_thr_sound hT hr F rfl hd1 hd2 hdg hlk hx hRc hRs hag
        · cases h
      · -- a call
        rename_i hk0 hk1 hk2
        split at h
        · rename_i kd k2 n tl
          split at h
          · rename_i r2 as rr hr2 ha
            generalize hb : (Nat.ble 1 d && (Nat.ble (lg_sl as).length r2.2.2.2.2.1 && (Nat.ble r2.2.2.2.2.1 20 && (Nat.ble (z_cat rr) 8 && (z_rcv kd r2.1 as hp && (Nat.beq kd 5 || r2.2.2.2.2.2.2.1.isEmpty)))))) = b at h
            cases b with
            | false => cases h
            | true =>
              dsimp only [cond_true] at h
              simp only [Bool.and_eq_true, Bool.or_eq_true] at hb
              obtain ⟨b1, b2, b3, b4, b5, b6⟩ := hb
              have b1' := Nat.le_of_ble_eq_true b1
              have b2' := Nat.le_of_ble_eq_true b2
              have b3' := Nat.le_of_ble_eq_true b3
              have b4' := Nat.le_of_ble_eq_true b4
              have b6' : kd = 5 ∨ r2.2.2.2.2.2.2.1 = [] := b6.imp Nat.eq_of_beq_eq_true List.isEmpty_iff.mp
              -- the instruction
              obtain ⟨op, idx, hop, hlen5, hckI⟩ : ∃ op idx, ((op = 0 ∧ i = .invokevirtual idx) ∨ (op = 1 ∧ i = .invokestatic idx) ∨ (op = 2 ∧ i = .invokespecial idx)) ∧ tl.length = 5 ∧ z_ckI op r.1 idx (kd :: k2 :: n :: tl) = true := by
                have hk3 : z_kd i (kd :: k2 :: n :: tl) = 3 ∧ ∃ idx, (i = .invokevirtual idx ∨ i = .invokestatic idx ∨ i = .invokespecial idx) := by
                  unfold z_kd at hk0 hk1 hk2 ⊢
                  cases i
                  case invokevirtual idx =>
                    refine ⟨?_, idx, Or.inl rfl⟩
                    dsimp only at hk0 ⊢
                    split at hk0
                    · rfl
                    · exact absurd rfl hk0
                  case invokestatic idx =>
                    refine ⟨?_, idx, Or.inr (Or.inl rfl)⟩
                    dsimp only at hk0 ⊢
                    split at hk0
                    · rfl
                    · exact absurd rfl hk0
                  case invokespecial idx =>
                    refine ⟨?_, idx, Or.inr (Or.inr rfl)⟩
                    dsimp only at hk0 ⊢
                    split at hk0
                    · rfl
                    · exact absurd rfl hk0
                  case new idx =>
                    dsimp only at hk0
                    exact absurd rfl hk0
                  all_goals first
                    | exact absurd rfl hk0
                    | exact absurd rfl hk1
                have hl5 : tl.length = 5 := by
                  obtain ⟨h3, idx, hi⟩ := hk3
                  rcases hi with rfl | rfl | rfl
                  all_goals
                    dsimp only [z_kd] at h3
                    split at h3
                    · rename_i he; cases he; rfl
                    · cases h3
                obtain ⟨-, idx, hi⟩ := hk3
                rcases hi with rfl | rfl | rfl
                · exact ⟨0, idx, Or.inl ⟨rfl, rfl⟩, hl5, hck⟩
                · exact ⟨1, idx, Or.inr (Or.inl ⟨rfl, rfl⟩), hl5, hck⟩
                · exact ⟨2, idx, Or.inr (Or.inr ⟨rfl, rfl⟩), hl5, hck⟩
              have hdg3 : decode r.2.2.2.1 pc = .ok (i, 3) := by
                have : len = 3 := by
                  rcases hop with ⟨-, rfl⟩ | ⟨-, rfl⟩ | ⟨-, rfl⟩ <;> exact z_lok_eq hlk rfl (by decide)
                rw [this] at hdg
                exact hdg
              have hdd : d - 1 + 1 = d := by omega
              split at h
              · -- it returns
                rename_i v hp1 hex
                cases hck9 : z_cok hp hp1 ls rr v with
                | false => rw [hck9] at h; cases h
                | true =>
                rw [hck9] at h
                dsimp only [cond_true] at h
                obtain ⟨⟨m1, m2, m4, m5, m3⟩, W1⟩ := ih _ _ _ _ _ _ _ _ hex
                obtain ⟨⟨q1, q2, q4, q5, q3⟩, W2⟩ := ih _ _ _ _ _ _ _ _ h
                refine ⟨⟨Nat.le_trans m1 q1, Nat.le_trans m2 q2, Nat.le_trans m4 q4, fun q => q5 (m5 q), q3⟩, ?_⟩
                intro l D b0 aA sA cA r' hr' p e R s m args below meth c n0 sl0 n1 aA0 hw hn1 hag F hd1 hd2 hRc hRs
                cases Option.some.inj (hr'.symm.trans hr)
                intro lsM H locs hl hI
                have i6 : n0 ≤ z_n hp := hI.2.2.2.2.2.1
                have i7 : sl0 ≤ hp.2.2 := hI.2.2.2.2.2.2
                obtain ⟨a, hrun⟩ := z_call hT F hop hdg3 hlen5 hckI hr2 ha b2' b3' b4' b5 b6' (Or.inr ⟨v, rfl⟩) hw (W1 l D b0 aA sA cA) (by rw [hdd]; exact hd1) (by rw [hdd]; exact hd2) m1 m2 (Nat.le_trans (Nat.sub_le_sub_right q1 _) hRc) (Nat.le_trans (Nat.sub_le_sub_right q2 _) hRs) hl.1 hI
                refine z_run_W hrun hI.2.2.1 (fun v' aX hv' hagX H1 locs1 hH hS => ?_) (fun j aX hj => by cases hj)
                cases hv'
                refine z_bound fun hb => ?_
                have e1 : z_n hp - n0 + (z_n hp1 - z_n hp) = z_n hp1 - n0 := by omega
                have e2 : hp.2.2 - sl0 + (hp1.2.2 - hp.2.2) = hp1.2.2 - sl0 := by omega
                have i5 : s.heap.size ≤ b0 + n0 := hI.2.2.2.2.1
                have hb' : H1.size ≤ s.heap.size + (z_n hp - n0 + (z_n hp1 - z_n hp)) := hb
                have hz : H1.size ≤ b0 + z_n hp1 := by omega
                obtain ⟨aY, y1, y2, y3, y4, y5⟩ := z_pick (sA := sA) (D := D) (b0 := b0) (cA := cA) hck9 (m5 hw) m4 hagX hH
                have hk := W2 l D b0 aY sA cA r hr p e R s m args below meth c n0 sl0 n1 aA0 (m5 hw) (Nat.le_trans hn1 m4) (z_ag_trans hag hn1 y1) F hd1 hd2 hRc hRs lsM H1 locs1 (by rw [y3]; exact hl) ⟨y2.1, y2.2.1, hS, ⟨hz, y2.2.2⟩, i5, Nat.le_trans i6 m1, Nat.le_trans i7 m2⟩
                have e3 : ((v.map (z_V (z_ad aX sA))).toList ++ rr.map (z_V (z_ad aA sA))) = (v.toList ++ rr).map (z_V (z_ad aY sA)) := by
                  rw [List.map_append, y4, ← y5]
                  cases v <;> rfl
                show W p l e R s m args below meth c H1 locs1 (z_n hp - n0 + (z_n hp1 - z_n hp)) (hp.2.2 - sl0 + (hp1.2.2 - hp.2.2)) _ (F0 m (pc + 3) lsM _)
                rw [e1, e2, e3]
                exact hk
              · -- it throws
                rename_i E hp1 hex
                obtain ⟨⟨m1, m2, m4, m5, m3⟩, W1⟩ := ih _ _ _ _ _ _ _ _ hex
                have hE := m3 E rfl
                by_cases hkd : Nat.ble kd 1 = true
                · rw [hkd] at h
                  dsimp only [cond_true] at h
                  have hkd' := Nat.le_of_ble_eq_true hkd
                  split at h
                  · -- not caught here
                    rename_i hhd
                    cases h
                    refine ⟨⟨m1, m2, m4, m5, m3⟩, ?_⟩
                    intro l D b0 aA sA cA r' hr' p e R s m args below meth c n0 sl0 n1 aA0 hw hn1 hag F hd1 hd2 hRc hRs
                    cases Option.some.inj (hr'.symm.trans hr)
                    intro lsM H locs hl hI
                    have i6 : n0 ≤ z_n hp := hI.2.2.2.2.2.1
                    have i7 : sl0 ≤ hp.2.2 := hI.2.2.2.2.2.2
                    obtain ⟨a, hrun⟩ := z_call hT F hop hdg3 hlen5 hckI hr2 ha b2' b3' b4' b5 b6' (Or.inl hkd') hw (W1 l D b0 aA sA cA) (by rw [hdd]; exact hd1) (by rw [hdd]; exact hd2) m1 m2 hRc hRs hl.1 hI
                    refine z_run_W hrun hI.2.2.1 (fun v' aX hv' => by cases hv') (fun j aX hj hj6 hagX H1 locs1 q9 ce hH hS hce hcv hcl => ?_)
                    cases hj
                    have e1 : z_n hp - n0 + (z_n hp' - z_n hp) ≤ z_n hp' - n0 := by omega
                    have e2 : hp.2.2 - sl0 + (hp'.2.2 - hp.2.2) ≤ hp'.2.2 - sl0 := by omega
                    have htab := F.2.2.2.2.2.2.2.1
                    have hout := z_hd_out hhd
                    have hG := F.2.2.2.2.2.2.2.2.2.2
                    refine vx_outP F.2.2.2.2.1 F.2.2.2.2.2.2.1 (fun z hz => ?_) hce hcv hcl (fun t ht hA => ⟨E, aX, rfl, z_ag_trans hag hn1 hagX, rfl, hE, by rw [ht]; exact hH, hS.F ht⟩) hS.2.2 e1 e2
                    rw [htab] at hz
                    rcases hout z hz with q | ⟨hown, e0, q1, q2, q3⟩
                    · exact Or.inl q
                    · refine Or.inr ⟨by rw [q3]; exact z_ct0 q1, z_xn e0, ?_, hG.2.2.2.2.2.2.1.1 E e0 hE q1.1 (fun q => q2 q.symm)⟩
                      rw [q3, hown]
                      exact z_xcw F.2.2.2.2.2.1 q1
                  · -- caught
                    rename_i h0 hhd
                    split at h
                    · rename_i j mlen ax2 hf2
                      split at h
                      · rename_i x hx
                        generalize hbx : (z_lok j mlen && (Nat.blt x r.2.2.2.2.1 && z_cok hp hp1 (z_rm ls x) [] none)) = bx at h
                        cases bx with
                        | false => cases h
                        | true =>
                          dsimp only [cond_true] at h
                          simp only [Bool.and_eq_true] at hbx
                          obtain ⟨hlj, hxl, hck9⟩ := hbx
                          have hxl' : x < r.2.2.2.2.1 := Nat.le_of_ble_eq_true hxl
                          obtain ⟨⟨q1, q2, q4, q5, q3⟩, W2⟩ := ih _ _ _ _ _ _ _ _ h
                          refine ⟨⟨Nat.le_trans m1 q1, Nat.le_trans m2 q2, Nat.le_trans m4 q4, fun q => q5 (m5 q), q3⟩, ?_⟩
                          intro l D b0 aA sA cA r' hr' p e R s m args below meth c n0 sl0 n1 aA0 hw hn1 hag F hd1 hd2 hRc hRs
                          cases Option.some.inj (hr'.symm.trans hr)
                          intro lsM H locs hl hI
                          have i6 : n0 ≤ z_n hp := hI.2.2.2.2.2.1
                          have i7 : sl0 ≤ hp.2.2 := hI.2.2.2.2.2.2
                          obtain ⟨a, hrun⟩ := z_call hT F hop hdg3 hlen5 hckI hr2 ha b2' b3' b4' b5 b6' (Or.inl hkd') hw (W1 l D b0 aA sA cA) (by rw [hdd]; exact hd1) (by rw [hdd]; exact hd2) m1 m2 (Nat.le_trans (Nat.sub_le_sub_right q1 _) hRc) (Nat.le_trans (Nat.sub_le_sub_right q2 _) hRs) hl.1 hI
                          refine z_run_W hrun hI.2.2.1 (fun v' aX hv' => by cases hv') (fun j' aX hj hj6 hagX H1 locs1 q9 ce hH hS hce hcv hcl => ?_)
                          cases hj
                          obtain ⟨hown, hE4, pre, suf, xe, g1, g2, g3, g4, g5⟩ := z_hd_in hhd
                          obtain ⟨aY, y1, y2, y3, -, -⟩ := z_pick (sA := sA) (D := D) (b0 := b0) (cA := cA) hck9 (m5 hw) m4 hagX hH
                          have htab := F.2.2.2.2.2.2.2.1
                          have hG := F.2.2.2.2.2.2.2.2.2.2
                          have hwn := F.2.2.2.2.1
                          rw [hown] at hwn
                          have hcl0 := z_xcw F.2.2.2.2.2.1 hE4
                          refine vx_catch (own := RL) (name := z_xn E) hwn pre xe suf (by rw [htab]; exact g1) (fun z hz => ?_) g3 (by rw [g4]; exact z_ct0 hE4) (by rw [g4]; exact hcl0) (va_Nw.use rfl (hG.2.2.2.2.2.2.1.2.1 E hE)) hce hcv hcl ?_
                          · rcases g2 z hz with q | ⟨e0, w1, w2, w3⟩
                            · exact Or.inl q
                            · exact Or.inr ⟨by rw [w3]; exact z_ct0 w1, z_xn e0, by rw [w3]; exact z_xcw F.2.2.2.2.2.1 w1, hG.2.2.2.2.2.2.1.1 E e0 hE w1.1 (fun q => w2 q.symm)⟩
                          · rw [g5]
                            have hdh := (z_entry hT hr hf2).1
                            have e1 : z_n hp - n0 + (z_n hp1 - z_n hp) = z_n hp1 - n0 := by omega
                            have e2 : hp.2.2 - sl0 + (hp1.2.2 - hp.2.2) = hp1.2.2 - sl0 := by omega
                            have i5 : s.heap.size ≤ b0 + n0 := hI.2.2.2.2.1
                            have fin : ∀ ls' : Array Slot, lv_has ls' r.2.2.2.2.1 ((x, Value.ref q9) :: (z_L (z_ad aA sA) ls).filter (fun q => !(q.1 == x) && !(q.1 + 1 == x && q.2.category == 2))) → W p l e R s m args below meth c H1 locs1 (z_n hp - n0 + (z_n hp1 - z_n hp)) (hp.2.2 - sl0 + (hp1.2.2 - hp.2.2)) (z_QE n1 D b0 aA0 sA cA below args s res hp' n0 sl0) (F0 m (h0 + mlen) ls' []) := by
                              intro ls' hls
                              have hls2 : lv_has ls' r.2.2.2.2.1 (z_L (z_ad aA sA) (z_rm ls x)) := by
                                refine z_has_sub hls (fun q hq => List.mem_cons_of_mem _ ?_)
                                rw [z_L_filter _ _ _ (fun q => by simp only [z_V_cat])]
                                exact hq
                              refine z_bound fun hb => ?_
                              have hb' : H1.size ≤ s.heap.size + (z_n hp - n0 + (z_n hp1 - z_n hp)) := hb
                              have hz : H1.size ≤ b0 + z_n hp1 := by omega
                              have hk := W2 l D b0 aY sA cA r hr p e R s m args below meth c n0 sl0 n1 aA0 (m5 hw) (Nat.le_trans hn1 m4) (z_ag_trans hag hn1 y1) F hd1 hd2 hRc hRs ls' H1 locs1 (by rw [y3]; exact hls2) ⟨y2.1, y2.2.1, hS, ⟨hz, y2.2.2⟩, i5, Nat.le_trans i6 m1, Nat.le_trans i7 m2⟩
                              rw [e1, e2]
                              exact hk
                            rcases z_hs_eq hx with rfl | ⟨y, rfl, rfl⟩
                            · cases z_lok_eq (n := 2) hlj rfl (by decide)
                              exact lv_astore F.1 F.2.1 hdh hl hxl' rfl fin
                            · cases z_lok_eq (n := 1) hlj rfl (by decide)
                              exact lv_astore_n F.1 F.2.1 hdh rfl hl hxl' rfl fin
                      · cases h
                    · cases h
                  · cases h
                · rw [Bool.eq_false_iff.mpr hkd] at h; cases h
              · cases h
          · cases h
        · cases h
    · rw [Bool.eq_false_iff.mpr hlk] at h; cases h
end ZQ
end
section
/-! The constructors' runs, by the kernel: they look at no array. -/
section ZINI
def z_nal (i : Instr) : Bool := match i with
  | .iaload | .caload | .baload | .arraylength => false
  | _ => true
theorem z_nal_loc {sc sc' : Nat × (Nat → Int32)} {d nL : Nat} {i : Instr} {ax : List Nat} {pc : Nat} {ls : z_Ls} {st : List Value} {hp : z_H} (h : z_nal i = true) : z_loc sc d nL i ax pc ls st hp = z_loc sc' d nL i ax pc ls st hp := by
  unfold z_nal at h
  split at h
  · cases h
  · cases h
  · cases h
  · cases h
  · unfold z_loc
    split <;> first | rfl | simp_all
abbrev z_s0 : Nat × (Nat → Int32) := (0, fun _ => 0)
def z_exg : Nat → Nat → Nat → Nat → z_Ls → List Value → z_H → Option (z_R × z_H)
  | 0, _, _, _, _, _, _ => none
  | f + 1, d, k, pc, ls, st, hp => match z_rec k with
    | none => none
    | some r => match z_find r.2.2.2.2.2.2.2.2 pc with
      | none => none
      | some (i, len, ax) => bif z_lok i len && z_nal i then
        (match z_kd i ax with
        | 0 => match z_loc z_s0 d r.2.2.2.2.1 i ax pc ls st hp with
          | some C => z_exg f d k C.1 C.2.1 C.2.2.1 C.2.2.2
          | none => none
        | 1 => match z_fin r.2.2.2.2.2.1 i st with
          | some v => some (.inl v, hp)
          | none => none
        | 2 => none
        | _ => match ax with
          | kd :: k2 :: n :: _ => match z_rec k2, z_args kd n st with
            | some r2, some (as, rr) => bif Nat.ble 1 d && (Nat.ble (lg_sl as).length r2.2.2.2.2.1 && (Nat.ble r2.2.2.2.2.1 20 && (Nat.ble (z_cat rr) 8 && (z_rcv kd r2.1 as hp && (Nat.beq kd 5 || r2.2.2.2.2.2.2.1.isEmpty))))) then
              (match z_exg f (d - 1) k2 0 (lv_args 0 as) [] hp with
              | some (.inl v, hp') => bif z_cok hp hp' ls rr v then z_exg f d k (pc + 3) ls (v.toList ++ rr) hp' else none
              | _ => none)
              else none
            | _, _ => none
          | _ => none)
        else none
theorem z_exg_ok (sc : Nat × (Nat → Int32)) : ∀ (f0 d k pc : Nat) (ls : z_Ls) (st : List Value) (hp : z_H) (res : z_R × z_H), z_exg f0 d k pc ls st hp = some res → ∀ f, f0 ≤ f → z_ex sc f d k pc ls st hp = some res := by
  intro f0
  induction f0 with
  | zero => intro d k pc ls st hp res h; cases h
  | succ f0 ih =>
    intro d k pc ls st hp res h f hf
    obtain ⟨f, rfl⟩ : ∃ f', f = f' + 1 := ⟨f - 1, by omega⟩
    have hf' : f0 ≤ f := by omega
    unfold z_exg at h
    unfold z_ex
    cases hr : z_rec k with
    | none => rw [hr] at h; cases h
    | some r =>
      rw [hr] at h
      dsimp only at h ⊢
      cases hfd : z_find r.2.2.2.2.2.2.2.2 pc with
      | none => rw [hfd] at h; cases h
      | some q =>
        obtain ⟨i, len, ax⟩ := q
        rw [hfd] at h
        dsimp only at h ⊢
        cases hb : z_lok i len && z_nal i with
        | false => rw [hb] at h; cases h
        | true =>
          rw [hb] at h
          rw [Bool.and_eq_true] at hb
          rw [hb.1]
          dsimp only [cond_true] at h ⊢
          split at h
          · rename_i hk
            rw [hk]
            rw [z_nal_loc (sc' := z_s0) hb.2]
            split at h
            · rename_i C hC
              rw [hC]
              exact ih _ _ _ _ _ _ _ h f hf'
            · cases h
          · rename_i hk
            rw [hk]
            exact h
          · cases h
          · rename_i hk0 hk1 hk2
            split at h
            · rename_i kd k2 n tl
              split at h
              · rename_i r2 as rr hr2 has
                cases hc : Nat.ble 1 d && (Nat.ble (lg_sl as).length r2.2.2.2.2.1 && (Nat.ble r2.2.2.2.2.1 20 && (Nat.ble (z_cat rr) 8 && (z_rcv kd r2.1 as hp && (Nat.beq kd 5 || r2.2.2.2.2.2.2.1.isEmpty))))) with
                | false => rw [hc] at h; cases h
                | true =>
                  rw [hc] at h
                  dsimp only [cond_true] at h ⊢
                  split at h
                  · rename_i v hp' hcal
                    split
                    · rename_i hk; exact absurd hk hk0
                    · rename_i hk; exact absurd hk hk1
                    · rename_i hk; exact absurd hk hk2
                    · rw [hr2, has]
                      dsimp only
                      rw [hc]
                      dsimp only [cond_true]
                      rw [ih _ _ _ _ _ _ _ hcal f hf']
                      dsimp only
                      cases hck : z_cok hp hp' ls rr v with
                      | false => rw [hck] at h; cases h
                      | true =>
                        rw [hck] at h
                        exact ih _ _ _ _ _ _ _ h f hf'
                  · cases h
              · cases h
            · cases h
end ZINI
end
section
/-! A value that the kernel reads, and the elaborator doesn't look into. -/
section ZLK
theorem z_lka : Acc (fun (_ _ : Nat) => False) 0 := Acc.intro 0 (fun _ h => h.elim)
noncomputable def z_lock {α : Type} (x : α) : α := @Acc.rec Nat (fun _ _ => False) (fun _ _ => α) (fun _ _ _ => x) 0 z_lka
end ZLK
end
