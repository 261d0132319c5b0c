/-! The steps that call String.length and String.charAt. -/
section ZSC
variable {p : Program} {l : Launch} {e : Env} {R : Room} {s : State} {m : MethodId} {args : Array Value} {below : List Frame} {meth : Method} {c : Code} {Q : State → Prop} {D : va_G} {b0 : Nat} {aA sA : Nat → Nat} {cA : Nat → ClassId} {nL n0 sl0 : Nat} {r : z_Rec} {sc : Nat × (Nat → Int32)}
variable {pc : Nat} {ls : z_Ls} {st st' : List Value} {hp : z_H} {C : z_C}
theorem z_op8v {own idx : Nat} {ax : List Nat} (h : z_ckI 0 own idx (8 :: ax) = true) : (own = 0 ∧ idx = 77) ∨ (own = 11 ∧ idx = 7) := by
  unfold z_ckI at h
  split at h
  · rename_i he
    cases he
    split at h
    · simp at h
    · cases h
  all_goals first
    | (rename_i he; cases he; done)
    | (rename_i he; cases he; simp only [Bool.and_eq_true, Bool.or_eq_true, decide_eq_true_eq] at h; exact h.2)
    | (cases h; done)
theorem z_op9v {own idx : Nat} {ax : List Nat} (h : z_ckI 0 own idx (9 :: ax) = true) : (own = 0 ∧ idx = 81) ∨ (own = 11 ∧ idx = 13) := by
  unfold z_ckI at h
  split at h
  · rename_i he
    cases he
    split at h
    · simp at h
    · cases h
  all_goals first
    | (rename_i he; cases he; done)
    | (rename_i he; cases he; simp only [Bool.and_eq_true, Bool.or_eq_true, decide_eq_true_eq] at h; exact h.2)
    | (cases h; done)
theorem j_tab : ∀ j, j < 21 → ((List.range 21).map (fun j => (z_str j).length)).getD j 0 = (z_str j).length ∧ ((List.range 21).map (fun j => (z_str j).map Int32.ofNat)).getD j [] = (z_str j).map Int32.ofNat ∧ (z_str j).length ≤ 50 := by
  intro j hj
  rcases (show j = 0 ∨ j = 1 ∨ j = 2 ∨ j = 3 ∨ j = 4 ∨ j = 5 ∨ j = 6 ∨ j = 7 ∨ j = 8 ∨ j = 9 ∨ j = 10 ∨ j = 11 ∨ j = 12 ∨ j = 13 ∨ j = 14 ∨ j = 15 ∨ j = 16 ∨ j = 17 ∨ j = 18 ∨ j = 19 ∨ j = 20 by omega) with rfl | rfl | rfl | rfl | rfl | rfl | rfl | rfl | rfl | rfl | rfl | rfl | rfl | rfl | rfl | rfl | rfl | rfl | rfl | rfl | rfl <;> exact ⟨rfl, rfl, by decide⟩
theorem j_ch : ∀ j, j < 21 → ∀ i, i < 50 → ((((((z_str j).map Int32.ofNat).getD i 0 &&& 255).toUInt32 % 65536).toInt32 = Int32.ofNat ((z_str j).getD i 0)) ∧ (Int32.ofNat ((z_str j).getD i 0)).toUInt32.toUInt16.toUInt32.toInt32 = Int32.ofNat ((z_str j).getD i 0)) := by decide +kernel
theorem j_at {a : Nat} (h : Nat.ble 1000 a = true) (h2 : Nat.blt a 1021 = true) : ∃ j, j < 21 ∧ a = 1000 + j := by
  have h1 := Nat.le_of_ble_eq_true h
  have h3 := Nat.le_of_ble_eq_true h2
  exact ⟨a - 1000, by omega, by omega⟩
theorem j_ad {j : Nat} : z_ad aA sA (1000 + j) = sA j := by
  unfold z_ad
  rw [if_neg (by omega), Nat.add_sub_cancel_left]
theorem j_get (F : z_F sc D b0 sA cA r p l s m args meth c) {j : Nat} (hj : j < 21) : ∃ v, j_S (z_A0 b0) (sA j) v (z_str j).length (fun i => ((z_str j).map Int32.ofNat).getD i 0) s s.heap := by
  obtain ⟨-, -, -, -, -, ⟨-, ⟨adV, h7⟩, h8, h9⟩, -⟩ := F.2.2.2.2.2.2.2.2.2.2
  obtain ⟨k1, k2, k3, k4⟩ := h7.1 j hj
  obtain ⟨e1, e2, -⟩ := j_tab j hj
  rw [e1, e2] at k4
  exact ⟨adV j, k1, k2, k3, k4, h8, h9⟩
theorem j_lt {i : Int32} {n : Nat} (hn : n ≤ 50) (h : z_inb i n = true) : ¬ i < 0 ∧ i < Int32.ofNat n ∧ i.toNatClampNeg < n := by
  simp only [z_inb, Bool.and_eq_true, Bool.not_eq_true', decide_eq_false_iff_not, decide_eq_true_eq] at h
  refine ⟨h.1, ?_, h.2⟩
  have h1 : i.toInt.toNat < n := h.2
  rw [Int32.lt_iff_toInt_lt, Int32.toInt_ofNat_of_lt (by omega)]
  omega
theorem z_s_strl (F : z_F sc D b0 sA cA r p l s m args meth c) (hnL : r.2.2.2.2.1 = nL) {idx : Nat} {ax : List Nat} {d : Nat} (hd1 : d ≤ R.frames) (hd2 : 46 * d ≤ R.locals) (hdg : decode r.2.2.2.1 pc = .ok (.invokevirtual idx, 3)) (hck : z_ckI 0 r.1 idx (8 :: ax) = true) (h : z_jl d pc ls st hp = some C) (hRc : z_n C.2.2.2 - n0 ≤ R.cells) (hRs : C.2.2.2.2.2 - sl0 ≤ R.slots) (k : z_K p l e R s m args below meth c Q D b0 aA sA cA nL n0 sl0 C) : z_K p l e R s m args below meth c Q D b0 aA sA cA nL n0 sl0 (pc, ls, st, hp) := by
  unfold z_jl at h
  split at h
  · rename_i hc
    obtain ⟨st', h1, rfl⟩ := z_mk_eq h
    unfold z_slen at h1
    split at h1
    · rename_i a rr
      cases hq : (Nat.ble 1000 a && Nat.blt a 1021) with
      | false => rw [hq] at h1; cases h1
      | true =>
        rw [hq] at h1
        rw [Bool.and_eq_true] at hq
        obtain ⟨j, hj, rfl⟩ := j_at hq.1 hq.2
        rw [Nat.add_sub_cancel_left] at h1
        cases h1
        have hwx : ∃ C0 : String, z_own r.1 = C0 ∧ Jvm.Cond.methodLink C0 idx j_len ∈ z_gt := by
          rcases z_op8v hck with ⟨h9, rfl⟩ | ⟨h9, rfl⟩
          · exact ⟨RX0, by rw [h9]; rfl, j_w1⟩
          · exact ⟨RL, by rw [h9]; rfl, j_w33⟩
        obtain ⟨C0, hown0, hwl⟩ := hwx
        intro lsM H locs hl hI
        have hk := k lsM H locs hl hI
        have hts := F.2.2.2.2.2.1
        have hS := hI.2.2.1
        obtain ⟨v, hJ⟩ := j_get F hj
        have hJH := j_S_kept hJ hS.2.1
        obtain ⟨cell, q1, q2, q3, -⟩ := hJH.1
        have hown : s.vm.findClass C0 = some m.cls := by
          have := F.2.2.2.2.1
          rw [hown0] at this
          exact this
        have hrr : z_cat rr ≤ 8 := by
          have := hc.2
          unfold z_cat at this ⊢
          simp only [List.map_cons, List.sum_cons] at this
          omega
        have hg : W p l e R s m args below meth c H locs (z_n hp - n0) (hp.2.2 - sl0) Q (F0 m pc lsM (.ref (sA j) :: rr.map (z_V (z_ad aA sA)))) := by
          refine j_run (va_runV (As := []) (rest := rr.map (z_V (z_ad aA sA))) (b := sA j) (C := "java/lang/String") ⟨F.1, F.2.1, F.2.2.2.1, hown, hts⟩ (j_length (A := z_A0 b0) (a := sA j) (v := v) (f := fun i => ((z_str j).map Int32.ofNat).getD i 0) (show (z_str j).length < 2147483648 by have := (j_tab j hj).2.2; omega)) (cwV 0 hts (j_goodl (fun w hw => ?_)) rfl rfl rfl ⟨rfl, by decide +kernel⟩ ⟨by show 1 + 1 ≤ R.frames; omega, by show 8 + (1 + 11) + 20 ≤ R.locals; omega⟩) ⟨j_P_blind, ⟨cell, q1, q2, q3⟩, fun U hU hW => ⟨rfl, by rw [hU]; exact j_S_moved hW.alike hJH⟩⟩ rfl rfl (hl.1.trans hnL.symm) rfl (lv_room (by rw [z_cat_map]; exact hrr)) hdg ⟨hRc, hRs⟩) hk
          simp only [wsV, List.mem_append, List.mem_cons, List.not_mem_nil, or_false] at hw
          rcases hw with (rfl | rfl | rfl | rfl) | hw
          · exact hwl
          · exact j_w2
          · exact j_w3
          · exact j_w30
          · exact j_ws_in j_w4 _ hw
        rw [← j_ad (aA := aA) (sA := sA)] at hg
        exact hg
    · cases h1
  · cases h
theorem z_s_strc (F : z_F sc D b0 sA cA r p l s m args meth c) (hnL : r.2.2.2.2.1 = nL) {idx : Nat} {ax : List Nat} {d : Nat} (hd1 : d ≤ R.frames) (hd2 : 46 * d ≤ R.locals) (hdg : decode r.2.2.2.1 pc = .ok (.invokevirtual idx, 3)) (hck : z_ckI 0 r.1 idx (9 :: ax) = true) (h : z_jx d pc ls st hp = some C) (hRc : z_n C.2.2.2 - n0 ≤ R.cells) (hRs : C.2.2.2.2.2 - sl0 ≤ R.slots) (k : z_K p l e R s m args below meth c Q D b0 aA sA cA nL n0 sl0 C) : z_K p l e R s m args below meth c Q D b0 aA sA cA nL n0 sl0 (pc, ls, st, hp) := by
  unfold z_jx at h
  split at h
  · rename_i hc
    obtain ⟨st', h1, rfl⟩ := z_mk_eq h
    unfold z_sch at h1
    split at h1
    · rename_i i a rr
      cases hq : (Nat.ble 1000 a && Nat.blt a 1021 && z_inb i (z_str (a - 1000)).length) with
      | false => rw [hq] at h1; cases h1
      | true =>
        rw [hq] at h1
        rw [Bool.and_eq_true, Bool.and_eq_true] at hq
        obtain ⟨j, hj, rfl⟩ := j_at hq.1.1 hq.1.2
        rw [Nat.add_sub_cancel_left] at h1 hq
        cases h1
        have hwx : ∃ C0 : String, z_own r.1 = C0 ∧ Jvm.Cond.methodLink C0 idx j_chr ∈ z_gt := by
          rcases z_op9v hck with ⟨h9, rfl⟩ | ⟨h9, rfl⟩
          · exact ⟨RX0, by rw [h9]; rfl, j_w10⟩
          · exact ⟨RL, by rw [h9]; rfl, j_w34⟩
        obtain ⟨C0, hown0, hwl⟩ := hwx
        intro lsM H locs hl hI
        have hk := k lsM H locs hl hI
        have hts := F.2.2.2.2.2.1
        have hS := hI.2.2.1
        obtain ⟨v, hJ⟩ := j_get F hj
        have hJH := j_S_kept hJ hS.2.1
        obtain ⟨cell, q1, q2, q3, -⟩ := hJH.1
        have hown : s.vm.findClass C0 = some m.cls := by
          have := F.2.2.2.2.1
          rw [hown0] at this
          exact this
        have hrr : z_cat rr ≤ 8 := by
          have := hc.2
          unfold z_cat at this ⊢
          simp only [List.map_cons, List.sum_cons] at this
          omega
        have h6 := (j_tab j hj).2.2
        obtain ⟨g1, g2, g3⟩ := j_lt h6 hq.2
        obtain ⟨y1, y2⟩ := j_ch j hj i.toNatClampNeg (by omega)
        have hg : W p l e R s m args below meth c H locs (z_n hp - n0) (hp.2.2 - sl0) Q (F0 m pc lsM (.int i :: .ref (sA j) :: rr.map (z_V (z_ad aA sA)))) := by
          refine j_run (va_runV (As := [.int i]) (rest := rr.map (z_V (z_ad aA sA))) (b := sA j) (C := "java/lang/String") ⟨F.1, F.2.1, F.2.2.2.1, hown, hts⟩ (j_charAt (A := z_A0 b0) (a := sA j) (v := v) (n := (z_str j).length) (f := fun i => ((z_str j).map Int32.ofNat).getD i 0) (x := Int32.ofNat ((z_str j).getD i.toNatClampNeg 0)) g1 g2 (z_inb_in hq.2) y1 (congrArg Value.int y2)) (cwV 1 hts (j_goodl (fun w hw => ?_)) rfl rfl rfl ⟨rfl, by decide +kernel⟩ ⟨by show 3 + 1 ≤ R.frames; omega, by show 8 + (2 + 11) + 64 ≤ R.locals; omega⟩) ⟨j_P_blind, ⟨cell, q1, q2, q3⟩, fun U hU hW => ⟨rfl, by rw [hU]; exact j_S_moved hW.alike hJH⟩⟩ rfl rfl (hl.1.trans hnL.symm) rfl (lv_room (by rw [z_cat_map]; exact hrr)) hdg ⟨hRc, hRs⟩) hk
          simp only [wsV, List.mem_append, List.mem_cons, List.not_mem_nil, or_false] at hw
          rcases hw with (rfl | rfl | rfl | rfl) | hw
          · exact hwl
          · exact j_w11
          · exact j_w12
          · exact j_w30
          · exact j_ws_in j_w13 _ hw
        rw [← j_ad (aA := aA) (sA := sA)] at hg
        exact hg
    · cases h1
  · cases h
end ZSC
