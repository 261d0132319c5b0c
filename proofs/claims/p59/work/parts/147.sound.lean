section ZQ
variable {sc : Nat × (Nat → Int32)}
theorem z_xcw {args : Array Value} {s : State} (hts : ∀ w ∈ z_gt, w.before args s = true) {e0 : Nat} (h : e0 < 6 ∧ e0 ≠ 4) : (Jvm.Cond.classLink RL ([92, 94, 96, 98, 0, 261].getD e0 0) (z_xn e0)).before args s = true := by
  have hm : e0 ∈ ([0, 1, 2, 3, 5] : List Nat) := by
    obtain ⟨h1, h2⟩ := h
    rcases (show e0 = 0 ∨ e0 = 1 ∨ e0 = 2 ∨ e0 = 3 ∨ e0 = 5 by omega) with rfl | rfl | rfl | rfl | rfl <;> decide
  have hx := List.all_eq_true.mp z_xcl e0 hm
  simp only [Bool.and_eq_true, decide_eq_true_eq] at hx
  exact hts _ (List.mem_filter.mpr ⟨hx.1, hx.2.1⟩)
theorem z_ct0 {e0 : Nat} (h : e0 < 6 ∧ e0 ≠ 4) : [92, 94, 96, 98, 0, 261].getD e0 0 ≠ 0 := by
  match e0, h with
  | 0, _ => decide
  | 1, _ => decide
  | 2, _ => decide
  | 3, _ => decide
  | 4, h => exact absurd rfl h.2
  | 5, _ => decide
  | n + 6, h => omega
theorem z_hs_eq {j : Instr} {x : Nat} (h : z_hs j = some x) : j = .astore x ∨ ∃ y : Fin 4, j = .astore_n y ∧ (y : Nat) = x := by
  unfold z_hs at h
  split at h
  · cases h; exact Or.inl rfl
  · rename_i y; cases h; exact Or.inr ⟨y, rfl, rfl⟩
  · cases h
/-- the map of addresses with which a caller goes on -/
theorem z_pick {D : va_G} {b0 : Nat} {aA aX sA : Nat → Nat} {cA : Nat → ClassId} {hp hp1 : z_H} {ls : z_Ls} {rr : List Value} {v : Option Value} {H1 : Heap} (hc : z_cok hp hp1 ls rr v = true) (hw1 : z_hwf hp1) (hle : hp.1.length ≤ hp1.1.length) (hag : z_ag hp.1.length aA aX) (hH : z_Hq D b0 aX sA cA hp1 H1) :
    ∃ aY : Nat → Nat, z_ag hp.1.length aA aY ∧ z_Hq D b0 aY sA cA hp1 H1 ∧ z_L (z_ad aY sA) ls = z_L (z_ad aA sA) ls ∧ rr.map (z_V (z_ad aY sA)) = rr.map (z_V (z_ad aA sA)) ∧ v.map (z_V (z_ad aY sA)) = v.map (z_V (z_ad aX sA)) := by
  unfold z_cok at hc
  rw [Bool.or_eq_true, Bool.and_eq_true] at hc
  rcases hc with ⟨h1, h2⟩ | h1
  · have h3 := Nat.eq_of_beq_eq_true h1
    have hag1 : z_ag hp1.1.length aA aX := by rw [h3]; exact hag
    have hW := z_W_ag (sA := sA) (cA := cA) hw1 hag1
    refine ⟨aA, z_ag_rfl, ⟨by rw [← hW]; exact hH.1, by rw [← hW]; exact hH.2.1, hH.2.2⟩, rfl, rfl, ?_⟩
    cases v with
    | none => rfl
    | some w => cases w <;> first | rfl | cases h2
  · unfold z_wfb at h1
    rw [Bool.and_eq_true] at h1
    exact ⟨aX, hag, hH, z_L_ag hag h1.1, z_st_ag hag h1.2, rfl⟩
/-- A RUN OF THE INTERPRETER IS A RUN OF THE MACHINE -/
theorem z_main (hT : ∀ (k : Nat) (r : z_Rec), z_rec k = some r → z_ckR r = true) : ∀ (f d k pc : Nat) (ls : z_Ls) (st : List Value) (hp : z_H) (res : z_R) (hp' : z_H), z_ex sc f d k pc ls st hp = some (res, hp') →
    (z_n hp ≤ z_n hp' ∧ hp.2.2 ≤ hp'.2.2 ∧ hp.1.length ≤ hp'.1.length ∧ (z_hwf hp → z_hwf hp') ∧ ∀ E, res = .inr E → E < 6) ∧ ∀ (l : Launch) (D : va_G) (b0 : Nat) (aA sA : Nat → Nat) (cA : Nat → ClassId), z_WS sc D b0 aA sA cA l d k pc ls st hp res hp' := by
  intro f
  induction f with
  | zero => intro d k pc ls st hp res hp' h; cases h
  | succ f ih =>
    intro d k pc ls st hp res hp' h
    unfold z_ex at h
    split at h
    · cases h
    rename_i r hr
    split at h
    · cases h
    rename_i i len ax hfd
    have hent := z_entry hT hr hfd
    have hdg : decode r.2.2.2.1 pc = .ok (i, len) := hent.1
    have hck : z_ckL r.1 r.2.1 i ax = true := hent.2
    by_cases hlk : z_lok i len = true
    · rw [hlk] at h
      dsimp only [cond_true] at h
      split at h
      · -- within the frame
        split at h
        · rename_i C hC
          obtain ⟨⟨m1, m2, m4, m5, m3⟩, W1⟩ := ih _ _ _ _ _ _ _ _ h
          have hm := z_loc_mn hC
          refine ⟨⟨Nat.le_trans hm.1 m1, Nat.le_trans hm.2.1 m2, Nat.le_trans hm.2.2.1 m4, fun q => m5 (hm.2.2.2 q), m3⟩, ?_⟩
          intro l D b0 aA sA cA r' hr' p e R s m args below meth c n0 sl0 n1 aA0 hw hn1 hag F hd1 hd2 hRc hRs
          cases Option.some.inj (hr'.symm.trans hr)
          exact z_loc_sound F rfl hd1 hd2 hdg hlk hck hC (Nat.le_trans (Nat.sub_le_sub_right m1 _) hRc) (Nat.le_trans (Nat.sub_le_sub_right m2 _) hRs) hw (fun aA' hag2 => W1 l D b0 aA' sA cA r hr p e R s m args below meth c n0 sl0 n1 aA0 (hm.2.2.2 hw) (Nat.le_trans hn1 hm.2.2.1) (z_ag_trans hag hn1 hag2) F hd1 hd2 hRc hRs)
        · cases h
      · -- an end
        split at h
        · rename_i v hv
          cases h
          refine ⟨⟨Nat.le_refl _, Nat.le_refl _, Nat.le_refl _, id, fun E q => by cases q⟩, ?_⟩
          intro l D b0 aA sA cA r' hr' p e R s m args below meth c n0 sl0 n1 aA0 hw hn1 hag F hd1 hd2 hRc hRs
          cases Option.some.inj (hr'.symm.trans hr)
          exact z_fin_sound F hdg hlk hv hag
        · cases h
      · -- a throw
        split at h
        · rename_i x hx
          cases h
          obtain ⟨E, hp2⟩ := x
          obtain ⟨hE, e2, -⟩ := z_thr_eq hx
          refine ⟨⟨?_, ?_, ?_, ?_, fun E' q => by cases q; exact hE⟩, ?_⟩
          · rw [e2]; exact Nat.le_succ _
          · rw [e2]; exact Nat.le_add_right _ _
          · rw [e2]; exact Nat.le_refl _
          · rw [e2]; exact fun q => q
          · intro l D b0 aA sA cA r' hr' p e R s m args below meth c n0 sl0 n1 aA0 hw hn1 hag F hd1 hd2 hRc hRs
            cases Option.some.inj (hr'.symm.trans hr)
            exact z_thr_sound hT hr F rfl hd1 hd2 hdg hlk hx hRc hRs hag
        · cases h
      · -- a call
        rename_i hk0 hk1 hk2
        split at h
        · rename_i kd k2 n tl
          split at h
          · rename_i r2 as rr hr2 ha
            generalize hb : (Nat.ble 1 d && (Nat.ble (lg_sl as).length r2.2.2.2.2.1 && (Nat.ble r2.2.2.2.2.1 20 && (Nat.ble (z_cat rr) 8 && (z_rcv kd r2.1 as hp && (Nat.beq kd 5 || r2.2.2.2.2.2.2.1.isEmpty)))))) = b at h
            cases b with
            | false => cases h
            | true =>
              dsimp only [cond_true] at h
              simp only [Bool.and_eq_true, Bool.or_eq_true] at hb
              obtain ⟨b1, b2, b3, b4, b5, b6⟩ := hb
              have b1' := Nat.le_of_ble_eq_true b1
              have b2' := Nat.le_of_ble_eq_true b2
              have b3' := Nat.le_of_ble_eq_true b3
              have b4' := Nat.le_of_ble_eq_true b4
              have b6' : kd = 5 ∨ r2.2.2.2.2.2.2.1 = [] := b6.imp Nat.eq_of_beq_eq_true List.isEmpty_iff.mp
              -- the instruction
              obtain ⟨op, idx, hop, hlen5, hckI⟩ : ∃ op idx, ((op = 0 ∧ i = .invokevirtual idx) ∨ (op = 1 ∧ i = .invokestatic idx) ∨ (op = 2 ∧ i = .invokespecial idx)) ∧ tl.length = 5 ∧ z_ckI op r.1 idx (kd :: k2 :: n :: tl) = true := by
                have hk3 : z_kd i (kd :: k2 :: n :: tl) = 3 ∧ ∃ idx, (i = .invokevirtual idx ∨ i = .invokestatic idx ∨ i = .invokespecial idx) := by
                  unfold z_kd at hk0 hk1 hk2 ⊢
                  cases i
                  case invokevirtual idx =>
                    refine ⟨?_, idx, Or.inl rfl⟩
                    dsimp only at hk0 ⊢
                    split at hk0
                    · rfl
                    · exact absurd rfl hk0
                  case invokestatic idx =>
                    refine ⟨?_, idx, Or.inr (Or.inl rfl)⟩
                    dsimp only at hk0 ⊢
                    split at hk0
                    · rfl
                    · exact absurd rfl hk0
                  case invokespecial idx =>
                    refine ⟨?_, idx, Or.inr (Or.inr rfl)⟩
                    dsimp only at hk0 ⊢
                    split at hk0
                    · rfl
                    · exact absurd rfl hk0
                  case new idx =>
                    dsimp only at hk0
                    exact absurd rfl hk0
                  all_goals first
                    | exact absurd rfl hk0
                    | exact absurd rfl hk1
                have hl5 : tl.length = 5 := by
                  obtain ⟨h3, idx, hi⟩ := hk3
                  rcases hi with rfl | rfl | rfl
                  all_goals
                    dsimp only [z_kd] at h3
                    split at h3
                    · rename_i he; cases he; rfl
                    · cases h3
                obtain ⟨-, idx, hi⟩ := hk3
                rcases hi with rfl | rfl | rfl
                · exact ⟨0, idx, Or.inl ⟨rfl, rfl⟩, hl5, hck⟩
                · exact ⟨1, idx, Or.inr (Or.inl ⟨rfl, rfl⟩), hl5, hck⟩
                · exact ⟨2, idx, Or.inr (Or.inr ⟨rfl, rfl⟩), hl5, hck⟩
              have hdg3 : decode r.2.2.2.1 pc = .ok (i, 3) := by
                have : len = 3 := by
                  rcases hop with ⟨-, rfl⟩ | ⟨-, rfl⟩ | ⟨-, rfl⟩ <;> exact z_lok_eq hlk rfl (by decide)
                rw [this] at hdg
                exact hdg
              have hdd : d - 1 + 1 = d := by omega
              split at h
              · -- it returns
                rename_i v hp1 hex
                cases hck9 : z_cok hp hp1 ls rr v with
                | false => rw [hck9] at h; cases h
                | true =>
                rw [hck9] at h
                dsimp only [cond_true] at h
                obtain ⟨⟨m1, m2, m4, m5, m3⟩, W1⟩ := ih _ _ _ _ _ _ _ _ hex
                obtain ⟨⟨q1, q2, q4, q5, q3⟩, W2⟩ := ih _ _ _ _ _ _ _ _ h
                refine ⟨⟨Nat.le_trans m1 q1, Nat.le_trans m2 q2, Nat.le_trans m4 q4, fun q => q5 (m5 q), q3⟩, ?_⟩
                intro l D b0 aA sA cA r' hr' p e R s m args below meth c n0 sl0 n1 aA0 hw hn1 hag F hd1 hd2 hRc hRs
                cases Option.some.inj (hr'.symm.trans hr)
                intro lsM H locs hl hI
                have i6 : n0 ≤ z_n hp := hI.2.2.2.2.2.1
                have i7 : sl0 ≤ hp.2.2 := hI.2.2.2.2.2.2
                obtain ⟨a, hrun⟩ := z_call hT F hop hdg3 hlen5 hckI hr2 ha b2' b3' b4' b5 b6' (Or.inr ⟨v, rfl⟩) hw (W1 l D b0 aA sA cA) (by rw [hdd]; exact hd1) (by rw [hdd]; exact hd2) m1 m2 (Nat.le_trans (Nat.sub_le_sub_right q1 _) hRc) (Nat.le_trans (Nat.sub_le_sub_right q2 _) hRs) hl.1 hI
                refine z_run_W hrun hI.2.2.1 (fun v' aX hv' hagX H1 locs1 hH hS => ?_) (fun j aX hj => by cases hj)
                cases hv'
                refine z_bound fun hb => ?_
                have e1 : z_n hp - n0 + (z_n hp1 - z_n hp) = z_n hp1 - n0 := by omega
                have e2 : hp.2.2 - sl0 + (hp1.2.2 - hp.2.2) = hp1.2.2 - sl0 := by omega
                have i5 : s.heap.size ≤ b0 + n0 := hI.2.2.2.2.1
                have hb' : H1.size ≤ s.heap.size + (z_n hp - n0 + (z_n hp1 - z_n hp)) := hb
                have hz : H1.size ≤ b0 + z_n hp1 := by omega
                obtain ⟨aY, y1, y2, y3, y4, y5⟩ := z_pick (sA := sA) (D := D) (b0 := b0) (cA := cA) hck9 (m5 hw) m4 hagX hH
                have hk := W2 l D b0 aY sA cA r hr p e R s m args below meth c n0 sl0 n1 aA0 (m5 hw) (Nat.le_trans hn1 m4) (z_ag_trans hag hn1 y1) F hd1 hd2 hRc hRs lsM H1 locs1 (by rw [y3]; exact hl) ⟨y2.1, y2.2.1, hS, ⟨hz, y2.2.2⟩, i5, Nat.le_trans i6 m1, Nat.le_trans i7 m2⟩
                have e3 : ((v.map (z_V (z_ad aX sA))).toList ++ rr.map (z_V (z_ad aA sA))) = (v.toList ++ rr).map (z_V (z_ad aY sA)) := by
                  rw [List.map_append, y4, ← y5]
                  cases v <;> rfl
                show W p l e R s m args below meth c H1 locs1 (z_n hp - n0 + (z_n hp1 - z_n hp)) (hp.2.2 - sl0 + (hp1.2.2 - hp.2.2)) _ (F0 m (pc + 3) lsM _)
                rw [e1, e2, e3]
                exact hk
              · -- it throws
                rename_i E hp1 hex
                obtain ⟨⟨m1, m2, m4, m5, m3⟩, W1⟩ := ih _ _ _ _ _ _ _ _ hex
                have hE := m3 E rfl
                by_cases hkd : Nat.ble kd 1 = true
                · rw [hkd] at h
                  dsimp only [cond_true] at h
                  have hkd' := Nat.le_of_ble_eq_true hkd
                  split at h
                  · -- not caught here
                    rename_i hhd
                    cases h
                    refine ⟨⟨m1, m2, m4, m5, m3⟩, ?_⟩
                    intro l D b0 aA sA cA r' hr' p e R s m args below meth c n0 sl0 n1 aA0 hw hn1 hag F hd1 hd2 hRc hRs
                    cases Option.some.inj (hr'.symm.trans hr)
                    intro lsM H locs hl hI
                    have i6 : n0 ≤ z_n hp := hI.2.2.2.2.2.1
                    have i7 : sl0 ≤ hp.2.2 := hI.2.2.2.2.2.2
                    obtain ⟨a, hrun⟩ := z_call hT F hop hdg3 hlen5 hckI hr2 ha b2' b3' b4' b5 b6' (Or.inl hkd') hw (W1 l D b0 aA sA cA) (by rw [hdd]; exact hd1) (by rw [hdd]; exact hd2) m1 m2 hRc hRs hl.1 hI
                    refine z_run_W hrun hI.2.2.1 (fun v' aX hv' => by cases hv') (fun j aX hj hj6 hagX H1 locs1 q9 ce hH hS hce hcv hcl => ?_)
                    cases hj
                    have e1 : z_n hp - n0 + (z_n hp' - z_n hp) ≤ z_n hp' - n0 := by omega
                    have e2 : hp.2.2 - sl0 + (hp'.2.2 - hp.2.2) ≤ hp'.2.2 - sl0 := by omega
                    have htab := F.2.2.2.2.2.2.2.1
                    have hout := z_hd_out hhd
                    have hG := F.2.2.2.2.2.2.2.2.2.2
                    refine vx_outP F.2.2.2.2.1 F.2.2.2.2.2.2.1 (fun z hz => ?_) hce hcv hcl (fun t ht hA => ⟨E, aX, rfl, z_ag_trans hag hn1 hagX, rfl, hE, by rw [ht]; exact hH, hS.F ht⟩) hS.2.2 e1 e2
                    rw [htab] at hz
                    rcases hout z hz with q | ⟨hown, e0, q1, q2, q3⟩
                    · exact Or.inl q
                    · refine Or.inr ⟨by rw [q3]; exact z_ct0 q1, z_xn e0, ?_, hG.2.2.2.2.2.2.1.1 E e0 hE q1.1 (fun q => q2 q.symm) q1.2⟩
                      rw [q3, hown]
                      exact z_xcw F.2.2.2.2.2.1 q1
                  · -- caught
                    rename_i h0 hhd
                    split at h
                    · rename_i j mlen ax2 hf2
                      split at h
                      · rename_i x hx
                        generalize hbx : (z_lok j mlen && (Nat.blt x r.2.2.2.2.1 && z_cok hp hp1 (z_rm ls x) [] none)) = bx at h
                        cases bx with
                        | false => cases h
                        | true =>
                          dsimp only [cond_true] at h
                          simp only [Bool.and_eq_true] at hbx
                          obtain ⟨hlj, hxl, hck9⟩ := hbx
                          have hxl' : x < r.2.2.2.2.1 := Nat.le_of_ble_eq_true hxl
                          obtain ⟨⟨q1, q2, q4, q5, q3⟩, W2⟩ := ih _ _ _ _ _ _ _ _ h
                          refine ⟨⟨Nat.le_trans m1 q1, Nat.le_trans m2 q2, Nat.le_trans m4 q4, fun q => q5 (m5 q), q3⟩, ?_⟩
                          intro l D b0 aA sA cA r' hr' p e R s m args below meth c n0 sl0 n1 aA0 hw hn1 hag F hd1 hd2 hRc hRs
                          cases Option.some.inj (hr'.symm.trans hr)
                          intro lsM H locs hl hI
                          have i6 : n0 ≤ z_n hp := hI.2.2.2.2.2.1
                          have i7 : sl0 ≤ hp.2.2 := hI.2.2.2.2.2.2
                          obtain ⟨a, hrun⟩ := z_call hT F hop hdg3 hlen5 hckI hr2 ha b2' b3' b4' b5 b6' (Or.inl hkd') hw (W1 l D b0 aA sA cA) (by rw [hdd]; exact hd1) (by rw [hdd]; exact hd2) m1 m2 (Nat.le_trans (Nat.sub_le_sub_right q1 _) hRc) (Nat.le_trans (Nat.sub_le_sub_right q2 _) hRs) hl.1 hI
                          refine z_run_W hrun hI.2.2.1 (fun v' aX hv' => by cases hv') (fun j' aX hj hj6 hagX H1 locs1 q9 ce hH hS hce hcv hcl => ?_)
                          cases hj
                          obtain ⟨hown, hE4, pre, suf, xe, g1, g2, g3, g4, g5⟩ := z_hd_in hhd
                          obtain ⟨aY, y1, y2, y3, -, -⟩ := z_pick (sA := sA) (D := D) (b0 := b0) (cA := cA) hck9 (m5 hw) m4 hagX hH
                          have htab := F.2.2.2.2.2.2.2.1
                          have hG := F.2.2.2.2.2.2.2.2.2.2
                          have hwn := F.2.2.2.2.1
                          rw [hown] at hwn
                          have hcl0 := z_xcw F.2.2.2.2.2.1 hE4
                          refine vx_catch (own := RL) (name := z_xn E) hwn pre xe suf (by rw [htab]; exact g1) (fun z hz => ?_) g3 (by rw [g4]; exact z_ct0 hE4) (by rw [g4]; exact hcl0) (va_Nw.use rfl (hG.2.2.2.2.2.2.1.2.1 E hE)) hce hcv hcl ?_
                          · rcases g2 z hz with q | ⟨e0, w1, w2, w3⟩
                            · exact Or.inl q
                            · exact Or.inr ⟨by rw [w3]; exact z_ct0 w1, z_xn e0, by rw [w3]; exact z_xcw F.2.2.2.2.2.1 w1, hG.2.2.2.2.2.2.1.1 E e0 hE w1.1 (fun q => w2 q.symm) w1.2⟩
                          · rw [g5]
                            have hdh := (z_entry hT hr hf2).1
                            have e1 : z_n hp - n0 + (z_n hp1 - z_n hp) = z_n hp1 - n0 := by omega
                            have e2 : hp.2.2 - sl0 + (hp1.2.2 - hp.2.2) = hp1.2.2 - sl0 := by omega
                            have i5 : s.heap.size ≤ b0 + n0 := hI.2.2.2.2.1
                            have fin : ∀ ls' : Array Slot, lv_has ls' r.2.2.2.2.1 ((x, Value.ref q9) :: (z_L (z_ad aA sA) ls).filter (fun q => !(q.1 == x) && !(q.1 + 1 == x && q.2.category == 2))) → W p l e R s m args below meth c H1 locs1 (z_n hp - n0 + (z_n hp1 - z_n hp)) (hp.2.2 - sl0 + (hp1.2.2 - hp.2.2)) (z_QE n1 D b0 aA0 sA cA below args s res hp' n0 sl0) (F0 m (h0 + mlen) ls' []) := by
                              intro ls' hls
                              have hls2 : lv_has ls' r.2.2.2.2.1 (z_L (z_ad aA sA) (z_rm ls x)) := by
                                refine z_has_sub hls (fun q hq => List.mem_cons_of_mem _ ?_)
                                rw [z_L_filter _ _ _ (fun q => by simp only [z_V_cat])]
                                exact hq
                              refine z_bound fun hb => ?_
                              have hb' : H1.size ≤ s.heap.size + (z_n hp - n0 + (z_n hp1 - z_n hp)) := hb
                              have hz : H1.size ≤ b0 + z_n hp1 := by omega
                              have hk := W2 l D b0 aY sA cA r hr p e R s m args below meth c n0 sl0 n1 aA0 (m5 hw) (Nat.le_trans hn1 m4) (z_ag_trans hag hn1 y1) F hd1 hd2 hRc hRs ls' H1 locs1 (by rw [y3]; exact hls2) ⟨y2.1, y2.2.1, hS, ⟨hz, y2.2.2⟩, i5, Nat.le_trans i6 m1, Nat.le_trans i7 m2⟩
                              rw [e1, e2]
                              exact hk
                            rcases z_hs_eq hx with rfl | ⟨y, rfl, rfl⟩
                            · cases z_lok_eq (n := 2) hlj rfl (by decide)
                              exact lv_astore F.1 F.2.1 hdh hl hxl' rfl fin
                            · cases z_lok_eq (n := 1) hlj rfl (by decide)
                              exact lv_astore_n F.1 F.2.1 hdh rfl hl hxl' rfl fin
                      · cases h
                    · cases h
                  · cases h
                · rw [Bool.eq_false_iff.mpr hkd] at h; cases h
              · cases h
          · cases h
        · cases h
    · rw [Bool.eq_false_iff.mpr hlk] at h; cases h
end ZQ
