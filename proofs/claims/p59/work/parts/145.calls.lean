section ZN
variable {p : Program} {l : Launch} {e : Env} {R : Room} {s : State} {m : MethodId} {args : Array Value} {below : List Frame} {meth : Method} {c : Code} {Q : State → Prop} {D : va_G} {b0 : Nat} {aA sA : Nat → Nat} {cA : Nat → ClassId} {nL n0 sl0 : Nat} {r : z_Rec} {sc : Nat × (Nat → Int32)}
variable {pc : Nat} {ls : z_Ls} {st st' : List Value} {hp hp' : z_H} {res : z_R}
theorem z_run_W {H : Heap} {locs : List Loc} {cells slots mc ms n1 : Nat} {lsM : Array Slot} {st0 rest : List Value} {a : Array Value} (hr : vx_Run p l e R s m args below meth c H locs cells slots mc ms (F0 m pc lsM st0) rest (z_Qc n1 D b0 aA sA cA res hp' a) (z_XC n1 D b0 aA sA cA res hp') (z_A0 b0)) (hS : va_S (z_A0 b0) s.heap H locs)
    (kr : ∀ (v : Option Value) (aA' : Nat → Nat), res = .inl v → z_ag n1 aA aA' → ∀ (H1 : Heap) (locs1 : List Loc), z_Hq D b0 aA' sA cA hp' H1 → va_S (z_A0 b0) s.heap H1 locs1 → W p l e R s m args below meth c H1 locs1 (cells + mc) (slots + ms) Q (F0 m (pc + 3) lsM ((v.map (z_V (z_ad aA' sA))).toList ++ rest)))
    (kx : ∀ (j : Nat) (aA' : Nat → Nat), res = .inr j → j < 6 → z_ag n1 aA aA' → ∀ (H1 : Heap) (locs1 : List Loc) (q9 : Addr) (ce : Cell), z_Hq D b0 aA' sA cA hp' H1 → va_S (z_A0 b0) s.heap H1 locs1 → H1[q9]? = some ce → ce.vm = .none → s.vm.findClass (z_xn j) = some ce.cls → vx_W p l e R s m args below meth c H1 locs1 (cells + mc) (slots + ms) Q (F0 m pc lsM rest) q9) :
    W p l e R s m args below meth c H locs cells slots Q (F0 m pc lsM st0) := by
  intro T hT X
  rcases hr T hT X with ⟨v, st₀, t, T', L, h0, X', hL, e1, e2, ⟨v', aX, hv1, hag, hv2, hH, hF⟩, stp⟩ | ⟨q, st₀, t, T', L, E, ce, h0, X', hL, e1, e2, ⟨j, aX, hj1, hag, hj2, hj3, hH, hF⟩, hce, hcv, hcl, stp⟩
  · cases hv2
    obtain ⟨k1, k2, k3⟩ := vx_keep h0 e1 hS (fun _ _ h => h) (fun _ h => h) hL hF
    obtain ⟨t2, a1, b1⟩ := kr v' aX hv1 hag T'.heap (locs ++ L) (by rw [e1]; exact hH) k3 T' rfl X'
    exact ⟨t2, stp t2 a1, b1⟩
  · subst hj2
    obtain ⟨k1, k2, k3⟩ := vx_keep h0 e1 hS (fun _ _ h => h) (fun _ h => h) hL hF
    obtain ⟨t2, a1, b1⟩ := kx j aX hj1 hj3 hag T'.heap (locs ++ L) q ce (by rw [e1]; exact hH) k3 (by rw [e1]; exact hce) hcv hcl T' rfl X'
    exact ⟨t2, stp.trans a1, b1⟩
theorem z_run_ret {H : Heap} {locs : List Loc} {cells slots mc ms : Nat} {g : JFrame} {rest : List Value} {Qa : State → Outcome → State → Prop} {XC : String → State → State → Prop} {free : Addr → Prop} (h : va_Run p l e R s m args below meth c H locs cells slots mc ms g rest Qa free) : vx_Run p l e R s m args below meth c H locs cells slots mc ms g rest Qa XC free := fun T hT X => Or.inl (h T hT X)
theorem z_args_eq {kd n : Nat} {as rr : List Value} (h : z_args kd n st = some (as, rr)) : n ≤ st.length ∧ (((kd = 0 ∨ kd = 3 ∨ kd = 4) ∧ ∃ b, as = .ref b :: (st.take n).reverse ∧ st.drop n = .ref b :: rr) ∨ (¬ (kd = 0 ∨ kd = 3 ∨ kd = 4) ∧ as = (st.take n).reverse ∧ rr = st.drop n)) := by
  unfold z_args at h
  by_cases hn : Nat.ble n st.length = true
  · rw [hn] at h
    refine ⟨Nat.le_of_ble_eq_true hn, ?_⟩
    dsimp only [cond_true] at h
    split at h
    · split at h
      · rename_i b rr' hd; cases h; exact Or.inl ⟨Or.inl rfl, b, rfl, hd⟩
      · cases h
    · split at h
      · rename_i b rr' hd; cases h; exact Or.inl ⟨Or.inr (Or.inl rfl), b, rfl, hd⟩
      · cases h
    · split at h
      · rename_i b rr' hd; cases h; exact Or.inl ⟨Or.inr (Or.inr rfl), b, rfl, hd⟩
      · cases h
    · rename_i h0 h3 h4
      cases h
      exact Or.inr ⟨by intro q; rcases q with q | q | q; exact h0 q; exact h3 q; exact h4 q, rfl, rfl⟩
  · rw [Bool.eq_false_iff.mpr hn] at h; cases h
/-- a call, by its kind -/
theorem z_call (hT : ∀ (k : Nat) (r : z_Rec), z_rec k = some r → z_ckR r = true) (F : z_F sc D b0 sA cA r p l s m args meth c) {i : Instr} {op idx kd k2 n d : Nat} {tl : List Nat} {as rr : List Value} {r2 : z_Rec} (hop : (op = 0 ∧ i = .invokevirtual idx) ∨ (op = 1 ∧ i = .invokestatic idx) ∨ (op = 2 ∧ i = .invokespecial idx))
    (hdg : decode r.2.2.2.1 pc = .ok (i, 3)) (hlen : tl.length = 5) (hck : z_ckI op r.1 idx (kd :: k2 :: n :: tl) = true) (hr2 : z_rec k2 = some r2) (ha : z_args kd n st = some (as, rr)) (hlg : (lg_sl as).length ≤ r2.2.2.2.2.1) (hmL : r2.2.2.2.2.1 ≤ 20) (hcat : z_cat rr ≤ 8) (hrc : z_rcv kd r2.1 as hp = true) (hh : kd = 5 ∨ r2.2.2.2.2.2.2.1 = []) (hres : kd ≤ 1 ∨ ∃ v, res = .inl v)
    (hw : z_hwf hp) (IH : z_WS sc D b0 aA sA cA l d k2 0 (lv_args 0 as) [] hp res hp') (hd1 : d + 1 ≤ R.frames) (hd2 : 46 * (d + 1) ≤ R.locals) (hm1 : z_n hp ≤ z_n hp') (hm2 : hp.2.2 ≤ hp'.2.2) (hRc : z_n hp' - n0 ≤ R.cells) (hRs : hp'.2.2 - sl0 ≤ R.slots)
    {lsM : Array Slot} {H : Heap} {locs : List Loc} (hsz : lsM.size = r.2.2.2.2.1) (hI : z_I D b0 aA sA cA n0 sl0 s hp H locs) :
    ∃ a, vx_Run p l e R s m args below meth c H locs (z_n hp - n0) (hp.2.2 - sl0) (z_n hp' - z_n hp) (hp'.2.2 - hp.2.2) (F0 m pc lsM (st.map (z_V (z_ad aA sA)))) (rr.map (z_V (z_ad aA sA))) (z_Qc hp.1.length D b0 aA sA cA res hp' a) (z_XC hp.1.length D b0 aA sA cA res hp') (z_A0 b0) := by
  obtain ⟨i1, i2, i3, i4, i5, i6, i7⟩ := hI
  have hts := F.2.2.2.2.2.1
  have hpl : plainFor (z_y r2) = true := by
    have h0 := hT k2 r2 hr2
    simp only [z_ckR, Bool.and_eq_true] at h0
    exact h0.1
  have hst := F.2.2.2.2.2.2.2.2.2.1
  have hG := F.2.2.2.2.2.2.2.2.2.2
  obtain ⟨hn, hcase⟩ := z_args_eq ha
  have hf : z_n hp - n0 + (z_n hp' - z_n hp) ≤ R.cells ∧ hp.2.2 - sl0 + (hp'.2.2 - hp.2.2) ≤ R.slots := ⟨by omega, by omega⟩
  have S : CallFix p m c r.2.2.2.1 r.2.2.2.2.1 s args z_gt (z_own r.1) := ⟨F.1, F.2.1, F.2.2.2.1, F.2.2.2.2.1, hts⟩
  have hR : (z_rm0 d hp hp').frames + 1 ≤ R.frames ∧ 8 + (r2.2.2.2.2.1 + 11) + (z_rm0 d hp hp').locals ≤ R.locals := ⟨hd1, by show 8 + (r2.2.2.2.2.1 + 11) + 46 * d ≤ R.locals; omega⟩
  have hblind : FrameBlind (z_Pc sc D b0 aA sA cA as hp) := z_blind
  have hpre : ∀ U : State, U.heap = H → s.WarmedH U.vm → z_Pc sc D b0 aA sA cA as hp (as.map (z_V (z_ad aA sA))).toArray U := fun U hU hW => ⟨rfl, by rw [hU]; exact ⟨i1, i2, i4.2⟩, by rw [hU]; exact i4.1, by rw [hU]; exact z_G_warm hG hW i3.1 i3.2.1⟩
  have hroom : 2 * (F0 m pc lsM (st.map (z_V (z_ad aA sA)))).monitorRoom + ((rr.map (z_V (z_ad aA sA))).map fun v => v.category).sum ≤ 8 := lv_room (by rw [z_cat_map]; exact hcat)
  have hlenT : ((st.take n).reverse.map (z_V (z_ad aA sA))).length = n := by rw [List.length_map, List.length_reverse, List.length_take]; omega
  have hsplit : st.map (z_V (z_ad aA sA)) = ((st.take n).reverse.map (z_V (z_ad aA sA))).reverse ++ (st.drop n).map (z_V (z_ad aA sA)) := by
    rw [← List.map_reverse, List.reverse_reverse, ← List.map_append, List.take_append_drop]
  obtain ⟨p1, p2, p3, p4, p5, rfl⟩ : ∃ p1 p2 p3 p4 p5, tl = [p1, p2, p3, p4, p5] := by
    match tl, hlen with
    | [a1, a2, a3, a4, a5], _ => exact ⟨a1, a2, a3, a4, a5, rfl⟩
  unfold z_ckI at hck
  dsimp only at hck
  rw [hr2] at hck
  dsimp only at hck
  simp only [Bool.and_eq_true, decide_eq_true_eq] at hck
  obtain ⟨hna, hini, hck⟩ := hck
  have hnd : z_own r2.1 ≠ "java/lang/invoke/MethodHandle" ∧ z_own r2.1 ≠ "java/lang/invoke/VarHandle" ∧ (parseMethodDescriptor (z_y r2).desc).map (fun d => d.parameters.length) = some n := ⟨(z_plain r2.1).1, (z_plain r2.1).2, hna⟩
  split at hck
  · -- virtual
    simp only [Bool.and_eq_true, decide_eq_true_eq] at hck
    obtain ⟨ho, hc11, w1, w2, w3, w5⟩ := hck
    rcases hop with ⟨-, rfl⟩ | ⟨q, -⟩ | ⟨q, -⟩
    · rcases hcase with ⟨-, b, has, hdr⟩ | ⟨q, -⟩
      · have hM := z_met hr2 hw IH hlg hst (hh.resolve_left (by decide)) hpl
        refine ⟨_, vx_runV (As := (st.take n).reverse.map (z_V (z_ad aA sA))) (C := z_own r2.1) (b := z_ad aA sA b) S hM (cwV n hts (z_goodl (ws := wsV (z_own r.1) idx (z_own r2.1) (z_y r2) (z_ws r2)) ?_) rfl rfl rfl ⟨rfl, hnd⟩ hR) ⟨hblind, ?_, ?_⟩ rfl hlenT hsz ?_ hroom hdg hf⟩
        · intro w hw
          simp only [wsV, z_ws, List.mem_append, List.mem_cons, List.not_mem_nil, or_false] at hw
          rcases hw with (rfl | rfl | rfl | rfl) | rfl | hw
          · exact z_at_mem w1
          · exact z_at_mem w2
          · exact z_at_mem w3
          · exact z_at_mem hini
          · exact z_at_mem w5
          · exact hw
        · rw [has] at hrc
          simp only [z_rcv] at hrc
          split at hrc
          · rename_i c' fs hcell
            have hc' : c' = r2.1 := Nat.eq_of_beq_eq_true hrc
            subst hc'
            obtain ⟨q, hq1, hq2⟩ : ∃ q : vw_C, z_cl[r2.1]? = some q ∧ q.1 = z_own r2.1 := by
              match hx : r2.1, hc11 with
              | 0, _ => exact ⟨_, rfl, rfl⟩
              | 1, _ => exact ⟨_, rfl, rfl⟩
              | 2, _ => exact ⟨_, rfl, rfl⟩
              | 3, _ => exact ⟨_, rfl, rfl⟩
              | 4, _ => exact ⟨_, rfl, rfl⟩
              | 5, _ => exact ⟨_, rfl, rfl⟩
              | 6, _ => exact ⟨_, rfl, rfl⟩
              | 7, _ => exact ⟨_, rfl, rfl⟩
              | 8, _ => exact ⟨_, rfl, rfl⟩
              | 9, _ => exact ⟨_, rfl, rfl⟩
              | q + 10, h => omega
            have hv := va_recv hG.1 i1 hq1 (z_W_at (ad := z_ad aA sA) (cA := cA) hcell)
            rw [hq2] at hv
            exact hv
          · cases hrc
        · have e1 : (Value.ref (z_ad aA sA b) :: (st.take n).reverse.map (z_V (z_ad aA sA))) = as.map (z_V (z_ad aA sA)) := by rw [has]; rfl
          rw [e1]
          exact hpre
        · show st.map (z_V (z_ad aA sA)) = _
          rw [hsplit, hdr]
          rfl
      · exact absurd (Or.inl rfl) q
    · omega
    · omega
  · -- static
    simp only [Bool.and_eq_true, decide_eq_true_eq] at hck
    obtain ⟨ho, w1, w2, w5⟩ := hck
    rcases hop with ⟨q, -⟩ | ⟨-, rfl⟩ | ⟨q, -⟩
    · omega
    · rcases hcase with ⟨q, -⟩ | ⟨-, has, hdr⟩
      · omega
      · subst hdr
        have hM := z_met hr2 hw IH hlg hst (hh.resolve_left (by decide)) hpl
        have hcb : CallB R s args (z_own r.1) idx (z_y r2) r2.2.2.2.1 r2.2.2.2.2.1 r2.2.2.2.2.2.1 (z_ws r2) (z_rm0 d hp hp') (z_n hp' - z_n hp) (hp'.2.2 - hp.2.2) n := callB_of n hts (z_goodl (fun w hw => by
            rcases List.mem_cons.mp hw with rfl | hw
            · exact z_at_mem w5
            · exact hw)) rfl rfl rfl (hts _ (z_at_mem hini)) (hts _ (z_at_mem w1)) hnd hR
        refine ⟨_, vx_runS (As := (st.take n).reverse.map (z_V (z_ad aA sA))) S hM ⟨hcb, hts _ (z_at_mem w2)⟩ ⟨hblind, ?_⟩ rfl hlenT hsz hsplit hroom hdg hf⟩
        rw [← has]
        exact hpre
    · omega
  · -- static, of a nest mate
    simp only [Bool.and_eq_true, decide_eq_true_eq] at hck
    obtain ⟨ho, w1, w2, w5⟩ := hck
    obtain ⟨v, rfl⟩ := hres.resolve_left (by decide)
    rcases hop with ⟨q, -⟩ | ⟨-, rfl⟩ | ⟨q, -⟩
    · omega
    · rcases hcase with ⟨q, -⟩ | ⟨-, has, hdr⟩
      · omega
      · subst hdr
        have hM := z_met_ret (z_met hr2 hw IH hlg hst (hh.resolve_left (by decide)) hpl)
        have hcn := va_cnB (R := R) (own := z_own r.1) (host := RX9) (index := idx) (y := z_y r2) (bytes := r2.2.2.2.1) (maxL := r2.2.2.2.2.1) (ret := r2.2.2.2.2.2.1) (ws := z_ws r2) (rm := z_rm0 d hp hp') (mc := z_n hp' - z_n hp) (ms := hp'.2.2 - hp.2.2) n hts (z_goodl (fun w hw => by
            rcases List.mem_cons.mp hw with rfl | hw
            · exact z_at_mem w5
            · exact hw)) rfl rfl rfl (hG.2.1 _ w1) (hts _ (z_at_mem hini)) hnd hR
        refine ⟨_, z_run_ret (va_runSN (As := (st.take n).reverse.map (z_V (z_ad aA sA))) S hM ⟨hcn, hts _ (z_at_mem w2), trivial⟩ ⟨hblind, ?_⟩ rfl hlenT hsz hsplit hroom hdg hf)⟩
        rw [← has]
        exact hpre
    · omega
  · -- a constructor
    simp only [Bool.and_eq_true, decide_eq_true_eq] at hck
    obtain ⟨ho, hnm, hret, w1, w2, w5⟩ := hck
    obtain ⟨v, rfl⟩ := hres.resolve_left (by decide)
    rcases hop with ⟨q, -⟩ | ⟨q, -⟩ | ⟨-, rfl⟩
    · omega
    · omega
    · rcases hcase with ⟨-, b, has, hdr⟩ | ⟨q, -⟩
      · have hM := z_met_ret (z_met hr2 hw IH hlg hst (hh.resolve_left (by decide)) hpl)
        have hcb : CallB R s args (z_own r.1) idx (z_y r2) r2.2.2.2.1 r2.2.2.2.2.1 none (z_ws r2) (z_rm0 d hp hp') (z_n hp' - z_n hp) (hp'.2.2 - hp.2.2) n := callB_of n hts (z_goodl (fun w hw => by
            rcases List.mem_cons.mp hw with rfl | hw
            · rw [hret]; exact z_at_mem w5
            · exact hw)) (by unfold z_ws; rw [hret]) rfl rfl (hts _ (z_at_mem hini)) (hts _ (z_at_mem w1)) hnd hR
        refine ⟨_, z_run_ret (va_runI (As := (st.take n).reverse.map (z_V (z_ad aA sA))) (b := z_ad aA sA b) S hM ⟨hcb, hnm, hts _ (z_at_mem w2)⟩ ⟨hblind, ?_⟩ rfl hlenT hsz ?_ hroom hdg hf)⟩
        · have e1 : (Value.ref (z_ad aA sA b) :: (st.take n).reverse.map (z_V (z_ad aA sA))) = as.map (z_V (z_ad aA sA)) := by rw [has]; rfl
          rw [e1]
          exact hpre
        · show st.map (z_V (z_ad aA sA)) = _
          rw [hsplit, hdr]
          rfl
      · omega
  · -- a nest mate's constructor
    simp only [Bool.and_eq_true, decide_eq_true_eq] at hck
    obtain ⟨ho, hnm, hret, w1, w2, w5⟩ := hck
    obtain ⟨v, rfl⟩ := hres.resolve_left (by decide)
    rcases hop with ⟨q, -⟩ | ⟨q, -⟩ | ⟨-, rfl⟩
    · omega
    · omega
    · rcases hcase with ⟨-, b, has, hdr⟩ | ⟨q, -⟩
      · have hM := z_met_ret (z_met hr2 hw IH hlg hst (hh.resolve_left (by decide)) hpl)
        have hcn := va_cnB (R := R) (own := z_own r.1) (host := RX9) (index := idx) (y := z_y r2) (bytes := r2.2.2.2.1) (maxL := r2.2.2.2.2.1) (ret := none) (ws := z_ws r2) (rm := z_rm0 d hp hp') (mc := z_n hp' - z_n hp) (ms := hp'.2.2 - hp.2.2) n hts (z_goodl (fun w hw => by
            rcases List.mem_cons.mp hw with rfl | hw
            · rw [hret]; exact z_at_mem w5
            · exact hw)) (by unfold z_ws; rw [hret]) rfl rfl (hG.2.1 _ w1) (hts _ (z_at_mem hini)) hnd hR
        refine ⟨_, z_run_ret (va_runIN (As := (st.take n).reverse.map (z_V (z_ad aA sA))) (b := z_ad aA sA b) S hM ⟨hcn, hnm, hts _ (z_at_mem w2)⟩ ⟨hblind, ?_⟩ rfl hlenT hsz ?_ hroom hdg hf)⟩
        · have e1 : (Value.ref (z_ad aA sA b) :: (st.take n).reverse.map (z_V (z_ad aA sA))) = as.map (z_V (z_ad aA sA)) := by rw [has]; rfl
          rw [e1]
          exact hpre
        · show st.map (z_V (z_ad aA sA)) = _
          rw [hsplit, hdr]
          rfl
      · omega
  · -- static, with a table
    simp only [Bool.and_eq_true, decide_eq_true_eq] at hck
    obtain ⟨ho, hc11, w1, w2, w5⟩ := hck
    obtain ⟨v, rfl⟩ := hres.resolve_left (by decide)
    rcases hop with ⟨q, -⟩ | ⟨-, rfl⟩ | ⟨q, -⟩
    · omega
    · rcases hcase with ⟨q, -⟩ | ⟨-, has, hdr⟩
      · omega
      · subst hdr
        have hM := z_met_ret (z_metH hr2 hw IH hlg hst (by rw [hc11]; decide))
        have hcw := vx_cwSW (R := R) (own := z_own r.1) (index := idx) (y := z_y r2) (bytes := r2.2.2.2.1) (maxL := r2.2.2.2.2.1) (ret := r2.2.2.2.2.2.1) (hh := r2.2.2.2.2.2.2.1) (ws := z_wsH r2) (rm := z_rm0 d hp hp') (mc := z_n hp' - z_n hp) (ms := hp'.2.2 - hp.2.2) n hts (z_goodl (ws := va_wsS (z_own r.1) idx (z_y r2) (z_wsH r2)) (fun w hw => by
            simp only [va_wsS, z_wsH, List.mem_append, List.mem_cons, List.not_mem_nil, or_false] at hw
            rcases hw with (rfl | rfl | rfl) | rfl | hw
            · exact z_at_mem w1
            · exact z_at_mem w2
            · exact z_at_mem hini
            · exact z_at_mem w5
            · exact hw)) rfl rfl rfl hnd hR
        refine ⟨_, z_run_ret (vx_runSW (As := (st.take n).reverse.map (z_V (z_ad aA sA))) S hM hcw ⟨hblind, ?_⟩ rfl hlenT hsz hsplit hroom hdg hf)⟩
        rw [← has]
        exact hpre
    · omega
  · cases hck
end ZN
