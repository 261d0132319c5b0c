section ZO
variable {p : Program} {l : Launch} {e : Env} {R : Room} {s : State} {m : MethodId} {args : Array Value} {below : List Frame} {meth : Method} {c : Code} {Q : State → Prop} {D : va_G} {b0 : Nat} {aA sA : Nat → Nat} {cA : Nat → ClassId} {nL n0 sl0 : Nat} {r : z_Rec} {sc : Nat × (Nat → Int32)}
variable {pc : Nat} {ls : z_Ls} {st st' : List Value} {hp hp' : z_H} {res : z_R}
theorem z_fin_sound (F : z_F sc D b0 sA cA r p l s m args meth c) {i : Instr} {len : Nat} {v : Option Value} (hdg : decode r.2.2.2.1 pc = .ok (i, len)) (hlen : z_lok i len = true) (h : z_fin r.2.2.2.2.2.1 i st = some v) {n1 : Nat} {aA0 : Nat → Nat} (hag : z_ag n1 aA0 aA) : z_K p l e R s m args below meth c (z_QE n1 D b0 aA0 sA cA below args s (.inl v) hp n0 sl0) D b0 aA sA cA nL n0 sl0 (pc, ls, st, hp) := by
  have L : ∀ n, z_ln i = n → n ≠ 0 → decode r.2.2.2.1 pc = .ok (i, n) := fun n h1 h0 => by rw [z_lok_eq hlen h1 h0] at hdg; exact hdg
  have hret := F.2.2.1
  have hlk := F.2.2.2.2.2.2.1
  intro lsM H locs hl hI
  have hf : ∀ q ∈ locs, z_A0 b0 q.base := hI.2.2.1.2.2
  unfold z_fin at h
  split at h
  · split at h
    · rename_i x t hrt
      split at h
      · rename_i hn
        cases h
        exact vx_ret (W.zret F.1 F.2.1 (hret.trans hrt) hn (fun t ht hW => ⟨_, aA, rfl, hag, rfl, by rw [ht]; exact ⟨hI.1, hI.2.1, hI.2.2.2.1.2⟩, hI.2.2.1.F ht⟩) hf (L 1 rfl (by decide)) hlk)
      · cases h
    · cases h
  · split at h
    · rename_i x hrt
      cases h
      exact vx_ret (W.fret F.1 F.2.1 (hret.trans hrt) (fun t ht hW => ⟨_, aA, rfl, hag, rfl, by rw [ht]; exact ⟨hI.1, hI.2.1, hI.2.2.2.1.2⟩, hI.2.2.1.F ht⟩) hf (L 1 rfl (by decide)) hlk)
    · cases h
  · split at h
    · rename_i x nm hrt
      cases h
      exact vx_ret (W.aret F.1 F.2.1 (hret.trans hrt) (Or.inl ⟨_, rfl⟩) (Or.inr ⟨_, rfl⟩) (fun t ht hW => ⟨_, aA, rfl, hag, rfl, by rw [ht]; exact ⟨hI.1, hI.2.1, hI.2.2.2.1.2⟩, hI.2.2.1.F ht⟩) hf (L 1 rfl (by decide)) hlk)
    · cases h
  · split at h
    · rename_i x hrt
      cases h
      exact vx_ret (W.dret F.1 F.2.1 (hret.trans hrt) (fun t ht hW => ⟨_, aA, rfl, hag, rfl, by rw [ht]; exact ⟨hI.1, hI.2.1, hI.2.2.2.1.2⟩, hI.2.2.1.F ht⟩) hf (L 1 rfl (by decide)) hlk)
    · cases h
  · split at h
    · rename_i hrt
      cases h
      exact vx_ret (W.vret F.1 F.2.1 (hret.trans hrt) (fun t ht hW => ⟨none, aA, rfl, hag, rfl, by rw [ht]; exact ⟨hI.1, hI.2.1, hI.2.2.2.1.2⟩, hI.2.2.1.F ht⟩) hf (L 1 rfl (by decide)) hlk)
    · cases h
  · cases h
theorem z_isI_eq {lst : List z_En} {pc n : Nat} {i : Instr} (h : z_isI lst pc i n = true) : ∃ ax, z_find lst pc = some (i, n, ax) := by
  unfold z_isI at h
  split at h
  · rename_i j mm ax hf
    simp only [Bool.and_eq_true, decide_eq_true_eq] at h
    obtain ⟨rfl, h2⟩ := h
    exact ⟨ax, by rw [hf, Nat.eq_of_beq_eq_true h2]⟩
  · cases h
theorem z_thr_eq {d : Nat} {i : Instr} {ax : List Nat} {E : Nat} (h : z_thr r d pc i ax st hp = some (E, hp')) : E < 6 ∧ hp' = (hp.1, hp.2.1 + 1, hp.2.2 + 6) ∧ r.1 = 9 ∧ r.2.2.2.2.2.2.1 = [] ∧ st = [] ∧ 6 ≤ d ∧ i = .new (z_xl E).1 ∧ (∃ ax, z_find r.2.2.2.2.2.2.2.2 (pc + 3) = some (.dup, 1, ax)) ∧ (∃ ax, z_find r.2.2.2.2.2.2.2.2 (pc + 4) = some (.invokespecial (z_xl E).2, 3, ax)) ∧ ∃ ax, z_find r.2.2.2.2.2.2.2.2 (pc + 7) = some (.athrow, 1, ax) := by
  unfold z_thr at h
  split at h
  · rename_i e0
    generalize hb : (Nat.ble 100 e0 && (Nat.blt e0 106 && (Nat.beq r.1 9 && (r.2.2.2.2.2.2.1.isEmpty && (st.isEmpty && (Nat.ble 6 d && (decide (i = .new (z_xl (e0 - 100)).1) && (z_isI r.2.2.2.2.2.2.2.2 (pc + 3) .dup 1 && (z_isI r.2.2.2.2.2.2.2.2 (pc + 4) (.invokespecial (z_xl (e0 - 100)).2) 3 && z_isI r.2.2.2.2.2.2.2.2 (pc + 7) .athrow 1))))))))) = b at h
    cases b with
    | false => cases h
    | true =>
      cases h
      simp only [Bool.and_eq_true, decide_eq_true_eq] at hb
      obtain ⟨h1, h2, h3, h4, h5, h6, h7, h8, h9, h10⟩ := hb
      have h2' : e0 + 1 ≤ 106 := Nat.le_of_ble_eq_true h2
      have h1' := Nat.le_of_ble_eq_true h1
      exact ⟨by omega, rfl, Nat.eq_of_beq_eq_true h3, List.isEmpty_iff.mp h4, List.isEmpty_iff.mp h5, Nat.le_of_ble_eq_true h6, h7, z_isI_eq h8, z_isI_eq h9, z_isI_eq h10⟩
  · cases h
theorem z_xat_hold {U : State} {a : Array Value} (hts : ∀ w ∈ z_gt, w.before a U = true) (hc : ∀ j : Nat, j < 6 → va_Nw (.castable (z_xn j) (z_xn j)) U) (hd : ∀ C ∈ z_dec, va_Nw (.declares ⟨C, "<init>", "()V"⟩) U) {E : Nat} (hE : E < 6) : ∀ w ∈ z_xat E, w.before a U = true := by
  intro w hw
  have h1 := List.all_eq_true.mp (List.all_eq_true.mp z_xat_ok E (List.mem_range.mpr hE)) w hw
  simp only [Bool.and_eq_true, Bool.or_eq_true, Bool.not_eq_true', decide_eq_true_eq] at h1
  obtain ⟨h2, h3⟩ := h1
  by_cases hg : goodWord w = true
  · rcases h2 with h2 | h2
    · rw [hg] at h2; cases h2
    · exact hts w (List.mem_filter.mpr ⟨h2, hg⟩)
  · rcases h3 with h3 | rfl | h3
    · exact absurd h3 hg
    · exact va_Nw.use rfl (hc E hE)
    · obtain ⟨C, hC, rfl⟩ := List.mem_map.mp h3
      exact va_Nw.use rfl (hd C hC)
theorem z_thr_sound (hT : ∀ (k : Nat) (r : z_Rec), z_rec k = some r → z_ckR r = true) {k : Nat} (hr : z_rec k = some r) (F : z_F sc D b0 sA cA r p l s m args meth c) (hnL : r.2.2.2.2.1 = nL) {i : Instr} {len d E : Nat} {ax : List Nat} (hd1 : d ≤ R.frames) (hd2 : 46 * d ≤ R.locals) (hdg : decode r.2.2.2.1 pc = .ok (i, len)) (hlen : z_lok i len = true) (h : z_thr r d pc i ax st hp = some (E, hp')) (hRc : z_n hp' - n0 ≤ R.cells) (hRs : hp'.2.2 - sl0 ≤ R.slots) {n1 : Nat} {aA0 : Nat → Nat} (hag : z_ag n1 aA0 aA) : z_K p l e R s m args below meth c (z_QE n1 D b0 aA0 sA cA below args s (.inr E) hp' n0 sl0) D b0 aA sA cA nL n0 sl0 (pc, ls, st, hp) := by
  have L : ∀ n, z_ln i = n → n ≠ 0 → decode r.2.2.2.1 pc = .ok (i, n) := fun n h1 h0 => by rw [z_lok_eq hlen h1 h0] at hdg; exact hdg
  obtain ⟨hE, rfl, hr9, hh, rfl, h6, rfl, ⟨ax1, f1⟩, ⟨ax2, f2⟩, ⟨ax3, f3⟩⟩ := z_thr_eq h
  have d1 := (z_entry hT hr f1).1
  have d2 := (z_entry hT hr f2).1
  have d3 := (z_entry hT hr f3).1
  intro lsM H locs hl hI
  have hG := F.2.2.2.2.2.2.2.2.2.2
  have hts := F.2.2.2.2.2.1
  have hown := F.2.2.2.2.1
  rw [hr9] at hown
  have hx := List.all_eq_true.mp z_xnk E (List.mem_range.mpr hE)
  simp only [Bool.and_eq_true, decide_eq_true_eq] at hx
  obtain ⟨x1, x2, x3, x4, x5, x6, x7⟩ := hx
  have hot := List.all_eq_true.mp z_xat_ot E (List.mem_range.mpr hE)
  have hn1 : z_n (hp.1, hp.2.1 + 1, hp.2.2 + 6) = z_n hp + 1 := rfl
  have i6 : n0 ≤ z_n hp := hI.2.2.2.2.2.1
  have i7 : sl0 ≤ hp.2.2 := hI.2.2.2.2.2.2
  rw [hn1] at hRc
  have hRs' : hp.2.2 + 6 - sl0 ≤ R.slots := hRs
  have htab : c.exceptionTable.toList = [] := by rw [F.2.2.2.2.2.2.2.1, hh]; rfl
  have hA1 : z_n hp - n0 + 1 ≤ R.cells := by omega
  have hA2 : hp.2.2 - sl0 + 6 ≤ R.slots := by omega
  have hA3 : z_n hp - n0 + 1 ≤ z_n hp + 1 - n0 := by omega
  have hA4 : hp.2.2 - sl0 + 6 ≤ hp.2.2 + 6 - sl0 := by omega
  refine vx_throw0 (A := z_A0 b0) (mc := z_n hp + 1 - n0) (ms := hp.2.2 + 6 - sl0) F.1 F.2.1 F.2.2.2.2.2.2.2.2.2.1 (own := RX9) (cls := z_xn E) (names := ["java/lang/RuntimeException", "java/lang/Exception"]) (ik := (z_xl E).1) (ic := (z_xl E).2) hown x7 (by decide +kernel) (hts _ (List.mem_filter.mpr ⟨x1, x2⟩)) (hts _ (List.mem_filter.mpr ⟨x3, x4⟩)) (z_xat_hold hts hG.2.2.2.2.2.2.1.2.1 hG.2.2.2.2.2.2.1.2.2 hE) ?_ hG.2.2.2.1 hG.2.2.2.2.1 hI.2.2.1 (by rw [F.2.2.2.1, hnL]; exact hl.1) (L 3 rfl (by decide)) d1 d2 d3 (by rw [htab]; intro x hx; cases hx) (by show 2 + 3 < R.frames; omega) (by show 0 + (13 * (2 + 1) + 42) ≤ R.locals; omega) hA1 hA2 F.2.2.2.2.2.2.1 ?_ hI.2.2.1.2.2 hA3 hA4
  · intro w hw
    rcases List.mem_cons.mp hw with rfl | hw
    · exact x5
    · rcases List.mem_cons.mp hw with rfl | hw
      · exact x6
      · exact List.all_eq_true.mp hot w hw
  · intro t hA hz hq
    refine ⟨E, aA, rfl, hag, rfl, hE, ⟨hI.1.kept (fun k x hx => hq x.1 ((hI.1 k x hx).lt)), hI.2.1, Nat.le_trans hI.2.2.2.1.2 hz⟩, ⟨Nat.le_trans hI.2.2.1.1 hz, fun q h1 h2 => (hq q (Nat.lt_of_lt_of_le h1 hI.2.2.1.1)).trans (hI.2.2.1.2.1 q h1 h2)⟩⟩
theorem z_xc_lt {t e0 : Nat} (h : z_xc t = some e0) : (e0 < 6 ∧ e0 ≠ 4) ∧ t = [92, 94, 96, 98, 0, 261].getD e0 0 := by
  unfold z_xc at h
  split at h <;> cases h <;> exact ⟨⟨by decide, by decide⟩, rfl⟩
theorem z_dble (a b : Nat) : decide (a ≤ b) = Nat.ble a b := by
  cases hb : Nat.ble a b with
  | true => exact decide_eq_true (Nat.le_of_ble_eq_true hb)
  | false => exact decide_eq_false (fun q => by rw [Nat.ble_eq_true_of_le q] at hb; cases hb)
theorem z_covers (a b h t pc : Nat) : covers ⟨a, b, h, t⟩ pc = (Nat.ble a pc && Nat.blt pc b) := by
  show (decide (a ≤ pc) && decide (pc < b)) = (Nat.ble a pc && Nat.blt pc b)
  rw [z_dble]
  congr 1
  exact z_dble (pc + 1) b
/-- past the rows that don't take it -/
theorem z_hd_out {own E : Nat} : ∀ {lst : List (Nat × Nat × Nat × Nat)}, z_hd own pc E lst = some none → ∀ z ∈ tableOf lst, covers z pc = false ∨ (own = 11 ∧ ∃ e0, (e0 < 6 ∧ e0 ≠ 4) ∧ e0 ≠ E ∧ z.catchType = [92, 94, 96, 98, 0, 261].getD e0 0) := by
  intro lst
  induction lst with
  | nil => intro _ z hz; cases hz
  | cons q lst ih =>
    obtain ⟨a, b, hh, t⟩ := q
    intro h z hz
    unfold z_hd at h
    have hz2 : z = ⟨a, b, hh, t⟩ ∨ z ∈ tableOf lst := List.mem_cons.mp hz
    cases hc : (Nat.ble a pc && Nat.blt pc b) with
    | false =>
      rw [hc] at h
      rcases hz2 with rfl | hz2
      · exact Or.inl (by rw [z_covers]; exact hc)
      · exact ih h z hz2
    | true =>
      rw [hc] at h
      dsimp only [cond_true] at h
      cases ho : Nat.beq own 11 with
      | false => rw [ho] at h; cases h
      | true =>
        rw [ho] at h
        dsimp only [cond_true] at h
        split at h
        · rename_i e0 hx
          obtain ⟨q1, q2⟩ := z_xc_lt hx
          cases he : Nat.beq e0 E with
          | true => rw [he] at h; cases h
          | false =>
            rw [he] at h
            rcases hz2 with rfl | hz2
            · exact Or.inr ⟨Nat.eq_of_beq_eq_true ho, e0, q1, (fun q => by rw [q, Nat.beq_refl] at he; cases he), q2⟩
            · exact ih h z hz2
        · cases h
/-- the row that takes it -/
theorem z_hd_in {own E h0 : Nat} : ∀ {lst : List (Nat × Nat × Nat × Nat)}, z_hd own pc E lst = some (some h0) → own = 11 ∧ (E < 6 ∧ E ≠ 4) ∧ ∃ (pre suf : List ExceptionTableEntry) (x : ExceptionTableEntry), tableOf lst = pre ++ x :: suf ∧ (∀ z ∈ pre, covers z pc = false ∨ (∃ e0, (e0 < 6 ∧ e0 ≠ 4) ∧ e0 ≠ E ∧ z.catchType = [92, 94, 96, 98, 0, 261].getD e0 0)) ∧ covers x pc = true ∧ x.catchType = [92, 94, 96, 98, 0, 261].getD E 0 ∧ x.handlerPc = h0 := by
  intro lst
  induction lst with
  | nil => intro h; cases h
  | cons q lst ih =>
    obtain ⟨a, b, hh, t⟩ := q
    intro h
    unfold z_hd at h
    have ht : tableOf ((a, b, hh, t) :: lst) = (⟨a, b, hh, t⟩ : ExceptionTableEntry) :: tableOf lst := rfl
    cases hc : (Nat.ble a pc && Nat.blt pc b) with
    | false =>
      rw [hc] at h
      obtain ⟨g1, g2, pre, suf, x, g3, g4, g5⟩ := ih h
      refine ⟨g1, g2, ⟨a, b, hh, t⟩ :: pre, suf, x, by rw [ht, g3]; rfl, fun z hz => ?_, g5⟩
      rcases List.mem_cons.mp hz with rfl | hz
      · exact Or.inl (by rw [z_covers]; exact hc)
      · exact g4 z hz
    | true =>
      rw [hc] at h
      dsimp only [cond_true] at h
      cases ho : Nat.beq own 11 with
      | false => rw [ho] at h; cases h
      | true =>
        rw [ho] at h
        dsimp only [cond_true] at h
        split at h
        · rename_i e0 hx
          obtain ⟨q1, q2⟩ := z_xc_lt hx
          cases he : Nat.beq e0 E with
          | true =>
            rw [he] at h
            have h2 : hh = h0 := Option.some.inj (Option.some.inj h)
            have h3 := Nat.eq_of_beq_eq_true he
            subst h2 h3
            exact ⟨Nat.eq_of_beq_eq_true ho, q1, [], tableOf lst, ⟨a, b, hh, t⟩, ht, fun z hz => absurd hz List.not_mem_nil, by rw [z_covers]; exact hc, q2, rfl⟩
          | false =>
            rw [he] at h
            obtain ⟨g1, g2, pre, suf, x, g3, g4, g5⟩ := ih h
            refine ⟨g1, g2, ⟨a, b, hh, t⟩ :: pre, suf, x, by rw [ht, g3]; rfl, fun z hz => ?_, g5⟩
            rcases List.mem_cons.mp hz with rfl | hz
            · exact Or.inr ⟨e0, q1, (fun q => by rw [q, Nat.beq_refl] at he; cases he), q2⟩
            · exact g4 z hz
        · cases h
end ZO
