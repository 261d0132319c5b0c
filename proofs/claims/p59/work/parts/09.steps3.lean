section ZP3
variable {p : Program} {l : Launch} {e : Env} {R : Room} {s : State} {m : MethodId} {args : Array Value} {below : List Frame} {meth : Method} {c : Code} {Q : State → Prop} {D : va_G} {b0 : Nat} {aA sA : Nat → Nat} {cA : Nat → ClassId} {nL n0 sl0 : Nat} {r : z_Rec} {sc : Nat × (Nat → Int32)}
variable {pc : Nat} {ls : z_Ls} {st st' : List Value} {hp : z_H} {C : z_C}
theorem z_band {a b : Nat} {x : Bool} (h : (Nat.beq a b && x) = true) : a = b ∧ x = true := by
  rw [Bool.and_eq_true] at h
  exact ⟨Nat.eq_of_beq_eq_true h.1, h.2⟩
theorem z_ald_eq {t : Nat} (h : z_ald sc t st hp = some st') : ∃ (i : Int32) (a : Nat) (rr : List Value) (n : Nat) (f : Nat → Int32), st = .int i :: .ref a :: rr ∧ z_hg sc hp a = some (.inl (t, n, .inl f)) ∧ vp_in i n ∧ st' = .int (f i.toNatClampNeg) :: rr := by
  unfold z_ald at h
  split at h
  · rename_i i a rr
    split at h
    · rename_i t0 n f hc
      by_cases hb : (Nat.beq t0 t && z_inb i n) = true
      · rw [hb] at h
        obtain ⟨h1, h2⟩ := z_band hb
        subst h1
        cases h
        exact ⟨i, a, rr, n, f, rfl, hc, z_inb_in h2, rfl⟩
      · rw [Bool.eq_false_iff.mpr hb] at h; cases h
    · cases h
  · cases h
theorem z_hg_eq {a : Nat} {x : va_E} (h : z_hg sc hp a = some x) : (a = 2000 ∧ x = .inl (0, sc.1, .inl sc.2)) ∨ hp.1[a]? = some x := by
  unfold z_hg at h
  by_cases e : Nat.beq a 2000 = true
  · rw [e] at h
    exact Or.inl ⟨Nat.eq_of_beq_eq_true e, (Option.some.inj h).symm⟩
  · rw [Bool.eq_false_iff.mpr e] at h
    exact Or.inr h
theorem z_s_iald (F : z_F sc D b0 sA cA r p l s m args meth c) (hdg : decode r.2.2.2.1 pc = .ok (.iaload, 1)) (h : z_mk (pc + 1) ls hp (z_ald sc 0 st hp) = some C) (k : z_K p l e R s m args below meth c Q D b0 aA sA cA nL n0 sl0 C) : z_K p l e R s m args below meth c Q D b0 aA sA cA nL n0 sl0 (pc, ls, st, hp) := by
  obtain ⟨st', h1, rfl⟩ := z_mk_eq h
  obtain ⟨i, a, rr, n, f, rfl, hc, hin, rfl⟩ := z_ald_eq h1
  rcases z_hg_eq hc with ⟨rfl, hx⟩ | hc
  · cases hx
    exact fun lsM H locs hl hI => va_sld F.1 F.2.1 F.2.2.2.2.2.2.2.2.2.2.2.2.2.2.2.2.2.1 F.2.2.2.2.2.2.2.2.2.2.2.2.2.2.2.2.2.2.1 F.2.2.2.2.2.2.2.2.2.2.2.2.2.2.2.2.2.2.2 hI.2.2.1 hin hdg (k lsM H locs hl hI)
  · exact fun lsM H locs hl hI => va_iald F.1 F.2.1 F.2.2.2.2.2.2.2.2.2.2.1 hI.1 a 0 (z_W_at hc) rfl hin hdg (k lsM H locs hl hI)
theorem z_s_cald (F : z_F sc D b0 sA cA r p l s m args meth c) (hdg : decode r.2.2.2.1 pc = .ok (.caload, 1)) (h : z_mk (pc + 1) ls hp (z_ald sc 1 st hp) = some C) (k : z_K p l e R s m args below meth c Q D b0 aA sA cA nL n0 sl0 C) : z_K p l e R s m args below meth c Q D b0 aA sA cA nL n0 sl0 (pc, ls, st, hp) := by
  obtain ⟨st', h1, rfl⟩ := z_mk_eq h
  obtain ⟨i, a, rr, n, f, rfl, hc, hin, rfl⟩ := z_ald_eq h1
  rcases z_hg_eq hc with ⟨rfl, hx⟩ | hc
  · cases hx
  · exact fun lsM H locs hl hI => va_cald F.1 F.2.1 F.2.2.2.2.2.2.2.2.2.2.1 hI.1 a 1 (z_W_at hc) rfl hin hdg (k lsM H locs hl hI)
theorem z_s_zald (F : z_F sc D b0 sA cA r p l s m args meth c) (hdg : decode r.2.2.2.1 pc = .ok (.baload, 1)) (h : z_mk (pc + 1) ls hp (z_ald sc 2 st hp) = some C) (k : z_K p l e R s m args below meth c Q D b0 aA sA cA nL n0 sl0 C) : z_K p l e R s m args below meth c Q D b0 aA sA cA nL n0 sl0 (pc, ls, st, hp) := by
  obtain ⟨st', h1, rfl⟩ := z_mk_eq h
  obtain ⟨i, a, rr, n, f, rfl, hc, hin, rfl⟩ := z_ald_eq h1
  rcases z_hg_eq hc with ⟨rfl, hx⟩ | hc
  · cases hx
  · exact fun lsM H locs hl hI => va_zald F.1 F.2.1 F.2.2.2.2.2.2.2.2.2.2.1 hI.1 a 2 (z_W_at hc) rfl hin hdg (k lsM H locs hl hI)
theorem z_ast_eq {t : Nat} {g : Int32 → Int32} (h : z_ast t g pc ls st hp = some C) : ∃ (x i : Int32) (a : Nat) (rr : List Value) (n : Nat) (f : Nat → Int32), st = .int x :: .int i :: .ref a :: rr ∧ hp.1[a]? = some (.inl (t, n, .inl f)) ∧ vp_in i n ∧ C = (pc + 1, ls, rr, (hp.1.set a (.inl (t, n, .inl (upd f i.toNatClampNeg (g x)))), hp.2)) := by
  unfold z_ast at h
  split at h
  · rename_i x i a rr
    split at h
    · rename_i t0 n f hc
      by_cases hb : (Nat.beq t0 t && z_inb i n) = true
      · rw [hb] at h
        obtain ⟨h1, h2⟩ := z_band hb
        subst h1
        cases h
        exact ⟨x, i, a, rr, n, f, rfl, hc, z_inb_in h2, rfl⟩
      · rw [Bool.eq_false_iff.mpr hb] at h; cases h
    · cases h
  · cases h
theorem z_s_iast (F : z_F sc D b0 sA cA r p l s m args meth c) (hdg : decode r.2.2.2.1 pc = .ok (.iastore, 1)) (h : z_ast 0 id pc ls st hp = some C) (k : z_K p l e R s m args below meth c Q D b0 aA sA cA nL n0 sl0 C) : z_K p l e R s m args below meth c Q D b0 aA sA cA nL n0 sl0 (pc, ls, st, hp) := by
  obtain ⟨x, i, a, rr, n, f, rfl, hc, hin, rfl⟩ := z_ast_eq h
  exact fun lsM H locs hl hI => va_iast F.1 F.2.1 F.2.2.2.2.2.2.2.2.2.2.1 hI.1 hI.2.1 (z_S_self hI.2.2.1) a 0 (z_W_at hc) rfl hin hdg (fun H1 locs1 hP1 hD1 hS1 => z_bound fun hb => z_kw k hl (z_wr (e1 := .inl (0, n, .inl (upd f i.toNatClampNeg x))) hI hP1 hD1 hS1 hb))
theorem z_s_cast (F : z_F sc D b0 sA cA r p l s m args meth c) (hdg : decode r.2.2.2.1 pc = .ok (.castore, 1)) (h : z_ast 1 (vp_nar .char) pc ls st hp = some C) (k : z_K p l e R s m args below meth c Q D b0 aA sA cA nL n0 sl0 C) : z_K p l e R s m args below meth c Q D b0 aA sA cA nL n0 sl0 (pc, ls, st, hp) := by
  obtain ⟨x, i, a, rr, n, f, rfl, hc, hin, rfl⟩ := z_ast_eq h
  exact fun lsM H locs hl hI => va_cast F.1 F.2.1 F.2.2.2.2.2.2.2.2.2.2.1 hI.1 hI.2.1 (z_S_self hI.2.2.1) a 1 (z_W_at hc) rfl hin hdg (fun H1 locs1 hP1 hD1 hS1 => z_bound fun hb => z_kw k hl (z_wr (e1 := .inl (1, n, .inl (upd f i.toNatClampNeg (vp_nar .char x)))) hI hP1 hD1 hS1 hb))
theorem z_s_zast (F : z_F sc D b0 sA cA r p l s m args meth c) (hdg : decode r.2.2.2.1 pc = .ok (.bastore, 1)) (h : z_ast 2 (vp_nar .boolean) pc ls st hp = some C) (k : z_K p l e R s m args below meth c Q D b0 aA sA cA nL n0 sl0 C) : z_K p l e R s m args below meth c Q D b0 aA sA cA nL n0 sl0 (pc, ls, st, hp) := by
  obtain ⟨x, i, a, rr, n, f, rfl, hc, hin, rfl⟩ := z_ast_eq h
  exact fun lsM H locs hl hI => va_zast F.1 F.2.1 F.2.2.2.2.2.2.2.2.2.2.1 hI.1 hI.2.1 (z_S_self hI.2.2.1) a 2 (z_W_at hc) rfl hin hdg (fun H1 locs1 hP1 hD1 hS1 => z_bound fun hb => z_kw k hl (z_wr (e1 := .inl (2, n, .inl (upd f i.toNatClampNeg (vp_nar .boolean x)))) hI hP1 hD1 hS1 hb))
theorem z_s_qald (F : z_F sc D b0 sA cA r p l s m args meth c) (hdg : decode r.2.2.2.1 pc = .ok (.aaload, 1)) (h : z_mk (pc + 1) ls hp (z_qald st hp) = some C) (k : z_K p l e R s m args below meth c Q D b0 aA sA cA nL n0 sl0 C) : z_K p l e R s m args below meth c Q D b0 aA sA cA nL n0 sl0 (pc, ls, st, hp) := by
  obtain ⟨st', h1, rfl⟩ := z_mk_eq h
  unfold z_qald at h1
  split at h1
  · rename_i i a rr
    split at h1
    · rename_i t0 n f hc
      by_cases hb : (Nat.beq t0 5 && z_inb i n) = true
      · rw [hb] at h1
        obtain ⟨h2, h3⟩ := z_band hb
        subst h2
        cases h1
        intro lsM H locs hl hI
        have hk := k lsM H locs hl hI
        have hv : z_V (z_ad aA sA) (va_rf (f i.toNatClampNeg)) = va_rf ((f i.toNatClampNeg).map (z_ad aA sA)) := by
          cases f i.toNatClampNeg <;> rfl
        have hk2 : W p l e R s m args below meth c H locs (z_n hp - n0) (hp.2.2 - sl0) Q (F0 m (pc + 1) lsM (va_rf ((f i.toNatClampNeg).map (z_ad aA sA)) :: rr.map (z_V (z_ad aA sA)))) := by
          rw [← hv]; exact hk
        exact va_aldq (C := RX7) (f := fun j => (f j).map (z_ad aA sA)) F.1 F.2.1 F.2.2.2.2.2.2.2.2.2.2.1 hI.1 a 5 (z_W_at hc) rfl (z_inb_in h3) hdg hk2
      · rw [Bool.eq_false_iff.mpr hb] at h1; cases h1
    · cases h1
  · cases h1
theorem z_s_qast (F : z_F sc D b0 sA cA r p l s m args meth c) (hdg : decode r.2.2.2.1 pc = .ok (.aastore, 1)) (h : z_qast pc ls st hp = some C) (k : z_K p l e R s m args below meth c Q D b0 aA sA cA nL n0 sl0 C) : z_K p l e R s m args below meth c Q D b0 aA sA cA nL n0 sl0 (pc, ls, st, hp) := by
  unfold z_qast at h
  split at h
  · rename_i v i a rr
    split at h
    · rename_i t0 n f c0 fs hc hcv
      by_cases hb : (Nat.beq t0 5 && (Nat.beq c0 7 && z_inb i n)) = true
      · rw [hb] at h
        obtain ⟨h2, h3⟩ := z_band hb
        obtain ⟨h4, h5⟩ := z_band h3
        subst h2
        subst h4
        cases h
        intro lsM H locs hl hI
        have he : z_E (z_ad aA sA) cA (.inl (5, n, .inr (.inr (.inr (.inr (va_up f i.toNatClampNeg (some v))))))) = .inl (cA 5, n, .inr (.inr (.inr (.inr (va_up (fun j => (f j).map (z_ad aA sA)) i.toNatClampNeg (some (z_ad aA sA v))))))) := by
          show Sum.inl (cA 5, n, Sum.inr (Sum.inr (Sum.inr (Sum.inr (fun j => (va_up f i.toNatClampNeg (some v) j).map (z_ad aA sA)))))) = _
          congr 7
          funext j
          unfold va_up
          by_cases hj : j = i.toNatClampNeg
          · rw [if_pos hj, if_pos hj]; rfl
          · rw [if_neg hj, if_neg hj]
        exact va_astq (f := fun j => (f j).map (z_ad aA sA)) F.1 F.2.1 F.2.2.2.2.2.2.2.2.2.2.1 hI.1 hI.2.1 (z_S_self hI.2.2.1) a 5 v 7 (z_W_at hc) rfl (z_W_at hcv) rfl (z_inb_in h5) hdg (fun H1 locs1 hP1 hD1 hS1 => z_bound fun hb => z_kw k hl (z_wr (e1 := .inl (5, n, .inr (.inr (.inr (.inr (va_up f i.toNatClampNeg (some v))))))) hI (by rw [he]; exact hP1) (by rw [he]; exact hD1) hS1 hb))
      · rw [Bool.eq_false_iff.mpr hb] at h; cases h
    · cases h
  · cases h
theorem z_A_len (ad : Nat → Nat) (x : vp_A) : (z_A ad x).1 = x.1 := by
  obtain ⟨n, x⟩ := x
  rcases x with x | x | x | x | x <;> rfl
theorem z_tys_at (cA : Nat → ClassId) {t : Nat} (h : t < 6) : (z_tys cA)[t]? = some (cA t, z_aty t) := by
  match t, h with
  | 0, _ => rfl
  | 1, _ => rfl
  | 2, _ => rfl
  | 3, _ => rfl
  | 4, _ => rfl
  | 5, _ => rfl
  | n + 6, h => omega
theorem z_s_len (F : z_F sc D b0 sA cA r p l s m args meth c) (hdg : decode r.2.2.2.1 pc = .ok (.arraylength, 1)) (h : z_mk (pc + 1) ls hp (z_len sc st hp) = some C) (k : z_K p l e R s m args below meth c Q D b0 aA sA cA nL n0 sl0 C) : z_K p l e R s m args below meth c Q D b0 aA sA cA nL n0 sl0 (pc, ls, st, hp) := by
  obtain ⟨st', h1, rfl⟩ := z_mk_eq h
  unfold z_len at h1
  split at h1
  · rename_i a rr
    split at h1
    · rename_i t0 x hc
      by_cases hb : Nat.blt t0 6 = true
      · rw [hb] at h1
        cases h1
        have hlt : t0 < 6 := Nat.lt_of_lt_of_le (Nat.lt_succ_self t0) (Nat.le_of_ble_eq_true hb)
        rcases z_hg_eq hc with ⟨rfl, hx⟩ | hc
        · cases hx
          exact fun lsM H locs hl hI => va_slen F.1 F.2.1 F.2.2.2.2.2.2.2.2.2.2.2.2.2.2.2.2.2.1 F.2.2.2.2.2.2.2.2.2.2.2.2.2.2.2.2.2.2.1 F.2.2.2.2.2.2.2.2.2.2.2.2.2.2.2.2.2.2.2 hI.2.2.1 hdg (k lsM H locs hl hI)
        exact fun lsM H locs hl hI => va_alen F.1 F.2.1 F.2.2.2.2.2.2.2.2.2.2.1 hI.1 a t0 (z_W_at hc) (z_tys_at cA hlt) (by rw [z_A_len]) hdg (k lsM H locs hl hI)
      · rw [Bool.eq_false_iff.mpr hb] at h1; cases h1
    · cases h1
  · cases h1
-- what is made
theorem z_al {e1 : va_E} {H H' : Heap} {locs : List Loc} {sl : Nat} (hw : z_hwf hp) (hI : z_I D b0 aA sA cA n0 sl0 s hp H locs) (hlen : hp.1.length < 999) (hcell : va_at D z_cl (H.size, z_E (z_ad (z_upA aA hp.1.length H.size) sA) cA e1) H') (hsz : H'.size = H.size + 1) (hold : ∀ q, q < H.size → H'[q]? = H[q]?) :
    z_I D b0 (z_upA aA hp.1.length H.size) sA cA n0 sl0 s (hp.1 ++ [e1], hp.2.1, hp.2.2 + sl) H' locs ∧ z_ad (z_upA aA hp.1.length H.size) sA hp.1.length = H.size ∧ z_n (hp.1 ++ [e1], hp.2.1, hp.2.2 + sl) - n0 = z_n hp - n0 + 1 ∧ hp.2.2 + sl - sl0 = hp.2.2 - sl0 + sl := by
  obtain ⟨i1, i2, i3, i4, i5, i6, i7⟩ := hI
  have had : z_ad (z_upA aA hp.1.length H.size) sA hp.1.length = H.size := by
    unfold z_ad z_upA
    rw [if_pos (by omega), if_pos rfl]
  have hWa := z_W_ag (aA := aA) (aA' := z_upA aA hp.1.length H.size) (sA := sA) (cA := cA) hw z_upA_ag
  have hn : z_n (hp.1 ++ [e1], hp.2.1, hp.2.2 + sl) = z_n hp + 1 := by
    unfold z_n
    rw [List.length_append]
    show hp.1.length + 1 + hp.2.1 = hp.1.length + hp.2.1 + 1
    omega
  have hk : ∀ (k : Nat) (x : Nat × va_E), (z_W (z_ad aA sA) cA hp.1)[k]? = some x → H'[x.1]? = H[x.1]? := fun k x hx => hold x.1 ((i1 k x hx).lt)
  refine ⟨⟨?_, ?_, ?_, ?_, i5, ?_, ?_⟩, had, ?_, ?_⟩
  · rw [z_W_push, had, hWa]
    refine (i1.kept hk).app (fun k x hx => ?_)
    have hz : k < 1 := (List.getElem?_eq_some_iff.mp hx).1
    rw [show k = 0 by omega] at hx
    cases hx
    exact hcell
  · rw [z_W_push, had, hWa]
    refine i2.push i1 rfl ?_
    show b0 ≤ H.size
    exact i4.2
  · exact ⟨Nat.le_trans i3.1 (by omega), fun x h1 h2 => (hold x (Nat.lt_of_lt_of_le h1 i3.1)).trans (i3.2.1 x h1 h2), i3.2.2⟩
  · rw [hn, hsz]
    omega
  · rw [hn]; omega
  · show sl0 ≤ hp.2.2 + sl
    omega
  · rw [hn]; omega
  · omega
theorem z_cb {t : Nat} (h : t < 5) {n : Nat} (hn : n < 100000) : n * componentBytes (z_aty t) ≤ 536870912 := by
  have h8 : componentBytes (z_aty t) ≤ 8 := by
    match t, h with
    | 0, _ => decide
    | 1, _ => decide
    | 2, _ => decide
    | 3, _ => decide
    | 4, _ => decide
    | n + 5, h => omega
  have : n * componentBytes (z_aty t) ≤ 100000 * 8 := Nat.mul_le_mul (by omega) h8
  omega
theorem z_new_cell {ad : Nat → Nat} {cA : Nat → ClassId} {t n : Nat} (h : t < 6) : z_E ad cA (z_new t n) = .inl (cA t, z_A ad (match z_new t n with | .inl q => q.2 | .inr _ => (0, .inl (fun _ => 0)))) ∧ vp_cell (cA t) (z_A ad (match z_new t n with | .inl q => q.2 | .inr _ => (0, .inl (fun _ => 0)))) = arrV (cA t) n (fun _ => defaultValue (z_aty t)) := by
  match t, h with
  | 0, _ => exact ⟨rfl, rfl⟩
  | 1, _ => exact ⟨rfl, rfl⟩
  | 2, _ => exact ⟨rfl, rfl⟩
  | 3, _ => exact ⟨rfl, rfl⟩
  | 4, _ => exact ⟨rfl, rfl⟩
  | 5, _ => exact ⟨rfl, rfl⟩
  | n + 6, h => omega
theorem z_RA {t : Nat} (h : t < 5) {U : State} {c1 : ClassId} (hr : va_RA U c1 (z_aty t)) : U.vm.findClass ("[" ++ (z_aty t).toString) = some c1 := by
  match t, h with
  | 0, _ => exact hr
  | 1, _ => exact hr
  | 2, _ => exact hr
  | 3, _ => exact hr
  | 4, _ => exact hr
  | n + 5, h => omega
theorem z_s_newa (F : z_F sc D b0 sA cA r p l s m args meth c) {at0 : ArrayType} {ax : List Nat} (hdg : decode r.2.2.2.1 pc = .ok (.newarray at0, 2)) (hck : z_ckA at0 ax = true) (h : z_mka ax (pc + 2) ls st hp = some C) (hRc : z_n C.2.2.2 - n0 ≤ R.cells) (hRs : C.2.2.2.2.2 - sl0 ≤ R.slots) (hw : z_hwf hp) (k : ∀ aA' : Nat → Nat, z_ag hp.1.length aA aA' → z_K p l e R s m args below meth c Q D b0 aA' sA cA nL n0 sl0 C) : z_K p l e R s m args below meth c Q D b0 aA sA cA nL n0 sl0 (pc, ls, st, hp) := by
  unfold z_mka at h
  split at h
  · rename_i t ax' n rr
    split at h
    · rename_i hc
      obtain ⟨hn0, hnb, hj, hlen, ht6⟩ := hc
      cases h
      match ax', hck with
      | [pl], hck =>
        simp only [z_ckA, Bool.and_eq_true, decide_eq_true_eq] at hck
        obtain ⟨ht5, hty, hat⟩ := hck
        intro lsM H locs hl hI
        have harr : (Jvm.Cond.arrayClass (newarray.typeOf at0)).before args s = true := by rw [hty]; exact F.2.2.2.2.2.1 _ (z_at_mem hat)
        obtain ⟨q1, q2⟩ := z_new_cell (ad := z_ad (z_upA aA hp.1.length H.size) sA) (cA := cA) (n := n.toNatClampNeg) ht6
        have hnn : z_n (hp.1 ++ [z_new t n.toNatClampNeg], hp.2.1, hp.2.2 + n.toNatClampNeg) = z_n hp + 1 := by
          unfold z_n
          rw [List.length_append]
          show hp.1.length + 1 + hp.2.1 = hp.1.length + hp.2.1 + 1
          omega
        have i6 : n0 ≤ z_n hp := hI.2.2.2.2.2.1
        have i7 : sl0 ≤ hp.2.2 := hI.2.2.2.2.2.2
        have hRc' : z_n hp + 1 - n0 ≤ R.cells := by rw [← hnn]; exact hRc
        have hRs' : hp.2.2 + n.toNatClampNeg - sl0 ≤ R.slots := hRs
        have hA1 : z_n hp - n0 + 1 ≤ R.cells := by omega
        have hA2 : hp.2.2 - sl0 + n.toNatClampNeg ≤ R.slots := by omega
        refine va_newaK F.1 F.2.1 harr rfl hdg rfl hn0 rfl (by rw [hty]; exact z_cb ht5 hnb) hA1 hA2 rfl fun H1 c1 e1 z1 o1 hAr hNm => ?_
        have hcA : c1 = cA t := by
          have h1 := z_RA ht5 (F.2.2.2.2.2.2.2.2.2.2.1.2 t _ (z_tys_at cA ht6)).2
          rw [hty, h1] at hNm
          exact (Option.some.inj hNm).symm
        subst hcA
        obtain ⟨g1, g2, g3, g4⟩ := z_al (e1 := z_new t n.toNatClampNeg) (sl := n.toNatClampNeg) hw hI hlen (by
          rw [q1]
          show H1[H.size]? = some (vp_cell _ _)
          rw [q2, ← hty]
          exact e1) z1 o1
        have hwf := hj
        unfold z_wfb at hwf
        rw [Bool.and_eq_true] at hwf
        have hk := k _ (z_upA_ag (a := H.size)) lsM H1 locs (by rw [z_L_ag z_upA_ag hwf.1]; exact hl) g1
        show W p l e R s m args below meth c H1 locs (z_n hp - n0 + 1) (hp.2.2 - sl0 + n.toNatClampNeg) Q (F0 m (pc + 2) lsM (.ref H.size :: rr.map (z_V (z_ad aA sA))))
        rw [← g3, ← g4, ← z_st_ag z_upA_ag hwf.2, ← g2]
        exact hk
      | [], hck => exact absurd hck Bool.false_ne_true
      | _ :: _ :: _, hck => exact absurd hck Bool.false_ne_true
    · cases h
  · cases h
end ZP3
