/-! The first two objects: the text is as the calls, undo and restore give back. -/
section ZXY
theorem bI {α β : Type} {o : Option α} {f : α → Option β} {P : β → Prop} {x : α} (h : o = some x) (h2 : ∃ r, f x = some r ∧ P r) : ∃ r, o.bind f = some r ∧ P r := by
  rw [h]; exact h2
theorem iI {β : Type} {c : Prop} [Decidable c] {a b : Option β} {P : β → Prop} (h : c) (h2 : ∃ r, a = some r ∧ P r) : ∃ r, (if c then a else b) = some r ∧ P r := by
  rw [if_pos h]; exact h2
theorem n_lt {k0 : Nat} {b : Int32} (h : Int32.ofNat k0 ≤ b) : ¬ b < Int32.ofNat k0 := fun q => by
  have h1 := Int32.lt_iff_toInt_lt.mp q
  have h2 := Int32.le_iff_toInt_le.mp h
  omega
theorem kx {k j : Nat} (h : j ≤ k) (hj : j ≤ 7) : j + 1 ≤ if k = 8 then 8 else k + 1 := by split <;> omega
/-- an object that goes on in a text's place -/
def Xo (n : Nat) (g : Nat → Int32) (k o : Nat) (X : z_Mem) : Prop := w_Rel n (w_st X 1) g ∧ Hk X k o ∧ X 21 0 = 0
/-- saving -/
theorem y_save {n k o : Nat} {g : Nat → Int32} {μ : z_Mem} (H : Xo n g k o μ) : ∃ X, pG_save μ = some (X 2 0, X) ∧ Xo n g k o X ∧ X 2 0 = μ 2 0 ∧ w_same (w_st X 1) (w_st X 37) ∧ X 0 7 = 1 ∧ (∀ q, 59 ≤ q → X q = μ q) := by
  obtain ⟨h1, h2, h3⟩ := H
  obtain ⟨μ', e1, e2, e3⟩ := w_copyA (μ := μ) (t := 37) (u := 1) (by omega)
  have lo : ∀ q, 1 ≤ q → q < 37 → z_u μ' 0 7 1 q = μ q := fun q q1 q2 => by rw [w_u_ne (by omega), e2 q (by omega)]
  refine ⟨z_u μ' 0 7 1, ?_, ⟨c_rows (fun r r1 r2 => lo r r1 (by omega)) h1, ?_, ?_⟩, ?_, ?_, w_u_eq, ?_⟩
  · unfold pG_save
    rw [e1]
    rfl
  · unfold Hk
    rw [w_u_ne (by decide), e2 57 (by omega)]
    exact h2
  · rw [lo 21 (by decide) (by decide)]; exact h3
  · rw [lo 2 (by decide) (by decide)]
  · intro r j hj
    have := w_sz_lt hj
    have e4 : w_st (z_u μ' 0 7 1) 37 r j = w_st μ 1 r j := by
      rw [e3 r j hj]; unfold w_st; rw [w_u_ne (by omega)]
    rw [e4]
    show z_u μ' 0 7 1 (1 + r) j = μ (1 + r) j
    rw [lo _ (by omega) (by omega)]
  · intro q hq
    rw [w_u_ne (by omega), e2 q (by omega)]
/-- restoring -/
theorem y_restore {n : Nat} {g : Nat → Int32} {X0 X : z_Mem} (h : w_Rel n (w_st X0 1) g) (hs : w_same (w_st X0 1) (w_st X0 37)) (h7 : X 0 7 = 1) (hk : ∀ q, 37 ≤ q → q < 57 → X q = X0 q) : ∃ Y, z_iXM (pG_restore X) = some (X0 2 0, Y) ∧ w_Rel n (w_st Y 1) g := by
  obtain ⟨μ', e1, e2, e3⟩ := w_copyA (μ := X) (t := 1) (u := 37) (by omega)
  have s1 : w_same (w_st X0 1) (w_st (z_u μ' 57 0 0) 1) := fun r j hj => by
    have := w_sz_lt hj
    rw [hs r j hj]
    have e4 := e3 r j hj
    unfold w_st at e4 ⊢
    rw [w_u_ne (by omega), ← e4, hk _ (by omega) (by omega)]
  refine ⟨z_u μ' 57 0 0, ?_, c_same s1 h⟩
  have e5 : X0 2 0 = z_u μ' 57 0 0 2 0 := s1 1 0 (by decide)
  unfold pG_restore
  rw [if_neg (show ¬ X 0 7 = 0 by rw [h7]; decide), e1, e5]
  rfl
theorem Kp_t {μ μ1 μ2 : z_Mem} (h : Kp μ μ1) (h2 : Kp μ1 μ2) : Kp μ μ2 := ⟨h2.1, fun q q1 q2 => (h2.2.1 q q1 q2).trans (h.2.1 q q1 q2), h2.2.2.trans h.2.2⟩
/-- the eleven malformed texts -/
theorem y_bads {n k o : Nat} {g : Nat → Int32} {X : z_Mem} (H : Xo n g k o X) (h9 : X 0 9 = 0) {sj S : Nat} (hj : sj < 21) (hS : S < 60) (hc : rt_b sj S = true) : ∃ Y, pL_fails sj X (Int32.ofNat S) = some (1, Y) ∧ Xo n g k o Y ∧ Kp X Y ∧ Y 0 9 = 0 := by
  obtain ⟨Y, e1, e2, e3, e4, e5⟩ := x_bad hj hc hS H.1 H.2.1 H.2.2
  exact ⟨Y, e1, ⟨e2, e3, e4.1⟩, e4, e5.trans h9⟩
theorem y_fc {X : z_Mem} {v : Int32} (h : X 0 9 = v) (hv : ¬ v = -1) : z_iX (pG_failedCommand X) = some v := by
  unfold pG_failedCommand
  rw [h, if_neg hv]
  rfl
theorem y_main {n k o : Nat} {g : Nat → Int32} {μ : z_Mem} (hn : n ≤ 20000) (H : Xo n g k o μ) (h4 : 4 ≤ μ 2 0) : ∃ r, pW_xy μ μ = some r ∧ ∃ m, pW_e r.1 r.2.1 r.2.2.1 = some m := by
  obtain ⟨X0, a1, a2, a3, a4, a5, a6⟩ := y_save H
  -- the three changes
  obtain ⟨G, M, W, S, E, HN⟩ := id H.1
  have hG : 4 ≤ G := (w_lel (k := 4) (by decide) (by have := HN.1.2.2.1; omega)).mp (by rw [← show μ 2 0 = Int32.ofNat G from HN.1.1]; exact h4)
  obtain ⟨b1, ν1, t1⟩ := Tok_turn (r := 0) (b := 7) (by omega) HN (by omega) (by decide) (by decide) (by decide)
  obtain ⟨Y1, y11, y12, y13, y14, y15, y16, y17⟩ := c_ok t1 H.1 H.2.1
  obtain ⟨k1, g1, y16⟩ : ∃ k1, 1 ≤ k1 ∧ Hk Y1 k1 ((o + 1) % 9) := ⟨_, kx (Nat.zero_le k) (by decide), y16⟩
  obtain ⟨G1, M1, W1, S1, E1, HN1⟩ := id y15
  have hG1 : 4 ≤ G1 := (w_lel (k := 4) (by decide) (by have := HN1.1.2.2.1; omega)).mp (by rw [← show Y1 2 0 = Int32.ofNat G1 from HN1.1.1]; exact Int32.le_trans h4 y17)
  obtain ⟨b2, ν2, t2⟩ := Tok_turn (r := 1) (b := -30) (by omega) HN1 (by omega) (by decide) (by decide) (by decide)
  obtain ⟨Y2, y21, y22, y23, y24, y25, y26, y27⟩ := c_ok t2 y15 y16
  obtain ⟨k2, g2, y26⟩ : ∃ k2, 2 ≤ k2 ∧ Hk Y2 k2 (((o + 1) % 9 + 1) % 9) := ⟨_, kx g1 (by decide), y26⟩
  obtain ⟨b3, ν3, t3⟩ := Tok_hours (h := 5) (by omega) y25 (by decide) (by decide)
  obtain ⟨Y3, y31, y32, y33, y34, y35, y36, y37⟩ := c_ok t3 y25 y26
  obtain ⟨k3, g3, y36⟩ : ∃ k3, 3 ≤ k3 ∧ Hk Y3 k3 ((((o + 1) % 9 + 1) % 9 + 1) % 9) := ⟨_, kx g2 (by decide), y36⟩
  -- the same as a text
  obtain ⟨Xp, X1, x11, x12, x13, x14, x15, x16⟩ := x_six a2.1 a2.2.1 a2.2.2 t1 t2 t3
  obtain ⟨v0, hv0⟩ := s_state 100000 g
  obtain ⟨v3, hv3⟩ := s_state 100000 (ν3 242)
  have st0 : ∀ X, w_Rel n (w_st X 1) g → pL_state X = some (v0, X) := fun X h => hv0 X (w_Rel_up (by omega) h)
  have st3 : ∀ X, w_Rel (n + 99 + 99 + 99) (w_st X 1) (ν3 242) → pL_state X = some (v3, X) := fun X h => hv3 X (w_Rel_up (by omega) h)
  -- undo on x
  have hk0 := H.2.1.2.1
  have ho0 := H.2.1.2.2.2
  obtain ⟨c1, X2, x21, x22, x23, x24, x25⟩ := x_undo x14 (by split <;> omega) ho0 rfl x16 a2.1
  -- undo on y, three times
  obtain ⟨d1, Y4, u11, u12, u13, u14, u15⟩ := x_undo (o := ((o + 1) % 9 + 1) % 9) y36 (by omega) (by omega) rfl y33 y25
  obtain ⟨d2, Y5, u21, u22, u23, u24, u25⟩ := x_undo (o := (o + 1) % 9) (c := w_st Y1 1) u14 (by omega) (by omega) rfl (fun r j hj => by
    have := w_sz_lt hj
    rw [y23 r j hj]
    unfold w_st
    rw [u15 _ (by omega) (by omega), y32 _ (by omega) (by omega)]) y15
  obtain ⟨d3, Y6, u31, u32, u33, u34, u35⟩ := x_undo (o := o) (c := w_st μ 1) u24 (by omega) ho0 rfl (fun r j hj => by
    have := w_sz_lt hj
    rw [y13 r j hj]
    unfold w_st
    rw [u25 _ (by omega) (by omega), u15 _ (by omega) (by omega), y32 _ (by omega) (by omega), y22 _ (by omega) (by omega)]) H.1
  -- the texts that fail
  have kp2 : Kp X0 X2 := ⟨by rw [x25 21 (by omega) (by decide)]; exact x15.1, fun q q1 q2 => by rw [x25 q (by omega) (by omega)]; exact x15.2.1 q q1 q2, by rw [x25 0 (by omega) (by decide)]; exact x15.2.2⟩
  obtain ⟨Xq, X3, x31, x32, x33, x34, x35, x36⟩ := x_seven (by omega) x23 x24 kp2.1
  obtain ⟨Xr, X4, x41, x42, x43, x44, x45, x46⟩ := x_eight x34 x35 x36.1
  have hb := rt_bs
  simp only [Bool.and_eq_true] at hb
  obtain ⟨⟨⟨⟨⟨⟨⟨⟨⟨⟨r9, r10⟩, r11⟩, r12⟩, r13⟩, r14⟩, r15⟩, r16⟩, r17⟩, r18⟩, r19⟩ := hb
  obtain ⟨Z1, z11, z12, z13, z14⟩ := y_bads ⟨x44, x45, x46.1⟩ x43 (by decide) (by decide) r9
  obtain ⟨Z2, z21, z22, z23, z24⟩ := y_bads z12 z14 (by decide) (by decide) r10
  obtain ⟨Z3, z31, z32, z33, z34⟩ := y_bads z22 z24 (by decide) (by decide) r11
  obtain ⟨Z4, z41, z42, z43, z44⟩ := y_bads z32 z34 (by decide) (by decide) r12
  obtain ⟨Z5, z51, z52, z53, z54⟩ := y_bads z42 z44 (by decide) (by decide) r13
  obtain ⟨Z6, z61, z62, z63, z64⟩ := y_bads z52 z54 (by decide) (by decide) r14
  obtain ⟨Z7, z71, z72, z73, z74⟩ := y_bads z62 z64 (by decide) (by decide) r15
  obtain ⟨Z8, z81, z82, z83, z84⟩ := y_bads z72 z74 (by decide) (by decide) r16
  obtain ⟨Z9, z91, z92, z93, z94⟩ := y_bads z82 z84 (by decide) (by decide) r17
  obtain ⟨Za, za1, za2, za3, za4⟩ := y_bads z92 z94 (by decide) (by decide) r18
  obtain ⟨Zb, zb1, zb2, zb3, zb4⟩ := y_bads za2 za4 (by decide) (by decide) r19
  have kz : Kp X0 Zb := Kp_t kp2 (Kp_t x36 (Kp_t x46 (Kp_t z13 (Kp_t z23 (Kp_t z33 (Kp_t z43 (Kp_t z53 (Kp_t z63 (Kp_t z73 (Kp_t z83 (Kp_t z93 (Kp_t za3 zb3))))))))))))
  obtain ⟨Ye, e1, e2⟩ := y_restore a2.1 a4 (kz.2.2.trans a5) kz.2.1
  have q7 : z_iXM (pG_execute Xp) = some (3, X1) := by rw [x12]; rfl
  have q11 : z_iXM (pG_turn μ 0 7) = some (b1, Y1) := by
    rw [show pG_turn μ 0 7 = some (.inl b1, Y1) from y14]; rfl
  have q15 : z_iXM (pG_turn Y1 1 (-30)) = some (b2, Y2) := by
    rw [show pG_turn Y1 1 (-30) = some (.inl b2, Y2) from y24]; rfl
  have q19 : z_iXM (pG_passHours Y2 5) = some (b3, Y3) := by
    rw [show pG_passHours Y2 5 = some (.inl b3, Y3) from y34]; rfl
  unfold pW_xy
  refine bI a1 ?_
  refine bI (st0 X0 a2.1) ?_
  refine bI x11 ?_
  refine bI q7 ?_
  refine iI rfl ?_
  refine bI q11 ?_
  refine iI (n_lt t1.2.1) ?_
  refine bI q15 ?_
  refine iI (n_lt t2.2.1) ?_
  refine bI q19 ?_
  refine iI (n_lt t3.2.1) ?_
  refine bI (st3 X1 x13) ?_
  refine bI (st3 Y3 y35) ?_
  refine iI rfl ?_
  refine bI x21 ?_
  refine iI x22 ?_
  refine bI (st0 X2 x23) ?_
  refine iI rfl ?_
  refine bI u11 ?_
  refine iI u12 ?_
  refine bI u21 ?_
  refine iI u22 ?_
  refine bI u31 ?_
  refine iI u32 ?_
  refine bI (st0 Y6 u33) ?_
  refine iI rfl ?_
  refine bI x31 ?_
  refine bI x32 ?_
  refine iI rfl ?_
  refine bI (y_fc x33 (by decide)) ?_
  refine iI rfl ?_
  refine bI (st0 X3 x34) ?_
  refine iI rfl ?_
  refine bI x41 ?_
  refine bI x42 ?_
  refine iI rfl ?_
  refine bI (y_fc x43 (by decide)) ?_
  refine iI rfl ?_
  refine bI (st0 X4 x44) ?_
  refine iI rfl ?_
  refine bI z11 ?_
  refine iI w_10 ?_
  refine bI z21 ?_
  refine iI w_10 ?_
  refine bI z31 ?_
  refine iI w_10 ?_
  refine bI z41 ?_
  refine iI w_10 ?_
  refine bI z51 ?_
  refine iI w_10 ?_
  refine bI z61 ?_
  refine iI w_10 ?_
  refine bI z71 ?_
  refine iI w_10 ?_
  refine bI z81 ?_
  refine iI w_10 ?_
  refine bI z91 ?_
  refine iI w_10 ?_
  refine bI za1 ?_
  refine iI w_10 ?_
  refine bI zb1 ?_
  refine iI w_10 ?_
  refine bI (y_fc zb4 (by decide)) ?_
  refine iI rfl ?_
  refine bI (st0 Zb zb2.1) ?_
  refine iI rfl ?_
  refine ⟨_, rfl, ?_⟩
  unfold pW_e
  refine ⟨Ye, ?_⟩
  dsimp only
  rw [e1]
  dsimp only [Option.bind_some]
  rw [if_pos rfl, st0 Ye e2]
  dsimp only [Option.bind_some]
  rw [if_pos rfl]
theorem f_build (S : Int32 → Int32) : ∃ μ, pB S z_mu0 = some μ ∧ ∃ r, pW_xy μ μ = some r ∧ ∃ m, pW_e r.1 r.2.1 r.2.2.1 = some m := by
  obtain ⟨μ, h1, ⟨⟨g, h2⟩, ⟨k, o, h3⟩, h5⟩, h4⟩ := i_build S
  exact ⟨μ, h1, y_main (by omega) ⟨h2, h3, h5⟩ h4⟩
end ZXY
