/-! Changes that succeed: turning a gear, letting hours pass. -/
section ZTOK
theorem t_cnt {p0 p : Nat → Int32} {r : Nat} (hp : p r ≠ p0 r) : ∀ n : Nat, n ≤ 10 → r < n → ∃ k, 1 ≤ k ∧ k ≤ n ∧ w_S (w_fc p0 p) n = Int32.ofNat k := by
  intro n
  induction n with
  | zero => intro _ h; omega
  | succ n ih =>
    intro hn hr
    show ∃ k, 1 ≤ k ∧ k ≤ n + 1 ∧ w_S (w_fc p0 p) n + w_fc p0 p n = Int32.ofNat k
    by_cases hrn : r = n
    · subst hrn
      obtain ⟨k, hk, h⟩ := w_cnt_nat (p0 := p0) (p := p) r (by omega)
      rw [h]
      unfold w_fc
      rw [if_neg hp, w_ar2]
      exact ⟨k + 1, by omega, by omega, rfl⟩
    · obtain ⟨k, hk1, hk, h⟩ := ih (by omega) (by omega)
      rw [h]
      unfold w_fc
      by_cases hp : p n = p0 n
      · rw [if_pos hp, Int32.add_zero]; exact ⟨k, hk1, by omega, rfl⟩
      · rw [if_neg hp, w_ar2]; exact ⟨k + 1, by omega, by omega, rfl⟩
theorem t_neb {a b : Int32} (hb : b ≠ 0) : a + b ≠ a := fun q => hb (by
  have h : b + a - a = a - a := by rw [Int32.add_comm, q]
  rw [Int32.add_sub_cancel, Int32.sub_self] at h
  exact h)
theorem t_turnG {n G M W S E r : Nat} {g : Nat → Int32} {b : Int32} {μ : z_Mem} (HN : w_RelN n (w_st μ 1) g G M W S E) (hr : r < G) (hb : b ≠ 0) : ∃ k μ', 1 ≤ k ∧ k ≤ 10 ∧ pT_turnGear 2 μ (Int32.ofNat r) b = some (Int32.ofNat k, μ') := by
  have H := w_CT_of HN.1 HN.2.1 HN.2.2.1
  have hG := H.2.2.1
  obtain ⟨k, μ', e1, TC, e2⟩ := w_turnC (b := b) (tb := 1) H hr w_Str_st rfl hb
  have hp : w_pt (w_EK (w_st μ 1) M) r (r :: []) := rfl
  have hv : μ' 4 r = μ 4 r + b := TC.2.2.1.1 r [] hp (w_sub_root hp)
  obtain ⟨kn, h1, h2, h3⟩ := t_cnt (p0 := μ 4) (p := μ' 4) (r := r) (by rw [hv]; exact t_neb hb) 10 (by omega) (by omega)
  exact ⟨kn, μ', h1, h2, by rw [e1]; exact congrArg (fun x => some (x, μ')) (e2.trans h3)⟩
theorem t_try {n G M W S E r : Nat} {g : Nat → Int32} {b : Int32} {μ : z_Mem} (HN : w_RelN n (w_st μ 1) g G M W S E) (hr : r < G) (hb : b ≠ 0) (hb1 : -99 ≤ b) (hb2 : b ≤ 99) : ∃ k μ', 1 ≤ k ∧ k ≤ 10 ∧ pG_tryTurn μ (Int32.ofNat r) b = some (Int32.ofNat k, μ') := by
  obtain ⟨k, μ', h1, h2, h3⟩ := t_turnG HN hr hb
  refine ⟨k, μ', h1, h2, ?_⟩
  unfold pG_tryTurn
  rw [d_hg HN hr]
  dsimp only [Option.bind_some]
  rw [if_neg w_10, if_neg hb]
  rcases w_within (μ := μ) (ν := fun _ => g) b (-99) 99 with ⟨e3, -, -, -⟩ | ⟨-, -, e⟩
  · rw [e3]
    dsimp only [Option.bind_some]
    rw [if_neg w_10, h3]
    rfl
  · exact absurd ⟨hb1, hb2⟩ e
/-- a change that succeeds with at least k0 -/
def Tok (T : z_Mem → Option (Int32 × z_Mem)) (n : Nat) (g : Nat → Int32) (k0 : Nat) (b : Int32) (ν' : z_Mem) : Prop := ν' 241 12 = 0 ∧ Int32.ofNat k0 ≤ b ∧ ∀ μ1, w_Rel n (w_st μ1 1) g → ∃ es a μ2, T μ1 = some (a, μ2) ∧ w_Core (n + 99) es a μ1 μ2 b (fun _ => g) ν'
theorem Tok_of {T : z_Mem → Option (Int32 × z_Mem)} {n k0 : Nat} {g : Nat → Int32} {μ0 μ2 : z_Mem} {a : Int32} (hT : Tc T) (hn : n ≤ 900000) (hk : k0 ≤ 100) (H : w_Rel n (w_st μ0 1) g) (h0 : T μ0 = some (a, μ2)) (ha : Int32.ofNat k0 ≤ a) : ∃ b ν', Tok T n g k0 b ν' := by
  obtain ⟨b, ν', hb⟩ := hT n g hn
  refine ⟨b, ν', ?_⟩
  obtain ⟨es, a2, μ3, e1, -, -, hC⟩ := hb μ0 H
  cases Option.some.inj (e1.symm.trans h0)
  rcases hC with ⟨c1, c2, c3, -⟩ | ⟨j, E, -, c2, c3, -⟩
  · exact ⟨c3, by rw [← c2]; exact ha, hb⟩
  · exact absurd c3 (w_nn_ne (Int32.le_trans ((w_le (a := 0) (by omega) (by omega)).mpr (Nat.zero_le _)) ha) c2)
theorem Tok_turn {n G M W S E r : Nat} {g : Nat → Int32} {b : Int32} {μ : z_Mem} (hn : n ≤ 900000) (HN : w_RelN n (w_st μ 1) g G M W S E) (hr : r < G) (hb : b ≠ 0) (hb1 : -99 ≤ b) (hb2 : b ≤ 99) : ∃ v ν', Tok (fun μ => pG_tryTurn μ (Int32.ofNat r) b) n g 1 v ν' := by
  obtain ⟨k, μ', h1, h2, h3⟩ := t_try HN hr hb hb1 hb2
  exact Tok_of T_turn hn (by omega) ⟨_, _, _, _, _, HN⟩ h3 ((w_le (by omega) (by omega)).mpr h1)
theorem Tok_hours {n h : Nat} {g : Nat → Int32} {μ : z_Mem} (hn : n ≤ 900000) (H : w_Rel n (w_st μ 1) g) (h1 : 1 ≤ h) (h2 : h ≤ 99) : ∃ v ν', Tok (fun μ => pG_tryHours μ (Int32.ofNat h)) n g h v ν' := by
  obtain ⟨G, M, W, S, E, HN⟩ := id H
  obtain ⟨y1, y2, y3, y4, y5, y6⟩ := id HN.2.2.2.2.1
  have hPB := HN.2.2.2.2.2.2
  obtain ⟨μ', f1, f2, f3⟩ := w_hrC (h := h) y3 y1 (K := fun M6 k5 => some ((z_u M6 12 2 (M6 12 2 + Int32.ofNat h)) 12 2, z_u M6 12 2 (M6 12 2 + Int32.ofNat h))) z_fu 0 μ (Nat.zero_le _) (by show S - 0 < 3000; omega) (fun _ _ => rfl) (fun i => by rw [if_neg (by omega)])
  have hb5 := hPB.2.2
  have hc : μ' 12 2 = g 5 := by rw [f2 12 (by decide)]; exact y5
  have hs : (g 5 + Int32.ofNat h).toInt = (g 5).toInt + h := by rw [w_iadd (by rw [w_ti (by omega)]; omega) (by rw [w_ti (by omega)]; omega), w_ti (by omega)]
  have e : pG_tryHours μ (Int32.ofNat h) = some ((z_u μ' 12 2 (μ' 12 2 + Int32.ofNat h)) 12 2, z_u μ' 12 2 (μ' 12 2 + Int32.ofNat h)) := by
    unfold pG_tryHours
    rcases w_within (μ := μ) (ν := fun _ => g) (Int32.ofNat h) 1 99 with ⟨e1, -, -, -⟩ | ⟨-, -, e⟩
    · rw [e1]
      dsimp only [Option.bind_some]
      rw [if_neg w_10]
      unfold pY_letPass
      rw [show (0 : Int32) = Int32.ofNat 0 from rfl, f1]
      rfl
    · exact absurd ⟨(w_lel (k := 1) (by decide) (by omega)).mpr h1, (w_ler (k := 99) (by decide) (by omega)).mpr h2⟩ e
  refine Tok_of T_hours hn (by omega) H e ?_
  rw [w_u_eq, hc, Int32.le_iff_toInt_le, hs, w_ti (by omega)]
  omega
/-- the class's change, when it succeeds -/
theorem c_ok {n k o k0 : Nat} {g : Nat → Int32} {μ ν' : z_Mem} {T : z_Mem → Option (Int32 × z_Mem)} {b : Int32} (hT : Tok T n g k0 b ν') (H : w_Rel n (w_st μ 1) g) (hH : Hk μ k o) :
    ∃ μ3, (∀ q, q = 0 ∨ q = 21 ∨ q = 22 ∨ (37 ≤ q ∧ q < 57) → μ3 q = μ q) ∧ (∀ q, 59 ≤ q → q < 59 + 20 * o ∨ 59 + 20 * o + 20 ≤ q → μ3 q = μ q) ∧ w_same (w_st μ 1) (w_st μ3 (59 + 20 * o)) ∧ chg T μ = some (.inl b, μ3) ∧ w_Rel (n + 99) (w_st μ3 1) (ν' 242) ∧ Hk μ3 (if k = 8 then 8 else k + 1) ((o + 1) % 9) ∧ μ 2 0 ≤ μ3 2 0 := by
  obtain ⟨t1, t2, t3⟩ := hT
  obtain ⟨μ3, f1, f2, f3, f4, hC⟩ := c_change (n := n) (m := n + 99) (by omega) H hH t3
  rcases hC with ⟨-, -, c1, c2, c3⟩ | ⟨E, -, c1, -⟩
  · exact ⟨μ3, f1, f2, f3, c1, c2, c3, f4⟩
  · exact absurd t1 c1
/-- the same change inside a text -/
theorem c_okT {n k0 : Nat} {g : Nat → Int32} {μ ν' : z_Mem} {T : z_Mem → Option (Int32 × z_Mem)} {b : Int32} (hT : Tok T n g k0 b ν') (hk : k0 ≤ 100) (H : w_Rel n (w_st μ 1) g) :
    ∃ μ2, T μ = some (b, μ2) ∧ 0 ≤ b ∧ (∀ q, q = 0 ∨ q = 21 ∨ q = 22 ∨ 33 < q → μ2 q = μ q) ∧ w_Rel (n + 99) (w_st μ2 1) (ν' 242) ∧ μ 2 0 ≤ μ2 2 0 := by
  obtain ⟨t1, t2, t3⟩ := hT
  obtain ⟨es, a, μ2, e, fC, -, hC⟩ := t3 μ H
  rcases hC with ⟨c1, c2, c3, G, M, W, S, E, c4, c5⟩ | ⟨j, E, -, c2, -, c4, c5, -⟩
  · subst c2
    exact ⟨μ2, e, c1, fun q hq => fC q (by omega), ⟨G, M, W, S, E, c4⟩, by rw [show μ2 2 0 = Int32.ofNat G from c4.1.1]; exact c5⟩
  · exfalso
    rw [t1] at c5
    have := (w_eq (a := 0) (by omega) (by omega)).mp c5
    omega
end ZTOK
