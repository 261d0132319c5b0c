/-! Along the chain: the ratio's product, the sum of gaps. -/
section ZALO
theorem w_frac {a b d : Nat} (ha : 0 < a) (hb : 0 < b) (hd : 0 < d) : (a / Nat.gcd a b * b) / Nat.gcd (a / Nat.gcd a b * b) (b / Nat.gcd a b * d) = a / Nat.gcd a d ∧ (b / Nat.gcd a b * d) / Nat.gcd (b / Nat.gcd a b * d) (a / Nat.gcd a b * b) = d / Nat.gcd a d ∧ 0 < a / Nat.gcd a b * b ∧ 0 < b / Nat.gcd a b * d := by
  have hg : 0 < Nat.gcd a b := Nat.gcd_pos_of_pos_left _ ha
  have h1 : Nat.gcd a b ∣ a := Nat.gcd_dvd_left a b
  have h2 : Nat.gcd a b ∣ b := Nat.gcd_dvd_right a b
  have hy : 0 < b / Nat.gcd a b := Nat.div_pos (Nat.le_of_dvd hb h2) hg
  have e : a / Nat.gcd a b * b = b / Nat.gcd a b * a := by
    have x1 := Nat.div_mul_cancel h1
    have x2 := Nat.div_mul_cancel h2
    have : a / Nat.gcd a b * b = a / Nat.gcd a b * (b / Nat.gcd a b * Nat.gcd a b) := by rw [x2]
    rw [this, Nat.mul_comm (b / Nat.gcd a b) (Nat.gcd a b), ← Nat.mul_assoc, x1, Nat.mul_comm]
  rw [e, Nat.gcd_mul_left, Nat.gcd_mul_left, Nat.mul_div_mul_left _ _ hy, Nat.mul_div_mul_left _ _ hy, Nat.gcd_comm d a]
  exact ⟨rfl, rfl, Nat.mul_pos hy ha, Nat.mul_pos hy hd⟩
theorem w_sg_mul {s : Bool} {a b : Nat} : (-(w_sg s a)) * Int32.ofNat b = w_sg (!s) (a * b) := by
  cases s with
  | false => show -(Int32.ofNat a) * Int32.ofNat b = -(Int32.ofNat (a * b)); rw [Int32.neg_mul, w_mm]
  | true => show -(-(Int32.ofNat a)) * Int32.ofNat b = Int32.ofNat (a * b); rw [Int32.neg_neg, w_mm]
section
variable {μ : z_Mem} {x T : Nat → Nat} {len : Nat}
theorem w_alL (hlen : len ≤ 9) (hx : ∀ j, j ≤ len → x j < 10 ∧ μ 31 j = Int32.ofNat (x j) ∧ μ 3 (x j) = Int32.ofNat (T j) ∧ 8 ≤ T j ∧ T j ≤ 60) {f1 f2 : Int32} {K : Int32 → Option (Int32 × z_Mem)} : ∀ (f k : Nat), k ≤ len → len - k < f → pW_numeratorAlongChain_L16 f μ f1 f2 (Int32.ofNat len) (fun k16 _ _ => K k16) (w_sg (k % 2 == 1) (T 0 / Nat.gcd (T 0) (T k))) (Int32.ofNat (T k / Nat.gcd (T 0) (T k))) (Int32.ofNat k) = K (w_sg (len % 2 == 1) (T 0 / Nat.gcd (T 0) (T len))) := by
  obtain ⟨-, -, -, z1, z2⟩ := hx 0 (Nat.zero_le _)
  intro f
  induction f with
  | zero => intro k _ h; omega
  | succ f ih =>
    intro k hk hf
    show pW_numeratorAlongChain_L16_B (pW_numeratorAlongChain_L16 f μ f1 f2 (Int32.ofNat len) (fun k16 _ _ => K k16)) μ f1 f2 (Int32.ofNat len) (fun k16 _ _ => K k16) _ _ (Int32.ofNat k) = _
    unfold pW_numeratorAlongChain_L16_B
    by_cases h : len ≤ k
    · rw [if_pos ((w_le (by omega) (by omega)).mpr h)]
      have : k = len := by omega
      rw [this]
    · obtain ⟨a1, a2, a3, a4, a5⟩ := hx k (by omega)
      obtain ⟨c1, c2, c3, c4, c5⟩ := hx (k + 1) (by omega)
      rw [if_neg (fun q => h ((w_le (by omega) (by omega)).mp q)), show Int32.ofNat k + 1 = Int32.ofNat (k + 1) from w_ar2, w_rdn (j := k) (by omega) (by omega), a2]
      dsimp only [Option.bind_some]
      rw [w_rdn (j := x k) (by omega) (by omega), a3]
      dsimp only [Option.bind_some]
      rw [w_rdn (j := k + 1) (by omega) (by omega), c2]
      dsimp only [Option.bind_some]
      rw [w_rdn (j := x (k + 1)) (by omega) (by omega), c3]
      dsimp only [Option.bind_some]
      obtain ⟨n1, n2, n3, n4⟩ := w_frac (a := T 0) (b := T k) (d := T (k + 1)) (by omega) (by omega) (by omega)
      have g1 : T 0 / Nat.gcd (T 0) (T k) ≤ T 0 := Nat.div_le_self _ _
      have g2 : T k / Nat.gcd (T 0) (T k) ≤ T k := Nat.div_le_self _ _
      have m1 : T 0 / Nat.gcd (T 0) (T k) * T k ≤ 60 * 60 := Nat.mul_le_mul (by omega) (by omega)
      have m2 : T k / Nat.gcd (T 0) (T k) * T (k + 1) ≤ 60 * 60 := Nat.mul_le_mul (by omega) (by omega)
      rw [w_sg_mul, show Int32.ofNat (T k / Nat.gcd (T 0) (T k)) * Int32.ofNat (T (k + 1)) = w_sg false (T k / Nat.gcd (T 0) (T k) * T (k + 1)) from w_mm]
      rw [w_red n3 (by omega) n4 (by omega), w_red n4 (by omega) n3 (by omega), n1, n2]
      dsimp only [Option.bind_some]
      rw [show (!(k % 2 == 1)) = ((k + 1) % 2 == 1) by
        rcases (show k % 2 = 0 ∨ k % 2 = 1 by omega) with q | q
        · rw [q, show (k + 1) % 2 = 1 by omega]; rfl
        · rw [q, show (k + 1) % 2 = 0 by omega]; rfl]
      exact ih (k + 1) (by omega) (by omega)
end
/-- the class's product along the chain -/
theorem w_aloC {n G M W S E u v : Nat} {μ μ1 : z_Mem} {p : List Nat} (HN : w_RelN n (w_st μ 1) (μ 242) G M W S E) (hu : u < G) (hv : v < G) (h1 : ∀ q, q < 24 → μ1 q = μ q) (hp : w_pt (w_EK (w_st μ 1) M) u (v :: p)) {t t' : Nat} (ht : μ 3 u = Int32.ofNat t) (ht' : μ 3 v = Int32.ofNat t') (b1 : 8 ≤ t ∧ t ≤ 60) (b2 : 8 ≤ t' ∧ t' ≤ 60) : ∃ μ2, pW_numeratorAlongChain μ1 (Int32.ofNat u) (Int32.ofNat v) = some (w_sg (p.length % 2 == 1) (t / Nat.gcd t t'), μ2) ∧ (∀ q, q ≠ 31 → μ2 q = μ1 q) := by
  have H := w_CT_of HN.1 HN.2.1 HN.2.2.1
  have hG := HN.1.2.2.1
  have hs : w_Str (w_st μ 1) μ1 1 := w_Str_of w_Str_st (fun q _ _ => h1 q (by omega))
  obtain ⟨k, μ2, f1, f2, f3⟩ := w_chain H hu hv hs
  unfold pW_numeratorAlongChain
  rw [f1]
  dsimp only [Option.bind_some]
  rcases f3 with ⟨-, f3⟩ | ⟨p', rfl, f3, f4⟩
  · exact absurd ⟨p, hp⟩ f3
  · have := w_EK_uni H u v p' p f3 hp
    subst this
    have hl := w_pt_Kl H hu hp
    rw [List.length_cons] at hl
    have hmem : ∀ j, j ≤ p'.length → (v :: p').getD (p'.length - j) 0 ∈ v :: p' := fun j hj => by
      have hlt : p'.length - j < (v :: p').length := by rw [List.length_cons]; omega
      rw [List.getD_eq_getElem?_getD, List.getElem?_eq_getElem hlt]
      exact List.getElem_mem hlt
    have hx : ∀ j, j ≤ p'.length → (v :: p').getD (p'.length - j) 0 < 10 ∧ μ2 31 j = Int32.ofNat ((v :: p').getD (p'.length - j) 0) ∧ μ2 3 ((v :: p').getD (p'.length - j) 0) = Int32.ofNat (μ 3 ((v :: p').getD (p'.length - j) 0)).toNatClampNeg ∧ 8 ≤ (μ 3 ((v :: p').getD (p'.length - j) 0)).toNatClampNeg ∧ (μ 3 ((v :: p').getD (p'.length - j) 0)).toNatClampNeg ≤ 60 := by
      intro j hj
      have hG2 := w_pt_K H hu hp (hmem j hj)
      obtain ⟨tt, y1, y2, y3, -⟩ := w_tee HN hG2
      rw [f2 3 (by decide), h1 3 (by decide), y3, w_tn (by omega)]
      exact ⟨by omega, f4 j hj, rfl, y1, y2⟩
    have hlast : (v :: p').getD p'.length 0 = u := by
      obtain ⟨m, l2, hm⟩ := List.append_of_mem (w_pt_r hp)
      have hpt := hp
      rw [hm] at hpt
      have h3 := w_pt_suf hpt
      cases l2 with
      | cons y l2 => exact absurd (w_pt_r h3.2.2) h3.2.1
      | nil =>
        have hlm := congrArg List.length hm
        simp only [List.length_cons, List.length_append, List.length_nil] at hlm
        rw [hm, show p'.length = m.length by omega]
        simp [List.getD_eq_getElem?_getD]
    have h5 := w_alL (μ := μ2) (x := fun j => (v :: p').getD (p'.length - j) 0) (T := fun j => (μ 3 ((v :: p').getD (p'.length - j) 0)).toNatClampNeg) (len := p'.length) (by omega) hx (f1 := Int32.ofNat u) (f2 := Int32.ofNat v) (K := fun k => some (k, μ2)) z_fu 0 (Nat.zero_le _) (by show p'.length - 0 < 3000; omega)
    have hT0 : (μ 3 ((v :: p').getD (p'.length - 0) 0)).toNatClampNeg = t := by rw [Nat.sub_zero, hlast, ht, w_tn (by omega)]
    have hTl : (μ 3 ((v :: p').getD (p'.length - p'.length) 0)).toNatClampNeg = t' := by
      rw [Nat.sub_self, show (v :: p').getD 0 0 = v from rfl, ht', w_tn (by omega)]
    rw [hT0, hTl, Nat.gcd_self, Nat.div_self (by omega)] at h5
    exact ⟨μ2, h5, f2⟩
theorem w_S18 : z_S18 w_Inv := fun n μ c1 c2 I hn => by
  obtain ⟨G, M, W, S, E, HN⟩ := w_get I
  have hG := HN.1.2.2.1
  unfold pG_ratioNumeratorByChain pm_ratioNumeratorByChain
  rcases w_chain2 HN c1 c2 with ⟨u, v, p, μ1, hu, hv, rfl, rfl, e1, e2, hp, e3⟩ | ⟨E, j, μ1, hj, hj2, e1, e2, ν, e3, e4⟩
  · obtain ⟨t, t1, t2, x1, x2⟩ := w_tee HN hu
    obtain ⟨t', t1', t2', x1', x2'⟩ := w_tee HN hv
    obtain ⟨μ2, y1, y2⟩ := w_aloC (μ1 := μ1) HN hu hv (fun q hq => e2 q (by omega)) hp x1 x1' ⟨t1, t2⟩ ⟨t1', t2'⟩
    have e2' : ∀ q, q ≠ 31 → μ2 q = μ q := fun q hq => (y2 q hq).trans (e2 q hq)
    obtain ⟨ν, k1, k2, k3⟩ := e3 μ2 (fun q hq => e2' q (by omega))
    have hM := (w_ratM HN hu hv (fun q hq => e2' q (by omega)) hp x2 x2' ⟨t1, t2⟩ ⟨t1', t2'⟩ k1 k2 k3).1
    rw [e1]
    dsimp only [Option.bind_some]
    rw [y1]
    refine ⟨_, μ2, _, z_u ν 241 12 0, rfl, ?_, w_ag0 w_u_eq, w_quiet (fun q q1 q2 q3 => by rw [w_u_ne q3, k2 q q2, e2' q (by omega)]) (fun j hj => by rw [w_u_at hj, k2 241 (by decide), e2' 241 (by decide)]) I⟩
    rw [hM]
    rfl
  · rw [e1]
    dsimp only [Option.bind_some]
    refine ⟨_, μ1, 0, z_u ν 241 12 (Int32.ofNat (j + 1)), rfl, ?_, w_agE hj w_u_eq, w_quiet (fun q q1 q2 q3 => by rw [w_u_ne q3, e4 q q2, e2 q (by omega)]) (fun j hj => by rw [w_u_at hj, e4 241 (by decide), e2 241 (by decide)]) I⟩
    unfold pm_ratioNumerator
    rw [e3]
    dsimp only [Option.bind_some]
    rw [if_neg (fun q => by have : j + 1 ≤ 0 := (w_ler (k := 0) (by decide) (by omega)).mp q; omega)]
    rfl
/-- the free play down to the root -/
def w_h (gp sl : Nat → Nat → Int32) : List Nat → Int32
  | [] => 0
  | [_] => 0
  | x :: y :: l => w_h gp sl (y :: l) + (if l.length % 2 = 0 then gp x y else sl x y - gp x y)
section
variable {c : w_Cl} {G M r : Nat}
theorem w_fpM {ν : z_Mem} (H : w_CT c G M) (hr : r < G) (hgp : ∀ x y, w_EK c M x y → ν 242 (127 + w_pr x y) = w_gp c M x y) (hsl : ∀ x y, w_EK c M x y → ν 242 (27 + w_pr x y) - 1 = w_sl c M x y) {f1 f2 f3 : Int32} {K : Int32 → Option (Int32 × z_Mem)} : ∀ (f : Nat) (v : Nat) (p : List Nat) (a : Int32), p.length < f → w_pt (w_EK c M) r (v :: p) → w_Bk (ν 249) r (v :: p) → pm_freePlay_L30 f ν f1 f2 f3 (fun k22 _ _ => K k22) a (Int32.ofNat p.length) (Int32.ofNat v) = K (a + w_h (w_gp c M) (w_sl c M) (v :: p)) := by
  have hG := H.2.2.1
  intro f
  induction f with
  | zero => intro v p a h; omega
  | succ f ih =>
    intro v p a hf hp hb
    have hv := w_pt_K H hr hp List.mem_cons_self
    have hpl := w_pt_Kl H hr hp
    rw [List.length_cons] at hpl
    show pm_freePlay_L30_B (pm_freePlay_L30 f ν f1 f2 f3 (fun k22 _ _ => K k22)) ν f1 f2 f3 (fun k22 _ _ => K k22) a _ (Int32.ofNat v) = _
    unfold pm_freePlay_L30_B
    rw [w_rdn (j := v) (by omega) (by omega)]
    dsimp only [Option.bind_some]
    cases p with
    | nil =>
      obtain ⟨rfl, hb2⟩ := hb
      rw [hb2, if_pos rfl]
      show K a = K (a + 0)
      rw [Int32.add_zero]
    | cons y p =>
      have hy := w_pt_K H hr hp (x := y) (List.mem_cons_of_mem _ List.mem_cons_self)
      rw [List.length_cons] at hpl hf
      rw [hb.1, if_neg (fun q => by
        have : y = v := (w_eq (by omega) (by omega)).mp q
        subst this
        exact hp.2.1 List.mem_cons_self), w_gapm (by omega) (by omega), w_slackm (by omega) (by omega), hgp v y hp.1, hsl v y hp.1, List.length_cons, w_par2 (by omega)]
      dsimp only [Option.bind_some]
      rw [show Int32.ofNat (p.length + 1) + (-1) = Int32.ofNat p.length by rw [Int32.add_neg_eq_sub, w_sr (k := 1) (show 1 ≤ p.length + 1 by omega)]; rfl]
      have e : w_h (w_gp c M) (w_sl c M) (v :: y :: p) = w_h (w_gp c M) (w_sl c M) (y :: p) + (if p.length % 2 = 0 then w_gp c M v y else w_sl c M v y - w_gp c M v y) := rfl
      by_cases h0 : p.length % 2 = 0
      · rw [show (p.length + 1) % 2 = 1 by omega, if_pos (show Int32.ofNat 1 = 1 from rfl), ih y p _ (by omega) hp.2.2 hb.2, e, if_pos h0, Int32.add_assoc, Int32.add_comm (w_gp c M v y)]
      · rw [show (p.length + 1) % 2 = 0 by omega, if_neg (show ¬ Int32.ofNat 0 = 1 by decide), ih y p _ (by omega) hp.2.2 hb.2, e, if_neg h0, Int32.add_assoc, Int32.add_comm (w_sl c M v y - w_gp c M v y)]
theorem w_fpC {μ : z_Mem} (H : w_CT c G M) (hr : r < G) (hs : w_Str c μ 1) (h8 : μ 8 = c 7) {v len : Nat} {p : List Nat} (hp : w_pt (w_EK c M) r (v :: p)) (hlen : p.length = len) (hc : ∀ j, j ≤ len → μ 31 j = Int32.ofNat ((v :: p).getD (len - j) 0)) {f1 f2 : Int32} {K : Int32 → Option (Int32 × z_Mem)} : ∀ (f k : Nat), k ≤ len → len - k < f → ∀ x l, (v :: p).drop (len - k) = x :: l → pW_playOfGaps_L13 f μ f1 f2 (Int32.ofNat len) (fun k18 _ => K k18) (w_h (w_gp c M) (w_sl c M) (x :: l)) (Int32.ofNat k) = K (w_h (w_gp c M) (w_sl c M) (v :: p)) := by
  have hG := H.2.2.1
  have hM := H.2.2.2.1
  have hpl := w_pt_Kl H hr hp
  rw [List.length_cons, hlen] at hpl
  intro f
  induction f with
  | zero => intro k _ h; omega
  | succ f ih =>
    intro k hk hf x l hd
    show pW_playOfGaps_L13_B (pW_playOfGaps_L13 f μ f1 f2 (Int32.ofNat len) (fun k18 _ => K k18)) μ f1 f2 (Int32.ofNat len) (fun k18 _ => K k18) _ (Int32.ofNat k) = _
    unfold pW_playOfGaps_L13_B
    by_cases h : len ≤ k
    · rw [if_pos ((w_le (by omega) (by omega)).mpr h)]
      have : k = len := by omega
      rw [this, Nat.sub_self, List.drop_zero] at hd
      rw [hd]
    · have hlt : len - (k + 1) < (v :: p).length := by rw [List.length_cons]; omega
      have hd2 : (v :: p).drop (len - (k + 1)) = (v :: p)[len - (k + 1)] :: (x :: l) := by
        rw [List.drop_eq_getElem_cons hlt, show len - (k + 1) + 1 = len - k by omega, hd]
      generalize hy : (v :: p)[len - (k + 1)] = y at hd2
      have hsufx : w_pt (w_EK c M) r (y :: x :: l) := by
        have h1 := List.take_append_drop (len - (k + 1)) (v :: p)
        rw [hd2] at h1
        rw [← h1] at hp
        exact w_pt_suf hp
      have hxG := w_pt_K H hr hsufx (x := x) (List.mem_cons_of_mem _ List.mem_cons_self)
      have hyG := w_pt_K H hr hsufx (x := y) List.mem_cons_self
      have hllen : l.length = k := by
        have := congrArg List.length hd
        rw [List.length_drop, List.length_cons, List.length_cons, hlen] at this
        omega
      have e1 : μ 31 k = Int32.ofNat x := by
        rw [hc k (by omega)]
        congr 1
        have hlt2 : len - k < (v :: p).length := by rw [List.length_cons]; omega
        have h2 := List.drop_eq_getElem_cons hlt2
        rw [hd] at h2
        rw [List.getD_eq_getElem?_getD, List.getElem?_eq_getElem hlt2]
        exact (List.cons.inj h2).1.symm
      have e2 : μ 31 (k + 1) = Int32.ofNat y := by
        rw [hc (k + 1) (by omega)]
        congr 1
        rw [List.getD_eq_getElem?_getD, List.getElem?_eq_getElem hlt]
        exact hy
      have hE := w_EK_symm H _ _ hsufx.1
      have hK := w_eo_K hE
      have heo : w_eo c M y x = w_eo c M x y := w_eo_symm
      have hkM := hK.1
      rw [if_neg (fun q => h ((w_le (by omega) (by omega)).mp q)), show Int32.ofNat k + 1 = Int32.ofNat (k + 1) from w_ar2, w_rdn (j := k) (by omega) (by omega), e1]
      dsimp only [Option.bind_some]
      rw [w_rdn (j := k + 1) (by omega) (by omega), e2]
      dsimp only [Option.bind_some]
      rw [w_meshY H hs hK]
      dsimp only [Option.bind_some]
      have hng : w_gp c M y x = μ 8 (w_eo c M x y) := by unfold w_gp; rw [heo, h8]
      have hns : w_sl c M y x = μ 7 (w_eo c M x y) := by unfold w_sl; rw [heo, show μ 7 = c 6 from hs.2.2.2.2]
      have eh : w_h (w_gp c M) (w_sl c M) (y :: x :: l) = w_h (w_gp c M) (w_sl c M) (x :: l) + (if l.length % 2 = 0 then w_gp c M y x else w_sl c M y x - w_gp c M y x) := rfl
      rw [if_neg (w_nneg (k := 1) (by omega) (by decide) (by decide)), w_par2 (by omega), w_rdn (j := w_eo c M x y) (by omega) (by omega), w_rdn (j := w_eo c M x y) (by omega) (by omega)]
      dsimp only [Option.bind_some]
      have i2 := ih (k + 1) (by omega) (by omega) y (x :: l) hd2
      rw [eh, hllen, hng, hns] at i2
      by_cases h0 : k % 2 = 0
      · rw [h0, if_pos (show Int32.ofNat 0 = 0 from rfl)]
        rw [if_pos h0] at i2
        exact i2
      · rw [show k % 2 = 1 by omega, if_neg (show ¬ Int32.ofNat 1 = 0 by decide)]
        rw [if_neg h0] at i2
        exact i2
end
theorem w_plgC {n G M W S E u v : Nat} {μ μ1 : z_Mem} {p : List Nat} (HN : w_RelN n (w_st μ 1) (μ 242) G M W S E) (hu : u < G) (hv : v < G) (h1 : ∀ q, q < 24 → μ1 q = μ q) (hp : w_pt (w_EK (w_st μ 1) M) u (v :: p)) : ∃ μ2, pW_playOfGaps μ1 (Int32.ofNat u) (Int32.ofNat v) = some (w_h (w_gp (w_st μ 1) M) (w_sl (w_st μ 1) M) (v :: p), μ2) ∧ (∀ q, q ≠ 31 → μ2 q = μ1 q) := by
  have H := w_CT_of HN.1 HN.2.1 HN.2.2.1
  have hG := HN.1.2.2.1
  have hs : w_Str (w_st μ 1) μ1 1 := w_Str_of w_Str_st (fun q _ _ => h1 q (by omega))
  obtain ⟨k, μ2, f1, f2, f3⟩ := w_chain H hu hv hs
  unfold pW_playOfGaps
  rw [f1]
  dsimp only [Option.bind_some]
  rcases f3 with ⟨-, f3⟩ | ⟨p', rfl, f3, f4⟩
  · exact absurd ⟨p, hp⟩ f3
  · have := w_EK_uni H u v p' p f3 hp
    subst this
    have hl := w_pt_Kl H hu hp
    rw [List.length_cons] at hl
    have hdrop : ∃ l, (v :: p').drop (p'.length - 0) = u :: l ∧ l = [] := by
      obtain ⟨m, l2, hm⟩ := List.append_of_mem (w_pt_r hp)
      have hpt := hp
      rw [hm] at hpt
      have h3 := w_pt_suf hpt
      cases l2 with
      | cons y l2 => exact absurd (w_pt_r h3.2.2) h3.2.1
      | nil =>
        have hlm := congrArg List.length hm
        simp only [List.length_cons, List.length_append, List.length_nil] at hlm
        refine ⟨[], ?_, rfl⟩
        rw [hm, show p'.length - 0 = m.length by omega, List.drop_left]
    obtain ⟨l, hd, rfl⟩ := hdrop
    have h5 := w_fpC (μ := μ2) H hu (w_Str_of hs (fun q _ _ => f2 q (by omega))) (by rw [f2 8 (by decide), h1 8 (by decide)]; rfl) hp rfl f4 (f1 := Int32.ofNat u) (f2 := Int32.ofNat v) (K := fun k => some (k, μ2)) z_fu 0 (Nat.zero_le _) (by show p'.length - 0 < 3000; omega) u [] hd
    exact ⟨μ2, h5, f2⟩
theorem w_plgM {n G M W S E u v : Nat} {μ μ2 : z_Mem} {p : List Nat} (HN : w_RelN n (w_st μ 1) (μ 242) G M W S E) (hu : u < G) (h2 : ∀ q, 33 < q → μ2 q = μ q) (hp : w_pt (w_EK (w_st μ 1) M) u (v :: p)) {ν : z_Mem} (hw : pm_whyNoChain μ2 (Int32.ofNat u) (Int32.ofNat v) = some (0, ν)) (hν : ∀ q, q ≠ 249 → ν q = μ2 q) (hb : w_Bk (ν 249) u (v :: p)) :
    pm_freePlay μ2 (Int32.ofNat u) (Int32.ofNat v) = some (w_h (w_gp (w_st μ 1) M) (w_sl (w_st μ 1) M) (v :: p), z_u ν 241 12 0) := by
  have H := w_CT_of HN.1 HN.2.1 HN.2.2.1
  have hl := w_pt_Kl H hu hp
  rw [List.length_cons] at hl
  have h242 : ν 242 = μ 242 := by rw [hν 242 (by decide), h2 242 (by decide)]
  have hgp : ∀ x y, w_EK (w_st μ 1) M x y → ν 242 (127 + w_pr x y) = w_gp (w_st μ 1) M x y ∧ ν 242 (27 + w_pr x y) - 1 = w_sl (w_st μ 1) M x y := by
    intro x y h
    have hK := w_eo_K h
    obtain ⟨-, -, -, -, -, s, q, -, -, a8, a9, a10, a11⟩ := HN.2.1.2.2.1 _ hK.1
    rw [h242, ← w_K_pr hK, a11, a10, w_sr (k := 1) (show 1 ≤ s + 1 by omega)]
    exact ⟨a9.symm, a8.symm⟩
  unfold pm_freePlay
  rw [hw]
  dsimp only [Option.bind_some]
  rw [if_pos (Int32.le_refl 0), w_lenM H hu hp hb]
  dsimp only [Option.bind_some]
  refine Eq.trans (w_fpM (ν := ν) H hu (fun x y h => (hgp x y h).1) (fun x y h => (hgp x y h).2) (f1 := Int32.ofNat u) (f2 := Int32.ofNat v) (f3 := 0) (K := fun k22 => (pm_done ν k22).bind fun q25 => some (q25.1, q25.2)) z_fu v p 0 (by show p.length < 3000; omega) hp hb) ?_
  rw [Int32.zero_add]
  rfl
theorem w_S19 : z_S19 w_Inv := fun n μ c1 c2 I hn => by
  obtain ⟨G, M, W, S, E, HN⟩ := w_get I
  have hG := HN.1.2.2.1
  unfold pG_freePlay
  rcases w_chain2 HN c1 c2 with ⟨u, v, p, μ1, hu, hv, rfl, rfl, e1, e2, hp, e3⟩ | ⟨E, j, μ1, hj, hj2, e1, e2, ν, e3, e4⟩
  · obtain ⟨μ2, y1, y2⟩ := w_plgC (μ1 := μ1) HN hu hv (fun q hq => e2 q (by omega)) hp
    have e2' : ∀ q, q ≠ 31 → μ2 q = μ q := fun q hq => (y2 q hq).trans (e2 q hq)
    obtain ⟨ν, k1, k2, k3⟩ := e3 μ2 (fun q hq => e2' q (by omega))
    have hM := w_plgM HN hu (fun q hq => e2' q (by omega)) hp k1 k2 k3
    rw [e1]
    dsimp only [Option.bind_some]
    rw [y1]
    exact ⟨_, μ2, _, _, rfl, hM, w_ag0 w_u_eq, w_quiet (fun q q1 q2 q3 => by rw [w_u_ne q3, k2 q q2, e2' q (by omega)]) (fun j hj => by rw [w_u_at hj, k2 241 (by decide), e2' 241 (by decide)]) I⟩
  · rw [e1]
    dsimp only [Option.bind_some]
    refine ⟨_, μ1, 0, z_u ν 241 12 (Int32.ofNat (j + 1)), rfl, ?_, w_agE hj w_u_eq, w_quiet (fun q q1 q2 q3 => by rw [w_u_ne q3, e4 q q2, e2 q (by omega)]) (fun j hj => by rw [w_u_at hj, e4 241 (by decide), e2 241 (by decide)]) I⟩
    unfold pm_freePlay
    rw [e3]
    dsimp only [Option.bind_some]
    rw [if_neg (fun q => by have : j + 1 ≤ 0 := (w_ler (k := 0) (by decide) (by omega)).mp q; omega)]
    rfl
end ZALO
