/-! Ratios and free plays, in both. -/
section ZRAT
/-- a number with a sign -/
def w_sg (s : Bool) (a : Nat) : Int32 := if s then -(Int32.ofNat a) else Int32.ofNat a
theorem w_sg_ti {s : Bool} {a : Nat} (h : a < 2147483648) : (w_sg s a).toInt = if s then -(a : Int) else a := by
  unfold w_sg
  cases s with
  | false => exact w_ti h
  | true =>
    show (-(Int32.ofNat a)).toInt = -(a : Int)
    rw [w_ineg (by rw [w_ti h]; omega), w_ti h]
theorem w_sg_abs {s : Bool} {a : Nat} (h : a < 2147483648) : w_abs (w_sg s a) = Int32.ofNat a := by
  unfold w_abs
  have ht := w_sg_ti (s := s) h
  cases s with
  | false => rw [if_pos (by rw [Int32.le_iff_toInt_le, w_i0, ht]; show 0 ≤ (a : Int); omega)]; rfl
  | true =>
    by_cases ha : a = 0
    · subst ha; rfl
    · rw [if_neg (fun q => by rw [Int32.le_iff_toInt_le, w_i0, ht] at q; have q2 : (0 : Int) ≤ -(a : Int) := q; omega)]
      show - -(Int32.ofNat a) = _
      rw [Int32.neg_neg]
theorem w_sg_div {s : Bool} {a g : Nat} (ha : a < 2147483648) (hg : 0 < g) (hg2 : g < 2147483648) : w_sg s a / Int32.ofNat g = w_sg s (a / g) := by
  have h1 : a / g ≤ a := Nat.div_le_self _ _
  have hne : Int32.ofNat g ≠ -1 := w_nneg (k := 1) hg2 (by decide) (by decide)
  rw [← Int32.toInt_inj, Int32.toInt_div_of_ne_right _ _ hne, w_sg_ti ha, w_ti hg2, w_sg_ti (a := a / g) (by generalize a / g = z at *; omega)]
  have h2 : (a : Int).tdiv (g : Int) = ((a / g : Nat) : Int) := by
    rw [Int.tdiv_eq_ediv_of_nonneg (by omega)]; rfl
  cases s with
  | false => exact h2
  | true =>
    show (-(a : Int)).tdiv (g : Int) = -((a / g : Nat) : Int)
    rw [Int.neg_tdiv, h2]
theorem w_half {b r : Nat} (hr : 0 < r) (hb : r < b) : b % r ≤ b / 2 := by
  by_cases h : r ≤ b / 2
  · have := Nat.mod_lt b hr; omega
  · have : b % r = b - r := by
      rw [Nat.mod_eq_sub_mod (by omega), Nat.mod_eq_of_lt (by omega)]
    omega
theorem w_gstep {a b : Nat} : Nat.gcd a b = Nat.gcd b (a % b) := by
  rw [Nat.gcd_comm a b, Nat.gcd_rec b a, Nat.gcd_comm]
theorem w_gcdC {μ : z_Mem} {f0 f1 : Int32} {K : Int32 → Option Int32} : ∀ (k a b j f : Nat), b < 2 ^ k → a < 100000 → b < 100000 → 2 * k + j ≤ 99 → 2 * k < f → pW_reduced_L13 f μ f0 f1 (fun k8 _ _ => K k8) (Int32.ofNat a) (Int32.ofNat b) (Int32.ofNat j) = K (Int32.ofNat (Nat.gcd a b)) := by
  have one : ∀ (a b j f : Nat), a < 100000 → b < 100000 → j ≤ 99 → pW_reduced_L13 (f + 1) μ f0 f1 (fun k8 _ _ => K k8) (Int32.ofNat a) (Int32.ofNat b) (Int32.ofNat j) = if b = 0 then K (Int32.ofNat a) else pW_reduced_L13 f μ f0 f1 (fun k8 _ _ => K k8) (Int32.ofNat b) (Int32.ofNat (a % b)) (Int32.ofNat (j + 1)) := by
    intro a b j f ha hb hj
    show pW_reduced_L13_B (pW_reduced_L13 f μ f0 f1 (fun k8 _ _ => K k8)) μ f0 f1 (fun k8 _ _ => K k8) (Int32.ofNat a) (Int32.ofNat b) (Int32.ofNat j) = _
    unfold pW_reduced_L13_B
    rw [if_neg (fun q => by have : 100 ≤ j := (w_lel (k := 100) (by decide) (by omega)).mp q; omega)]
    by_cases h0 : b = 0
    · subst h0
      rw [if_pos (show Int32.ofNat 0 = 0 from rfl), if_pos rfl]
    · have hne : ¬ Int32.ofNat b = 0 := fun q => h0 ((w_eqr (k := 0) (by decide) (by omega)).mp q)
      rw [if_neg hne, if_neg hne, if_neg h0, w_md (by omega) (by omega), w_ar2]
  intro k
  induction k with
  | zero =>
    intro a b j f hb ha hb2 hj hf
    have h0 : b = 0 := by
      have : b < 1 := hb
      omega
    subst h0
    cases f with
    | zero => omega
    | succ f => rw [one a 0 j f ha hb2 (by omega), if_pos rfl, Nat.gcd_zero_right]
  | succ k ih =>
    intro a b j f hb ha hb2 hj hf
    obtain ⟨f, rfl⟩ : ∃ f', f = f' + 1 + 1 := ⟨f - 2, by omega⟩
    rw [one a b j _ ha hb2 (by omega)]
    by_cases h0 : b = 0
    · subst h0; rw [if_pos rfl, Nat.gcd_zero_right]
    · have hr := Nat.mod_lt a (show 0 < b by omega)
      rw [if_neg h0, one b (a % b) (j + 1) f hb2 (by omega) (by omega), w_gstep (a := a)]
      by_cases h1 : a % b = 0
      · rw [if_pos h1, h1, Nat.gcd_zero_right]
      · have h2 := w_half (b := b) (r := a % b) (by omega) hr
        have hp : 2 ^ (k + 1) = 2 ^ k * 2 := Nat.pow_succ 2 k
        rw [if_neg h1, w_gstep (a := b)]
        exact ih (a % b) (b % (a % b)) (j + 1 + 1) f (by generalize 2 ^ k = z at *; omega) (by omega) (by omega) (by omega) (by omega)
theorem w_red {μ : z_Mem} {s s' : Bool} {a b : Nat} (ha0 : 0 < a) (ha : a ≤ 4000) (hb0 : 0 < b) (hb : b ≤ 4000) : pW_reduced μ (w_sg s a) (w_sg s' b) = some (w_sg s (a / Nat.gcd a b)) := by
  have habs : ∀ (μ : z_Mem) (a : Int32), pJ_abs μ a = some (w_abs a) := by
    intro μ a
    unfold pJ_abs w_abs
    split <;> rfl
  have hg1 : 0 < Nat.gcd a b := Nat.gcd_pos_of_pos_left _ ha0
  have hg2 : Nat.gcd a b ≤ a := Nat.le_of_dvd ha0 (Nat.gcd_dvd_left a b)
  have hb12 : b < 2 ^ 12 := by
    have h12 : (2 : Nat) ^ 12 = 4096 := by decide
    omega
  unfold pW_reduced
  rw [habs, habs, w_sg_abs (by omega), w_sg_abs (by omega)]
  dsimp only [Option.bind_some]
  refine Eq.trans (w_gcdC (μ := μ) (f0 := w_sg s a) (f1 := w_sg s' b) (K := fun k8 => if k8 ≤ 1 then some (w_sg s a) else if k8 = 0 then none else some (w_sg s a / k8)) 12 a b 0 z_fu hb12 (by omega) (by omega) (by omega) (by decide)) ?_
  by_cases h1 : Nat.gcd a b ≤ 1
  · have hone : Nat.gcd a b = 1 := by omega
    rw [hone, if_pos (by decide), Nat.div_one]
  · rw [if_neg (fun q => h1 ((w_ler (k := 1) (by decide) (by omega)).mp q)), if_neg (fun q => by have : Nat.gcd a b = 0 := (w_eqr (k := 0) (by decide) (by omega)).mp q; omega), w_sg_div (by omega) hg1 (by omega)]
theorem w_dvL {μ : z_Mem} {f0 f1 : Int32} {K : Int32 → Option Int32} : ∀ (f a b : Nat), b < f → a < 100000 → b < 100000 → pm_divisor_L4 f μ f0 f1 (fun k3 _ => K k3) (Int32.ofNat a) (Int32.ofNat b) = K (Int32.ofNat (Nat.gcd a b)) := by
  intro f
  induction f with
  | zero => intro a b h; omega
  | succ f ih =>
    intro a b hf ha hb
    show pm_divisor_L4_B (pm_divisor_L4 f μ f0 f1 (fun k3 _ => K k3)) μ f0 f1 (fun k3 _ => K k3) (Int32.ofNat a) (Int32.ofNat b) = _
    unfold pm_divisor_L4_B
    by_cases h0 : b = 0
    · subst h0
      rw [if_pos (by decide), Nat.gcd_zero_right]
    · have hr := Nat.mod_lt a (show 0 < b by omega)
      rw [if_neg (fun q => by have : b ≤ 0 := (w_ler (k := 0) (by decide) (by omega)).mp q; omega), if_neg (fun q => h0 ((w_eqr (k := 0) (by decide) (by omega)).mp q)), w_md (by omega) (by omega), w_gstep (a := a)]
      exact ih b (a % b) (by omega) hb (by omega)
theorem w_div {μ : z_Mem} {a b : Nat} (ha : a ≤ 100) (hb : b ≤ 100) : pm_divisor μ (Int32.ofNat a) (Int32.ofNat b) = some (Int32.ofNat (Nat.gcd a b)) :=
  w_dvL (K := fun k => some k) z_fu a b (by show b < 3000; omega) (by omega) (by omega)
section
variable {c : w_Cl} {G M r : Nat}
theorem w_lnL {μ : z_Mem} {f1 : Int32} (hr : r < 10) {K : Int32 → Option Int32} : ∀ (f : Nat) (v : Nat) (p : List Nat) (k : Nat), p.length < f → (∀ y, y ∈ v :: p → y < 10) → (v :: p).Nodup → w_Bk (μ 249) r (v :: p) → pm_length_L4 f μ f1 (fun k6 _ => K k6) (Int32.ofNat k) (Int32.ofNat v) = K (Int32.ofNat (k + p.length)) := by
  intro f
  induction f with
  | zero => intro v p k h; omega
  | succ f ih =>
    intro v p k hf hl hnd hb
    have hv := hl v List.mem_cons_self
    show pm_length_L4_B (pm_length_L4 f μ f1 (fun k6 _ => K k6)) μ f1 (fun k6 _ => K k6) (Int32.ofNat k) (Int32.ofNat v) = _
    unfold pm_length_L4_B
    rw [w_rdn (by omega) (by omega)]
    dsimp only [Option.bind_some]
    cases p with
    | nil =>
      obtain ⟨rfl, hb2⟩ := hb
      rw [hb2, if_pos rfl]
      rfl
    | cons y p =>
      have hy := hl y (List.mem_cons_of_mem _ List.mem_cons_self)
      rw [hb.1, if_neg (fun q => by
        have : y = v := (w_eq (by omega) (by omega)).mp q
        subst this
        exact (List.nodup_cons.mp hnd).1 List.mem_cons_self), w_ar2]
      rw [ih y p (k + 1) (by rw [List.length_cons] at hf; omega) (fun z hz => hl z (List.mem_cons_of_mem _ hz)) (List.nodup_cons.mp hnd).2 hb.2]
      rw [List.length_cons, show k + 1 + p.length = k + (p.length + 1) by omega]
theorem w_lenM (H : w_CT c G M) (hr : r < G) {μ : z_Mem} {v : Nat} {p : List Nat} (hp : w_pt (w_EK c M) r (v :: p)) (hb : w_Bk (μ 249) r (v :: p)) : pm_length μ (Int32.ofNat v) = some (Int32.ofNat p.length) := by
  have hG := H.2.2.1
  have hl := w_pt_Kl H hr hp
  rw [List.length_cons] at hl
  have h := w_lnL (μ := μ) (f1 := Int32.ofNat v) (r := r) (by omega) (K := fun k => some k) z_fu v p 0 (by show _ < 3000; omega) (fun y hy => by have := w_pt_K H hr hp hy; omega) (w_pt_nd hp) hb
  rw [Nat.zero_add] at h
  exact h
end
/-- a chain wanted, in both -/
theorem w_chain2 {n G M W S E : Nat} {μ : z_Mem} (HN : w_RelN n (w_st μ 1) (μ 242) G M W S E) (c1 c2 : Int32) : (∃ u v p μ1, u < G ∧ v < G ∧ c1 = Int32.ofNat u ∧ c2 = Int32.ofNat v ∧ pG_needConnected μ c1 c2 = some (none, μ1) ∧ (∀ q, q ≠ 31 → μ1 q = μ q) ∧ w_pt (w_EK (w_st μ 1) M) u (v :: p) ∧ ∀ μ2, (∀ q, 33 < q → μ2 q = μ q) → ∃ ν, pm_whyNoChain μ2 c1 c2 = some (0, ν) ∧ (∀ q, q ≠ 249 → ν q = μ2 q) ∧ w_Bk (ν 249) u (v :: p)) ∨
    (∃ E j μ1, [0, 3][j]? = some E ∧ j < 2 ∧ pG_needConnected μ c1 c2 = some (some E, μ1) ∧ (∀ q, q ≠ 31 → μ1 q = μ q) ∧ ∃ ν, pm_whyNoChain μ1 c1 c2 = some (Int32.ofNat (j + 1), ν) ∧ ∀ q, q ≠ 249 → ν q = μ1 q) := by
  have H := w_CT_of HN.1 HN.2.1 HN.2.2.1
  have hR := w_Rf_of HN.1 HN.2.1
  obtain ⟨g1, g2, g3, -⟩ := HN.1
  unfold pG_needConnected pG_needGear
  have ag : ∀ ν : z_Mem, ν 242 = μ 242 → (pT_hasGear 2 μ c1 = some 0 ∨ (pT_hasGear 2 μ c1 = some 1 ∧ pT_hasGear 2 μ c2 = some 0)) → pm_areGears ν c1 c2 = some 0 := by
    intro ν hν hh
    rcases w_gears2 (μ := μ) (ν := ν) g1 (by rw [hν]; exact g2) g3 c1 c2 with ⟨e1, e2, -⟩ | ⟨e3, -⟩
    · rcases hh with h | ⟨-, h⟩
      · rw [e1] at h; cases h
      · rw [e2] at h; cases h
    · exact e3
  rcases w_gears2 (μ := μ) (ν := μ) g1 g2 g3 c1 c2 with ⟨e1, e2, e3, u, v, hu, hv, rfl, rfl⟩ | ⟨e3, e1⟩
  · rw [e1, e2]
    dsimp only [Option.bind_some]
    rw [if_neg w_10]
    dsimp only [Option.bind_some]
    have ag1 : ∀ ν : z_Mem, ν 242 = μ 242 → pm_areGears ν (Int32.ofNat u) (Int32.ofNat v) = some 1 := by
      intro ν hν
      rcases w_gears2 (μ := μ) (ν := ν) g1 (by rw [hν]; exact g2) g3 (Int32.ofNat u) (Int32.ofNat v) with ⟨-, -, h, -⟩ | ⟨-, h | ⟨-, h⟩⟩
      · exact h
      · rw [e1] at h; cases h
      · rw [e2] at h; cases h
    obtain ⟨k, μ1, f1, f2, f3⟩ := w_chain H hu hv w_Str_st
    rw [f1]
    dsimp only [Option.bind_some]
    rcases f3 with ⟨rfl, f3⟩ | ⟨p, rfl, f3⟩
    · rw [if_pos rfl]
      obtain ⟨k2, ν1, f4, f5, f6⟩ := w_isConn (μ := μ1) H hu (by rw [f2 242 (by decide)]; exact hR) hv
      refine Or.inr ⟨3, 1, μ1, rfl, by decide, rfl, f2, ν1, ?_, f5⟩
      rcases f6 with ⟨rfl, -⟩ | ⟨-, p, f6, -⟩
      · unfold pm_whyNoChain
        rw [ag1 μ1 (f2 242 (by decide)), f4]
        rfl
      · exact absurd ⟨p, f6⟩ f3
    · have hpl := w_pt_Kl H hu f3.1
      rw [List.length_cons] at hpl
      rw [if_neg (w_nneg (k := 1) (by omega) (by decide) (by decide))]
      refine Or.inl ⟨u, v, p, μ1, hu, hv, rfl, rfl, rfl, f2, f3.1, fun μ2 h2 => ?_⟩
      obtain ⟨k2, ν1, f4, f5, f6⟩ := w_isConn (μ := μ2) H hu (by rw [h2 242 (by decide)]; exact hR) hv
      rcases f6 with ⟨-, f6⟩ | ⟨rfl, p', f6, f7⟩
      · exact absurd ⟨p, f3.1⟩ f6
      · have := w_EK_uni H u v p' p f6 f3.1
        subst this
        refine ⟨ν1, ?_, f5, f7⟩
        unfold pm_whyNoChain
        rw [ag1 μ2 (h2 242 (by decide)), f4]
        rfl
  · refine Or.inr ⟨0, 0, μ, rfl, by decide, ?_, fun _ _ => rfl, μ, ?_, fun _ _ => rfl⟩
    · rcases e1 with e1 | ⟨e1, e2⟩
      · rw [e1]; rfl
      · rw [e1, e2]; rfl
    · unfold pm_whyNoChain
      rw [e3]
      rfl
theorem w_par2 {k : Nat} (hk : k ≤ 100) : (Int32.ofNat k - Int32.ofNat k / 2 * 2) = Int32.ofNat (k % 2) := w_mdl (k := 2) (by omega) (by decide)
theorem w_tee {n G M W S E u : Nat} {μ : z_Mem} (HN : w_RelN n (w_st μ 1) (μ 242) G M W S E) (hu : u < G) : ∃ t, 8 ≤ t ∧ t ≤ 60 ∧ μ 3 u = Int32.ofNat t ∧ μ 242 (7 + u) = Int32.ofNat t := by
  obtain ⟨g1, g2, g3, g4, g5, g6, g7, g8⟩ := HN.1
  obtain ⟨t, t1, t2, h⟩ := g6 u hu
  exact ⟨t, t1, t2, (g4 u (by omega)).trans h, h⟩
/-- the reference's ratio -/
theorem w_ratM {n G M W S E u v : Nat} {μ μ2 : z_Mem} {p : List Nat} (HN : w_RelN n (w_st μ 1) (μ 242) G M W S E) (hu : u < G) (hv : v < G) (h2 : ∀ q, 33 < q → μ2 q = μ q) (hp : w_pt (w_EK (w_st μ 1) M) u (v :: p)) {t t' : Nat} (ht : μ 242 (7 + u) = Int32.ofNat t) (ht' : μ 242 (7 + v) = Int32.ofNat t') (b1 : 8 ≤ t ∧ t ≤ 60) (b2 : 8 ≤ t' ∧ t' ≤ 60) {ν : z_Mem} (hw : pm_whyNoChain μ2 (Int32.ofNat u) (Int32.ofNat v) = some (0, ν)) (hν : ∀ q, q ≠ 249 → ν q = μ2 q) (hb : w_Bk (ν 249) u (v :: p)) :
    pm_ratioNumerator μ2 (Int32.ofNat u) (Int32.ofNat v) = some (w_sg (p.length % 2 == 1) (t / Nat.gcd t t'), z_u ν 241 12 0) ∧ pm_ratioDenominator μ2 (Int32.ofNat u) (Int32.ofNat v) = some (Int32.ofNat (t' / Nat.gcd t t'), z_u ν 241 12 0) := by
  have H := w_CT_of HN.1 HN.2.1 HN.2.2.1
  have hG := HN.1.2.2.1
  have hl := w_pt_Kl H hu hp
  rw [List.length_cons] at hl
  have h242 : ν 242 = μ 242 := by rw [hν 242 (by decide), h2 242 (by decide)]
  have hg1 : 0 < Nat.gcd t t' := Nat.gcd_pos_of_pos_left _ (by omega)
  have hg2 : Nat.gcd t t' ≤ t := Nat.le_of_dvd (by omega) (Nat.gcd_dvd_left t t')
  have hgne : ¬ Int32.ofNat (Nat.gcd t t') = 0 := fun q => by have : Nat.gcd t t' = 0 := (w_eqr (k := 0) (by decide) (by omega)).mp q; omega
  have e7u : (7 : Int32) + Int32.ofNat u = Int32.ofNat (7 + u) := w_al
  have e7v : (7 : Int32) + Int32.ofNat v = Int32.ofNat (7 + v) := w_al
  unfold pm_ratioNumerator pm_ratioDenominator
  rw [hw]
  dsimp only [Option.bind_some]
  rw [if_pos (Int32.le_refl 0), if_pos (Int32.le_refl 0), e7u, e7v, w_rdn (j := 7 + u) (by omega) (by omega), w_rdn (j := 7 + v) (by omega) (by omega), h242, ht, ht']
  dsimp only [Option.bind_some]
  rw [w_div (by omega) (by omega)]
  dsimp only [Option.bind_some]
  rw [if_neg hgne, if_neg hgne, w_lenM H hu hp hb]
  dsimp only [Option.bind_some]
  rw [w_dd (by omega) (by omega), w_dd (by omega) (by omega), w_par2 (by omega)]
  refine ⟨?_, rfl⟩
  by_cases hodd : p.length % 2 = 1
  · rw [hodd, if_pos (show Int32.ofNat 1 = 1 from rfl)]
    rfl
  · have h0 : p.length % 2 = 0 := by omega
    rw [h0, if_neg (show ¬ Int32.ofNat 0 = 1 by decide)]
    rfl
theorem w_S17 : z_S17 w_Inv := fun n μ c1 c2 I hn => by
  obtain ⟨G, M, W, S, E, HN⟩ := w_get I
  have hG := HN.1.2.2.1
  unfold pG_ratioDenominator pW_denominator
  rcases w_chain2 HN c1 c2 with ⟨u, v, p, μ1, hu, hv, rfl, rfl, e1, e2, hp, e3⟩ | ⟨E, j, μ1, hj, hj2, e1, e2, ν, e3, e4⟩
  · obtain ⟨t, t1, t2, x1, x2⟩ := w_tee HN hu
    obtain ⟨t', t1', t2', x1', x2'⟩ := w_tee HN hv
    obtain ⟨ν, k1, k2, k3⟩ := e3 μ1 (fun q hq => e2 q (by omega))
    have hM := (w_ratM HN hu hv (fun q hq => e2 q (by omega)) hp x2 x2' ⟨t1, t2⟩ ⟨t1', t2'⟩ k1 k2 k3).2
    rw [e1]
    dsimp only [Option.bind_some]
    rw [w_rdn (by omega) (by omega), w_rdn (by omega) (by omega), e2 3 (by decide), x1, x1']
    dsimp only [Option.bind_some]
    rw [show pW_reduced μ1 (Int32.ofNat t') (Int32.ofNat t) = some (Int32.ofNat (t' / Nat.gcd t' t)) from w_red (s := false) (s' := false) (by omega) (by omega) (by omega) (by omega), Nat.gcd_comm]
    exact ⟨_, μ1, _, _, rfl, hM, w_ag0 w_u_eq, w_quiet (fun q q1 q2 q3 => by rw [w_u_ne q3, k2 q q2, e2 q (by omega)]) (fun j hj => by rw [w_u_at hj, k2 241 (by decide), e2 241 (by decide)]) I⟩
  · rw [e1]
    dsimp only [Option.bind_some]
    refine ⟨_, μ1, 0, z_u ν 241 12 (Int32.ofNat (j + 1)), rfl, ?_, w_agE hj w_u_eq, w_quiet (fun q q1 q2 q3 => by rw [w_u_ne q3, e4 q q2, e2 q (by omega)]) (fun j hj => by rw [w_u_at hj, e4 241 (by decide), e2 241 (by decide)]) I⟩
    unfold pm_ratioDenominator
    rw [e3]
    dsimp only [Option.bind_some]
    rw [if_neg (fun q => by have : j + 1 ≤ 0 := (w_ler (k := 0) (by decide) (by omega)).mp q; omega)]
    rfl
/-- the class's ratio -/
theorem w_ratC {n G M W S E u v : Nat} {μ μ1 : z_Mem} {p : List Nat} (HN : w_RelN n (w_st μ 1) (μ 242) G M W S E) (hu : u < G) (hv : v < G) (h1 : ∀ q, q < 24 → μ1 q = μ q) (hp : w_pt (w_EK (w_st μ 1) M) u (v :: p)) {t t' : Nat} (ht : μ 3 u = Int32.ofNat t) (ht' : μ 3 v = Int32.ofNat t') (b1 : 8 ≤ t ∧ t ≤ 60) (b2 : 8 ≤ t' ∧ t' ≤ 60) : ∃ μ2, pW_numerator μ1 (Int32.ofNat u) (Int32.ofNat v) = some (w_sg (p.length % 2 == 1) (t / Nat.gcd t t'), μ2) ∧ (∀ q, q ≠ 31 → μ2 q = μ1 q) := by
  have H := w_CT_of HN.1 HN.2.1 HN.2.2.1
  have hG := HN.1.2.2.1
  have hs : w_Str (w_st μ 1) μ1 1 := w_Str_of w_Str_st (fun q _ _ => h1 q (by omega))
  obtain ⟨k, μ2, f1, f2, f3⟩ := w_chain H hu hv hs
  unfold pW_numerator
  rw [w_rdn (by omega) (by omega), w_rdn (by omega) (by omega), h1 3 (by decide), ht, ht']
  dsimp only [Option.bind_some]
  rw [show pW_reduced μ1 (Int32.ofNat t) (Int32.ofNat t') = some (Int32.ofNat (t / Nat.gcd t t')) from w_red (s := false) (s' := false) (by omega) (by omega) (by omega) (by omega), f1]
  dsimp only [Option.bind_some]
  rcases f3 with ⟨-, f3⟩ | ⟨p', rfl, f3⟩
  · exact absurd ⟨p, hp⟩ f3
  · have := w_EK_uni H u v p' p f3.1 hp
    subst this
    have hl := w_pt_Kl H hu hp
    rw [List.length_cons] at hl
    rw [w_par2 (by omega)]
    by_cases hodd : p'.length % 2 = 1
    · rw [hodd, if_neg (show ¬ Int32.ofNat 1 = 0 by decide)]
      exact ⟨μ2, rfl, f2⟩
    · have h0 : p'.length % 2 = 0 := by omega
      rw [h0, if_pos (show Int32.ofNat 0 = 0 by decide)]
      exact ⟨μ2, rfl, f2⟩
theorem w_S16 : z_S16 w_Inv := fun n μ c1 c2 I hn => by
  obtain ⟨G, M, W, S, E, HN⟩ := w_get I
  have hG := HN.1.2.2.1
  unfold pG_ratioNumerator
  rcases w_chain2 HN c1 c2 with ⟨u, v, p, μ1, hu, hv, rfl, rfl, e1, e2, hp, e3⟩ | ⟨E, j, μ1, hj, hj2, e1, e2, ν, e3, e4⟩
  · obtain ⟨t, t1, t2, x1, x2⟩ := w_tee HN hu
    obtain ⟨t', t1', t2', x1', x2'⟩ := w_tee HN hv
    obtain ⟨μ2, y1, y2⟩ := w_ratC (μ1 := μ1) HN hu hv (fun q hq => e2 q (by omega)) hp x1 x1' ⟨t1, t2⟩ ⟨t1', t2'⟩
    have e2' : ∀ q, q ≠ 31 → μ2 q = μ q := fun q hq => (y2 q hq).trans (e2 q hq)
    obtain ⟨ν, k1, k2, k3⟩ := e3 μ2 (fun q hq => e2' q (by omega))
    have hM := (w_ratM HN hu hv (fun q hq => e2' q (by omega)) hp x2 x2' ⟨t1, t2⟩ ⟨t1', t2'⟩ k1 k2 k3).1
    rw [e1]
    dsimp only [Option.bind_some]
    rw [y1]
    exact ⟨_, μ2, _, _, rfl, hM, w_ag0 w_u_eq, w_quiet (fun q q1 q2 q3 => by rw [w_u_ne q3, k2 q q2, e2' q (by omega)]) (fun j hj => by rw [w_u_at hj, k2 241 (by decide), e2' 241 (by decide)]) I⟩
  · rw [e1]
    dsimp only [Option.bind_some]
    refine ⟨_, μ1, 0, z_u ν 241 12 (Int32.ofNat (j + 1)), rfl, ?_, w_agE hj w_u_eq, w_quiet (fun q q1 q2 q3 => by rw [w_u_ne q3, e4 q q2, e2 q (by omega)]) (fun j hj => by rw [w_u_at hj, e4 241 (by decide), e2 241 (by decide)]) I⟩
    unfold pm_ratioNumerator
    rw [e3]
    dsimp only [Option.bind_some]
    rw [if_neg (fun q => by have : j + 1 ≤ 0 := (w_ler (k := 0) (by decide) (by omega)).mp q; omega)]
    rfl
end ZRAT
