/-! The class's meshes as a forest. -/
section ZGRA
def w_Ce (c : w_Cl) (G e : Nat) : Prop :=
  w_A c e < G ∧ w_B c e < G ∧ w_A c e ≠ w_B c e ∧ c 4 e = Int32.ofNat (w_A c e) ∧ c 5 e = Int32.ofNat (w_B c e) ∧ ∃ s p, p ≤ s ∧ s ≤ 5 ∧ c 6 e = Int32.ofNat s ∧ c 7 e = Int32.ofNat p
def w_CT (c : w_Cl) (G M : Nat) : Prop :=
  c 1 0 = Int32.ofNat G ∧ c 1 1 = Int32.ofNat M ∧ G ≤ 10 ∧ M ≤ 9 ∧ (∀ e, e < M → w_Ce c G e) ∧ (∀ e f, e < M → f < M → w_pr (w_A c e) (w_B c e) = w_pr (w_A c f) (w_B c f) → e = f) ∧ w_RF c M
theorem w_CT_of {c : w_Cl} {g : Nat → Int32} {G M : Nat} (h1 : w_RG c g G) (h2 : w_RM c g G M) (h3 : w_RF c M) : w_CT c G M := by
  refine ⟨h1.1, h2.1, h1.2.2.1, h2.2.1, fun e he => ?_, h2.2.2.2.1, h3⟩
  obtain ⟨a1, a2, a3, a4, a5, s, p, a6, a7, a8, a9, -, -⟩ := h2.2.2.1 e he
  exact ⟨a1, a2, a3, a4, a5, s, p, a6, a7, a8, a9⟩
def w_K (c : w_Cl) (M e u v : Nat) : Prop := e < M ∧ w_J c e u v
def w_EK (c : w_Cl) (M : Nat) : Nat → Nat → Prop := w_E (w_K c M) (fun e => e < M)
theorem w_pr_symm {a b : Nat} : w_pr a b = w_pr b a := by unfold w_pr; split <;> split <;> omega
theorem w_pr_inj {a b x y : Nat} (ha : a < 10) (hb : b < 10) (hx : x < 10) (hy : y < 10) (h : w_pr a b = w_pr x y) : (a = x ∧ b = y) ∨ (a = y ∧ b = x) := by
  unfold w_pr at h
  split at h <;> split at h <;> omega
section
variable {c : w_Cl} {G M : Nat}
theorem w_K_lt (H : w_CT c G M) {e u v : Nat} (h : w_K c M e u v) : u < G ∧ v < G := by
  obtain ⟨h1, h2⟩ := h
  obtain ⟨a1, a2, -⟩ := H.2.2.2.2.1 e h1
  rcases h2 with ⟨rfl, rfl⟩ | ⟨rfl, rfl⟩
  · exact ⟨a1, a2⟩
  · exact ⟨a2, a1⟩
theorem w_K_Jd (H : w_CT c G M) : w_Jd (w_K c M) := by
  refine ⟨fun e u v h => ⟨h.1, Or.symm h.2⟩, fun e u v h => ?_, fun e u v a b h h2 => ?_⟩
  · obtain ⟨-, -, a3, -⟩ := H.2.2.2.2.1 e h.1
    rcases h.2 with ⟨rfl, rfl⟩ | ⟨rfl, rfl⟩
    · exact a3
    · exact a3.symm
  · rcases h.2 with ⟨rfl, rfl⟩ | ⟨rfl, rfl⟩
    · rcases h2.2 with ⟨h3, h4⟩ | ⟨h3, h4⟩
      · exact Or.inl ⟨h3.symm, h4.symm⟩
      · exact Or.inr ⟨h4.symm, h3.symm⟩
    · rcases h2.2 with ⟨h3, h4⟩ | ⟨h3, h4⟩
      · exact Or.inr ⟨h3.symm, h4.symm⟩
      · exact Or.inl ⟨h4.symm, h3.symm⟩
theorem w_K_pr {e u v : Nat} (h : w_K c M e u v) : w_pr (w_A c e) (w_B c e) = w_pr u v := by
  rcases h.2 with ⟨rfl, rfl⟩ | ⟨rfl, rfl⟩
  · rfl
  · exact w_pr_symm
theorem w_K_one (H : w_CT c G M) {e f u v : Nat} (h : w_K c M e u v) (h2 : w_K c M f u v) : e = f :=
  H.2.2.2.2.2.1 e f h.1 h2.1 ((w_K_pr h).trans (w_K_pr h2).symm)
theorem w_EK_of {e u v : Nat} (h : w_K c M e u v) : w_EK c M u v := ⟨e, h.1, h⟩
theorem w_EK_lt (H : w_CT c G M) (u v : Nat) (h : w_EK c M u v) : u < G ∧ v < G := by
  obtain ⟨e, -, h⟩ := h
  exact w_K_lt H h
theorem w_EK_symm (H : w_CT c G M) (u v : Nat) (h : w_EK c M u v) : w_EK c M v u := by
  obtain ⟨e, h1, h⟩ := h
  exact ⟨e, h1, (w_K_Jd H).1 _ _ _ h⟩
theorem w_EK_irr (H : w_CT c G M) (u : Nat) : ¬ w_EK c M u u := by
  rintro ⟨e, -, h⟩
  exact (w_K_Jd H).2.1 _ _ _ h rfl
theorem w_RF_nr (H : w_CT c G M) : w_nr (w_K c M) (fun e => e < M) := by
  intro e u v he h hc
  have h1 : w_conn (w_J c) (fun f => f < M ∧ f ≠ e) u v := w_conn_mono (fun f a b h1 h2 => ⟨h1, h2.2⟩) hc
  refine H.2.2.2.2.2.2 e he ?_
  rcases h.2 with ⟨rfl, rfl⟩ | ⟨rfl, rfl⟩
  · exact h1
  · exact w_conn_symm (fun e u v h => Or.symm h) h1
theorem w_EK_uni (H : w_CT c G M) : w_uni (w_EK c M) := w_nr_uni (w_K_Jd H) (w_RF_nr H)
/-- the gear across from u in mesh e -/
def w_o (c : w_Cl) (e u : Nat) : Option Nat := if w_A c e = u then some (w_B c e) else if w_B c e = u then some (w_A c e) else none
def w_oi : Option Nat → Int32
  | some v => Int32.ofNat v
  | none => -1
theorem w_o_some {e u v : Nat} (he : e < M) (h : w_o c e u = some v) : w_K c M e u v := by
  unfold w_o at h
  split at h
  · rename_i h1
    cases h
    exact ⟨he, Or.inl ⟨h1, rfl⟩⟩
  · split at h
    · rename_i h1
      cases h
      exact ⟨he, Or.inr ⟨rfl, h1⟩⟩
    · cases h
theorem w_o_of (H : w_CT c G M) {e u v : Nat} (h : w_K c M e u v) : w_o c e u = some v := by
  obtain ⟨-, -, a3, -⟩ := H.2.2.2.2.1 e h.1
  unfold w_o
  rcases h.2 with ⟨rfl, rfl⟩ | ⟨rfl, rfl⟩
  · rw [if_pos rfl]
  · rw [if_neg a3, if_pos rfl]
theorem w_pt_K (H : w_CT c G M) {r : Nat} (hr : r < G) {l : List Nat} (h : w_pt (w_EK c M) r l) {x : Nat} (hx : x ∈ l) : x < G := w_pt_lt (w_EK_lt H) hr h x hx
theorem w_pt_Kl (H : w_CT c G M) {r : Nat} (hr : r < G) {l : List Nat} (h : w_pt (w_EK c M) r l) : l.length ≤ 10 := Nat.le_trans (w_pt_len (w_EK_lt H) hr h) H.2.2.1
theorem w_extK (H : w_CT c G M) {r x w : Nat} {l : List Nat} (h : w_pt (w_EK c M) r (x :: l)) (hw : w_EK c M w x) (hp : l.head? ≠ some w) : w_pt (w_EK c M) r (w :: x :: l) :=
  ⟨hw, w_ext (w_EK_uni H) (w_EK_symm H) (w_EK_irr H) h hw hp, h⟩
end
/-- the memory's train at tb has the meshes of c -/
def w_Str (c : w_Cl) (μ : z_Mem) (tb : Nat) : Prop := μ (tb + 1) 0 = c 1 0 ∧ μ (tb + 1) 1 = c 1 1 ∧ μ (tb + 1 + 3) = c 4 ∧ μ (tb + 1 + 4) = c 5 ∧ μ (tb + 1 + 5) = c 6
theorem w_Str_of {c : w_Cl} {μ μ' : z_Mem} {tb : Nat} (h : w_Str c μ tb) (h1 : ∀ q, tb + 1 ≤ q → q ≤ tb + 1 + 6 → μ' q = μ q) : w_Str c μ' tb := by
  obtain ⟨a1, a2, a3, a4, a5⟩ := h
  exact ⟨by rw [h1 _ (by omega) (by omega)]; exact a1, by rw [h1 _ (by omega) (by omega)]; exact a2, by rw [h1 _ (by omega) (by omega)]; exact a3, by rw [h1 _ (by omega) (by omega)]; exact a4, by rw [h1 _ (by omega) (by omega)]; exact a5⟩
theorem w_Str_st {μ : z_Mem} {tb : Nat} : w_Str (w_st μ tb) μ tb := ⟨rfl, rfl, rfl, rfl, rfl⟩
section
variable {μ : z_Mem} {c : w_Cl} {tb G M : Nat}
theorem w_across (H : w_CT c G M) (hs : w_Str c μ tb) {e u : Nat} (he : e < M) (hu : u < G) : pT_acrossFrom (tb + 1) μ (Int32.ofNat u) (Int32.ofNat e) = some (w_oi (w_o c e u)) := by
  obtain ⟨a1, a2, a3, a4, a5, -⟩ := H.2.2.2.2.1 e he
  have hG := H.2.2.1
  have hM := H.2.2.2.1
  have e4 : μ (tb + 1 + 3) e = Int32.ofNat (w_A c e) := by rw [hs.2.2.1]; exact a4
  have e5 : μ (tb + 1 + 4) e = Int32.ofNat (w_B c e) := by rw [hs.2.2.2.1]; exact a5
  have hr : ∀ a, z_rd μ a 9 (Int32.ofNat e) = some (μ a e) := fun a => w_rdn (by omega) (by omega)
  unfold pT_acrossFrom w_o
  simp only [hr, Option.bind_some, e4, e5]
  by_cases h1 : w_A c e = u
  · rw [if_pos h1, if_pos (by rw [h1])]
    rfl
  · rw [if_neg h1, if_neg (fun q => h1 ((w_eq (by omega) (by omega)).mp q))]
    by_cases h2 : w_B c e = u
    · rw [if_pos h2, if_pos (by rw [h2])]
      rfl
    · rw [if_neg h2, if_neg (fun q => h2 ((w_eq (by omega) (by omega)).mp q))]
      rfl
theorem w_across1 (H : w_CT c G M) (hs : w_Str c μ 1) {e u : Nat} (he : e < M) (hu : u < G) : pT_acrossFrom 2 μ (Int32.ofNat u) (Int32.ofNat e) = some (w_oi (w_o c e u)) := w_across (tb := 1) H hs he hu
theorem w_has (h0 : μ tb 0 = Int32.ofNat G) (hG : G ≤ 10) (i : Int32) : (pT_hasGear tb μ i = some 0 ∧ ∀ a, a < G → i ≠ Int32.ofNat a) ∨ (pT_hasGear tb μ i = some 1 ∧ ∃ a, a < G ∧ i = Int32.ofNat a) := by
  unfold pT_hasGear
  by_cases h1 : i < 0
  · rw [if_pos h1]
    refine Or.inl ⟨rfl, fun a ha q => ?_⟩
    subst q
    exact w_n0 (by omega) h1
  · rw [if_neg h1, h0]
    obtain ⟨a, ha, rfl⟩ := w_nat (Int32.not_lt.mp h1)
    by_cases h2 : G ≤ a
    · rw [if_pos ((w_le (by omega) ha).mpr h2)]
      refine Or.inl ⟨rfl, fun b hb q => ?_⟩
      have := (w_eq ha (by omega)).mp q
      omega
    · rw [if_neg (fun h => h2 ((w_le (by omega) ha).mp h))]
      exact Or.inr ⟨rfl, a, by omega, rfl⟩
theorem w_hasT (h0 : μ tb 0 = Int32.ofNat G) (hG : G ≤ 10) {a : Nat} (ha : a < G) : pT_hasGear tb μ (Int32.ofNat a) = some 1 := by
  rcases w_has h0 hG (Int32.ofNat a) with ⟨-, h⟩ | ⟨h, -⟩
  · exact absurd rfl (h a ha)
  · exact h
theorem w_meshL (H : w_CT c G M) (hs : w_Str c μ 1) {u v : Nat} (hu : u < G) (hv : v < G) {K : Int32 → Option Int32} {R : Option Int32} (hK : (∀ e, ¬ w_K c M e u v) → K (Int32.ofNat M) = R) (hR : ∀ e, w_K c M e u v → some (Int32.ofNat e) = R) : ∀ (f e : Nat), e ≤ M → M - e < f → (∀ e', e' < e → ¬ w_K c M e' u v) → pT_meshBetween_L2 f μ (Int32.ofNat u) (Int32.ofNat v) K (Int32.ofNat e) = R := by
  have hG := H.2.2.1
  have hM := H.2.2.2.1
  intro f
  induction f with
  | zero => intro e _ h; omega
  | succ f ih =>
    intro e he hf hno
    show pT_meshBetween_L2_B (pT_meshBetween_L2 f μ (Int32.ofNat u) (Int32.ofNat v) K) μ (Int32.ofNat u) (Int32.ofNat v) K (Int32.ofNat e) = R
    unfold pT_meshBetween_L2_B
    rw [show μ 2 1 = Int32.ofNat M from hs.2.1.trans H.2.1]
    by_cases h : M ≤ e
    · rw [if_pos ((w_le (by omega) (by omega)).mpr h)]
      have : e = M := by omega
      subst this
      exact hK (fun e' h' => hno e' h'.1 h')
    · rw [if_neg (fun hc => h ((w_le (by omega) (by omega)).mp hc)), w_across1 H hs (by omega) hu]
      dsimp only [Option.bind_some]
      cases ho : w_o c e u with
      | none =>
        rw [if_neg (show ¬ w_oi none = Int32.ofNat v from fun q => w_nneg (k := 1) (by omega) (by decide) (by decide) q.symm), w_ar2]
        refine ih (e + 1) (by omega) (by omega) (fun e' h' hK' => ?_)
        by_cases h2 : e' = e
        · subst h2
          rw [w_o_of H hK'] at ho
          cases ho
        · exact hno e' (by omega) hK'
      | some z =>
        have hz := w_o_some (M := M) (by omega) ho
        have hzG := (w_K_lt H hz).2
        show (if Int32.ofNat z = Int32.ofNat v then _ else _) = R
        by_cases h3 : z = v
        · subst h3
          rw [if_pos rfl]
          exact hR e hz
        · rw [if_neg (fun q => h3 ((w_eq (by omega) (by omega)).mp q)), w_ar2]
          refine ih (e + 1) (by omega) (by omega) (fun e' h' hK' => ?_)
          by_cases h2 : e' = e
          · subst h2
            rw [w_o_of H hK'] at ho
            cases ho
            exact h3 rfl
          · exact hno e' (by omega) hK'
theorem w_meshY (H : w_CT c G M) (hs : w_Str c μ 1) {e u v : Nat} (h : w_K c M e u v) : pT_meshBetween μ (Int32.ofNat u) (Int32.ofNat v) = some (Int32.ofNat e) := by
  obtain ⟨hu, hv⟩ := w_K_lt H h
  exact w_meshL H hs hu hv (K := fun k5 => some (-1)) (fun hn => absurd h (hn e)) (fun e' h' => by rw [w_K_one H h h']) z_fu 0 (by omega) (by have := H.2.2.2.1; show M - 0 < 3000; omega) (fun e' h' => by omega)
theorem w_meshN (H : w_CT c G M) (hs : w_Str c μ 1) {u v : Nat} (hu : u < G) (hv : v < G) (h : ¬ w_EK c M u v) : pT_meshBetween μ (Int32.ofNat u) (Int32.ofNat v) = some (-1) :=
  w_meshL H hs hu hv (K := fun k5 => some (-1)) (fun _ => rfl) (fun e' h' => absurd (w_EK_of h') h) z_fu 0 (by omega) (by have := H.2.2.2.1; show M - 0 < 3000; omega) (fun e' h' => by omega)
end
/-- the reference's table has the meshes of c -/
def w_Rf (c : w_Cl) (G M : Nat) (g : Nat → Int32) : Prop :=
  g 0 = Int32.ofNat G ∧ (∀ e u v, w_K c M e u v → ∃ s, s ≤ 5 ∧ c 6 e = Int32.ofNat s ∧ g (27 + w_pr u v) = Int32.ofNat (s + 1)) ∧ ∀ u v, u < 10 → v < 10 → u ≠ v → ¬ w_EK c M u v → g (27 + w_pr u v) = 0
theorem w_Rf_of {c : w_Cl} {g : Nat → Int32} {G M : Nat} (h1 : w_RG c g G) (h2 : w_RM c g G M) : w_Rf c G M g := by
  refine ⟨h1.2.1, fun e u v h => ?_, fun u v hu hv huv h => ?_⟩
  · obtain ⟨-, -, -, -, -, s, p, -, a7, a8, -, a10, -⟩ := h2.2.2.1 e h.1
    exact ⟨s, a7, a8, by rw [← w_K_pr h]; exact a10⟩
  · have hG := h1.2.2.1
    have key : ∀ a b, a < b → b < 10 → ¬ w_EK c M a b → g (27 + w_pr a b) = 0 := by
      intro a b hab hb hn
      rcases h2.2.2.2.2 a b hab hb with h3 | ⟨e, he, h3⟩
      · exact h3
      · exfalso
        obtain ⟨a1, a2, -⟩ := h2.2.2.1 e he
        exact hn ⟨e, he, he, by
          rcases w_pr_inj (by omega) (by omega) (by omega) hb h3 with ⟨h4, h5⟩ | ⟨h4, h5⟩
          · exact Or.inl ⟨h4, h5⟩
          · exact Or.inr ⟨h4, h5⟩⟩
    rcases Nat.lt_or_gt_of_ne huv with h4 | h4
    · exact key u v h4 hv h
    · rw [w_pr_symm]
      refine key v u h4 hu (fun hc => h ?_)
      obtain ⟨e, he, h5, h6⟩ := hc
      exact ⟨e, he, h5, Or.symm h6⟩
section
variable {μ : z_Mem} {c : w_Cl} {G M u v : Nat}
theorem w_pairm (hu : u < 10) (hv : v < 10) : pm_pair μ (Int32.ofNat u) (Int32.ofNat v) = some (Int32.ofNat (w_pr u v)) := by
  unfold pm_pair w_pr
  rw [w_ml, w_ml, w_aa, w_aa]
  by_cases h : u < v
  · rw [if_neg (fun q => by have := (w_le (by omega) (by omega)).mp q; omega), if_pos h]
  · rw [if_pos ((w_le (by omega) (by omega)).mpr (by omega)), if_neg h]
theorem w_gapm (hu : u < 10) (hv : v < 10) : pm_gapOf μ (Int32.ofNat u) (Int32.ofNat v) = some (μ 242 (127 + w_pr u v)) := by
  have := w_pr_lt hu hv
  unfold pm_gapOf
  rw [w_pairm hu hv]
  dsimp only [Option.bind_some]
  rw [w_al, w_rdn (by omega) (by omega)]
  rfl
theorem w_slackm (hu : u < 10) (hv : v < 10) : pm_slackOf μ (Int32.ofNat u) (Int32.ofNat v) = some (μ 242 (27 + w_pr u v) - 1) := by
  have := w_pr_lt hu hv
  unfold pm_slackOf
  rw [w_pairm hu hv]
  dsimp only [Option.bind_some]
  rw [w_al, w_rdn (by omega) (by omega)]
  rfl
theorem w_isMeshY (H : w_CT c G M) (R : w_Rf c G M (μ 242)) (h : w_EK c M u v) : pm_isMesh μ (Int32.ofNat u) (Int32.ofNat v) = some 1 := by
  obtain ⟨hu, hv⟩ := w_EK_lt H u v h
  have hG := H.2.2.1
  have := w_pr_lt (a := u) (b := v) (by omega) (by omega)
  have huv : u ≠ v := fun q => w_EK_irr H u (by rw [← q] at h; exact h)
  obtain ⟨e, -, h⟩ := h
  obtain ⟨s, hs, -, h2⟩ := R.2.1 e u v h
  unfold pm_isMesh
  rw [if_neg (fun q => huv ((w_eq (by omega) (by omega)).mp q)), w_pairm (by omega) (by omega)]
  dsimp only [Option.bind_some]
  rw [w_al, w_rdn (by omega) (by omega)]
  dsimp only [Option.bind_some]
  rw [h2, if_neg (fun q => by have : s + 1 ≤ 0 := (w_ler (k := 0) (by decide) (by omega)).mp q; omega)]
theorem w_isMeshN (H : w_CT c G M) (R : w_Rf c G M (μ 242)) (hu : u < G) (hv : v < G) (h : ¬ w_EK c M u v) : pm_isMesh μ (Int32.ofNat u) (Int32.ofNat v) = some 0 := by
  have hG := H.2.2.1
  have := w_pr_lt (a := u) (b := v) (by omega) (by omega)
  unfold pm_isMesh
  by_cases huv : u = v
  · rw [if_pos (by rw [huv])]
  · rw [if_neg (fun q => huv ((w_eq (by omega) (by omega)).mp q)), w_pairm (by omega) (by omega)]
    dsimp only [Option.bind_some]
    rw [w_al, w_rdn (by omega) (by omega)]
    dsimp only [Option.bind_some]
    rw [R.2.2 u v (by omega) (by omega) huv h, if_pos (by decide)]
end
end ZGRA
