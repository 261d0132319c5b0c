/-! How many trains, how many meshes. -/
section ZCNT
noncomputable def w_b01 (p : Prop) : Nat := @ite _ p (Classical.propDecidable p) 1 0
theorem w_b1 {p : Prop} (h : p) : w_b01 p = 1 := by unfold w_b01; rw [if_pos h]
theorem w_b0 {p : Prop} (h : ¬ p) : w_b01 p = 0 := by unfold w_b01; rw [if_neg h]
noncomputable def w_num (p : Nat → Prop) : Nat → Nat
  | 0 => 0
  | n + 1 => w_num p n + w_b01 (p n)
theorem w_num_cong {p q : Nat → Prop} : ∀ {n : Nat}, (∀ i, i < n → (p i ↔ q i)) → w_num p n = w_num q n := by
  intro n
  induction n with
  | zero => intro _; rfl
  | succ n ih =>
    intro h
    show w_num p n + w_b01 (p n) = w_num q n + w_b01 (q n)
    rw [ih (fun i hi => h i (by omega)), propext (h n (by omega))]
theorem w_num_del {p q : Nat → Prop} {x : Nat} : ∀ {n : Nat}, x < n → p x → (∀ i, i < n → (q i ↔ p i ∧ i ≠ x)) → w_num p n = w_num q n + 1 := by
  intro n
  induction n with
  | zero => intro h; omega
  | succ n ih =>
    intro hx hp h
    show w_num p n + w_b01 (p n) = w_num q n + w_b01 (q n) + 1
    by_cases hxn : x = n
    · subst hxn
      rw [w_num_cong (q := q) (fun i hi => ⟨fun g => (h i (by omega)).mpr ⟨g, by omega⟩, fun g => ((h i (by omega)).mp g).1⟩), w_b1 hp, w_b0 (fun g => ((h x (by omega)).mp g).2 rfl)]
    · rw [ih (by omega) hp (fun i hi => h i (by omega)), show w_b01 (q n) = w_b01 (p n) from congrArg w_b01 (propext ⟨fun g => ((h n (by omega)).mp g).1, fun g => (h n (by omega)).mpr ⟨g, fun q => hxn q.symm⟩⟩)]
      omega
theorem w_num_all {p : Nat → Prop} : ∀ {n : Nat}, (∀ i, i < n → p i) → w_num p n = n := by
  intro n
  induction n with
  | zero => intro _; rfl
  | succ n ih =>
    intro h
    show w_num p n + w_b01 (p n) = n + 1
    rw [ih (fun i hi => h i (by omega)), w_b1 (h n (by omega))]
theorem w_num_le {p : Nat → Prop} : ∀ {n : Nat}, w_num p n ≤ n := by
  intro n
  induction n with
  | zero => exact Nat.le_refl _
  | succ n ih =>
    show w_num p n + w_b01 (p n) ≤ n + 1
    by_cases h : p n
    · rw [w_b1 h]; omega
    · rw [w_b0 h]; omega
theorem w_least {P : Nat → Prop} {a : Nat} (h : P a) : ∃ r, r ≤ a ∧ P r ∧ ∀ w, w < r → ¬ P w := by
  induction a using Nat.strongRecOn with
  | _ a ih =>
    by_cases h2 : ∃ w, w < a ∧ P w
    · obtain ⟨w, hw, hp⟩ := h2
      obtain ⟨r, h3, h4, h5⟩ := ih w hw hp
      exact ⟨r, by omega, h4, h5⟩
    · exact ⟨a, Nat.le_refl _, h, fun w hw hp => h2 ⟨w, hw, hp⟩⟩
section
variable {c : w_Cl} {G M : Nat}
def w_cn (c : w_Cl) (M m u v : Nat) : Prop := w_conn (w_K c M) (fun e => e < m) u v
/-- the first gear of its train, by the first m meshes -/
def w_rep (c : w_Cl) (M m u : Nat) : Prop := ∀ w, w < u → ¬ w_cn c M m w u
theorem w_cn_add (H : w_CT c G M) {m x y : Nat} (hm : m < M) (h : w_cn c M (m + 1) x y) : w_cn c M m x y ∨ (w_cn c M m x (w_A c m) ∧ w_cn c M m (w_B c m) y) ∨ (w_cn c M m x (w_B c m) ∧ w_cn c M m (w_A c m) y) := by
  have h1 : w_conn (w_K c M) (fun e => e < m ∨ e = m) x y := w_conn_sub (fun e he => by omega) h
  exact w_conn_add (w_K_Jd H) (e := m) (u := w_A c m) (v := w_B c m) ⟨hm, Or.inl ⟨rfl, rfl⟩⟩ h1
theorem w_cn_no (H : w_CT c G M) {m : Nat} (hm : m < M) : ¬ w_cn c M m (w_A c m) (w_B c m) := by
  intro h
  exact w_RF_nr H m _ _ hm ⟨hm, Or.inl ⟨rfl, rfl⟩⟩ (w_conn_sub (fun e he => ⟨by omega, by omega⟩) h)
theorem w_cn_up {m x y : Nat} (h : w_cn c M m x y) : w_cn c M (m + 1) x y := w_conn_sub (fun e he => by omega) h
theorem w_cn_sym (H : w_CT c G M) {m x y : Nat} (h : w_cn c M m x y) : w_cn c M m y x := w_conn_symm (w_K_Jd H).1 h
theorem w_comps (H : w_CT c G M) : ∀ m, m ≤ M → w_num (w_rep c M m) G + m = G := by
  intro m
  induction m with
  | zero =>
    intro _
    have h0 : w_num (w_rep c M 0) G = G := w_num_all (fun u hu w hw h => by
      obtain ⟨n, h⟩ := h
      cases n with
      | zero =>
        have : w = u := h
        omega
      | succ n =>
        obtain ⟨e, _, he, _⟩ := h
        exact absurd he (Nat.not_lt_zero _))
    omega
  | succ m ih =>
    intro hm
    have hmM : m < M := by omega
    obtain ⟨a1, a2, -⟩ := H.2.2.2.2.1 m hmM
    have hno := w_cn_no H hmM
    obtain ⟨ra, ra1, ra2, ra3⟩ := w_least (P := fun r => w_cn c M m r (w_A c m)) (a := w_A c m) w_conn_rfl
    obtain ⟨rb, rb1, rb2, rb3⟩ := w_least (P := fun r => w_cn c M m r (w_B c m)) (a := w_B c m) w_conn_rfl
    have hne : ra ≠ rb := fun q => hno (w_conn_trans (w_cn_sym H ra2) (by rw [q]; exact rb2))
    have hK : w_K c M m (w_A c m) (w_B c m) := ⟨hmM, Or.inl ⟨rfl, rfl⟩⟩
    have hab : w_cn c M (m + 1) ra rb := w_conn_trans (w_cn_up ra2) (w_conn_trans (w_conn_one (show m < m + 1 by omega) hK) (w_cn_sym H (w_cn_up rb2)))
    have repA : w_rep c M m ra := fun w hw h => ra3 w hw (w_conn_trans h ra2)
    have repB : w_rep c M m rb := fun w hw h => rb3 w hw (w_conn_trans h rb2)
    have lstA : ∀ u, w_rep c M m u → w_cn c M m (w_A c m) u → u = ra := by
      intro u hu h
      have h1 : ¬ u < ra := fun q => ra3 u q (w_cn_sym H h)
      have h2 : ¬ ra < u := fun q => hu ra q (w_conn_trans ra2 h)
      omega
    have lstB : ∀ u, w_rep c M m u → w_cn c M m (w_B c m) u → u = rb := by
      intro u hu h
      have h1 : ¬ u < rb := fun q => rb3 u q (w_cn_sym H h)
      have h2 : ¬ rb < u := fun q => hu rb q (w_conn_trans rb2 h)
      omega
    have key : ∀ hi, (hi = ra ∧ rb < ra ∨ hi = rb ∧ ra < rb) → w_num (w_rep c M m) G = w_num (w_rep c M (m + 1)) G + 1 := by
      intro hi hhi
      refine w_num_del (x := hi) (by omega) (by rcases hhi with ⟨rfl, -⟩ | ⟨rfl, -⟩ <;> assumption) (fun u hu => ⟨fun h => ⟨fun w hw h2 => h w hw (w_cn_up h2), fun q => ?_⟩, fun h w hw h2 => ?_⟩)
      · subst q
        rcases hhi with ⟨rfl, h3⟩ | ⟨rfl, h3⟩
        · exact h rb h3 (w_cn_sym H hab)
        · exact h ra h3 hab
      · rcases w_cn_add H hmM h2 with h3 | ⟨h3, h4⟩ | ⟨h3, h4⟩
        · exact h.1 w hw h3
        · have e1 := lstB u h.1 h4
          have e2 : ¬ w < ra := fun q => ra3 w q h3
          exact h.2 (by omega)
        · have e1 := lstA u h.1 h4
          have e2 : ¬ w < rb := fun q => rb3 w q h3
          exact h.2 (by omega)
    have hlt := Nat.lt_or_gt_of_ne hne
    have := key (if ra < rb then rb else ra) (by split <;> omega)
    have := ih (by omega)
    omega
theorem w_two (H : w_CT c G M) {u v : Nat} (hu : u < G) (hv : v < G) (h : ¬ w_cn c M M u v) : M + 2 ≤ G := by
  obtain ⟨ra, ra1, ra2, ra3⟩ := w_least (P := fun r => w_cn c M M r u) (a := u) w_conn_rfl
  obtain ⟨rb, rb1, rb2, rb3⟩ := w_least (P := fun r => w_cn c M M r v) (a := v) w_conn_rfl
  have hne : rb ≠ ra := fun q => h (w_conn_trans (w_cn_sym H ra2) (by rw [← q]; exact rb2))
  have h1 := w_num_del (p := w_rep c M M) (q := fun i => w_rep c M M i ∧ i ≠ ra) (x := ra) (n := G) (by omega) (fun w hw h => ra3 w hw (w_conn_trans h ra2)) (fun i _ => Iff.rfl)
  have h2 := w_num_del (p := fun i => w_rep c M M i ∧ i ≠ ra) (q := fun i => (w_rep c M M i ∧ i ≠ ra) ∧ i ≠ rb) (x := rb) (n := G) (by omega) ⟨fun w hw h => rb3 w hw (w_conn_trans h rb2), hne⟩ (fun i _ => Iff.rfl)
  have := w_comps H M (Nat.le_refl _)
  omega
theorem w_cn_pt (H : w_CT c G M) {u v : Nat} : w_cn c M M u v ↔ ∃ p, w_pt (w_EK c M) u (v :: p) := by
  have h : w_cn c M M v u ↔ ∃ p, w_pt (w_EK c M) u (v :: p) := w_conn_pt
  exact ⟨fun q => h.mp (w_cn_sym H q), fun q => w_cn_sym H (h.mpr q)⟩
/-- meshes, counted pair by pair -/
noncomputable def w_ns (f : Nat → Nat) : Nat → Nat
  | 0 => 0
  | n + 1 => w_ns f n + f n
theorem w_ns_one {f f' : Nat → Nat} {x : Nat} : ∀ {n : Nat}, x < n → (∀ i, i < n → i ≠ x → f' i = f i) → f' x = f x + 1 → w_ns f' n = w_ns f n + 1 := by
  intro n
  induction n with
  | zero => intro h; omega
  | succ n ih =>
    intro hx h h1
    show w_ns f' n + f' n = w_ns f n + f n + 1
    by_cases hxn : x = n
    · subst hxn
      have : w_ns f' x = w_ns f x := by
        have : ∀ k, k ≤ x → w_ns f' k = w_ns f k := by
          intro k
          induction k with
          | zero => intro _; rfl
          | succ k ihk =>
            intro hk
            show w_ns f' k + f' k = w_ns f k + f k
            rw [ihk (by omega), h k (by omega) (by omega)]
        exact this x (Nat.le_refl _)
      omega
    · have := ih (by omega) (fun i hi => h i (by omega)) h1
      have := h n (by omega) (fun q => hxn q.symm)
      omega
noncomputable def w_mc (c : w_Cl) (M m b : Nat) : Nat := w_num (fun a => ∃ e, e < m ∧ w_K c M e a b) b
theorem w_mcount (H : w_CT c G M) : ∀ m, m ≤ M → w_ns (w_mc c M m) G = m := by
  intro m
  induction m with
  | zero =>
    intro _
    have h0 : ∀ b, w_mc c M 0 b = 0 := by
      intro b
      unfold w_mc
      have : ∀ n, w_num (fun a => ∃ e, e < 0 ∧ w_K c M e a b) n = 0 := by
        intro n
        induction n with
        | zero => rfl
        | succ n ih =>
          show w_num _ n + w_b01 _ = 0
          rw [ih, w_b0 (fun ⟨e, he, _⟩ => absurd he (Nat.not_lt_zero _))]
      exact this b
    have : ∀ n, w_ns (w_mc c M 0) n = 0 := by
      intro n
      induction n with
      | zero => rfl
      | succ n ih => show w_ns _ n + w_mc c M 0 n = 0; rw [ih, h0]
    exact this G
  | succ m ih =>
    intro hm
    have hmM : m < M := by omega
    obtain ⟨a1, a2, a3, -⟩ := H.2.2.2.2.1 m hmM
    have hsp : ∀ a b, (∃ e, e < m + 1 ∧ w_K c M e a b) ↔ ((∃ e, e < m ∧ w_K c M e a b) ∨ w_K c M m a b) := by
      intro a b
      constructor
      · rintro ⟨e, he, h⟩
        by_cases hem : e = m
        · subst hem; exact Or.inr h
        · exact Or.inl ⟨e, by omega, h⟩
      · rintro (⟨e, he, h⟩ | h)
        · exact ⟨e, by omega, h⟩
        · exact ⟨m, by omega, h⟩
    have key : ∀ lo hi, lo < hi → hi < G → w_K c M m lo hi → w_ns (w_mc c M (m + 1)) G = w_ns (w_mc c M m) G + 1 := by
      intro lo hi hlh hhG hK
      refine w_ns_one (x := hi) hhG (fun b _ hb => ?_) ?_
      · unfold w_mc
        refine w_num_cong (fun a ha => ?_)
        rw [hsp]
        refine ⟨fun h => h.elim id (fun h2 => ?_), Or.inl⟩
        rcases (w_K_Jd H).2.2 _ _ _ _ _ hK h2 with ⟨-, h3⟩ | ⟨h3, h4⟩
        · exact absurd h3 hb
        · omega
      · unfold w_mc
        refine w_num_del (x := lo) hlh ⟨m, by omega, hK⟩ (fun a ha => ?_)
        rw [hsp]
        constructor
        · rintro ⟨e, he, h⟩
          refine ⟨Or.inl ⟨e, he, h⟩, fun q => ?_⟩
          subst q
          have := w_K_one H h hK
          omega
        · rintro ⟨h | h, hne⟩
          · exact h
          · rcases (w_K_Jd H).2.2 _ _ _ _ _ hK h with ⟨h3, -⟩ | ⟨h3, h4⟩
            · exact absurd h3 hne
            · omega
    have hih := ih (by omega)
    rcases Nat.lt_or_gt_of_ne a3 with h | h
    · rw [key _ _ h a2 ⟨hmM, Or.inl ⟨rfl, rfl⟩⟩, hih]
    · rw [key _ _ h a1 ⟨hmM, Or.inr ⟨rfl, rfl⟩⟩, hih]
theorem w_mI {ν : z_Mem} (H : w_CT c G M) (R : w_Rf c G M (ν 242)) {b : Nat} (hb : b < G) {K : Int32 → Int32 → Option Int32} (C : Nat) : ∀ (f a : Nat), a ≤ b → b - a < f → pm_meshes_L16 f ν (Int32.ofNat b) K (Int32.ofNat (C + w_num (fun a => ∃ e, e < M ∧ w_K c M e a b) a)) (Int32.ofNat a) = K (Int32.ofNat (C + w_mc c M M b)) (Int32.ofNat b) := by
  have hG := H.2.2.1
  intro f
  induction f with
  | zero => intro a _ h; omega
  | succ f ih =>
    intro a ha hf
    show pm_meshes_L16_B (pm_meshes_L16 f ν (Int32.ofNat b) K) ν (Int32.ofNat b) K _ (Int32.ofNat a) = _
    unfold pm_meshes_L16_B
    by_cases h : b ≤ a
    · rw [if_pos ((w_le (by omega) (by omega)).mpr h)]
      have : a = b := by omega
      subst this
      rfl
    · rw [if_neg (fun hc => h ((w_le (by omega) (by omega)).mp hc)), show Int32.ofNat a + 1 = Int32.ofNat (a + 1) from w_ar2]
      have hnext := ih (a + 1) (by omega) (by omega)
      by_cases hE : w_EK c M a b
      · rw [w_isMeshY H R hE]
        dsimp only [Option.bind_some]
        rw [if_neg w_10]
        obtain ⟨e, he, hK⟩ := hE
        rw [show w_num (fun a => ∃ e, e < M ∧ w_K c M e a b) (a + 1) = w_num (fun a => ∃ e, e < M ∧ w_K c M e a b) a + 1 by
          show w_num _ a + w_b01 _ = _
          rw [w_b1 ⟨e, he, hK⟩]] at hnext
        rw [show Int32.ofNat (C + w_num (fun a => ∃ e, e < M ∧ w_K c M e a b) a) + 1 = Int32.ofNat (C + w_num (fun a => ∃ e, e < M ∧ w_K c M e a b) a + 1) from w_ar2]
        exact hnext
      · rw [w_isMeshN H R (by omega) hb hE]
        dsimp only [Option.bind_some]
        rw [if_pos rfl, Int32.add_zero]
        rw [show w_num (fun a => ∃ e, e < M ∧ w_K c M e a b) (a + 1) = w_num (fun a => ∃ e, e < M ∧ w_K c M e a b) a by
          show w_num _ a + w_b01 (∃ e, e < M ∧ w_K c M e a b) = _
          rw [w_b0 (p := ∃ e, e < M ∧ w_K c M e a b) (fun h => hE h), Nat.add_zero]] at hnext
        exact hnext
theorem w_mO {ν : z_Mem} (H : w_CT c G M) (R : w_Rf c G M (ν 242)) {K : Int32 → Int32 → Option Int32} : ∀ (f b : Nat), b ≤ G → G - b < f → pm_meshes_L4 f ν K (Int32.ofNat (w_ns (w_mc c M M) b)) (Int32.ofNat b) = K (Int32.ofNat M) (Int32.ofNat G) := by
  have hG := H.2.2.1
  intro f
  induction f with
  | zero => intro b _ h; omega
  | succ f ih =>
    intro b hb hf
    show pm_meshes_L4_B (pm_meshes_L4 f ν K) ν K _ (Int32.ofNat b) = _
    unfold pm_meshes_L4_B
    rw [R.1]
    by_cases h : G ≤ b
    · rw [if_pos ((w_le (by omega) (by omega)).mpr h)]
      have : b = G := by omega
      subst this
      rw [w_mcount H M (Nat.le_refl _)]
    · rw [if_neg (fun hc => h ((w_le (by omega) (by omega)).mp hc)), show Int32.ofNat b + 1 = Int32.ofNat (b + 1) from w_ar2]
      have h1 := w_mI H R (b := b) (by omega) (K := fun k6 k7 => pm_meshes_L4 f ν K k6 (Int32.ofNat (b + 1))) (w_ns (w_mc c M M) b) z_fu 0 (Nat.zero_le _) (by show b - 0 < 3000; omega)
      refine Eq.trans h1 ?_
      exact ih (b + 1) (by omega) (by omega)
theorem w_meshes {ν : z_Mem} (H : w_CT c G M) (R : w_Rf c G M (ν 242)) : pm_meshes ν = some (Int32.ofNat M) :=
  w_mO H R (K := fun k8 k9 => some k8) z_fu 0 (Nat.zero_le _) (by have := H.2.2.1; show G - 0 < 3000; omega)
end
end ZCNT
