/-! The class's chain of gears, and the reference's. -/
section ZCHA
def w_par : List Nat → Int32
  | [] => -1
  | y :: _ => Int32.ofNat y
theorem w_suf_get {x v : Nat} {l p : List Nat} (h : x :: l <:+ v :: p) : (v :: p).getD (p.length - l.length) 0 = x := by
  obtain ⟨m, hm⟩ := h
  have h1 := congrArg List.length hm
  simp only [List.length_append, List.length_cons] at h1
  rw [← hm, show p.length - l.length = m.length by omega]
  simp [List.getD_eq_getElem?_getD]
section
variable {c : w_Cl} {G M r v : Nat}
/-- what the class's search below the path x :: l answers -/
def w_ChP (c : w_Cl) (M r v x : Nat) (l : List Nat) (d : Nat) (μ μ' : z_Mem) (k : Int32) : Prop :=
  (∀ q, q ≠ 31 → μ' q = μ q) ∧ (∀ j, j < d → μ' 31 j = μ 31 j) ∧ ((k = -1 ∧ ¬ w_sub (w_EK c M) r (x :: l) v) ∨ ∃ p, w_pt (w_EK c M) r (v :: p) ∧ x :: l <:+ v :: p ∧ k = Int32.ofNat p.length ∧ ∀ j, d ≤ j → j ≤ p.length → μ' 31 j = Int32.ofNat ((v :: p).getD (p.length - j) 0))
theorem w_chainL (H : w_CT c G M) (hr : r < G) (hv : v < G) {x : Nat} {l : List Nat} (hp : w_pt (w_EK c M) r (x :: l)) (hxv : x ≠ v) {F : z_Mem → Int32 → Int32 → Int32 → Int32 → Option (Int32 × z_Mem)} (hF : ∀ cc, w_pt (w_EK c M) r (cc :: x :: l) → ∀ μ, w_Str c μ 1 → ∃ k μ', F μ (Int32.ofNat cc) (Int32.ofNat v) (Int32.ofNat x) (Int32.ofNat (l.length + 1)) = some (k, μ') ∧ w_ChP c M r v cc (x :: l) (l.length + 1) μ μ' k) (μ0 : z_Mem) : ∀ (f i : Nat) (μ : z_Mem), i ≤ M → M - i < f → w_Str c μ 1 → (∀ q, q ≠ 31 → μ q = μ0 q) → (∀ j, j < l.length + 1 → μ 31 j = μ0 31 j) → (∀ e cc, e < i → w_K c M e cc x → ¬ cc ∈ x :: l → ¬ w_sub (w_EK c M) r (cc :: x :: l) v) → ∃ k μ', pW_extendChain_L25 f F (Int32.ofNat x) (Int32.ofNat v) (w_par l) (Int32.ofNat l.length) (fun M13 k12 => some (-1, M13)) μ (Int32.ofNat i) = some (k, μ') ∧ w_ChP c M r v x l (l.length + 1) μ0 μ' k := by
  have hG := H.2.2.1
  have hM := H.2.2.2.1
  have hxG : x < G := w_pt_K H hr hp List.mem_cons_self
  intro f
  induction f with
  | zero => intro i μ _ h; omega
  | succ f ih =>
    intro i μ hi hf hs h1 h2 h3
    show ∃ k μ', pW_extendChain_L25_B (pW_extendChain_L25 f F (Int32.ofNat x) (Int32.ofNat v) (w_par l) (Int32.ofNat l.length) (fun M13 k12 => some (-1, M13))) F (Int32.ofNat x) (Int32.ofNat v) (w_par l) (Int32.ofNat l.length) (fun M13 k12 => some (-1, M13)) μ (Int32.ofNat i) = some (k, μ') ∧ _
    unfold pW_extendChain_L25_B
    rw [show μ 2 1 = Int32.ofNat M from hs.2.1.trans H.2.1]
    by_cases h : M ≤ i
    · rw [if_pos ((w_le (by omega) (by omega)).mpr h)]
      refine ⟨-1, μ, rfl, h1, h2, Or.inl ⟨rfl, fun hc => ?_⟩⟩
      obtain ⟨cc, h4, h5, h6⟩ := w_sub_child hc hxv.symm
      obtain ⟨e, he, h7⟩ := h4
      exact h3 e cc (by omega) h7 h5 h6
    · rw [if_neg (fun hc => h ((w_le (by omega) (by omega)).mp hc)), w_across1 H hs (by omega) hxG]
      dsimp only [Option.bind_some]
      have next : (∀ cc, w_K c M i cc x → ¬ cc ∈ x :: l → ¬ w_sub (w_EK c M) r (cc :: x :: l) v) → ∀ e cc, e < i + 1 → w_K c M e cc x → ¬ cc ∈ x :: l → ¬ w_sub (w_EK c M) r (cc :: x :: l) v := by
        intro hn e cc he h4 h5
        by_cases hei : e = i
        · subst hei; exact hn cc h4 h5
        · exact h3 e cc (by omega) h4 h5
      cases ho : w_o c i x with
      | none =>
        rw [if_pos (show w_oi none = -1 from rfl), w_ar2]
        refine ih (i + 1) μ (by omega) (by omega) hs h1 h2 (next (fun cc h4 _ => ?_))
        rw [w_o_of H ((w_K_Jd H).1 _ _ _ h4)] at ho
        cases ho
      | some z =>
        have hz := w_o_some (M := M) (by omega) ho
        have hzG := (w_K_lt H hz).2
        rw [if_neg (show ¬ w_oi (some z) = -1 from w_nneg (k := 1) (by omega) (by decide) (by decide))]
        by_cases hpar : l.head? = some z
        · have hw : w_oi (some z) = w_par l := by
            cases l with
            | nil => cases hpar
            | cons y l => cases hpar; rfl
          rw [if_pos hw, w_ar2]
          refine ih (i + 1) μ (by omega) (by omega) hs h1 h2 (next (fun cc h4 h5 => ?_))
          rw [w_o_of H ((w_K_Jd H).1 _ _ _ h4)] at ho
          cases ho
          exact absurd (List.mem_cons_of_mem _ (List.mem_of_mem_head? hpar)) h5
        · have hw : ¬ w_oi (some z) = w_par l := by
            cases l with
            | nil => exact w_nneg (k := 1) (by omega) (by decide) (by decide)
            | cons y l =>
              have hy := w_pt_K H hr hp (x := y) (List.mem_cons_of_mem _ List.mem_cons_self)
              exact fun q => hpar (by rw [(w_eq (by omega) (by omega)).mp q]; rfl)
          rw [if_neg hw, w_ar2]
          have hzx : w_K c M i z x := (w_K_Jd H).1 _ _ _ hz
          have hpz := w_extK H hp (w_EK_of hzx) hpar
          obtain ⟨k, μ1, e1, q1, q2, q3⟩ := hF z hpz μ hs
          show ∃ k μ', (F μ (Int32.ofNat z) (Int32.ofNat v) (Int32.ofNat x) (Int32.ofNat (l.length + 1))).bind _ = some (k, μ') ∧ _
          rw [e1]
          dsimp only [Option.bind_some]
          rcases q3 with ⟨rfl, q3⟩ | ⟨p, q3, q4, rfl, q5⟩
          · rw [if_pos rfl, w_ar2]
            refine ih (i + 1) μ1 (by omega) (by omega) (w_Str_of hs (fun q a b => q1 q (by omega))) (fun q hq => (q1 q hq).trans (h1 q hq)) (fun j hj => (q2 j hj).trans (h2 j hj)) (next (fun cc h4 _ => ?_))
            rw [w_o_of H ((w_K_Jd H).1 _ _ _ h4)] at ho
            cases ho
            exact q3
          · have hpl := w_pt_Kl H hr q3
            rw [List.length_cons] at hpl
            rw [if_neg (w_nneg (k := 1) (by omega) (by decide) (by decide))]
            exact ⟨_, μ1, rfl, fun q hq => (q1 q hq).trans (h1 q hq), fun j hj => (q2 j hj).trans (h2 j hj), Or.inr ⟨p, q3, List.IsSuffix.trans (List.suffix_cons z (x :: l)) q4, rfl, q5⟩⟩
theorem w_chainD (H : w_CT c G M) (hr : r < G) (hv : v < G) : ∀ (nf x : Nat) (l : List Nat) (μ : z_Mem), nf + l.length = 12 → w_pt (w_EK c M) r (x :: l) → w_Str c μ 1 → ∃ k μ', pW_extendChain nf μ (Int32.ofNat x) (Int32.ofNat v) (w_par l) (Int32.ofNat l.length) = some (k, μ') ∧ w_ChP c M r v x l l.length μ μ' k := by
  have hG := H.2.2.1
  intro nf
  induction nf with
  | zero =>
    intro x l μ h hp
    have := w_pt_Kl H hr hp
    rw [List.length_cons] at this
    omega
  | succ nf ih =>
    intro x l μ h hp hs
    have hpl := w_pt_Kl H hr hp
    rw [List.length_cons] at hpl
    have hxG : x < G := w_pt_K H hr hp List.mem_cons_self
    show ∃ k μ', pW_extendChain_B (fun μ i2 i3 i4 i5 => pW_extendChain nf μ i2 i3 i4 i5) μ (Int32.ofNat x) (Int32.ofNat v) (w_par l) (Int32.ofNat l.length) = some (k, μ') ∧ _
    unfold pW_extendChain_B
    rw [if_pos ((w_lt (by omega) (by omega)).mpr (by omega)), if_pos ((w_inn (by omega)).mpr (by omega)), w_tn (by omega)]
    by_cases hxv : x = v
    · subst hxv
      rw [if_pos rfl]
      refine ⟨_, _, rfl, fun q hq => w_u_ne hq, fun j hj => w_u_at (by omega), Or.inr ⟨l, hp, List.suffix_refl _, rfl, fun j h1 h2 => ?_⟩⟩
      have : j = l.length := by omega
      subst this
      rw [w_u_eq, Nat.sub_self]
      rfl
    · rw [if_neg (fun q => hxv ((w_eq (by omega) (by omega)).mp q))]
      obtain ⟨k, μ', e1, q1, q2, q3⟩ := w_chainL H hr hv hp hxv (F := fun μ i2 i3 i4 i5 => pW_extendChain nf μ i2 i3 i4 i5) (fun cc hcc μ hs => ih cc (x :: l) μ (by rw [List.length_cons]; omega) hcc hs) (z_u μ 31 l.length (Int32.ofNat x)) z_fu 0 (z_u μ 31 l.length (Int32.ofNat x)) (Nat.zero_le _) (by have := H.2.2.2.1; show M - 0 < 3000; omega) (w_Str_of hs (fun q a b => w_u_ne (by omega))) (fun q hq => rfl) (fun j hj => rfl) (fun e cc he => absurd he (Nat.not_lt_zero _))
      refine ⟨k, μ', e1, fun q hq => (q1 q hq).trans (w_u_ne hq), fun j hj => (q2 j (by omega)).trans (w_u_at (by omega)), ?_⟩
      rcases q3 with q3 | ⟨p, q3, q4, q5, q6⟩
      · exact Or.inl q3
      · refine Or.inr ⟨p, q3, q4, q5, fun j h1 h2 => ?_⟩
        by_cases hj : j = l.length
        · subst hj
          rw [q2 _ (by omega), w_u_eq, w_suf_get q4]
        · exact q6 j (by omega) h2
/-- the chain from r to v, in the class's row -/
def w_Chn (c : w_Cl) (M r v : Nat) (μ : z_Mem) (p : List Nat) : Prop := w_pt (w_EK c M) r (v :: p) ∧ ∀ j, j ≤ p.length → μ 31 j = Int32.ofNat ((v :: p).getD (p.length - j) 0)
theorem w_chain (H : w_CT c G M) (hr : r < G) (hv : v < G) {μ : z_Mem} (hs : w_Str c μ 1) : ∃ k μ', pW_chainLength μ (Int32.ofNat r) (Int32.ofNat v) = some (k, μ') ∧ (∀ q, q ≠ 31 → μ' q = μ q) ∧ ((k = -1 ∧ ¬ ∃ p, w_pt (w_EK c M) r (v :: p)) ∨ ∃ p, k = Int32.ofNat p.length ∧ w_Chn c M r v μ' p) := by
  obtain ⟨k, μ', e1, q1, -, q3⟩ := w_chainD H hr hv 12 r [] μ rfl rfl hs
  unfold pW_chainLength
  rw [show pW_extendChain 12 μ (Int32.ofNat r) (Int32.ofNat v) (-1) 0 = some (k, μ') from e1]
  refine ⟨k, μ', rfl, q1, ?_⟩
  rcases q3 with ⟨q3, q4⟩ | ⟨p, q3, -, q5, q6⟩
  · refine Or.inl ⟨q3, fun ⟨p, hp⟩ => q4 (w_sub_root hp)⟩
  · exact Or.inr ⟨p, q5, q3, fun j hj => q6 j (Nat.zero_le _) hj⟩
end
/-! the reference's way back -/
def w_Bk (b : Nat → Int32) (r : Nat) : List Nat → Prop
  | [] => False
  | [x] => x = r ∧ b x = Int32.ofNat r
  | x :: y :: l => b x = Int32.ofNat y ∧ w_Bk b r (y :: l)
def w_BI (c : w_Cl) (M r : Nat) (b : Nat → Int32) : Prop := ∀ v, v < 10 → ¬ b v = -1 → ∃ l, w_pt (w_EK c M) r (v :: l) ∧ w_Bk b r (v :: l)
theorem w_Bk_upd {b : Nat → Int32} {r z : Nat} {w : Int32} (hz : b z = -1) (hr : r < 2147483648) : ∀ {l : List Nat}, (∀ y, y ∈ l → y < 2147483648) → w_Bk b r l → w_Bk (upd b z w) r l := by
  intro l
  have hu : ∀ x, ¬ b x = -1 → upd b z w x = b x := by
    intro x hx
    unfold upd
    by_cases h : x = z
    · subst h; exact absurd hz hx
    · simp [h]
  induction l with
  | nil => intro _ h; exact h.elim
  | cons x l ih =>
    intro hl h
    cases l with
    | nil => exact ⟨h.1, (hu x (by rw [h.2]; exact w_nneg (k := 1) hr (by decide) (by decide))).trans h.2⟩
    | cons y l => exact ⟨(hu x (by rw [h.1]; exact w_nneg (k := 1) (hl y (List.mem_cons_of_mem _ List.mem_cons_self)) (by decide) (by decide))).trans h.1, ih (fun y hy => hl y (List.mem_cons_of_mem _ hy)) h.2⟩
theorem w_Bk_mem {b : Nat → Int32} {r : Nat} (hr : r < 2147483648) : ∀ {l : List Nat}, (∀ y, y ∈ l → y < 2147483648) → w_Bk b r l → ∀ x, x ∈ l → ¬ b x = -1 := by
  intro l
  induction l with
  | nil => intro _ h; exact h.elim
  | cons a l ih =>
    intro hl h x hx
    cases l with
    | nil =>
      rw [List.mem_singleton] at hx
      subst hx
      rw [h.2]; exact w_nneg (k := 1) hr (by decide) (by decide)
    | cons y l =>
      rcases List.mem_cons.mp hx with rfl | hx
      · rw [h.1]; exact w_nneg (k := 1) (hl y (List.mem_cons_of_mem _ List.mem_cons_self)) (by decide) (by decide)
      · exact ih (fun y hy => hl y (List.mem_cons_of_mem _ hy)) h.2 x hx
theorem w_u_self {μ : z_Mem} {a j : Nat} : z_u μ a j (μ a j) = μ := by
  funext k i
  unfold z_u
  by_cases hk : k = a
  · subst hk
    by_cases hi : i = j
    · subst hi; simp
    · simp [hi]
  · simp [hk]
theorem w_u_row {μ : z_Mem} {a j : Nat} {v : Int32} : z_u μ a j v a = upd (μ a) j v := by
  funext i
  unfold z_u upd
  simp
section
variable {c : w_Cl} {G M r : Nat}
/-- during a round: what was found is kept -/
def w_ExI (c : w_Cl) (M r : Nat) (μ0 : z_Mem) (b0 : Nat → Int32) (μ : z_Mem) : Prop :=
  (∀ q, q ≠ 249 → μ q = μ0 q) ∧ w_BI c M r (μ 249) ∧ ∀ v, v < 10 → ¬ b0 v = -1 → ¬ μ 249 v = -1
theorem w_exI {μ0 : z_Mem} {b0 : Nat → Int32} (H : w_CT c G M) (hr : r < G) (R : w_Rf c G M (μ0 242)) {one : Nat} (ho : one < G) {f1 f2 : Int32} {K : z_Mem → Int32 → Option z_Mem} : ∀ (f j : Nat) (μ : z_Mem), j ≤ G → G - j < f → w_ExI c M r μ0 b0 μ → (∀ v, v < j → ¬ b0 one = -1 → w_EK c M one v → ¬ μ 249 v = -1) → ∃ μ', pm_explores_L53 f f1 f2 (Int32.ofNat one) K μ (Int32.ofNat j) = K μ' (Int32.ofNat G) ∧ w_ExI c M r μ0 b0 μ' ∧ (∀ v, ¬ μ 249 v = -1 → v < 10 → ¬ μ' 249 v = -1) ∧ ∀ v, v < G → ¬ b0 one = -1 → w_EK c M one v → ¬ μ' 249 v = -1 := by
  have hG := H.2.2.1
  intro f
  induction f with
  | zero => intro j μ _ h; omega
  | succ f ih =>
    intro j μ hj hf hI h3
    show ∃ μ', pm_explores_L53_B (pm_explores_L53 f f1 f2 (Int32.ofNat one) K) f1 f2 (Int32.ofNat one) K μ (Int32.ofNat j) = K μ' (Int32.ofNat G) ∧ _
    unfold pm_explores_L53_B
    have h242 : μ 242 = μ0 242 := hI.1 242 (by decide)
    rw [h242, R.1]
    by_cases h : G ≤ j
    · have : j = G := by omega
      subst this
      rw [if_pos ((w_le (by omega) (by omega)).mpr (Nat.le_refl _))]
      exact ⟨μ, rfl, hI, fun v hv _ => hv, h3⟩
    · have hjG : j < G := by omega
      rw [if_neg (fun hc => h ((w_le (by omega) (by omega)).mp hc))]
      have hr10 : ∀ q, q < 10 → z_rd μ 249 10 (Int32.ofNat q) = some (μ 249 q) := fun q hq => w_rdn (by omega) hq
      have hin : z_inb (Int32.ofNat j) 10 = true := (w_inn (by omega)).mpr (by omega)
      simp only [hr10 one (by omega), hr10 j (by omega), Option.bind_some, if_pos hin, w_tn (show j < 2147483648 by omega), w_u_self]
      rw [show Int32.ofNat j + 1 = Int32.ofNat (j + 1) from w_ar2]
      have same : (w_EK c M one j → ¬ b0 one = -1 → ¬ μ 249 j = -1) → ∃ μ', pm_explores_L53 f f1 f2 (Int32.ofNat one) K μ (Int32.ofNat (j + 1)) = K μ' (Int32.ofNat G) ∧ w_ExI c M r μ0 b0 μ' ∧ (∀ v, ¬ μ 249 v = -1 → v < 10 → ¬ μ' 249 v = -1) ∧ ∀ v, v < G → ¬ b0 one = -1 → w_EK c M one v → ¬ μ' 249 v = -1 := by
        intro hn
        refine ih (j + 1) μ (by omega) (by omega) hI (fun v hv h4 h5 => ?_)
        by_cases hvj : v = j
        · subst hvj; exact hn h5 h4
        · exact h3 v (by omega) h4 h5
      by_cases h1 : μ 249 one = -1
      · rw [if_pos h1]
        exact same (fun _ h4 => absurd h1 (hI.2.2 one (by omega) h4))
      · rw [if_neg h1]
        by_cases h2 : μ 249 j = -1
        · rw [if_pos h2]
          by_cases h4 : w_EK c M one j
          · rw [w_isMeshY H (by rw [h242]; exact R) h4]
            dsimp only [Option.bind_some]
            rw [if_neg (by decide)]
            obtain ⟨l, p1, p2⟩ := hI.2.1 one (by omega) h1
            have hlt : ∀ y, y ∈ one :: l → y < 2147483648 := fun y hy => by have := w_pt_K H hr p1 hy; omega
            have hjn : ¬ j ∈ one :: l := fun hc => absurd h2 (w_Bk_mem (by omega) hlt p2 j hc)
            have hmono : ∀ v, ¬ μ 249 v = -1 → ¬ z_u μ 249 j (Int32.ofNat one) 249 v = -1 := by
              intro v hv
              by_cases hvj : v = j
              · subst hvj; rw [w_u_eq]; exact w_nneg (k := 1) (by omega) (by decide) (by decide)
              · rw [w_u_at hvj]; exact hv
            have hBI : w_BI c M r (z_u μ 249 j (Int32.ofNat one) 249) := by
              intro v hv hne
              by_cases hvj : v = j
              · subst hvj
                refine ⟨one :: l, ⟨w_EK_symm H _ _ h4, hjn, p1⟩, by rw [w_u_eq], ?_⟩
                rw [w_u_row]
                exact w_Bk_upd h2 (by omega) hlt p2
              · rw [w_u_at hvj] at hne
                obtain ⟨l', p3, p4⟩ := hI.2.1 v hv hne
                refine ⟨l', p3, ?_⟩
                rw [w_u_row]
                exact w_Bk_upd h2 (by omega) (fun y hy => by have := w_pt_K H hr p3 hy; omega) p4
            have hdone : ∀ v, v < j + 1 → ¬ b0 one = -1 → w_EK c M one v → ¬ z_u μ 249 j (Int32.ofNat one) 249 v = -1 := by
              intro v hv h5 h6
              by_cases hvj : v = j
              · subst hvj; rw [w_u_eq]; exact w_nneg (k := 1) (by omega) (by decide) (by decide)
              · exact hmono v (h3 v (by omega) h5 h6)
            obtain ⟨μ', e1, q1, q2, q3⟩ := ih (j + 1) (z_u μ 249 j (Int32.ofNat one)) (by omega) (by omega) ⟨fun q hq => (w_u_ne hq).trans (hI.1 q hq), hBI, fun v hv hb => hmono v (hI.2.2 v hv hb)⟩ hdone
            exact ⟨μ', e1, q1, fun v hv h10 => q2 v (hmono v hv) h10, q3⟩
          · rw [w_isMeshN H (by rw [h242]; exact R) ho hjG h4]
            dsimp only [Option.bind_some]
            rw [if_pos rfl]
            exact same (fun h5 _ => absurd h5 h4)
        · rw [if_neg h2]
          exact same (fun _ _ => h2)
theorem w_exO {μ0 : z_Mem} {b0 : Nat → Int32} (H : w_CT c G M) (hr : r < G) (R : w_Rf c G M (μ0 242)) {f1 f2 : Int32} {K : z_Mem → Int32 → Option z_Mem} : ∀ (f i : Nat) (μ : z_Mem), i ≤ G → G - i < f → w_ExI c M r μ0 b0 μ → (∀ one v, one < i → v < G → ¬ b0 one = -1 → w_EK c M one v → ¬ μ 249 v = -1) → ∃ μ', pm_explores_L40 f f1 f2 K μ (Int32.ofNat i) = K μ' (Int32.ofNat G) ∧ w_ExI c M r μ0 b0 μ' ∧ ∀ one v, one < G → v < G → ¬ b0 one = -1 → w_EK c M one v → ¬ μ' 249 v = -1 := by
  have hG := H.2.2.1
  intro f
  induction f with
  | zero => intro i μ _ h; omega
  | succ f ih =>
    intro i μ hi hf hI h3
    show ∃ μ', pm_explores_L40_B (pm_explores_L40 f f1 f2 K) f1 f2 K μ (Int32.ofNat i) = K μ' (Int32.ofNat G) ∧ _
    unfold pm_explores_L40_B
    rw [show μ 242 0 = Int32.ofNat G by rw [hI.1 242 (by decide)]; exact R.1]
    by_cases h : G ≤ i
    · have : i = G := by omega
      subst this
      rw [if_pos ((w_le (by omega) (by omega)).mpr (Nat.le_refl _))]
      exact ⟨μ, rfl, hI, h3⟩
    · rw [if_neg (fun hc => h ((w_le (by omega) (by omega)).mp hc))]
      obtain ⟨μ1, e1, q1, q2, q3⟩ := w_exI (b0 := b0) H hr R (one := i) (by omega) (f1 := f1) (f2 := f2) (K := fun M34 k33 => pm_explores_L40 f f1 f2 K M34 (Int32.ofNat i + 1)) z_fu 0 μ (Nat.zero_le _) (by show G - 0 < 3000; omega) hI (fun v hv => absurd hv (Nat.not_lt_zero _))
      rw [show (0 : Int32) = Int32.ofNat 0 from rfl, e1, w_ar2]
      refine ih (i + 1) μ1 (by omega) (by omega) q1 (fun one v ho hv h5 h6 => ?_)
      by_cases h7 : one = i
      · subst h7; exact q3 v hv h5 h6
      · exact q2 v (h3 one v (by omega) hv h5 h6) (by omega)
theorem w_exR {μ0 : z_Mem} (H : w_CT c G M) (hr : r < G) (R : w_Rf c G M (μ0 242)) {f1 : Int32} {K : z_Mem → Int32 → Option z_Mem} : ∀ (f i : Nat) (μ : z_Mem), i ≤ 10 → 10 - i < f → (∀ q, q ≠ 249 → μ q = μ0 q) → w_BI c M r (μ 249) → (∀ v l, w_pt (w_EK c M) r (v :: l) → l.length ≤ i → ¬ μ 249 v = -1) → ∃ μ', pm_explores_L32 f f1 K μ (Int32.ofNat i) = K μ' (Int32.ofNat 10) ∧ (∀ q, q ≠ 249 → μ' q = μ0 q) ∧ w_BI c M r (μ' 249) ∧ ∀ v l, w_pt (w_EK c M) r (v :: l) → ¬ μ' 249 v = -1 := by
  have hG := H.2.2.1
  intro f
  induction f with
  | zero => intro i μ _ h; omega
  | succ f ih =>
    intro i μ hi hf h1 h2 h3
    show ∃ μ', pm_explores_L32_B (pm_explores_L32 f f1 K) f1 K μ (Int32.ofNat i) = K μ' (Int32.ofNat 10) ∧ _
    unfold pm_explores_L32_B
    by_cases h : i = 10
    · subst h
      rw [if_pos (by decide)]
      exact ⟨μ, rfl, h1, h2, fun v l hp => h3 v l hp (by have := w_pt_Kl H hr hp; rw [List.length_cons] at this; omega)⟩
    · rw [if_neg (fun hc => h (by have := (w_lel (by omega) (by omega)).mp hc; omega))]
      obtain ⟨μ1, e1, q1, q3⟩ := w_exO (b0 := μ 249) H hr R (f1 := f1) (f2 := Int32.ofNat i) (K := fun M36 k35 => pm_explores_L32 f f1 K M36 (Int32.ofNat i + 1)) z_fu 0 μ (Nat.zero_le _) (by show G - 0 < 3000; omega) ⟨h1, h2, fun v _ hv => hv⟩ (fun one v ho => absurd ho (Nat.not_lt_zero _))
      rw [show (0 : Int32) = Int32.ofNat 0 from rfl, e1, w_ar2]
      refine ih (i + 1) μ1 (by omega) (by omega) q1.1 q1.2.1 (fun v l hp hl => ?_)
      by_cases h5 : l.length ≤ i
      · exact q1.2.2 v (by have := w_pt_K H hr hp List.mem_cons_self; omega) (h3 v l hp h5)
      · cases l with
        | nil => exact absurd (Nat.zero_le _) h5
        | cons y l =>
          rw [List.length_cons] at hl
          exact q3 y v (w_EK_lt H _ _ hp.1).2 (w_EK_lt H _ _ hp.1).1 (h3 y l hp.2.2 (by omega)) (w_EK_symm H _ _ hp.1)
theorem w_ex0 (hr : r < 10) {K : z_Mem → Int32 → Option z_Mem} {μ0 : z_Mem} : ∀ (f i : Nat) (μ : z_Mem), i ≤ 10 → 10 - i < f → (∀ q, q ≠ 249 → μ q = μ0 q) → (∀ v, v < i → μ 249 v = if v = r then Int32.ofNat r else -1) → ∃ μ', pm_explores_L2 f (Int32.ofNat r) K μ (Int32.ofNat i) = K μ' (Int32.ofNat 10) ∧ (∀ q, q ≠ 249 → μ' q = μ0 q) ∧ ∀ v, v < 10 → μ' 249 v = if v = r then Int32.ofNat r else -1 := by
  intro f
  induction f with
  | zero => intro i μ _ h; omega
  | succ f ih =>
    intro i μ hi hf h1 h2
    show ∃ μ', pm_explores_L2_B (pm_explores_L2 f (Int32.ofNat r) K) (Int32.ofNat r) K μ (Int32.ofNat i) = K μ' (Int32.ofNat 10) ∧ _
    unfold pm_explores_L2_B
    by_cases h : i = 10
    · subst h
      rw [if_pos (by decide)]
      exact ⟨μ, rfl, h1, h2⟩
    · rw [if_neg (fun hc => h (by have := (w_lel (by omega) (by omega)).mp hc; omega))]
      have hin : z_inb (Int32.ofNat i) 10 = true := (w_inn (by omega)).mpr (by omega)
      by_cases hir : i = r
      · subst hir
        rw [if_pos rfl, if_pos hin, w_tn (by omega), w_ar2]
        refine ih (i + 1) _ (by omega) (by omega) (fun q hq => (w_u_ne hq).trans (h1 q hq)) (fun v hv => ?_)
        by_cases hvi : v = i
        · subst hvi; rw [w_u_eq, if_pos rfl]
        · rw [w_u_at hvi]; exact h2 v (by omega)
      · rw [if_neg (fun q => hir ((w_eq (by omega) (by omega)).mp q)), if_pos hin, w_tn (by omega), w_ar2]
        refine ih (i + 1) _ (by omega) (by omega) (fun q hq => (w_u_ne hq).trans (h1 q hq)) (fun v hv => ?_)
        by_cases hvi : v = i
        · subst hvi; rw [w_u_eq, if_neg hir]
        · rw [w_u_at hvi]; exact h2 v (by omega)
/-- the reference's exploration from r -/
theorem w_explores {μ : z_Mem} (H : w_CT c G M) (hr : r < G) (R : w_Rf c G M (μ 242)) : ∃ μ', pm_explores μ (Int32.ofNat r) = some μ' ∧ (∀ q, q ≠ 249 → μ' q = μ q) ∧ w_BI c M r (μ' 249) ∧ ∀ v l, w_pt (w_EK c M) r (v :: l) → ¬ μ' 249 v = -1 := by
  have hG := H.2.2.1
  obtain ⟨μ1, e1, q1, q2⟩ := w_ex0 (r := r) (by omega) (K := fun M6 k5 => pm_explores_L32 z_fu (Int32.ofNat r) (fun M38 k37 => some M38) M6 0) (μ0 := μ) z_fu 0 μ (by omega) (by decide) (fun _ _ => rfl) (fun v hv => absurd hv (Nat.not_lt_zero _))
  obtain ⟨μ2, e2, q3, q4, q5⟩ := w_exR (μ0 := μ) H hr R (f1 := Int32.ofNat r) (K := fun M38 k37 => some M38) z_fu 0 μ1 (by omega) (by decide) q1 (fun v hv hne => by
    rw [q2 v hv] at hne
    by_cases hvr : v = r
    · subst hvr
      exact ⟨[], rfl, rfl, by rw [q2 v hv, if_pos rfl]⟩
    · rw [if_neg hvr] at hne
      exact absurd rfl hne) (fun v l hp hl => by
    cases l with
    | nil =>
      have h3 : v = r := hp
      subst h3
      rw [q2 v (by omega), if_pos rfl]
      exact w_nneg (k := 1) (by omega) (by decide) (by decide)
    | cons y l => rw [List.length_cons] at hl; omega)
  refine ⟨μ2, ?_, q3, q4, q5⟩
  unfold pm_explores
  exact e1.trans e2
theorem w_isConn {μ : z_Mem} (H : w_CT c G M) (hr : r < G) (R : w_Rf c G M (μ 242)) {v : Nat} (hv : v < G) : ∃ k μ', pm_isConnected μ (Int32.ofNat r) (Int32.ofNat v) = some (k, μ') ∧ (∀ q, q ≠ 249 → μ' q = μ q) ∧ ((k = 0 ∧ ¬ ∃ p, w_pt (w_EK c M) r (v :: p)) ∨ (k = 1 ∧ ∃ p, w_pt (w_EK c M) r (v :: p) ∧ w_Bk (μ' 249) r (v :: p))) := by
  have hG := H.2.2.1
  obtain ⟨μ', e1, q1, q2, q3⟩ := w_explores H hr R
  unfold pm_isConnected
  rw [e1]
  dsimp only [Option.bind_some]
  rw [w_rdn (by omega) (by omega)]
  dsimp only [Option.bind_some]
  by_cases h : μ' 249 v = -1
  · rw [if_pos h]
    exact ⟨_, _, rfl, q1, Or.inl ⟨rfl, fun ⟨p, hp⟩ => q3 v p hp h⟩⟩
  · rw [if_neg h]
    obtain ⟨p, h1, h2⟩ := q2 v (by omega) h
    exact ⟨_, _, rfl, q1, Or.inr ⟨rfl, p, h1, h2⟩⟩
end
end ZCHA
