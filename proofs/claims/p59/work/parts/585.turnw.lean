/-! The reference's turning, to its end. -/
section ZTUW
section
variable {c : w_Cl} {G M r : Nat} {b : Int32} {μ0 μ : z_Mem}
noncomputable abbrev w_tvc (c : w_Cl) (M : Nat) (b : Int32) : List Nat → Int32 := w_tv (w_gp c M) (w_sl c M) b
theorem w_TR_248 {D P : Nat → Prop} {μ' : z_Mem} (h : ∀ q, q ≠ 248 → μ' q = μ q) (T : w_TR c M r b μ0 D P μ) : w_TR c M r b μ0 D P μ' := by
  unfold w_TR
  rw [h 242 (by decide)]
  exact ⟨fun q h1 h2 => (h q h2).trans (T.1 q h1 h2), T.2⟩
theorem w_fc_at {p0 p p' : Nat → Int32} {v : Nat} (h : p v = p' v) : w_fc p0 p v = w_fc p0 p' v := by unfold w_fc; rw [h]
/-- how many have turned -/
def w_cnt (μ0 μ : z_Mem) : Int32 := w_S (w_fc (fun v => μ0 242 (17 + v)) (fun v => μ 242 (17 + v))) 10
def w_RI (c : w_Cl) (G M r : Nat) (b : Int32) (μ0 : z_Mem) (dl : List Nat) (x : Nat) (l : List Nat) (i : Nat) (L : List (List Nat)) (μ : z_Mem) : Prop :=
  w_TR c M r b μ0 (fun w => w ∈ x :: dl) (fun w => (∃ y l', w_pt (w_EK c M) r (w :: y :: l') ∧ y ∈ dl) ∨ (w < i ∧ w_pt (w_EK c M) r (w :: x :: l))) μ ∧
  w_stk (w_tvc c M b) (μ 248) L ∧
  (∀ p, p ∈ L → w_pt (w_EK c M) r p ∧ w_tvc c M b p ≠ 0 ∧ (p = [r] ∨ ∃ k y l', p = k :: y :: l' ∧ (y ∈ dl ∨ (y = x ∧ k < i)))) ∧
  (x :: dl ++ L.map w_hd).Nodup ∧
  (∀ w, w ∈ x :: dl → w < G) ∧
  (∀ v y l', v ∈ x :: dl → w_pt (w_EK c M) r (v :: y :: l') → y ∈ dl) ∧
  (∀ k y l', w_pt (w_EK c M) r (k :: y :: l') → (y ∈ dl ∨ (y = x ∧ k < i)) → w_tvc c M b (k :: y :: l') ≠ 0 → k ∈ x :: dl ∨ k ∈ L.map w_hd) ∧
  (r ∈ x :: dl ∨ r ∈ L.map w_hd)
theorem w_RI_skip (H : w_CT c G M) {dl : List Nat} {x i : Nat} {l : List Nat} {L : List (List Nat)} (hp : w_pt (w_EK c M) r (x :: l)) (h : ¬ w_pt (w_EK c M) r (i :: x :: l)) (I : w_RI c G M r b μ0 dl x l i L μ) : w_RI c G M r b μ0 dl x l (i + 1) L μ := by
  obtain ⟨h1, h2, h3, h4, h5, h6, h7, h8⟩ := I
  have hc : ∀ w, ((∃ y l', w_pt (w_EK c M) r (w :: y :: l') ∧ y ∈ dl) ∨ (w < i ∧ w_pt (w_EK c M) r (w :: x :: l))) ↔ ((∃ y l', w_pt (w_EK c M) r (w :: y :: l') ∧ y ∈ dl) ∨ (w < i + 1 ∧ w_pt (w_EK c M) r (w :: x :: l))) := by
    intro w
    refine or_congr_right ⟨fun q => ⟨by omega, q.2⟩, fun q => ⟨?_, q.2⟩⟩
    by_cases hw : w = i
    · subst hw; exact absurd q.2 h
    · omega
  refine ⟨w_TR_cong (fun w => Iff.rfl) hc h1, h2, fun p hp' => ?_, h4, h5, h6, fun k y l' q1 q2 q3 => ?_, h8⟩
  · obtain ⟨a1, a2, a3⟩ := h3 p hp'
    refine ⟨a1, a2, a3.imp_right ?_⟩
    rintro ⟨k, y, l', e, a4⟩
    exact ⟨k, y, l', e, a4.imp_right (fun a5 => ⟨a5.1, by omega⟩)⟩
  · refine h7 k y l' q1 (q2.imp_right (fun q4 => ⟨q4.1, ?_⟩)) q3
    by_cases hk : k = i
    · subst hk
      obtain ⟨rfl, -⟩ := q4
      have := w_EK_uni H r y l' l q1.2.2 hp
      subst this
      exact absurd q1 h
    · omega
theorem w_twI (H : w_CT c G M) (hr : r < G) (hR : w_Rf c G M (μ0 242)) {dl : List Nat} {x : Nat} {l : List Nat} (hp : w_pt (w_EK c M) r (x :: l)) {f1 f2 f3 : Int32} {K : z_Mem → Int32 → Int32 → Option (Int32 × z_Mem)} (C : Int32) : ∀ (f i : Nat) (μ : z_Mem) (L : List (List Nat)), i ≤ G → G - i < f → w_RI c G M r b μ0 dl x l i L μ → w_cnt μ0 μ = C →
    ∃ L' μ', pm_turnsAll_L107 f f1 f2 f3 (Int32.ofNat x) (w_tvc c M b (x :: l)) (w_par l) K μ (Int32.ofNat L.length) (Int32.ofNat i) = K μ' (Int32.ofNat L'.length) (Int32.ofNat G) ∧ w_RI c G M r b μ0 dl x l G L' μ' ∧ w_cnt μ0 μ' = C := by
  have hG := H.2.2.1
  have hu := w_EK_uni H
  have hxG : x < G := w_pt_K H hr hp List.mem_cons_self
  intro f
  induction f with
  | zero => intro i μ L _ h; omega
  | succ f ih =>
    intro i μ L hi hf I hC
    show ∃ (L' : List (List Nat)) (μ' : z_Mem), pm_turnsAll_L107_B (pm_turnsAll_L107 f f1 f2 f3 (Int32.ofNat x) (w_tvc c M b (x :: l)) (w_par l) K) f1 f2 f3 (Int32.ofNat x) (w_tvc c M b (x :: l)) (w_par l) K μ (Int32.ofNat L.length) (Int32.ofNat i) = K μ' (Int32.ofNat L'.length) (Int32.ofNat G) ∧ _
    unfold pm_turnsAll_L107_B
    have hRf := w_TR_Rf H hR I.1
    rw [hRf.1]
    by_cases h : G ≤ i
    · rw [if_pos ((w_le (by omega) (by omega)).mpr h)]
      have : i = G := by omega
      subst this
      exact ⟨L, μ, rfl, I, hC⟩
    · have hiG : i < G := by omega
      rw [if_neg (fun hc => h ((w_le (by omega) (by omega)).mp hc)), show Int32.ofNat i + 1 = Int32.ofNat (i + 1) from w_ar2]
      have same : ¬ w_pt (w_EK c M) r (i :: x :: l) → ∃ L' μ', pm_turnsAll_L107 f f1 f2 f3 (Int32.ofNat x) (w_tvc c M b (x :: l)) (w_par l) K μ (Int32.ofNat L.length) (Int32.ofNat (i + 1)) = K μ' (Int32.ofNat L'.length) (Int32.ofNat G) ∧ w_RI c G M r b μ0 dl x l G L' μ' ∧ w_cnt μ0 μ' = C :=
        fun hn => ih (i + 1) μ L (by omega) (by omega) (w_RI_skip H hp hn I) hC
      by_cases hpar : l.head? = some i
      · have hw : Int32.ofNat i = w_par l := by
          cases l with
          | nil => cases hpar
          | cons y l => cases hpar; rfl
        rw [if_pos hw]
        exact same (fun q => q.2.1 (List.mem_cons_of_mem _ (List.mem_of_mem_head? hpar)))
      · have hw : ¬ Int32.ofNat i = w_par l := by
          cases l with
          | nil => exact w_nneg (k := 1) (by omega) (by decide) (by decide)
          | cons y l =>
            have hy := w_pt_K H hr hp (x := y) (List.mem_cons_of_mem _ List.mem_cons_self)
            exact fun q => hpar (by rw [(w_eq (by omega) (by omega)).mp q]; rfl)
        rw [if_neg hw]
        by_cases hE : w_EK c M x i
        · have hpi := w_extK H hp (w_EK_symm H _ _ hE) hpar
          rw [w_isMeshY H hRf hE]
          dsimp only [Option.bind_some]
          rw [if_neg (by decide)]
          have hxdl : ¬ x ∈ dl := fun q => (List.nodup_cons.mp I.2.2.2.1).1 (List.mem_append_left _ q)
          have hix : i ≠ x := fun q => hpi.2.1 (by rw [q]; exact List.mem_cons_self)
          have hidl : ¬ i ∈ x :: dl := by
            intro q
            rcases List.mem_cons.mp q with q | q
            · exact hix q
            · exact hxdl (I.2.2.2.2.2.1 i x l (List.mem_cons_of_mem _ q) hpi)
          have hiL : ¬ i ∈ L.map w_hd := by
            intro q
            obtain ⟨p, q1, q2⟩ := List.mem_map.mp q
            obtain ⟨a1, a2, a3⟩ := I.2.2.1 p q1
            rcases a3 with rfl | ⟨k, y, l', rfl, a4⟩
            · have : r = i := q2
              subst this
              exact hpi.2.1 (w_pt_r hp)
            · have : k = i := q2
              subst this
              have := hu r k _ _ a1 hpi
              cases this
              rcases a4 with a4 | ⟨-, a4⟩
              · exact hxdl a4
              · omega
          have hnP : ¬ ((∃ y l', w_pt (w_EK c M) r (i :: y :: l') ∧ y ∈ dl) ∨ (i < i ∧ w_pt (w_EK c M) r (i :: x :: l))) := by
            rintro (⟨y, l', q1, q2⟩ | ⟨q1, -⟩)
            · have := hu r i _ _ q1 hpi
              cases this
              exact hxdl q2
            · omega
          obtain ⟨μ1, e1, T1, e2, e3⟩ := w_TR_gap H hr hR I.1 hpi hnP
          rw [show pm_passesOn μ (Int32.ofNat x) (Int32.ofNat i) (w_tvc c M b (x :: l)) = _ from e1]
          dsimp only [Option.bind_some]
          have hP' : ∀ w, (((∃ y l', w_pt (w_EK c M) r (w :: y :: l') ∧ y ∈ dl) ∨ (w < i ∧ w_pt (w_EK c M) r (w :: x :: l))) ∨ w = i) ↔ ((∃ y l', w_pt (w_EK c M) r (w :: y :: l') ∧ y ∈ dl) ∨ (w < i + 1 ∧ w_pt (w_EK c M) r (w :: x :: l))) := by
            intro w
            constructor
            · rintro ((q | ⟨q1, q2⟩) | rfl)
              · exact Or.inl q
              · exact Or.inr ⟨by omega, q2⟩
              · exact Or.inr ⟨by omega, hpi⟩
            · rintro (q | ⟨q1, q2⟩)
              · exact Or.inl (Or.inl q)
              · by_cases hwi : w = i
                · exact Or.inr hwi
                · exact Or.inl (Or.inr ⟨by omega, q2⟩)
          have T2 := w_TR_cong (fun w => Iff.rfl) hP' T1
          have hC1 : w_cnt μ0 μ1 = C := by
            rw [← hC]
            exact w_S_cong (fun v hv => w_fc_at (e3 v hv))
          have old7 : ∀ k y l', w_pt (w_EK c M) r (k :: y :: l') → (y ∈ dl ∨ (y = x ∧ k < i + 1)) → w_tvc c M b (k :: y :: l') ≠ 0 → k ≠ i → k ∈ x :: dl ∨ k ∈ L.map w_hd :=
            fun k y l' q1 q2 q3 q4 => I.2.2.2.2.2.2.1 k y l' q1 (q2.imp_right (fun q5 => ⟨q5.1, by omega⟩)) q3
          have old3 : ∀ p, p ∈ L → w_pt (w_EK c M) r p ∧ w_tvc c M b p ≠ 0 ∧ (p = [r] ∨ ∃ k y l', p = k :: y :: l' ∧ (y ∈ dl ∨ (y = x ∧ k < i + 1))) := by
            intro p hp'
            obtain ⟨a1, a2, a3⟩ := I.2.2.1 p hp'
            refine ⟨a1, a2, a3.imp_right ?_⟩
            rintro ⟨k, y, l', e, a4⟩
            exact ⟨k, y, l', e, a4.imp_right (fun a5 => ⟨a5.1, by omega⟩)⟩
          by_cases hq : w_tvc c M b (i :: x :: l) = 0
          · rw [if_pos hq]
            refine ih (i + 1) μ1 L (by omega) (by omega) ⟨T2, by rw [e2]; exact I.2.1, old3, I.2.2.2.1, I.2.2.2.2.1, I.2.2.2.2.2.1, fun k y l' q1 q2 q3 => ?_, I.2.2.2.2.2.2.2⟩ hC1
            by_cases hk : k = i
            · subst hk
              have := hu r k _ _ q1 hpi
              cases this
              exact absurd hq q3
            · exact old7 k y l' q1 q2 q3 hk
          · rw [if_neg hq]
            have hnd : (x :: dl ++ (L.map w_hd)).Nodup := I.2.2.2.1
            have hnd2 : (i :: (x :: dl ++ (L.map w_hd))).Nodup := List.nodup_cons.mpr ⟨fun q => (List.mem_append.mp q).elim hidl hiL, hnd⟩
            have hlen : (i :: (x :: dl ++ (L.map w_hd))).length ≤ 10 := by
              have h1 := List.Nodup.length_le_of_subset hnd2 (l₂ := List.range G) (fun w hw => by
                rw [List.mem_range]
                rcases List.mem_cons.mp hw with rfl | hw
                · exact hiG
                · rcases List.mem_append.mp hw with hw | hw
                  · exact I.2.2.2.2.1 w hw
                  · obtain ⟨p, q1, rfl⟩ := List.mem_map.mp hw
                    obtain ⟨a1, -, a3⟩ := I.2.2.1 p q1
                    cases p with
                    | nil => exact a1.elim
                    | cons k p => exact w_pt_K H hr a1 List.mem_cons_self)
              rw [List.length_range] at h1
              omega
            have hL : L.length ≤ 8 := by
              simp only [List.length_cons, List.length_append, List.length_map] at hlen
              omega
            rw [show 3 * Int32.ofNat L.length = Int32.ofNat (3 * L.length) from w_ml]
            rw [show Int32.ofNat (3 * L.length) + 1 = Int32.ofNat (3 * L.length + 1) from w_ar2, show Int32.ofNat (3 * L.length) + 2 = Int32.ofNat (3 * L.length + 2) from w_ar2, show Int32.ofNat L.length + 1 = Int32.ofNat (L.length + 1) from w_ar2]
            rw [if_pos ((w_inn (by omega)).mpr (by omega)), if_pos ((w_inn (by omega)).mpr (by omega)), if_pos ((w_inn (by omega)).mpr (by omega)), w_tn (by omega), w_tn (by omega), w_tn (by omega)]
            refine ih (i + 1) _ ((i :: x :: l) :: L) (by omega) (by omega) ⟨w_TR_248 (fun q hq' => by rw [w_u_ne hq', w_u_ne hq', w_u_ne hq']) T2, ⟨?_, ?_, ?_, ?_⟩, fun p hp' => ?_, ?_, I.2.2.2.2.1, I.2.2.2.2.2.1, fun k y l' q1 q2 q3 => ?_, ?_⟩ ?_
            · rw [w_u_at (by omega), w_u_at (by omega), w_u_eq]; rfl
            · rw [w_u_at (by omega), w_u_eq]
            · rw [w_u_eq]; rfl
            · refine w_stk_cong (fun j hj => ?_) I.2.1
              rw [w_u_at (by omega), w_u_at (by omega), w_u_at (by omega), e2]
            · rcases List.mem_cons.mp hp' with rfl | hp'
              · exact ⟨hpi, hq, Or.inr ⟨i, x, l, rfl, Or.inr ⟨rfl, by omega⟩⟩⟩
              · exact old3 p hp'
            · exact List.perm_middle.nodup_iff.mpr hnd2
            · by_cases hk : k = i
              · exact Or.inr (List.mem_cons.mpr (Or.inl hk))
              · exact (old7 k y l' q1 q2 q3 hk).imp_right (List.mem_cons_of_mem _)
            · exact I.2.2.2.2.2.2.2.imp_right (List.mem_cons_of_mem _)
            · rw [← hC1]
              refine w_S_cong (fun v hv => w_fc_at ?_)
              rw [w_u_ne (by decide), w_u_ne (by decide), w_u_ne (by decide)]
        · rw [w_isMeshN H hRf hxG hiG hE]
          dsimp only [Option.bind_some]
          rw [if_pos rfl]
          exact same (fun q => hE (w_EK_symm H _ _ q.1))
/-- between the gears -/
def w_RO (c : w_Cl) (G M r : Nat) (b : Int32) (μ0 : z_Mem) (dl : List Nat) (L : List (List Nat)) (μ : z_Mem) : Prop :=
  w_TR c M r b μ0 (fun w => w ∈ dl) (fun w => ∃ y l', w_pt (w_EK c M) r (w :: y :: l') ∧ y ∈ dl) μ ∧
  w_stk (w_tvc c M b) (μ 248) L ∧
  (∀ p, p ∈ L → w_pt (w_EK c M) r p ∧ w_tvc c M b p ≠ 0 ∧ (p = [r] ∨ ∃ k y l', p = k :: y :: l' ∧ y ∈ dl)) ∧
  (dl ++ L.map w_hd).Nodup ∧
  (∀ w, w ∈ dl → w < G) ∧
  (∀ v y l', v ∈ dl → w_pt (w_EK c M) r (v :: y :: l') → y ∈ dl) ∧
  (∀ k y l', w_pt (w_EK c M) r (k :: y :: l') → y ∈ dl → w_tvc c M b (k :: y :: l') ≠ 0 → k ∈ dl ∨ k ∈ L.map w_hd) ∧
  (r ∈ dl ∨ r ∈ L.map w_hd)
theorem w_RO_of (H : w_CT c G M) (hr : r < G) {dl : List Nat} {x : Nat} {l : List Nat} {L : List (List Nat)} (hp : w_pt (w_EK c M) r (x :: l)) (I : w_RI c G M r b μ0 dl x l G L μ) : w_RO c G M r b μ0 (x :: dl) L μ := by
  have hu := w_EK_uni H
  obtain ⟨h1, h2, h3, h4, h5, h6, h7, h8⟩ := I
  refine ⟨w_TR_cong (fun w => Iff.rfl) (fun w => ⟨?_, ?_⟩) h1, h2, fun p hp' => ?_, h4, h5, fun v y l' q1 q2 => List.mem_cons_of_mem _ (h6 v y l' q1 q2), fun k y l' q1 q2 q3 => ?_, h8⟩
  · rintro (⟨y, l', q1, q2⟩ | ⟨q1, q2⟩)
    · exact ⟨y, l', q1, List.mem_cons_of_mem _ q2⟩
    · exact ⟨x, l, q2, List.mem_cons_self⟩
  · rintro ⟨y, l', q1, q2⟩
    rcases List.mem_cons.mp q2 with rfl | q2
    · have := hu r y l' l q1.2.2 hp
      subst this
      exact Or.inr ⟨w_pt_K H hr q1 List.mem_cons_self, q1⟩
    · exact Or.inl ⟨y, l', q1, q2⟩
  · obtain ⟨a1, a2, a3⟩ := h3 p hp'
    refine ⟨a1, a2, a3.imp_right ?_⟩
    rintro ⟨k, y, l', e, a4⟩
    exact ⟨k, y, l', e, a4.elim (List.mem_cons_of_mem _) (fun a5 => by rw [a5.1]; exact List.mem_cons_self)⟩
  · refine h7 k y l' q1 ?_ q3
    rcases List.mem_cons.mp q2 with rfl | q2
    · exact Or.inr ⟨rfl, w_pt_K H hr q1 List.mem_cons_self⟩
    · exact Or.inl q2
theorem w_twO (H : w_CT c G M) (hr : r < G) (hR : w_Rf c G M (μ0 242)) {f1 f2 : Int32} {K : z_Mem → Int32 → Int32 → Option (Int32 × z_Mem)} : ∀ (f : Nat) (μ : z_Mem) (dl : List Nat) (L : List (List Nat)), 10 - dl.length < f → w_RO c G M r b μ0 dl L μ →
    ∃ dl' μ', pm_turnsAll_L26 f f1 f2 K μ (w_cnt μ0 μ) (Int32.ofNat L.length) = K μ' (w_cnt μ0 μ') 0 ∧ w_RO c G M r b μ0 dl' [] μ' := by
  have hG := H.2.2.1
  have hu := w_EK_uni H
  intro f
  induction f with
  | zero => intro μ dl L h; omega
  | succ f ih =>
    intro μ dl L hf I
    show ∃ dl' μ', pm_turnsAll_L26_B (pm_turnsAll_L26 f f1 f2 K) f1 f2 K μ (w_cnt μ0 μ) (Int32.ofNat L.length) = K μ' (w_cnt μ0 μ') 0 ∧ _
    unfold pm_turnsAll_L26_B
    cases L with
    | nil =>
      rw [if_pos (by decide)]
      exact ⟨dl, μ, rfl, I⟩
    | cons p L =>
      obtain ⟨h1, h2, h3, h4, h5, h6, h7, h8⟩ := I
      obtain ⟨a1, a2, a3⟩ := h3 p List.mem_cons_self
      cases p with
      | nil => exact a1.elim
      | cons x l =>
        have hxG : x < G := w_pt_K H hr a1 List.mem_cons_self
        have hnd2 : (x :: (dl ++ L.map w_hd)).Nodup := List.perm_middle.nodup_iff.mp h4
        have hxdl : ¬ x ∈ dl := fun q => (List.nodup_cons.mp hnd2).1 (List.mem_append_left _ q)
        have hlen : (x :: (dl ++ L.map w_hd)).length ≤ 10 := by
          have g1 := List.Nodup.length_le_of_subset hnd2 (l₂ := List.range G) (fun w hw => by
            rw [List.mem_range]
            rcases List.mem_cons.mp hw with rfl | hw
            · exact hxG
            · rcases List.mem_append.mp hw with hw | hw
              · exact h5 w hw
              · obtain ⟨p, q1, rfl⟩ := List.mem_map.mp hw
                obtain ⟨a1, -, -⟩ := h3 p (List.mem_cons_of_mem _ q1)
                cases p with
                | nil => exact a1.elim
                | cons k p => exact w_pt_K H hr a1 List.mem_cons_self)
          rw [List.length_range] at g1
          omega
        simp only [List.length_cons, List.length_append, List.length_map] at hlen
        obtain ⟨s1, s2, s3, s4⟩ := h2
        rw [List.length_cons, if_neg (fun q => by have : L.length + 1 ≤ 0 := (w_ler (k := 0) (by decide) (by omega)).mp q; omega)]
        rw [show Int32.ofNat (L.length + 1) + (-1) = Int32.ofNat L.length by
          rw [Int32.add_neg_eq_sub, w_sr (k := 1) (show 1 ≤ L.length + 1 by omega)]; rfl]
        rw [show 3 * Int32.ofNat L.length = Int32.ofNat (3 * L.length) from w_ml]
        rw [show Int32.ofNat (3 * L.length) + 1 = Int32.ofNat (3 * L.length + 1) from w_ar2, show Int32.ofNat (3 * L.length) + 2 = Int32.ofNat (3 * L.length + 2) from w_ar2]
        rw [w_rdn (by omega) (by omega), w_rdn (by omega) (by omega), w_rdn (by omega) (by omega), s1, s2, s3]
        dsimp only [Option.bind_some]
        rw [show Int32.ofNat (w_hd (x :: l)) = Int32.ofNat x from rfl, w_al, w_rdn (by omega) (by omega)]
        dsimp only [Option.bind_some]
        rw [if_pos ((w_inn (by omega)).mpr (by omega)), w_size, w_tn (by omega)]
        dsimp only [Option.bind_some]
        have hpos : μ 242 (17 + x) = μ0 242 (17 + x) := h1.2.2.1.2.1 x (by omega) (fun h => hxdl h.1)
        have f0 : ∀ v w : Int32, z_u (z_u μ 242 (17 + x) v) 242 6 w 248 = μ 248 := fun v w => by rw [w_u_ne (by decide), w_u_ne (by decide)]
        have f1' : ∀ v w : Int32, (fun k => z_u (z_u μ 242 (17 + x) v) 242 6 w 242 (17 + k)) = upd (fun k => μ 242 (17 + k)) x v := by
          intro v w
          funext k
          rw [w_u_at (by omega)]
          unfold upd
          by_cases hk : k = x
          · subst hk; rw [w_u_eq, if_pos rfl]
          · rw [w_u_at (by omega), if_neg hk]
        have f2' : ∀ v w : Int32, (fun p q => z_u (z_u μ 242 (17 + x) v) 242 6 w 242 (127 + w_pr p q)) = (fun p q => μ 242 (127 + w_pr p q)) := by
          intro v w
          funext p q
          rw [w_u_at (by omega), w_u_at (by omega)]
        have f3' : ∀ v : Int32, z_u μ 242 (17 + x) v 242 6 = μ 242 6 := fun v => w_u_at (by omega)
        rw [f3']
        have hw : w_tvc c M b (x :: l) ≠ 0 := a2
        have T1 : w_TR c M r b μ0 (fun w => w ∈ x :: dl) (fun w => (∃ y l', w_pt (w_EK c M) r (w :: y :: l') ∧ y ∈ dl) ∨ (w < 0 ∧ w_pt (w_EK c M) r (w :: x :: l))) (z_u (z_u μ 242 (17 + x) (μ 242 (17 + x) + w_tvc c M b (x :: l))) 242 6 (μ 242 6 + w_abs (w_tvc c M b (x :: l)))) := by
          refine ⟨fun q g1 g2 => ?_, fun j g1 g2 g3 => ?_, ?_, ?_⟩
          · rw [w_u_ne g1, w_u_ne g1]; exact h1.1 q g1 g2
          · rw [w_u_at g1, w_u_at (by omega)]; exact h1.2.1 j g1 g2 g3
          · rw [f1', f2']
            refine w_TQ_cong (fun w => ?_) (fun w => ?_) (w_TQ_pos hu h1.2.2.1 a1 (by omega) hxdl)
            · rw [List.mem_cons, or_comm]
            · exact ⟨Or.inl, fun h => h.elim id (fun q => absurd q.1 (Nat.not_lt_zero _))⟩
          · rw [f1', w_u_eq, w_fs_one (pos := fun k => μ 242 (17 + k)) (by omega) hpos, h1.2.2.2, Int32.add_assoc]
        have hcnt : w_cnt μ0 (z_u (z_u μ 242 (17 + x) (μ 242 (17 + x) + w_tvc c M b (x :: l))) 242 6 (μ 242 6 + w_abs (w_tvc c M b (x :: l)))) = w_cnt μ0 μ + 1 := by
          unfold w_cnt
          rw [f1']
          exact w_fc_one (pos := fun k => μ 242 (17 + k)) (by omega) hpos hw
        rw [← hcnt]
        have I0 : w_RI c G M r b μ0 dl x l 0 L (z_u (z_u μ 242 (17 + x) (μ 242 (17 + x) + w_tvc c M b (x :: l))) 242 6 (μ 242 6 + w_abs (w_tvc c M b (x :: l)))) := by
          refine ⟨T1, by rw [f0]; exact s4, fun p hp' => ?_, hnd2, fun w hw => ?_, fun v y l' q1 q2 => ?_, fun k y l' q1 q2 q3 => ?_, ?_⟩
          · obtain ⟨g1, g2, g3⟩ := h3 p (List.mem_cons_of_mem _ hp')
            refine ⟨g1, g2, g3.imp_right ?_⟩
            rintro ⟨k, y, l', e, g4⟩
            exact ⟨k, y, l', e, Or.inl g4⟩
          · rcases List.mem_cons.mp hw with rfl | hw
            · exact hxG
            · exact h5 w hw
          · rcases List.mem_cons.mp q1 with rfl | q1
            · have := hu r v _ _ q2 a1
              subst this
              rcases a3 with a3 | ⟨k, y', l'', e, g4⟩
              · cases a3
              · cases e; exact g4
            · exact h6 v y l' q1 q2
          · rcases q2 with q2 | ⟨-, q2⟩
            · rcases h7 k y l' q1 q2 q3 with g | g
              · exact Or.inl (List.mem_cons_of_mem _ g)
              · rcases List.mem_cons.mp g with g | g
                · exact Or.inl (List.mem_cons.mpr (Or.inl g))
                · exact Or.inr g
            · omega
          · rcases h8 with g | g
            · exact Or.inl (List.mem_cons_of_mem _ g)
            · rcases List.mem_cons.mp g with g | g
              · exact Or.inl (List.mem_cons.mpr (Or.inl g))
              · exact Or.inr g
        obtain ⟨L', μ', e1, I1, e2⟩ := w_twI H hr hR a1 (f1 := f1) (f2 := f2) (f3 := w_cnt μ0 (z_u (z_u μ 242 (17 + x) (μ 242 (17 + x) + w_tvc c M b (x :: l))) 242 6 (μ 242 6 + w_abs (w_tvc c M b (x :: l))))) (K := fun M28 k26 k27 => pm_turnsAll_L26 f f1 f2 K M28 (w_cnt μ0 (z_u (z_u μ 242 (17 + x) (μ 242 (17 + x) + w_tvc c M b (x :: l))) 242 6 (μ 242 6 + w_abs (w_tvc c M b (x :: l))))) k26) _ z_fu 0 _ L (Nat.zero_le _) (by show G - 0 < 3000; omega) I0 rfl
        refine (show ∃ dl' μ', pm_turnsAll_L107 z_fu f1 f2 _ (Int32.ofNat x) (w_tvc c M b (x :: l)) (w_par l) _ _ (Int32.ofNat L.length) (Int32.ofNat 0) = K μ' (w_cnt μ0 μ') 0 ∧ w_RO c G M r b μ0 dl' [] μ' from ?_)
        rw [e1]
        rw [← e2]
        exact ih μ' (x :: dl) L' (by rw [List.length_cons]; omega) (w_RO_of H hr a1 I1)
/-- the reference's turn -/
theorem w_turnM (H : w_CT c G M) (hr : r < G) (hR : w_Rf c G M (μ0 242)) (hg : ∀ x y, w_EK c M x y → μ0 242 (127 + w_pr x y) = w_gp c M x y) (hb : b ≠ 0) : ∃ dl μ', pm_turnsAll μ0 (Int32.ofNat r) b = some (w_cnt μ0 μ', μ') ∧ w_RO c G M r b μ0 dl [] μ' := by
  have hG := H.2.2.1
  have e248 : ∀ q, q ≠ 248 → z_u (z_u (z_u μ0 248 0 (Int32.ofNat r)) 248 1 b) 248 2 (-1) q = μ0 q := fun q hq => by rw [w_u_ne hq, w_u_ne hq, w_u_ne hq]
  have T0 : w_TR c M r b μ0 (fun w => w ∈ ([] : List Nat)) (fun w => ∃ y l', w_pt (w_EK c M) r (w :: y :: l') ∧ y ∈ ([] : List Nat)) (z_u (z_u (z_u μ0 248 0 (Int32.ofNat r)) 248 1 b) 248 2 (-1)) := by
    refine w_TR_248 e248 ⟨fun _ _ _ => rfl, fun _ _ _ _ => rfl, ⟨fun _ _ _ h => (List.not_mem_nil h).elim, fun _ _ _ => rfl, fun _ _ _ _ ⟨_, _, _, h⟩ => (List.not_mem_nil h).elim, fun x y h _ _ => hg x y h⟩, ?_⟩
    rw [w_fs_0, Int32.add_zero]
  have hs0 : w_stk (w_tvc c M b) (z_u (z_u (z_u μ0 248 0 (Int32.ofNat r)) 248 1 b) 248 2 (-1) 248) [[r]] := by
    refine ⟨?_, ?_, ?_, trivial⟩
    · show z_u (z_u (z_u μ0 248 0 (Int32.ofNat r)) 248 1 b) 248 2 (-1) 248 0 = Int32.ofNat r
      rw [w_u_at (by decide), w_u_at (by decide), w_u_eq]
    · show z_u (z_u (z_u μ0 248 0 (Int32.ofNat r)) 248 1 b) 248 2 (-1) 248 1 = b
      rw [w_u_at (by decide), w_u_eq]
    · show z_u (z_u (z_u μ0 248 0 (Int32.ofNat r)) 248 1 b) 248 2 (-1) 248 2 = -1
      rw [w_u_eq]
  have hp0 : ∀ p, p ∈ [[r]] → w_pt (w_EK c M) r p ∧ w_tvc c M b p ≠ 0 ∧ (p = [r] ∨ ∃ k y l', p = k :: y :: l' ∧ y ∈ ([] : List Nat)) := by
    intro p hp
    rw [List.mem_singleton] at hp
    subst hp
    exact ⟨rfl, hb, Or.inl rfl⟩
  have hn0 : (([] : List Nat) ++ ([[r]] : List (List Nat)).map w_hd).Nodup := List.nodup_cons.mpr ⟨List.not_mem_nil, List.nodup_nil⟩
  obtain ⟨dl, μ', e1, I⟩ := w_twO H hr hR (f1 := Int32.ofNat r) (f2 := b) (K := fun M31 k29 k30 => some (k29, M31)) z_fu _ [] [[r]] (by show 10 - 0 < 3000; omega) ⟨T0, hs0, hp0, hn0, fun w hw => (List.not_mem_nil hw).elim, fun v y l' h => (List.not_mem_nil h).elim, fun k y l' _ h => (List.not_mem_nil h).elim, Or.inr List.mem_cons_self⟩
  refine ⟨dl, μ', ?_, I⟩
  unfold pm_turnsAll
  refine Eq.trans ?_ e1
  have h0 : w_cnt μ0 (z_u (z_u (z_u μ0 248 0 (Int32.ofNat r)) 248 1 b) 248 2 (-1)) = 0 := by
    unfold w_cnt
    rw [e248 242 (by decide)]
    exact w_fc_0
  rw [h0]
  rfl
theorem w_RO_all (H : w_CT c G M) {dl : List Nat} (I : w_RO c G M r b μ0 dl [] μ) : (∀ v l, w_pt (w_EK c M) r (v :: l) → v ∈ dl ∨ w_tvc c M b (v :: l) = 0) ∧ ∀ x y l, w_pt (w_EK c M) r (x :: y :: l) → (∃ y' l', w_pt (w_EK c M) r (x :: y' :: l') ∧ y' ∈ dl) ∨ w_tvc c M b (y :: l) = 0 := by
  have h1 : ∀ l v, w_pt (w_EK c M) r (v :: l) → v ∈ dl ∨ w_tvc c M b (v :: l) = 0 := by
    intro l
    induction l with
    | nil =>
      intro v h
      have h2 : v = r := h
      subst h2
      rcases I.2.2.2.2.2.2.2 with h3 | h3
      · exact Or.inl h3
      · exact (List.not_mem_nil h3).elim
    | cons y l ih =>
      intro v h
      rcases ih y h.2.2 with h3 | h3
      · by_cases h4 : w_tvc c M b (v :: y :: l) = 0
        · exact Or.inr h4
        · rcases I.2.2.2.2.2.2.1 v y l h h3 h4 with h5 | h5
          · exact Or.inl h5
          · exact (List.not_mem_nil h5).elim
      · exact Or.inr (w_tv_0 (w_gs_of H) h3 (List.cons_ne_nil _ _) (m := [v]) h)
  exact ⟨fun v l h => h1 l v h, fun x y l h => (h1 l y h.2.2).imp_left (fun h2 => ⟨y, l, h, h2⟩)⟩
end
end ZTUW
