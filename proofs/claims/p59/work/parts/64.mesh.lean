/-! Meshes made and parted, in both. -/
section ZMSH
theorem w_walk_map {J J' : Nat → Nat → Nat → Prop} {S S' : Nat → Prop} {s : Nat → Nat} (h : ∀ e u v, S e → J e u v → S' (s e) ∧ J' (s e) u v) : ∀ {n u v}, w_walk J S n u v → w_walk J' S' n u v := by
  intro n
  induction n with
  | zero => intro u v h; exact h
  | succ n ih =>
    intro u v hw
    obtain ⟨e, w, h1, h2, h3⟩ := hw
    obtain ⟨h4, h5⟩ := h e u w h1 h2
    exact ⟨s e, w, h4, h5, ih h3⟩
theorem w_conn_map {J J' : Nat → Nat → Nat → Prop} {S S' : Nat → Prop} {s : Nat → Nat} (h : ∀ e u v, S e → J e u v → S' (s e) ∧ J' (s e) u v) {u v : Nat} (hc : w_conn J S u v) : w_conn J' S' u v := by
  obtain ⟨n, hn⟩ := hc
  exact ⟨n, w_walk_map h hn⟩
section
variable {c c' : w_Cl} {g g' : Nat → Int32} {G M u v s : Nat}
/-- one mesh more: the relation -/
theorem w_RM_add (H : w_CT c G M) (h2 : w_RM c g G M) (hu : u < G) (hv : v < G) (hs : s ≤ 5) (hno : ¬ w_cn c M M u v) (e1 : c' 1 1 = Int32.ofNat (M + 1)) (e4 : c' 4 = upd (c 4) M (Int32.ofNat u)) (e5 : c' 5 = upd (c 5) M (Int32.ofNat v)) (e6 : c' 6 = upd (c 6) M (Int32.ofNat s)) (e7 : c' 7 = upd (c 7) M 0)
    (f1 : g' (27 + w_pr u v) = Int32.ofNat (s + 1)) (f2 : g' (127 + w_pr u v) = 0) (f3 : ∀ j, 27 ≤ j → j < 227 → j ≠ 27 + w_pr u v → j ≠ 127 + w_pr u v → g' j = g j) : w_RM c' g' G (M + 1) ∧ w_RF c' (M + 1) := by
  obtain ⟨a1, a2, a3, a4, a5⟩ := h2
  have hG := H.2.2.1
  have hM9 := w_two H hu hv hno
  have hA : ∀ e, w_A c' e = if e = M then u else w_A c e := by
    intro e
    unfold w_A
    rw [e4]
    unfold upd
    by_cases he : e = M
    · rw [if_pos he, if_pos he, w_tn (by omega)]
    · rw [if_neg he, if_neg he]
  have hB : ∀ e, w_B c' e = if e = M then v else w_B c e := by
    intro e
    unfold w_B
    rw [e5]
    unfold upd
    by_cases he : e = M
    · rw [if_pos he, if_pos he, w_tn (by omega)]
    · rw [if_neg he, if_neg he]
  have hAM : w_A c' M = u := by rw [hA, if_pos rfl]
  have hBM : w_B c' M = v := by rw [hB, if_pos rfl]
  have hAo : ∀ e, e < M → w_A c' e = w_A c e := fun e he => by rw [hA, if_neg (by omega)]
  have hBo : ∀ e, e < M → w_B c' e = w_B c e := fun e he => by rw [hB, if_neg (by omega)]
  have huv : u ≠ v := fun q => hno (by rw [q]; exact w_conn_rfl)
  have hpuv := w_pr_lt (a := u) (b := v) (by omega) (by omega)
  have hnp : ∀ e, e < M → w_pr (w_A c e) (w_B c e) ≠ w_pr u v := by
    intro e he q
    obtain ⟨b1, b2, -⟩ := a3 e he
    have hJ : w_J c e u v := by
      rcases w_pr_inj (by omega) (by omega) (by omega) (by omega) q with ⟨h3, h4⟩ | ⟨h3, h4⟩
      · exact Or.inl ⟨h3, h4⟩
      · exact Or.inr ⟨h3, h4⟩
    exact hno (w_conn_one (show e < M from he) ⟨he, hJ⟩)
  constructor
  · refine ⟨e1, by omega, fun e he => ?_, fun e f he hf hp => ?_, fun a b hab hb => ?_⟩
    · by_cases heM : e = M
      · subst heM
        unfold w_Rm
        rw [hAM, hBM, e4, e5, e6, e7]
        refine ⟨hu, hv, huv, ?_, ?_, s, 0, Nat.zero_le _, hs, ?_, ?_, f1, f2⟩ <;> (unfold upd; rw [if_pos rfl])
        rfl
      · obtain ⟨b1, b2, b3, b4, b5, s', p, b6, b7, b8, b9, b10, b11⟩ := a3 e (by omega)
        have := w_pr_lt (a := w_A c e) (b := w_B c e) (by omega) (by omega)
        have hne := hnp e (by omega)
        unfold w_Rm
        rw [hAo e (by omega), hBo e (by omega), e4, e5, e6, e7, f3 _ (by omega) (by omega) (by omega) (by omega), f3 _ (by omega) (by omega) (by omega) (by omega)]
        unfold upd
        rw [if_neg heM, if_neg heM, if_neg heM, if_neg heM]
        exact ⟨b1, b2, b3, b4, b5, s', p, b6, b7, b8, b9, b10, b11⟩
    · by_cases heM : e = M
      · by_cases hfM : f = M
        · omega
        · subst heM
          rw [hAM, hBM, hAo f (by omega), hBo f (by omega)] at hp
          exact absurd hp.symm (hnp f (by omega))
      · by_cases hfM : f = M
        · subst hfM
          rw [hAM, hBM, hAo e (by omega), hBo e (by omega)] at hp
          exact absurd hp (hnp e (by omega))
        · rw [hAo e (by omega), hBo e (by omega), hAo f (by omega), hBo f (by omega)] at hp
          exact a4 e f (by omega) (by omega) hp
    · have := w_pr_lt (a := a) (b := b) (by omega) hb
      by_cases hp : w_pr a b = w_pr u v
      · exact Or.inr ⟨M, by omega, by rw [hAM, hBM]; exact hp.symm⟩
      · rcases a5 a b hab hb with h3 | ⟨e, he, h3⟩
        · exact Or.inl (by rw [f3 _ (by omega) (by omega) (by omega) (by omega)]; exact h3)
        · exact Or.inr ⟨e, by omega, by rw [hAo e he, hBo e he]; exact h3⟩
  · have hJd : w_Jd (fun e x y => e < M + 1 ∧ w_J c' e x y) := by
      have ends : ∀ e, e < M + 1 → w_A c' e ≠ w_B c' e := by
        intro e he
        by_cases heM : e = M
        · subst heM; rw [hAM, hBM]; exact huv
        · rw [hAo e (by omega), hBo e (by omega)]; exact (a3 e (by omega)).2.2.1
      refine ⟨fun e x y h => ⟨h.1, Or.symm h.2⟩, fun e x y h => ?_, fun e x y a b h h' => ?_⟩
      · have := ends e h.1
        rcases h.2 with ⟨rfl, rfl⟩ | ⟨rfl, rfl⟩
        · exact this
        · exact this.symm
      · rcases h.2 with ⟨rfl, rfl⟩ | ⟨rfl, rfl⟩
        · rcases h'.2 with ⟨h3, h4⟩ | ⟨h3, h4⟩
          · exact Or.inl ⟨h3.symm, h4.symm⟩
          · exact Or.inr ⟨h4.symm, h3.symm⟩
        · rcases h'.2 with ⟨h3, h4⟩ | ⟨h3, h4⟩
          · exact Or.inr ⟨h3.symm, h4.symm⟩
          · exact Or.inl ⟨h4.symm, h3.symm⟩
    have back : ∀ {S : Nat → Prop}, (∀ e, S e → e < M) → ∀ {x y : Nat}, w_conn (fun e x y => e < M + 1 ∧ w_J c' e x y) S x y → w_conn (w_K c M) S x y := by
      intro S hS x y h
      refine w_conn_mono (fun e a b h1 h3 => ⟨h1, hS e h1, ?_⟩) h
      have h4 := h3.2
      unfold w_J at h4
      rw [hAo e (hS e h1), hBo e (hS e h1)] at h4
      exact h4
    have hnr : w_nr (fun e x y => e < M + 1 ∧ w_J c' e x y) (fun e => e < M) := by
      intro e x y he h hc
      have h4 := h.2
      unfold w_J at h4
      rw [hAo e he, hBo e he] at h4
      exact w_RF_nr H e x y he ⟨he, h4⟩ (back (fun f hf => hf.1) hc)
    have hall := w_nr_add hJd hnr (e := M) (u := u) (v := v) ⟨by omega, Or.inl ⟨hAM, hBM⟩⟩ (Nat.lt_irrefl _) (fun h => hno (back (fun f hf => hf) h))
    intro e he hc
    refine hall e (w_A c' e) (w_B c' e) (by omega) ⟨he, Or.inl ⟨rfl, rfl⟩⟩ ?_
    exact w_conn_mono (fun f x y h1 h3 => ⟨⟨by omega, h1.2⟩, by omega, h3⟩) hc
/-- one mesh less -/
theorem w_RM_del {k : Nat} (h2 : w_RM c g G M) (h3 : w_RF c M) (hG : G ≤ 10) (hk : k < M) (e1 : c' 1 1 = Int32.ofNat (M - 1)) (e4 : ∀ q, 4 ≤ q → q ≤ 7 → ∀ i, i < M - 1 → c' q i = c q (if i < k then i else i + 1))
    (f1 : g' (27 + w_pr (w_A c k) (w_B c k)) = 0) (f3 : ∀ j, 27 ≤ j → j < 227 → j ≠ 27 + w_pr (w_A c k) (w_B c k) → g' j = g j) : w_RM c' g' G (M - 1) ∧ w_RF c' (M - 1) := by
  obtain ⟨a1, a2, a3, a4, a5⟩ := h2
  have hA : ∀ i, i < M - 1 → w_A c' i = w_A c (if i < k then i else i + 1) := fun i hi => by unfold w_A; rw [e4 4 (by decide) (by decide) i hi]
  have hB : ∀ i, i < M - 1 → w_B c' i = w_B c (if i < k then i else i + 1) := fun i hi => by unfold w_B; rw [e4 5 (by decide) (by decide) i hi]
  have hsM : ∀ i, i < M - 1 → (if i < k then i else i + 1) < M ∧ (if i < k then i else i + 1) ≠ k := fun i hi => by split <;> omega
  have hinj : ∀ i j, (if i < k then i else i + 1) = (if j < k then j else j + 1) → i = j := fun i j h => by split at h <;> split at h <;> omega
  have hkk := a3 k hk
  have hpk := w_pr_lt (a := w_A c k) (b := w_B c k) (by have := hkk.1; omega) (by have := hkk.2.1; omega)
  constructor
  · refine ⟨e1, by omega, fun e he => ?_, fun e f he hf hp => ?_, fun a b hab hb => ?_⟩
    · obtain ⟨hs1, hs2⟩ := hsM e he
      unfold w_Rm
      rw [hA e he, hB e he, e4 4 (by decide) (by decide) e he, e4 5 (by decide) (by decide) e he, e4 6 (by decide) (by decide) e he, e4 7 (by decide) (by decide) e he]
      generalize (if e < k then e else e + 1) = q at *
      obtain ⟨b1, b2, b3, b4, b5, s', p, b6, b7, b8, b9, b10, b11⟩ := a3 q hs1
      have := w_pr_lt (a := w_A c q) (b := w_B c q) (by omega) (by omega)
      have hne : w_pr (w_A c q) (w_B c q) ≠ w_pr (w_A c k) (w_B c k) := fun h => hs2 (a4 q k hs1 hk h)
      exact ⟨b1, b2, b3, b4, b5, s', p, b6, b7, b8, b9, by rw [f3 _ (by omega) (by omega) (by omega)]; exact b10, by rw [f3 _ (by omega) (by omega) (by omega)]; exact b11⟩
    · rw [hA e he, hB e he, hA f hf, hB f hf] at hp
      exact hinj e f (a4 _ _ (hsM e he).1 (hsM f hf).1 hp)
    · have := w_pr_lt (a := a) (b := b) (by omega) hb
      by_cases hp : w_pr a b = w_pr (w_A c k) (w_B c k)
      · exact Or.inl (by rw [hp]; exact f1)
      · rcases a5 a b hab hb with h4 | ⟨e, he, h4⟩
        · exact Or.inl (by rw [f3 _ (by omega) (by omega) (by omega)]; exact h4)
        · have hek : e ≠ k := fun q => hp (by rw [← q]; exact h4.symm)
          refine Or.inr ⟨if e < k then e else e - 1, by split <;> omega, ?_⟩
          have hi : (if e < k then e else e - 1) < M - 1 := by split <;> omega
          have hback : (if (if e < k then e else e - 1) < k then (if e < k then e else e - 1) else (if e < k then e else e - 1) + 1) = e := by
            by_cases hlt : e < k
            · rw [if_pos hlt, if_pos hlt]
            · rw [if_neg hlt, if_neg (by omega)]
              omega
          rw [hA _ hi, hB _ hi, hback]
          exact h4
  · intro e he hc
    rw [hA e he, hB e he] at hc
    refine h3 _ (hsM e he).1 (w_conn_map (s := fun i => if i < k then i else i + 1) (fun f x y h1 h4 => ⟨⟨(hsM f h1.1).1, fun q => h1.2 (hinj f e q)⟩, ?_⟩) hc)
    unfold w_J at h4 ⊢
    rw [hA f h1.1, hB f h1.1] at h4
    exact h4
end
theorem w_cMesh {n m : Nat} (hnm : n ≤ m) (i1 i2 i3 : Int32) (μ ν : z_Mem) (HH : w_Rel n (w_st μ 1) (ν 242)) : ∃ a μ' b ν', pG_tryMesh μ i1 i2 i3 = some (a, μ') ∧ pm_joins ν i1 i2 i3 = some (b, ν') ∧ w_Core m [0, 1, 2] a μ μ' b ν ν' := by
  obtain ⟨G, M, W, S, E, h1, h2, h3, h4, h5, h6, h7⟩ := HH
  have H := w_CT_of h1 h2 h3
  have hR := w_Rf_of h1 h2
  have hG := H.2.2.1
  have no1 : ∃ a μ' b ν', (some (-1, μ) : Option (Int32 × z_Mem)) = some (a, μ') ∧ (pm_fails ν 1).bind (fun q24 => some (q24.1, q24.2)) = some (b, ν') ∧ w_Core m [0, 1, 2] a μ μ' b ν ν' :=
    ⟨_, _, _, _, rfl, rfl, w_Core_no (j := 0) (E := 0) rfl (by decide) (by decide) w_frC_rfl w_same_rfl⟩
  unfold pG_tryMesh pm_joins pm_areGears
  rcases w_gear (μ := μ) (ν := ν) h1.1 h1.2.1 h1.2.2.1 i1 with ⟨e1, e2, u, hu, rfl⟩ | ⟨e1, e2⟩
  · rw [e1, e2]
    dsimp only [Option.bind_some]
    rw [if_neg w_10, if_neg w_10]
    rcases w_gear (μ := μ) (ν := ν) h1.1 h1.2.1 h1.2.2.1 i2 with ⟨e3, e4, v, hv, rfl⟩ | ⟨e3, e4⟩
    · rw [e3, e4]
      dsimp only [Option.bind_some]
      rw [if_neg w_10, if_neg w_10]
      dsimp only [Option.bind_some]
      rw [if_neg w_10]
      rcases w_within (μ := μ) (ν := ν) i3 0 5 with ⟨e5, e6, b1, b2⟩ | ⟨e5, e6, -⟩
      · rw [e5, e6]
        dsimp only [Option.bind_some]
        rw [if_neg w_10, if_neg w_10]
        obtain ⟨s, -, hs, rfl⟩ := w_nat_in (lo := 0) (hi := 5) (by omega) (by omega) b1 b2
        obtain ⟨k, μ1, f1, f2, f3⟩ := w_chain H hu hv w_Str_st
        obtain ⟨k2, ν1, f4, f5, f6⟩ := w_isConn H hu hR hv
        rw [f1, f4]
        dsimp only [Option.bind_some]
        have frC1 : w_frC μ μ1 := fun q hq => f2 q (by omega)
        have st1 : ∀ q, q < 20 → w_st μ1 1 q = w_st μ 1 q := fun q hq => by unfold w_st; rw [f2 _ (by omega)]
        have frM1 : w_frM ν ν1 := ⟨fun q _ _ a3 _ => f5 q a3, fun j _ => by rw [f5 241 (by decide)]⟩
        rcases f3 with ⟨rfl, f3⟩ | ⟨p, rfl, f3⟩
        · rcases f6 with ⟨rfl, -⟩ | ⟨-, p, f6, -⟩
          · rw [if_pos rfl, if_pos rfl]
            have hno : ¬ w_cn (w_st μ 1) M M u v := fun h => f3 ((w_cn_pt H).mp h)
            have h2M := w_two H hu hv hno
            have hpr := w_pr_lt (a := u) (b := v) (by omega) (by omega)
            have x21 : μ1 2 1 = Int32.ofNat M := by rw [f2 2 (by decide)]; exact H.2.1
            have inb9 : z_inb (Int32.ofNat M) 9 = true := (w_inn (by omega)).mpr (by omega)
            unfold pT_join
            have tM : (Int32.ofNat M).toNatClampNeg = M := w_tn (by omega)
            simp (disch := omega) only [x21, tM, w_u_ne, w_u_eq, w_u_at, if_pos inb9]
            rw [if_neg (fun q => by have : 9 ≤ M := (w_lel (k := 9) (by decide) (by omega)).mp q; omega), show Int32.ofNat M + 1 = Int32.ofNat (M + 1) from w_ar2]
            dsimp only [Option.bind_some]
            rw [w_pairm (by omega) (by omega)]
            dsimp only [Option.bind_some]
            rw [w_al, if_pos ((w_inn (by omega)).mpr (by omega)), w_tn (by omega), w_pairm (by omega) (by omega)]
            dsimp only [Option.bind_some]
            rw [w_al, if_pos ((w_inn (by omega)).mpr (by omega)), w_tn (by omega), show Int32.ofNat s + 1 = Int32.ofNat (s + 1) from w_ar2]
            have lo : ∀ q, q ≠ 1 → q ≠ 4 → q ≠ 5 → q ≠ 6 → q ≠ 7 → q < 20 → w_st (z_u (z_u (z_u (z_u (z_u μ1 5 M (Int32.ofNat u)) 6 M (Int32.ofNat v)) 7 M (Int32.ofNat s)) 8 M 0) 2 1 (Int32.ofNat (M + 1))) 1 q = w_st μ 1 q := fun q a1 a2 a3 a4 a5 a6 => by
              rw [← st1 q a6]
              unfold w_st
              rw [w_u_ne (by omega), w_u_ne (by omega), w_u_ne (by omega), w_u_ne (by omega), w_u_ne (by omega)]
            have hi : ∀ j, j ≠ 27 + w_pr u v → j ≠ 127 + w_pr u v → z_u (z_u ν1 242 (27 + w_pr u v) (Int32.ofNat (s + 1))) 242 (127 + w_pr u v) 0 242 j = ν 242 j := fun j j1 j2 => by
              rw [w_u_at j2, w_u_at j1, f5 242 (by decide)]
            obtain ⟨hRM, hRF⟩ := w_RM_add (c' := w_st (z_u (z_u (z_u (z_u (z_u μ1 5 M (Int32.ofNat u)) 6 M (Int32.ofNat v)) 7 M (Int32.ofNat s)) 8 M 0) 2 1 (Int32.ofNat (M + 1))) 1) (g' := z_u (z_u ν1 242 (27 + w_pr u v) (Int32.ofNat (s + 1))) 242 (127 + w_pr u v) 0 242) H h2 hu hv hs hno
              (by unfold w_st; rw [w_u_eq])
              (by unfold w_st; rw [w_u_ne (by decide), w_u_ne (by decide), w_u_ne (by decide), w_u_ne (by decide), w_u_row, f2 _ (by decide)])
              (by unfold w_st; rw [w_u_ne (by decide), w_u_ne (by decide), w_u_ne (by decide), w_u_row, w_u_ne (by decide), f2 _ (by decide)])
              (by unfold w_st; rw [w_u_ne (by decide), w_u_ne (by decide), w_u_row, w_u_ne (by decide), w_u_ne (by decide), f2 _ (by decide)])
              (by unfold w_st; rw [w_u_ne (by decide), w_u_row, w_u_ne (by decide), w_u_ne (by decide), w_u_ne (by decide), f2 _ (by decide)])
              (by rw [w_u_at (by omega), w_u_eq]) w_u_eq (fun j _ _ j1 j2 => hi j j1 j2)
            have hRG : w_RG (w_st (z_u (z_u (z_u (z_u (z_u μ1 5 M (Int32.ofNat u)) 6 M (Int32.ofNat v)) 7 M (Int32.ofNat s)) 8 M 0) 2 1 (Int32.ofNat (M + 1))) 1) (z_u (z_u ν1 242 (27 + w_pr u v) (Int32.ofNat (s + 1))) 242 (127 + w_pr u v) 0 242) G := by
              obtain ⟨g1, g2, g3, g4, g5, g6, g7, g8⟩ := h1
              have x2 : ∀ j, j ≠ 1 → w_st (z_u (z_u (z_u (z_u (z_u μ1 5 M (Int32.ofNat u)) 6 M (Int32.ofNat v)) 7 M (Int32.ofNat s)) 8 M 0) 2 1 (Int32.ofNat (M + 1))) 1 1 j = w_st μ 1 1 j := fun j hj => by
                unfold w_st
                rw [w_u_at hj, w_u_ne (by decide), w_u_ne (by decide), w_u_ne (by decide), w_u_ne (by decide), f2 _ (by decide)]
              refine ⟨by rw [x2 0 (by decide)]; exact g1, by rw [hi 0 (by omega) (by omega)]; exact g2, g3, fun i hi2 => ?_, fun i hi2 => ?_, fun i hi2 => ?_, fun i hi1 hi2 => ?_, ?_⟩
              · rw [lo 2 (by decide) (by decide) (by decide) (by decide) (by decide) (by decide), hi _ (by omega) (by omega)]; exact g4 i hi2
              · rw [lo 3 (by decide) (by decide) (by decide) (by decide) (by decide) (by decide), hi _ (by omega) (by omega)]; exact g5 i hi2
              · rw [hi _ (by omega) (by omega)]; exact g6 i hi2
              · rw [hi _ (by omega) (by omega)]; exact g7 i hi1 hi2
              · rw [x2 2 (by decide), hi 6 (by omega) (by omega)]; exact g8
            rw [w_meshes (w_CT_of hRG hRM hRF) (w_Rf_of hRG hRM)]
            unfold pm_done
            dsimp only [Option.bind_some]
            have k242 : z_u (z_u (z_u ν1 242 (27 + w_pr u v) (Int32.ofNat (s + 1))) 242 (127 + w_pr u v) 0) 241 12 0 242 = z_u (z_u ν1 242 (27 + w_pr u v) (Int32.ofNat (s + 1))) 242 (127 + w_pr u v) 0 242 := w_u_ne (by decide)
            refine ⟨_, _, _, _, rfl, rfl, fun q hq => ?_, w_frM_trans (w_frM_trans frM1 (w_frM_trans w_frM_242 w_frM_242)) w_frM_12, Or.inl ⟨(w_le (a := 0) (by omega) (by omega)).mpr (Nat.zero_le _), rfl, w_u_eq, G, M + 1, W, S, E, ?_, w_gl h1 (by omega) (by omega)⟩⟩
            · rw [w_u_ne (by omega), w_u_ne (by omega), w_u_ne (by omega), w_u_ne (by omega), w_u_ne (by omega)]
              exact frC1 q hq
            · rw [k242]
              refine ⟨hRG, hRM, hRF, ?_, ?_, ?_, ?_⟩
              · exact w_RW_tr (lo 8 (by decide) (by decide) (by decide) (by decide) (by decide) (by decide)) (lo 9 (by decide) (by decide) (by decide) (by decide) (by decide) (by decide)) (lo 10 (by decide) (by decide) (by decide) (by decide) (by decide) (by decide)) (hi 1 (by omega) (by omega)) (fun j j1 j2 => hi j (by omega) (by omega)) (Nat.le_refl _) h4
              · exact w_RY_tr (lo 11 (by decide) (by decide) (by decide) (by decide) (by decide) (by decide)) (lo 12 (by decide) (by decide) (by decide) (by decide) (by decide) (by decide)) (lo 13 (by decide) (by decide) (by decide) (by decide) (by decide) (by decide)) (lo 14 (by decide) (by decide) (by decide) (by decide) (by decide) (by decide)) (hi 2 (by omega) (by omega)) (hi 3 (by omega) (by omega)) (hi 5 (by omega) (by omega)) (fun j j1 j2 => hi j (by omega) (by omega)) h5
              · exact w_RE_tr (lo 15 (by decide) (by decide) (by decide) (by decide) (by decide) (by decide)) (lo 16 (by decide) (by decide) (by decide) (by decide) (by decide) (by decide)) (lo 17 (by decide) (by decide) (by decide) (by decide) (by decide) (by decide)) (lo 18 (by decide) (by decide) (by decide) (by decide) (by decide) (by decide)) (lo 19 (by decide) (by decide) (by decide) (by decide) (by decide) (by decide)) (hi 4 (by omega) (by omega)) (fun j j1 j2 => hi j (by omega) (by omega)) h6
              · exact w_PB_tr hnm (hi 3 (by omega) (by omega)) (hi 5 (by omega) (by omega)) (fun j j1 j2 => hi j (by omega) (by omega)) h7
          · exact absurd ⟨p, f6⟩ f3
        · rcases f6 with ⟨-, f6⟩ | ⟨rfl, -⟩
          · exact absurd ⟨p, f3.1⟩ f6
          · have hpl := w_pt_Kl H hu f3.1
            rw [List.length_cons] at hpl
            rw [if_neg (w_nneg (k := 1) (by omega) (by decide) (by decide)), if_neg w_10]
            exact ⟨_, _, _, _, rfl, rfl, w_Core_no2 (j := 2) (E := 2) rfl (by decide) (by decide) frC1 (fun q j hj => by rw [st1 q (w_sz_lt hj)]) frM1 (f5 242 (by decide))⟩
      · rw [e5, e6]
        exact ⟨_, _, _, _, rfl, rfl, w_Core_no (j := 1) (E := 1) rfl (by decide) (by decide) w_frC_rfl w_same_rfl⟩
    · rw [e3, e4]
      dsimp only [Option.bind_some]
      rw [if_pos rfl, if_pos rfl]
      dsimp only [Option.bind_some]
      rw [if_pos rfl]
      exact no1
  · rw [e1, e2]
    dsimp only [Option.bind_some]
    rw [if_pos rfl, if_pos rfl]
    dsimp only [Option.bind_some]
    rw [if_pos rfl]
    exact no1
end ZMSH
