/-! The objects that the methods take, by their place in the heap. -/
section ZPRED
theorem z_ba {a b : Bool} (h : a = true) (k : b = true) : (a && b) = true := by rw [h, k]; rfl
noncomputable def zTr (t : Nat) : Bool := z_ci t 2 && (z_fi t 2 0 && (z_fi t 2 1 && (z_fi t 2 2 && (z_fr t 2 3 (t + 1) && (z_fr t 2 4 (t + 2) && (z_fr t 2 5 (t + 3) && (z_fr t 2 6 (t + 4) && (z_fr t 2 7 (t + 5) && (z_fr t 2 8 (t + 6) && (z_ar (t + 1) 0 10 && (z_ar (t + 2) 0 10 && (z_ar (t + 3) 0 9 && (z_ar (t + 4) 0 9 && (z_ar (t + 5) 0 9 && (z_ar (t + 6) 0 9)))))))))))))))
theorem zTr_all {t : Nat} (h : zTr t = true) : z_ci t 2 = true ∧ z_fi t 2 0 = true ∧ z_fi t 2 1 = true ∧ z_fi t 2 2 = true ∧ z_fr t 2 3 (t + 1) = true ∧ z_fr t 2 4 (t + 2) = true ∧ z_fr t 2 5 (t + 3) = true ∧ z_fr t 2 6 (t + 4) = true ∧ z_fr t 2 7 (t + 5) = true ∧ z_fr t 2 8 (t + 6) = true ∧ z_ar (t + 1) 0 10 = true ∧ z_ar (t + 2) 0 10 = true ∧ z_ar (t + 3) 0 9 = true ∧ z_ar (t + 4) 0 9 = true ∧ z_ar (t + 5) 0 9 = true ∧ z_ar (t + 6) 0 9 = true := by
  simpa only [zTr, Bool.and_eq_true] using h
noncomputable def zWh (t : Nat) : Bool := z_ci t 8 && (z_fi t 8 0 && (z_fr t 8 1 (t + 1) && (z_fr t 8 2 (t + 2) && (z_ar (t + 1) 0 4 && (z_ar (t + 2) 0 4)))))
theorem zWh_all {t : Nat} (h : zWh t = true) : z_ci t 8 = true ∧ z_fi t 8 0 = true ∧ z_fr t 8 1 (t + 1) = true ∧ z_fr t 8 2 (t + 2) = true ∧ z_ar (t + 1) 0 4 = true ∧ z_ar (t + 2) 0 4 = true := by
  simpa only [zWh, Bool.and_eq_true] using h
noncomputable def zSk (t : Nat) : Bool := z_ci t 6 && (z_fi t 6 0 && (z_fi t 6 1 && (z_fi t 6 2 && (z_fr t 6 3 (t + 1) && (z_fr t 6 4 (t + 2) && (z_fr t 6 5 (t + 3) && (z_ar (t + 1) 0 8 && (z_ar (t + 2) 0 8 && (z_ar (t + 3) 0 8)))))))))
theorem zSk_all {t : Nat} (h : zSk t = true) : z_ci t 6 = true ∧ z_fi t 6 0 = true ∧ z_fi t 6 1 = true ∧ z_fi t 6 2 = true ∧ z_fr t 6 3 (t + 1) = true ∧ z_fr t 6 4 (t + 2) = true ∧ z_fr t 6 5 (t + 3) = true ∧ z_ar (t + 1) 0 8 = true ∧ z_ar (t + 2) 0 8 = true ∧ z_ar (t + 3) 0 8 = true := by
  simpa only [zSk, Bool.and_eq_true] using h
noncomputable def zEn (t : Nat) : Bool := z_ci t 1 && (z_fi t 1 0 && (z_fr t 1 1 (t + 1) && (z_fr t 1 2 (t + 2) && (z_fr t 1 3 (t + 3) && (z_fr t 1 4 (t + 4) && (z_ar (t + 1) 0 6 && (z_ar (t + 2) 0 6 && (z_ar (t + 3) 0 6 && (z_ar (t + 4) 0 60)))))))))
theorem zEn_all {t : Nat} (h : zEn t = true) : z_ci t 1 = true ∧ z_fi t 1 0 = true ∧ z_fr t 1 1 (t + 1) = true ∧ z_fr t 1 2 (t + 2) = true ∧ z_fr t 1 3 (t + 3) = true ∧ z_fr t 1 4 (t + 4) = true ∧ z_ar (t + 1) 0 6 = true ∧ z_ar (t + 2) 0 6 = true ∧ z_ar (t + 3) 0 6 = true ∧ z_ar (t + 4) 0 60 = true := by
  simpa only [zEn, Bool.and_eq_true] using h
noncomputable def zSt (t : Nat) : Bool := z_ci t 7 && (z_fr t 7 0 (t + 1) && (z_fr t 7 1 (t + 8) && (z_fr t 7 2 (t + 11) && (z_fr t 7 3 (t + 15) && (z_ci (t + 1) 2 && (z_fi (t + 1) 2 0 && (z_fi (t + 1) 2 1 && (z_fi (t + 1) 2 2 && (z_fr (t + 1) 2 3 (t + 2) && (z_fr (t + 1) 2 4 (t + 3) && (z_fr (t + 1) 2 5 (t + 4) && (z_fr (t + 1) 2 6 (t + 5) && (z_fr (t + 1) 2 7 (t + 6) && (z_fr (t + 1) 2 8 (t + 7) && (z_ar (t + 2) 0 10 && (z_ar (t + 3) 0 10 && (z_ar (t + 4) 0 9 && (z_ar (t + 5) 0 9 && (z_ar (t + 6) 0 9 && (z_ar (t + 7) 0 9 && (z_ci (t + 8) 8 && (z_fi (t + 8) 8 0 && (z_fr (t + 8) 8 1 (t + 9) && (z_fr (t + 8) 8 2 (t + 10) && (z_ar (t + 9) 0 4 && (z_ar (t + 10) 0 4 && (z_ci (t + 11) 6 && (z_fi (t + 11) 6 0 && (z_fi (t + 11) 6 1 && (z_fi (t + 11) 6 2 && (z_fr (t + 11) 6 3 (t + 12) && (z_fr (t + 11) 6 4 (t + 13) && (z_fr (t + 11) 6 5 (t + 14) && (z_ar (t + 12) 0 8 && (z_ar (t + 13) 0 8 && (z_ar (t + 14) 0 8 && (z_ci (t + 15) 1 && (z_fi (t + 15) 1 0 && (z_fr (t + 15) 1 1 (t + 16) && (z_fr (t + 15) 1 2 (t + 17) && (z_fr (t + 15) 1 3 (t + 18) && (z_fr (t + 15) 1 4 (t + 19) && (z_ar (t + 16) 0 6 && (z_ar (t + 17) 0 6 && (z_ar (t + 18) 0 6 && (z_ar (t + 19) 0 60))))))))))))))))))))))))))))))))))))))))))))))
theorem zSt_all {t : Nat} (h : zSt t = true) : z_ci t 7 = true ∧ z_fr t 7 0 (t + 1) = true ∧ z_fr t 7 1 (t + 8) = true ∧ z_fr t 7 2 (t + 11) = true ∧ z_fr t 7 3 (t + 15) = true ∧ z_ci (t + 1) 2 = true ∧ z_fi (t + 1) 2 0 = true ∧ z_fi (t + 1) 2 1 = true ∧ z_fi (t + 1) 2 2 = true ∧ z_fr (t + 1) 2 3 (t + 2) = true ∧ z_fr (t + 1) 2 4 (t + 3) = true ∧ z_fr (t + 1) 2 5 (t + 4) = true ∧ z_fr (t + 1) 2 6 (t + 5) = true ∧ z_fr (t + 1) 2 7 (t + 6) = true ∧ z_fr (t + 1) 2 8 (t + 7) = true ∧ z_ar (t + 2) 0 10 = true ∧ z_ar (t + 3) 0 10 = true ∧ z_ar (t + 4) 0 9 = true ∧ z_ar (t + 5) 0 9 = true ∧ z_ar (t + 6) 0 9 = true ∧ z_ar (t + 7) 0 9 = true ∧ z_ci (t + 8) 8 = true ∧ z_fi (t + 8) 8 0 = true ∧ z_fr (t + 8) 8 1 (t + 9) = true ∧ z_fr (t + 8) 8 2 (t + 10) = true ∧ z_ar (t + 9) 0 4 = true ∧ z_ar (t + 10) 0 4 = true ∧ z_ci (t + 11) 6 = true ∧ z_fi (t + 11) 6 0 = true ∧ z_fi (t + 11) 6 1 = true ∧ z_fi (t + 11) 6 2 = true ∧ z_fr (t + 11) 6 3 (t + 12) = true ∧ z_fr (t + 11) 6 4 (t + 13) = true ∧ z_fr (t + 11) 6 5 (t + 14) = true ∧ z_ar (t + 12) 0 8 = true ∧ z_ar (t + 13) 0 8 = true ∧ z_ar (t + 14) 0 8 = true ∧ z_ci (t + 15) 1 = true ∧ z_fi (t + 15) 1 0 = true ∧ z_fr (t + 15) 1 1 (t + 16) = true ∧ z_fr (t + 15) 1 2 (t + 17) = true ∧ z_fr (t + 15) 1 3 (t + 18) = true ∧ z_fr (t + 15) 1 4 (t + 19) = true ∧ z_ar (t + 16) 0 6 = true ∧ z_ar (t + 17) 0 6 = true ∧ z_ar (t + 18) 0 6 = true ∧ z_ar (t + 19) 0 60 = true := by
  simpa only [zSt, Bool.and_eq_true] using h
noncomputable def zSg (t n : Nat) : Bool := z_ci t 5 && (z_fi t 5 0 && (z_fr t 5 1 (t + 1) && (z_ar (t + 1) 1 n)))
theorem zSg_all {t n : Nat} (h : zSg t n = true) : z_ci t 5 = true ∧ z_fi t 5 0 = true ∧ z_fr t 5 1 (t + 1) = true ∧ z_ar (t + 1) 1 n = true := by
  simpa only [zSg, Bool.and_eq_true] using h
theorem zSt_tr {t : Nat} (h : zSt t = true) : zTr (t + 1) = true :=
  z_ba ((zSt_all h).2.2.2.2.2.1) (z_ba ((zSt_all h).2.2.2.2.2.2.1) (z_ba ((zSt_all h).2.2.2.2.2.2.2.1) (z_ba ((zSt_all h).2.2.2.2.2.2.2.2.1) (z_ba ((zSt_all h).2.2.2.2.2.2.2.2.2.1) (z_ba ((zSt_all h).2.2.2.2.2.2.2.2.2.2.1) (z_ba ((zSt_all h).2.2.2.2.2.2.2.2.2.2.2.1) (z_ba ((zSt_all h).2.2.2.2.2.2.2.2.2.2.2.2.1) (z_ba ((zSt_all h).2.2.2.2.2.2.2.2.2.2.2.2.2.1) (z_ba ((zSt_all h).2.2.2.2.2.2.2.2.2.2.2.2.2.2.1) (z_ba ((zSt_all h).2.2.2.2.2.2.2.2.2.2.2.2.2.2.2.1) (z_ba ((zSt_all h).2.2.2.2.2.2.2.2.2.2.2.2.2.2.2.2.1) (z_ba ((zSt_all h).2.2.2.2.2.2.2.2.2.2.2.2.2.2.2.2.2.1) (z_ba ((zSt_all h).2.2.2.2.2.2.2.2.2.2.2.2.2.2.2.2.2.2.1) (z_ba ((zSt_all h).2.2.2.2.2.2.2.2.2.2.2.2.2.2.2.2.2.2.2.1) ((zSt_all h).2.2.2.2.2.2.2.2.2.2.2.2.2.2.2.2.2.2.2.2.1)))))))))))))))
theorem zSt_wh {t : Nat} (h : zSt t = true) : zWh (t + 8) = true :=
  z_ba ((zSt_all h).2.2.2.2.2.2.2.2.2.2.2.2.2.2.2.2.2.2.2.2.2.1) (z_ba ((zSt_all h).2.2.2.2.2.2.2.2.2.2.2.2.2.2.2.2.2.2.2.2.2.2.1) (z_ba ((zSt_all h).2.2.2.2.2.2.2.2.2.2.2.2.2.2.2.2.2.2.2.2.2.2.2.1) (z_ba ((zSt_all h).2.2.2.2.2.2.2.2.2.2.2.2.2.2.2.2.2.2.2.2.2.2.2.2.1) (z_ba ((zSt_all h).2.2.2.2.2.2.2.2.2.2.2.2.2.2.2.2.2.2.2.2.2.2.2.2.2.1) ((zSt_all h).2.2.2.2.2.2.2.2.2.2.2.2.2.2.2.2.2.2.2.2.2.2.2.2.2.2.1)))))
theorem zSt_sk {t : Nat} (h : zSt t = true) : zSk (t + 11) = true :=
  z_ba ((zSt_all h).2.2.2.2.2.2.2.2.2.2.2.2.2.2.2.2.2.2.2.2.2.2.2.2.2.2.2.1) (z_ba ((zSt_all h).2.2.2.2.2.2.2.2.2.2.2.2.2.2.2.2.2.2.2.2.2.2.2.2.2.2.2.2.1) (z_ba ((zSt_all h).2.2.2.2.2.2.2.2.2.2.2.2.2.2.2.2.2.2.2.2.2.2.2.2.2.2.2.2.2.1) (z_ba ((zSt_all h).2.2.2.2.2.2.2.2.2.2.2.2.2.2.2.2.2.2.2.2.2.2.2.2.2.2.2.2.2.2.1) (z_ba ((zSt_all h).2.2.2.2.2.2.2.2.2.2.2.2.2.2.2.2.2.2.2.2.2.2.2.2.2.2.2.2.2.2.2.1) (z_ba ((zSt_all h).2.2.2.2.2.2.2.2.2.2.2.2.2.2.2.2.2.2.2.2.2.2.2.2.2.2.2.2.2.2.2.2.1) (z_ba ((zSt_all h).2.2.2.2.2.2.2.2.2.2.2.2.2.2.2.2.2.2.2.2.2.2.2.2.2.2.2.2.2.2.2.2.2.1) (z_ba ((zSt_all h).2.2.2.2.2.2.2.2.2.2.2.2.2.2.2.2.2.2.2.2.2.2.2.2.2.2.2.2.2.2.2.2.2.2.1) (z_ba ((zSt_all h).2.2.2.2.2.2.2.2.2.2.2.2.2.2.2.2.2.2.2.2.2.2.2.2.2.2.2.2.2.2.2.2.2.2.2.1) ((zSt_all h).2.2.2.2.2.2.2.2.2.2.2.2.2.2.2.2.2.2.2.2.2.2.2.2.2.2.2.2.2.2.2.2.2.2.2.2.1)))))))))
theorem zSt_en {t : Nat} (h : zSt t = true) : zEn (t + 15) = true :=
  z_ba ((zSt_all h).2.2.2.2.2.2.2.2.2.2.2.2.2.2.2.2.2.2.2.2.2.2.2.2.2.2.2.2.2.2.2.2.2.2.2.2.2.1) (z_ba ((zSt_all h).2.2.2.2.2.2.2.2.2.2.2.2.2.2.2.2.2.2.2.2.2.2.2.2.2.2.2.2.2.2.2.2.2.2.2.2.2.2.1) (z_ba ((zSt_all h).2.2.2.2.2.2.2.2.2.2.2.2.2.2.2.2.2.2.2.2.2.2.2.2.2.2.2.2.2.2.2.2.2.2.2.2.2.2.2.1) (z_ba ((zSt_all h).2.2.2.2.2.2.2.2.2.2.2.2.2.2.2.2.2.2.2.2.2.2.2.2.2.2.2.2.2.2.2.2.2.2.2.2.2.2.2.2.1) (z_ba ((zSt_all h).2.2.2.2.2.2.2.2.2.2.2.2.2.2.2.2.2.2.2.2.2.2.2.2.2.2.2.2.2.2.2.2.2.2.2.2.2.2.2.2.2.1) (z_ba ((zSt_all h).2.2.2.2.2.2.2.2.2.2.2.2.2.2.2.2.2.2.2.2.2.2.2.2.2.2.2.2.2.2.2.2.2.2.2.2.2.2.2.2.2.2.1) (z_ba ((zSt_all h).2.2.2.2.2.2.2.2.2.2.2.2.2.2.2.2.2.2.2.2.2.2.2.2.2.2.2.2.2.2.2.2.2.2.2.2.2.2.2.2.2.2.2.1) (z_ba ((zSt_all h).2.2.2.2.2.2.2.2.2.2.2.2.2.2.2.2.2.2.2.2.2.2.2.2.2.2.2.2.2.2.2.2.2.2.2.2.2.2.2.2.2.2.2.2.1) (z_ba ((zSt_all h).2.2.2.2.2.2.2.2.2.2.2.2.2.2.2.2.2.2.2.2.2.2.2.2.2.2.2.2.2.2.2.2.2.2.2.2.2.2.2.2.2.2.2.2.2.1) ((zSt_all h).2.2.2.2.2.2.2.2.2.2.2.2.2.2.2.2.2.2.2.2.2.2.2.2.2.2.2.2.2.2.2.2.2.2.2.2.2.2.2.2.2.2.2.2.2.2)))))))))
theorem z_rg_row : z_shl[58]? = some (.inr (.inr [59, 79, 99, 119, 139, 159, 179, 199, 219])) := by decide +kernel
theorem z_rg_at {i : Int32} (h : z_inb i 9 = true) : ([59, 79, 99, 119, 139, 159, 179, 199, 219] : List Nat)[i.toNatClampNeg]? = some (z_rg i) := by
  unfold z_inb at h
  rw [Bool.and_eq_true] at h
  have h2 := of_decide_eq_true h.2
  unfold z_rg
  generalize i.toNatClampNeg = q at h2
  have hq : q = 0 ∨ q = 1 ∨ q = 2 ∨ q = 3 ∨ q = 4 ∨ q = 5 ∨ q = 6 ∨ q = 7 ∨ q = 8 := by omega
  rcases hq with rfl | rfl | rfl | rfl | rfl | rfl | rfl | rfl | rfl <;> rfl
theorem z_rgF_at {i : Int32} (h : z_inb i 9 = true) : z_rgF i.toNatClampNeg = some (z_rg i) := by
  have h1 := z_rg_at h
  unfold z_inb at h
  rw [Bool.and_eq_true] at h
  have h2 := of_decide_eq_true (List.all_eq_true.mp z_rgF_ok _ (List.mem_range.mpr (of_decide_eq_true h.2)))
  exact h2.trans h1
theorem z_rg_ok {i : Int32} {w : Nat} (h : z_inb i 9 = true) (hw : some (z_rg i) = some w) : zSt w = true := by
  cases hw
  unfold z_inb at h
  rw [Bool.and_eq_true] at h
  have h2 := of_decide_eq_true h.2
  unfold z_rg
  generalize i.toNatClampNeg = q at h2
  have hq : q = 0 ∨ q = 1 ∨ q = 2 ∨ q = 3 ∨ q = 4 ∨ q = 5 ∨ q = 6 ∨ q = 7 ∨ q = 8 := by omega
  rcases hq with rfl | rfl | rfl | rfl | rfl | rfl | rfl | rfl | rfl <;> decide +kernel
theorem R_ring {D k pc nL w : Nat} {ls : z_Ls} {st : List Value} {μ μ2 : z_Mem} {o : z_R} {ax : List Nat} {i : Int32} (hp : z_pt k pc = some (nL, .aaload, ax)) (hi : z_inb i 9 = true) (hw : some (z_rg i) = some w) (kk : Rn D k (pc + 1) ls (.ref w :: st) μ o μ2) : Rn D k pc ls (.int i :: .ref 58 :: st) μ o μ2 :=
  R_gen hp rfl 0 (Nat.zero_le _) (fun ext j0 sl sc d _ => by
    cases hw
    show z_mk (pc + 1) ls _ (z_qald (.int i :: .ref 58 :: st) (z_hp μ ext j0 sl)) = _
    unfold z_qald z_hp
    dsimp only
    rw [z_bl_get z_rg_row]
    dsimp only [z_bc]
    rw [z_rgF_at hi]
    have h9 : ([59, 79, 99, 119, 139, 159, 179, 199, 219] : List Nat).length = 9 := rfl
    rw [h9, hi]
    rfl) kk
end ZPRED
