/-! Turn and note read. -/
section ZTNR
section
variable {μ0 ν0 : z_Mem} {t s k : Nat}
theorem w_JJ_c {need i : Nat} {kd : Int32} {P P' : z_Mem → Option (Int32 × z_Mem)} {Q Q' : z_Mem → Option z_Mem} (h1 : ∀ M, w_PC μ0 s k M → P' M = P M) (h2 : ∀ ν, w_PM ν0 s 0 ν → Q' ν = Q ν) (h : w_JJ μ0 ν0 t k need kd s i P Q) : w_JJ μ0 ν0 t k need kd s i P' Q' := by
  obtain ⟨o, s', a, v, j1, j2, j3, j4⟩ := h
  refine ⟨o, s', a, v, j1, j2, fun M hp => ?_, fun ν hp => ?_⟩
  · rw [h1 M hp]
    exact j3 M hp
  · rw [h2 ν hp]
    exact j4 ν hp
def w_FT (M : z_Mem) : Option (Int32 × z_Mem) := (pR_read M 43).bind fun q56 => if q56.1 = 0 then (pR_read q56.2 45).bind fun q59 => if q59.1 = 0 then some (0, q59.2) else (pR_readNumber q59.2 1 (-1)).bind fun q62 => if q62.1 = 0 then some (0, q62.2) else some (1, q62.2) else (pR_readNumber q56.2 1 1).bind fun q65 => if q65.1 = 0 then some (0, q65.2) else some (1, q65.2)
def w_ngq (q : Int32 × z_Mem) : Int32 × z_Mem := (-q.1, q.2)
def w_GT (k : Nat) (ν : z_Mem) : Option z_Mem := if ν 241 16 = 0 then (pm_here ν).bind fun q12 => if q12 = 45 then (pm_digitsAfter ν (Int32.ofNat 45) 2).bind (fun q => w_pd k 1 (fun ν => some ν) (w_ngq q)) else (pm_digitsAfter ν (Int32.ofNat 43) 2).bind (fun q => w_pd k 1 (fun ν => some ν) q) else (pm_digitsAfter ν (Int32.ofNat 43) 2).bind (fun q => w_pd k 1 (fun ν => some ν) q)
theorem w_GTW (hk : k ≤ 8) : w_Wr ν0 k 1 (w_GT k) := fun s ν h => by
  have := w_WrN (ν0 := ν0) (c := Int32.ofNat 43) (n := 2) (U := fun q => q) hk (i := 1) (by omega) (fun _ => rfl) s ν h
  unfold w_GT
  rw [if_neg (show ¬ ν 241 16 = 0 by rw [h.2.1]; exact w_10)]
  exact this
theorem w_tT (ht : μ0 21 0 = Int32.ofNat t) (hT : w_Tx (μ0 22) t) (hM : w_TM ν0 (μ0 22) t) (hs : s ≤ t) (hk : k ≤ 8) (h0 : w_ah (μ0 22) t s = 116) : w_cmT μ0 ν0 t s k 116 (w_PW 2 (w_rD 0 w_FT)) (fun ν => (w_nds [117, 114, 110] ν).bind fun ν => (pm_digitsAfter ν (Int32.ofNat 32) 1).bind (w_pd k 0 (w_GT k))) := by
  refine w_tW ht hT hM hs hk (c0 := 116) (by decide) rfl (by decide) (by decide) h0 (w_GTW hk) (fun hl hd => ?_)
  have q1 := (w_isd_v hT hd).1
  have ar : w_arK 116 (1 + 1) := Or.inr (Or.inr (Or.inr (Or.inr (Or.inl ⟨rfl, rfl⟩))))
  by_cases h45 : w_ah (μ0 22) t (s + 1 + [117, 114, 110].length + 1 + 1) = 45
  · refine w_JJ_c (fun M hp => ?_) (fun ν hp => ?_) (w_JN ht hT hM q1 hk (need := s + 6) (i := 1) (c := 45) (kd := 116) (U := w_ngq) (m := -1) (by decide) (by omega) (by show s + 6 ≤ s + 1 + 3 + 1 + 1 + 2; omega) ar (fun x ν => by unfold w_ngq; rw [Int32.neg_mul, Int32.one_mul]) (fun _ => rfl))
    · unfold w_FT
      rw [w_rdN ht hT q1 hp (fun q => absurd (h45.symm.trans q) (by decide))]
      rfl
    · unfold w_GT
      rw [if_pos (show ν 241 16 = 0 from hp.2.1), w_hr hM hT hp q1]
      dsimp only [Option.bind_some]
      rw [if_pos h45]
  · refine w_JJ_c (fun M hp => ?_) (fun ν hp => ?_) (w_JN ht hT hM q1 hk (need := s + 6) (i := 1) (c := 43) (kd := 116) (U := fun q => q) (m := 1) (by decide) (by omega) (by show s + 6 ≤ s + 1 + 3 + 1 + 1 + 2; omega) ar (fun x ν => by rw [Int32.one_mul]) (fun _ => rfl))
    · unfold w_FT w_rC
      by_cases h43 : w_ah (μ0 22) t (s + 1 + [117, 114, 110].length + 1 + 1) = 43
      · rw [w_rdY ht hT q1 hp h43, show Int32.ofNat 43 = 43 from rfl, w_rdY ht hT q1 hp h43]
        dsimp only [Option.bind_some]
        rw [if_neg w_10, if_neg w_10]
        rfl
      · rw [w_rdN ht hT q1 hp h43, show Int32.ofNat 43 = 43 from rfl, w_rdN ht hT q1 hp h43]
        dsimp only [Option.bind_some]
        rw [if_pos rfl, if_pos rfl, w_rdN ht hT q1 hp h45]
        rfl
    · unfold w_GT
      rw [if_pos (show ν 241 16 = 0 from hp.2.1), w_hr hM hT hp q1]
      dsimp only [Option.bind_some]
      rw [if_neg h45]
end
end ZTNR
