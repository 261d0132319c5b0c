/-! Note read. -/
section ZNTR
section
variable {μ0 ν0 : z_Mem} {t s k : Nat}
def w_N1 (k : Nat) (m : z_Mem) : Option z_Mem := (pm_here m).bind fun q => w_pd k 0 (fun m' => if m' 241 16 = 0 then (pm_digits (z_u m' 241 15 ((m' 241 15) + 1)) 1).bind (w_pd k 1 (fun ν => some ν)) else (pm_digits (z_u m' 241 15 ((m' 241 15) + 0)) 1).bind (w_pd k 1 (fun ν => some ν))) (q, m)
def w_pN (k : Nat) (q3 : z_Mem) : Option z_Mem := if (q3 241 16) = 0 then (pm_here q3).bind fun q16 => (pm_in q3 q16 97 122).bind fun q18 => if q18 = 0 then w_N1 k (z_u q3 241 16 1) else w_N1 k (z_u q3 241 16 0) else w_N1 k (z_u q3 241 16 1)
theorem w_N1W (hM : w_TM ν0 (μ0 22) t) (hT : w_Tx (μ0 22) t) (hs : s ≤ t) (hk : k ≤ 8) {m : z_Mem} (h : w_PM ν0 s 1 m) : ∃ ν', w_N1 k m = some ν' ∧ w_PM ν0 s 1 ν' ∧ ∀ j, j < 4 * k + 1 → ν' 250 j = m 250 j := by
  have h1 : w_PM ν0 s 1 (z_u m 250 (4 * k + 1 + 0) (w_ah (μ0 22) t s)) := w_PM_v h
  have h2 : w_PM ν0 s 1 (z_u (z_u m 250 (4 * k + 1 + 0) (w_ah (μ0 22) t s)) 241 15 (Int32.ofNat s)) := w_PM_s h1
  obtain ⟨ν1, a1, a2, a3⟩ := w_dgW h2 (n := 1)
  refine ⟨z_u ν1 250 (4 * k + 1 + 1) 0, ?_, w_PM_v a2, fun j hj => by rw [w_u_at (by omega), a3, w_u_ne (by decide), w_u_at (by omega)]⟩
  unfold w_N1
  rw [w_hr hM hT h hs]
  dsimp only [Option.bind_some]
  rw [w_pdE hk (by omega)]
  dsimp only
  rw [if_neg (show ¬ z_u m 250 (4 * k + 1 + 0) (w_ah (μ0 22) t s) 241 16 = 0 by rw [h1.2.1]; exact w_10), h1.1, show Int32.ofNat s + 0 = Int32.ofNat s from Int32.add_zero _, a1]
  exact w_pdE hk (by omega)
theorem w_N1Y (hM : w_TM ν0 (μ0 22) t) (hT : w_Tx (μ0 22) t) (hs : s < t) (hk : k ≤ 8) {m : z_Mem} (h : w_PM ν0 s 0 m) : (w_isd (μ0 22) t (s + 1) ∧ ∃ ν', w_N1 k m = some ν' ∧ w_PM ν0 (s + 1 + 1) 0 ν' ∧ (∀ j, j < 4 * k + 1 → ν' 250 j = m 250 j) ∧ ν' 250 (4 * k + 1) = w_ah (μ0 22) t s ∧ ν' 250 (4 * k + 1 + 1) = Int32.ofNat (w_dv (μ0 22) t (s + 1))) ∨ (¬ w_isd (μ0 22) t (s + 1) ∧ ∃ ν', w_N1 k m = some ν' ∧ w_PM ν0 (s + 1) 1 ν' ∧ ∀ j, j < 4 * k + 1 → ν' 250 j = m 250 j) := by
  have h1 : w_PM ν0 s 0 (z_u m 250 (4 * k + 1 + 0) (w_ah (μ0 22) t s)) := w_PM_v h
  have h2 : w_PM ν0 (s + 1) 0 (z_u (z_u m 250 (4 * k + 1 + 0) (w_ah (μ0 22) t s)) 241 15 (Int32.ofNat (s + 1))) := w_PM_s h1
  have e : w_N1 k m = (pm_digits (z_u (z_u m 250 (4 * k + 1 + 0) (w_ah (μ0 22) t s)) 241 15 (Int32.ofNat (s + 1))) 1).bind (w_pd k 1 (fun ν => some ν)) := by
    unfold w_N1
    rw [w_hr hM hT h (Nat.le_of_lt hs)]
    dsimp only [Option.bind_some]
    rw [w_pdE hk (by omega)]
    dsimp only
    rw [if_pos (show z_u m 250 (4 * k + 1 + 0) (w_ah (μ0 22) t s) 241 16 = 0 from h1.2.1), h1.1, show Int32.ofNat s + 1 = Int32.ofNat (s + 1) from w_ar2]
  rw [e]
  by_cases hd : w_isd (μ0 22) t (s + 1)
  · obtain ⟨ν1, a1, a2, a3⟩ := w_dg1 hM hT hs h2 hd
    refine Or.inl ⟨hd, z_u ν1 250 (4 * k + 1 + 1) (Int32.ofNat (w_dv (μ0 22) t (s + 1))), ?_, w_PM_v a2, fun j hj => ?_, ?_, w_u_eq⟩
    · rw [a1]
      exact w_pdE hk (by omega)
    · rw [w_u_at (by omega), a3, w_u_ne (by decide), w_u_at (by omega)]
    · rw [w_u_at (by omega), a3, w_u_ne (by decide)]
      exact w_u_eq
  · obtain ⟨ν1, a1, a2, a3⟩ := w_dgN hM hT hs h2 (n := 1) hd
    refine Or.inr ⟨hd, z_u ν1 250 (4 * k + 1 + 1) 0, ?_, w_PM_v a2, fun j hj => ?_⟩
    · rw [a1]
      exact w_pdE hk (by omega)
    · rw [w_u_at (by omega), a3, w_u_ne (by decide), w_u_at (by omega)]
theorem w_pNW (hM : w_TM ν0 (μ0 22) t) (hT : w_Tx (μ0 22) t) (hs : s ≤ t) (hk : k ≤ 8) {m : z_Mem} (h : w_PM ν0 s 1 m) : ∃ ν', w_pN k m = some ν' ∧ w_PM ν0 s 1 ν' ∧ ∀ j, j < 4 * k + 1 → ν' 250 j = m 250 j := by
  unfold w_pN
  rw [if_neg (show ¬ m 241 16 = 0 by rw [h.2.1]; exact w_10)]
  obtain ⟨ν', a1, a2, a3⟩ := w_N1W hM hT hs hk (w_PM_w h (w' := 1))
  exact ⟨ν', a1, a2, fun j hj => (a3 j hj).trans (by rw [w_u_ne (by decide)])⟩
theorem w_tN (ht : μ0 21 0 = Int32.ofNat t) (hT : w_Tx (μ0 22) t) (hM : w_TM ν0 (μ0 22) t) (hs : s ≤ t) (hk : k ≤ 8) (h0 : w_ah (μ0 22) t s = 110) : w_cmT μ0 ν0 t s k 110 (w_PW 4 (fun M => (pR_readLetter M 0).bind fun q => if q.1 = 0 then some (0, q.2) else w_rD 1 (fun M => some (1, M)) q.2)) (fun ν => (w_nds [111, 116, 101] ν).bind fun ν => (pm_needs ν (Int32.ofNat 32)).bind (w_pN k)) := by
  have W := w_word (μ0 := μ0) (ν0 := ν0) (k := k) ht hT hM hs (sj := 4) (c0 := 110) (l := [111, 116, 101]) rfl (by decide) (by decide) h0
  rw [show [111, 116, 101].length = 3 from rfl] at W
  rcases W with ⟨w1, w2, wC, wR⟩ | ⟨w1, w2, wC, wR⟩ | ⟨s', w2, wC, wR⟩
  · have hR : ∀ ν, w_PM ν0 (s + 1) 0 ν → ∃ ν2, ((w_nds [111, 116, 101] ν).bind fun ν => (pm_needs ν (Int32.ofNat 32)).bind (w_pN k)) = w_pN k ν2 ∧ w_PM ν0 (s + 1 + 3 + 1) 0 ν2 ∧ ν2 250 = ν 250 := fun ν hp => by
      obtain ⟨ν1, a1, a2, a3⟩ := wR ν hp
      obtain ⟨ν2, b1, b2, b3⟩ := w_ndY hM hT a2 (Nat.le_of_lt w2) w1
      refine ⟨ν2, ?_, b2, b3.trans a3⟩
      rw [a1]
      dsimp only [Option.bind_some]
      rw [show Int32.ofNat 32 = 32 from rfl, b1]
      rfl
    by_cases hl : w_isl (μ0 22) t (s + 1 + 3 + 1)
    · have hlt : s + 1 + 3 + 1 < t := by
        by_cases hh : s + 1 + 3 + 1 < t
        · exact hh
        · have h1 := hl.1
          unfold w_ah at h1
          rw [if_neg hh] at h1
          exact absurd h1 (by decide)
      have hR2 : ∀ ν2, w_PM ν0 (s + 1 + 3 + 1) 0 ν2 → w_pN k ν2 = w_N1 k (z_u ν2 241 16 0) := fun ν2 h => by
        unfold w_pN
        rw [if_pos (show ν2 241 16 = 0 from h.2.1), w_hr hM hT h (Nat.le_of_lt hlt)]
        dsimp only [Option.bind_some]
        rcases w_in01 (ν := ν2) (i := w_ah (μ0 22) t (s + 1 + 3 + 1)) (a := 97) (c := 122) with ⟨e, -⟩ | ⟨-, h2⟩
        · rw [e]
          dsimp only [Option.bind_some]
          rw [if_neg w_10]
        · exact absurd hl h2
      by_cases hd : w_isd (μ0 22) t (s + 1 + 3 + 1 + 1)
      · have hd1 := (w_isd_v hT hd).1
        refine ⟨true, s + 1 + 3 + 1 + 1 + 1, 2, fun x => if x = 0 then w_ah (μ0 22) t (s + 1 + 3 + 1) else Int32.ofNat (w_dv (μ0 22) t (s + 1 + 3 + 1 + 1)), hd1, fun _ => ⟨by omega, Or.inr (Or.inr (Or.inr (Or.inl ⟨rfl, rfl, hl.1, hl.2⟩)))⟩, fun M hp => ?_, fun ν hp => ?_⟩
        · obtain ⟨M1, a1, a2, a3⟩ := wC M hp
          obtain ⟨-, -, M2, b1, b2, b3⟩ := (w_rlC ht hT w2 a2 hk (j := 0) (by omega)).resolve_right (fun q => q.1 hl)
          obtain ⟨-, -, M3, c1, c2, c3⟩ := (w_rdg ht hT hlt b2 hk (j := 1) (by omega)).resolve_right (fun q => q.1 hd)
          refine ⟨M3, ?_, c2, c3.1.trans (b3.1.trans a3.1), fun j hj => (c3.2.2 j (by omega)).trans ((b3.2.2 j (by omega)).trans (by rw [a3.2])), fun _ i hi => ?_⟩
          · unfold w_PW
            rw [a1]
            dsimp only [Option.bind_some]
            rw [if_neg w_10, show pR_readLetter M1 0 = _ from b1]
            dsimp only [Option.bind_some]
            rw [if_neg w_10]
            unfold w_rD
            rw [c1]
            dsimp only [Option.bind_some]
            rw [if_neg w_10]
            rfl
          · dsimp only
            by_cases hi0 : i = 0
            · rw [if_pos hi0, hi0, c3.2.2 _ (by omega)]
              exact b3.2.1
            · rw [if_neg hi0, show i = 1 by omega]
              exact c3.2.1
        · obtain ⟨ν2, a1, a2, a3⟩ := hR ν hp
          obtain ⟨-, ν3, b1, b2, b3, b4, b5⟩ := (w_N1Y hM hT hlt hk (w_PM_w a2 (w' := 0))).resolve_right (fun q => q.1 hd)
          refine ⟨ν3, a1.trans ((hR2 ν2 a2).trans b1), b2, fun j hj => (b3 j (by omega)).trans (by rw [w_u_ne (by decide), a3]), fun _ i hi => ?_⟩
          dsimp only
          by_cases hi0 : i = 0
          · rw [if_pos hi0, hi0]
            exact b4
          · rw [if_neg hi0, show i = 1 by omega]
            exact b5
      · refine ⟨false, s + 1 + 3 + 1 + 1, 0, fun _ => 0, hlt, (fun h => by cases h), fun M hp => ?_, fun ν hp => ?_⟩
        · obtain ⟨M1, a1, a2, a3⟩ := wC M hp
          obtain ⟨-, -, M2, b1, b2, b3⟩ := (w_rlC ht hT w2 a2 hk (j := 0) (by omega)).resolve_right (fun q => q.1 hl)
          obtain ⟨-, c1⟩ := (w_rdg ht hT hlt b2 hk (j := 1) (by omega)).resolve_left (fun q => hd q.1)
          refine ⟨M2, ?_, b2, b3.1.trans a3.1, fun j hj => (b3.2.2 j (by omega)).trans (by rw [a3.2]), (fun h => by cases h)⟩
          unfold w_PW
          rw [a1]
          dsimp only [Option.bind_some]
          rw [if_neg w_10, show pR_readLetter M1 0 = _ from b1]
          dsimp only [Option.bind_some]
          rw [if_neg w_10]
          unfold w_rD
          rw [c1]
          rfl
        · obtain ⟨ν2, a1, a2, a3⟩ := hR ν hp
          obtain ⟨-, ν3, b1, b2, b3⟩ := (w_N1Y hM hT hlt hk (w_PM_w a2 (w' := 0))).resolve_left (fun q => hd q.1)
          exact ⟨ν3, a1.trans ((hR2 ν2 a2).trans b1), b2, fun j hj => (b3 j (by omega)).trans (by rw [w_u_ne (by decide), a3]), fun h => by cases h⟩
    · refine ⟨false, s + 1 + 3 + 1, 0, fun _ => 0, w2, (fun h => by cases h), fun M hp => ?_, fun ν hp => ?_⟩
      · obtain ⟨M1, a1, a2, a3⟩ := wC M hp
        obtain ⟨-, b1⟩ := (w_rlC ht hT w2 a2 hk (j := 0) (by omega)).resolve_left (fun q => hl q.1)
        refine ⟨M1, ?_, a2, a3.1, fun j hj => by rw [a3.2], (fun h => by cases h)⟩
        unfold w_PW
        rw [a1]
        dsimp only [Option.bind_some]
        rw [if_neg w_10, show pR_readLetter M1 0 = _ from b1]
        rfl
      · obtain ⟨ν2, a1, a2, a3⟩ := hR ν hp
        obtain ⟨ν3, b1, b2, b3⟩ := w_N1W hM hT w2 hk (w_PM_w a2 (w' := 1))
        refine ⟨ν3, a1.trans (Eq.trans ?_ b1), b2, fun j hj => (b3 j (by omega)).trans (by rw [w_u_ne (by decide), a3]), fun h => by cases h⟩
        unfold w_pN
        rw [if_pos (show ν2 241 16 = 0 from a2.2.1), w_hr hM hT a2 w2]
        dsimp only [Option.bind_some]
        rcases w_in01 (ν := ν2) (i := w_ah (μ0 22) t (s + 1 + 3 + 1)) (a := 97) (c := 122) with ⟨-, h2⟩ | ⟨e, -⟩
        · exact absurd h2 hl
        · rw [e]
          rfl
  · refine ⟨false, s + 1 + 3, 0, fun _ => 0, w2, (fun h => by cases h), fun M hp => ?_, fun ν hp => ?_⟩
    · obtain ⟨M1, a1, a2, a3⟩ := wC M hp
      refine ⟨M1, ?_, a2, a3.1, fun j hj => by rw [a3.2], (fun h => by cases h)⟩
      unfold w_PW
      rw [a1]
      rfl
    · obtain ⟨ν1, a1, a2, a3⟩ := wR ν hp
      obtain ⟨ν2, b1, b2, b3⟩ := w_ndN hM hT a2 w2 w1
      obtain ⟨ν3, c1, c2, c3⟩ := w_pNW hM hT w2 hk b2
      refine ⟨ν3, ?_, c2, fun j hj => (c3 j (by omega)).trans (by rw [b3, a3]), fun h => by cases h⟩
      show (w_nds [111, 116, 101] ν).bind _ = _
      rw [a1]
      dsimp only [Option.bind_some]
      rw [show Int32.ofNat 32 = 32 from rfl, b1]
      exact c1
  · refine ⟨false, s', 0, fun _ => 0, w2, (fun h => by cases h), fun M hp => ?_, fun ν hp => ?_⟩
    · obtain ⟨M1, a1, a2, a3⟩ := wC M hp
      refine ⟨M1, ?_, a2, a3.1, fun j hj => by rw [a3.2], (fun h => by cases h)⟩
      unfold w_PW
      rw [a1]
      rfl
    · obtain ⟨ν1, a1, a2, a3⟩ := wR ν hp
      obtain ⟨ν2, b1, b2, b3⟩ := w_ndW a2 (c := Int32.ofNat 32)
      obtain ⟨ν3, c1, c2, c3⟩ := w_pNW hM hT w2 hk b2
      refine ⟨ν3, ?_, c2, fun j hj => (c3 j (by omega)).trans (by rw [b3, a3]), fun h => by cases h⟩
      show (w_nds [111, 116, 101] ν).bind _ = _
      rw [a1]
      dsimp only [Option.bind_some]
      rw [b1]
      exact c1
end
end ZNTR
