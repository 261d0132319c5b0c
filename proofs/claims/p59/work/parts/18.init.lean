/-! The constructors' runs, by the kernel: they look at no array. -/
section ZINI
def z_nal (i : Instr) : Bool := match i with
  | .iaload | .caload | .baload | .arraylength => false
  | _ => true
theorem z_nal_loc {sc sc' : Nat × (Nat → Int32)} {d nL : Nat} {i : Instr} {ax : List Nat} {pc : Nat} {ls : z_Ls} {st : List Value} {hp : z_H} (h : z_nal i = true) : z_loc sc d nL i ax pc ls st hp = z_loc sc' d nL i ax pc ls st hp := by
  unfold z_nal at h
  split at h
  · cases h
  · cases h
  · cases h
  · cases h
  · unfold z_loc
    split <;> first | rfl | simp_all
abbrev z_s0 : Nat × (Nat → Int32) := (0, fun _ => 0)
def z_exg : Nat → Nat → Nat → Nat → z_Ls → List Value → z_H → Option (z_R × z_H)
  | 0, _, _, _, _, _, _ => none
  | f + 1, d, k, pc, ls, st, hp => match z_rec k with
    | none => none
    | some r => match z_find r.2.2.2.2.2.2.2.2 pc with
      | none => none
      | some (i, len, ax) => bif z_lok i len && z_nal i then
        (match z_kd i ax with
        | 0 => match z_loc z_s0 d r.2.2.2.2.1 i ax pc ls st hp with
          | some C => z_exg f d k C.1 C.2.1 C.2.2.1 C.2.2.2
          | none => none
        | 1 => match z_fin r.2.2.2.2.2.1 i st with
          | some v => some (.inl v, hp)
          | none => none
        | 2 => none
        | _ => match ax with
          | kd :: k2 :: n :: _ => match z_rec k2, z_args kd n st with
            | some r2, some (as, rr) => bif Nat.ble 1 d && (Nat.ble (lg_sl as).length r2.2.2.2.2.1 && (Nat.ble r2.2.2.2.2.1 20 && (Nat.ble (z_cat rr) 8 && (z_rcv kd r2.1 as hp && (Nat.beq kd 5 || r2.2.2.2.2.2.2.1.isEmpty))))) then
              (match z_exg f (d - 1) k2 0 (lv_args 0 as) [] hp with
              | some (.inl v, hp') => bif z_cok hp hp' ls rr v then z_exg f d k (pc + 3) ls (v.toList ++ rr) hp' else none
              | _ => none)
              else none
            | _, _ => none
          | _ => none)
        else none
theorem z_exg_ok (sc : Nat × (Nat → Int32)) : ∀ (f0 d k pc : Nat) (ls : z_Ls) (st : List Value) (hp : z_H) (res : z_R × z_H), z_exg f0 d k pc ls st hp = some res → ∀ f, f0 ≤ f → z_ex sc f d k pc ls st hp = some res := by
  intro f0
  induction f0 with
  | zero => intro d k pc ls st hp res h; cases h
  | succ f0 ih =>
    intro d k pc ls st hp res h f hf
    obtain ⟨f, rfl⟩ : ∃ f', f = f' + 1 := ⟨f - 1, by omega⟩
    have hf' : f0 ≤ f := by omega
    unfold z_exg at h
    unfold z_ex
    cases hr : z_rec k with
    | none => rw [hr] at h; cases h
    | some r =>
      rw [hr] at h
      dsimp only at h ⊢
      cases hfd : z_find r.2.2.2.2.2.2.2.2 pc with
      | none => rw [hfd] at h; cases h
      | some q =>
        obtain ⟨i, len, ax⟩ := q
        rw [hfd] at h
        dsimp only at h ⊢
        cases hb : z_lok i len && z_nal i with
        | false => rw [hb] at h; cases h
        | true =>
          rw [hb] at h
          rw [Bool.and_eq_true] at hb
          rw [hb.1]
          dsimp only [cond_true] at h ⊢
          split at h
          · rename_i hk
            rw [hk]
            rw [z_nal_loc (sc' := z_s0) hb.2]
            split at h
            · rename_i C hC
              rw [hC]
              exact ih _ _ _ _ _ _ _ h f hf'
            · cases h
          · rename_i hk
            rw [hk]
            exact h
          · cases h
          · rename_i hk0 hk1 hk2
            split at h
            · rename_i kd k2 n tl
              split at h
              · rename_i r2 as rr hr2 has
                cases hc : Nat.ble 1 d && (Nat.ble (lg_sl as).length r2.2.2.2.2.1 && (Nat.ble r2.2.2.2.2.1 20 && (Nat.ble (z_cat rr) 8 && (z_rcv kd r2.1 as hp && (Nat.beq kd 5 || r2.2.2.2.2.2.2.1.isEmpty))))) with
                | false => rw [hc] at h; cases h
                | true =>
                  rw [hc] at h
                  dsimp only [cond_true] at h ⊢
                  split at h
                  · rename_i v hp' hcal
                    split
                    · rename_i hk; exact absurd hk hk0
                    · rename_i hk; exact absurd hk hk1
                    · rename_i hk; exact absurd hk hk2
                    · rw [hr2, has]
                      dsimp only
                      rw [hc]
                      dsimp only [cond_true]
                      rw [ih _ _ _ _ _ _ _ hcal f hf']
                      dsimp only
                      cases hck : z_cok hp hp' ls rr v with
                      | false => rw [hck] at h; cases h
                      | true =>
                        rw [hck] at h
                        exact ih _ _ _ _ _ _ _ h f hf'
                  · cases h
              · cases h
            · cases h
/-- a new object's first row, its fields as the machine lays them -/
def z_o0 : z_H := ([.inr (9, (List.range 10).map (fun j => z_def (z_ty 9 j)))], 0, 10)
/-- .. and what the constructor makes of it -/
def z_I0 : z_R × z_H := (z_exg 400 20 74 0 [(0, .ref 0)] [] z_o0).getD (.inr 0, [], 0, 0)
def z_rgX : Option va_E → Nat → Option Nat
  | some (.inl (_, _, .inr (.inr (.inr (.inr f))))) => f
  | _ => fun _ => none
def z_rgF : Nat → Option Nat := z_rgX (z_I0.2.1[58]?)
theorem z_rgF_ok : (List.range 9).all (fun j => decide (z_rgF j = ([59, 79, 99, 119, 139, 159, 179, 199, 219] : List Nat)[j]?)) = true := by decide +kernel
theorem z_I0_is : z_exg 400 20 74 0 [(0, .ref 0)] [] z_o0 = some z_I0 := by
  unfold z_I0
  cases h : z_exg 400 20 74 0 [(0, .ref 0)] [] z_o0 with
  | some x => rfl
  | none =>
    exfalso
    have h2 : (z_exg 400 20 74 0 [(0, .ref 0)] [] z_o0).isSome = true := by decide +kernel
    rw [h] at h2
    cases h2
end ZINI
