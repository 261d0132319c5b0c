/-! The law's loop: an invariant that every agreeing call keeps leads to the end with 1. -/
section ZLOOP
def z_S0 (Inv : Nat → z_Mem → Prop) : Prop := ∀ (n : Nat) (μ : z_Mem) (c1 : Int32), Inv n μ → n < 512 → ∃ (r : Int32 ⊕ Nat) (μ1 : z_Mem) (b : Int32) (μ2 : z_Mem), pG_addGear μ c1 = some (r, μ1) ∧ pm_addGear μ1 c1 = some (b, μ2) ∧ z_agI [1, 2] r b (μ2 241 12) ∧ Inv (n + 1) μ2
def z_S1 (Inv : Nat → z_Mem → Prop) : Prop := ∀ (n : Nat) (μ : z_Mem) (c1 : Int32) (c2 : Int32) (c3 : Int32), Inv n μ → n < 512 → ∃ (r : Int32 ⊕ Nat) (μ1 : z_Mem) (b : Int32) (μ2 : z_Mem), pG_mesh μ c1 c2 c3 = some (r, μ1) ∧ pm_mesh μ1 c1 c2 c3 = some (b, μ2) ∧ z_agI [0, 1, 2] r b (μ2 241 12) ∧ Inv (n + 1) μ2
def z_S2 (Inv : Nat → z_Mem → Prop) : Prop := ∀ (n : Nat) (μ : z_Mem) (c1 : Int32) (c2 : Int32), Inv n μ → n < 512 → ∃ (r : Int32 ⊕ Nat) (μ1 : z_Mem) (b : Int32) (μ2 : z_Mem), pG_part μ c1 c2 = some (r, μ1) ∧ pm_part μ1 c1 c2 = some (b, μ2) ∧ z_agI [0, 3] r b (μ2 241 12) ∧ Inv (n + 1) μ2
def z_S3 (Inv : Nat → z_Mem → Prop) : Prop := ∀ (n : Nat) (μ : z_Mem) (c1 : Int32) (c2 : Int32), Inv n μ → n < 512 → ∃ (r : Int32 ⊕ Nat) (μ1 : z_Mem) (b : Int32) (μ2 : z_Mem), pG_turn μ c1 c2 = some (r, μ1) ∧ pm_turn μ1 c1 c2 = some (b, μ2) ∧ z_agI [0, 1] r b (μ2 241 12) ∧ Inv (n + 1) μ2
def z_S4 (Inv : Nat → z_Mem → Prop) : Prop := ∀ (n : Nat) (μ : z_Mem), Inv n μ → n < 512 → ∃ (b : Int32) (μ2 : z_Mem), pG_gearCount μ = some b ∧ pm_gearCount μ = some (b, μ2) ∧ Inv (n + 1) μ2
def z_S5 (Inv : Nat → z_Mem → Prop) : Prop := ∀ (n : Nat) (μ : z_Mem) (c1 : Int32), Inv n μ → n < 512 → ∃ (r : Int32 ⊕ Nat) (b : Int32) (μ2 : z_Mem), pG_teeth μ c1 = some r ∧ pm_teeth μ c1 = some (b, μ2) ∧ z_agI [0] r b (μ2 241 12) ∧ Inv (n + 1) μ2
def z_S6 (Inv : Nat → z_Mem → Prop) : Prop := ∀ (n : Nat) (μ : z_Mem) (c1 : Int32), Inv n μ → n < 512 → ∃ (r : Int32 ⊕ Nat) (b : Int32) (μ2 : z_Mem), pG_position μ c1 = some r ∧ pm_position μ c1 = some (b, μ2) ∧ z_agI [0] r b (μ2 241 12) ∧ Inv (n + 1) μ2
def z_S7 (Inv : Nat → z_Mem → Prop) : Prop := ∀ (n : Nat) (μ : z_Mem), Inv n μ → n < 512 → ∃ (b : Int32) (μ2 : z_Mem), pG_meshCount μ = some b ∧ pm_meshCount μ = some (b, μ2) ∧ Inv (n + 1) μ2
def z_S8 (Inv : Nat → z_Mem → Prop) : Prop := ∀ (n : Nat) (μ : z_Mem) (c1 : Int32) (c2 : Int32), Inv n μ → n < 512 → ∃ (r : Int32 ⊕ Nat) (b : Int32) (μ2 : z_Mem), pG_doMesh μ c1 c2 = some r ∧ pm_doMesh μ c1 c2 = some (b, μ2) ∧ z_agI [0] r b (μ2 241 12) ∧ Inv (n + 1) μ2
def z_S9 (Inv : Nat → z_Mem → Prop) : Prop := ∀ (n : Nat) (μ : z_Mem) (c1 : Int32) (c2 : Int32), Inv n μ → n < 512 → ∃ (r : Int32 ⊕ Nat) (b : Int32) (μ2 : z_Mem), pG_slack μ c1 c2 = some r ∧ pm_slack μ c1 c2 = some (b, μ2) ∧ z_agI [0, 3] r b (μ2 241 12) ∧ Inv (n + 1) μ2
def z_S10 (Inv : Nat → z_Mem → Prop) : Prop := ∀ (n : Nat) (μ : z_Mem) (c1 : Int32) (c2 : Int32), Inv n μ → n < 512 → ∃ (r : Int32 ⊕ Nat) (b : Int32) (μ2 : z_Mem), pG_gap μ c1 c2 = some r ∧ pm_gap μ c1 c2 = some (b, μ2) ∧ z_agI [0, 3] r b (μ2 241 12) ∧ Inv (n + 1) μ2
def z_S11 (Inv : Nat → z_Mem → Prop) : Prop := ∀ (n : Nat) (μ : z_Mem) (c1 : Int32) (c2 : Int32), Inv n μ → n < 512 → ∃ (r : Int32 ⊕ Nat) (μ1 : z_Mem) (b : Int32) (μ2 : z_Mem), pG_areConnected μ c1 c2 = some (r, μ1) ∧ pm_areConnected μ1 c1 c2 = some (b, μ2) ∧ z_agI [0] r b (μ2 241 12) ∧ Inv (n + 1) μ2
def z_S12 (Inv : Nat → z_Mem → Prop) : Prop := ∀ (n : Nat) (μ : z_Mem) (c1 : Int32), Inv n μ → n < 512 → ∃ (r : Int32 ⊕ Nat) (μ1 : z_Mem) (b : Int32) (μ2 : z_Mem), pG_trainSize μ c1 = some (r, μ1) ∧ pm_trainSize μ1 c1 = some (b, μ2) ∧ z_agI [0] r b (μ2 241 12) ∧ Inv (n + 1) μ2
def z_S13 (Inv : Nat → z_Mem → Prop) : Prop := ∀ (n : Nat) (μ : z_Mem), Inv n μ → n < 512 → ∃ (b : Int32) (μ1 : z_Mem) (μ2 : z_Mem), pG_trainCount μ = some (b, μ1) ∧ pm_trainCount μ1 = some (b, μ2) ∧ Inv (n + 1) μ2
def z_S14 (Inv : Nat → z_Mem → Prop) : Prop := ∀ (n : Nat) (μ : z_Mem), Inv n μ → n < 512 → ∃ (b : Int32) (μ1 : z_Mem) (μ2 : z_Mem), pG_trainCountByUnions μ = some (b, μ1) ∧ pm_trainCountByUnions μ1 = some (b, μ2) ∧ Inv (n + 1) μ2
def z_S15 (Inv : Nat → z_Mem → Prop) : Prop := ∀ (n : Nat) (μ : z_Mem), Inv n μ → n < 512 → ∃ (b : Int32) (μ2 : z_Mem), pG_turnedTeeth μ = some b ∧ pm_turnedTeeth μ = some (b, μ2) ∧ Inv (n + 1) μ2
def z_S16 (Inv : Nat → z_Mem → Prop) : Prop := ∀ (n : Nat) (μ : z_Mem) (c1 : Int32) (c2 : Int32), Inv n μ → n < 512 → ∃ (r : Int32 ⊕ Nat) (μ1 : z_Mem) (b : Int32) (μ2 : z_Mem), pG_ratioNumerator μ c1 c2 = some (r, μ1) ∧ pm_ratioNumerator μ1 c1 c2 = some (b, μ2) ∧ z_agI [0, 3] r b (μ2 241 12) ∧ Inv (n + 1) μ2
def z_S17 (Inv : Nat → z_Mem → Prop) : Prop := ∀ (n : Nat) (μ : z_Mem) (c1 : Int32) (c2 : Int32), Inv n μ → n < 512 → ∃ (r : Int32 ⊕ Nat) (μ1 : z_Mem) (b : Int32) (μ2 : z_Mem), pG_ratioDenominator μ c1 c2 = some (r, μ1) ∧ pm_ratioDenominator μ1 c1 c2 = some (b, μ2) ∧ z_agI [0, 3] r b (μ2 241 12) ∧ Inv (n + 1) μ2
def z_S18 (Inv : Nat → z_Mem → Prop) : Prop := ∀ (n : Nat) (μ : z_Mem) (c1 : Int32) (c2 : Int32), Inv n μ → n < 512 → ∃ (r : Int32 ⊕ Nat) (μ1 : z_Mem) (b : Int32) (μ2 : z_Mem), pG_ratioNumeratorByChain μ c1 c2 = some (r, μ1) ∧ pm_ratioNumeratorByChain μ1 c1 c2 = some (b, μ2) ∧ z_agI [0, 3] r b (μ2 241 12) ∧ Inv (n + 1) μ2
def z_S19 (Inv : Nat → z_Mem → Prop) : Prop := ∀ (n : Nat) (μ : z_Mem) (c1 : Int32) (c2 : Int32), Inv n μ → n < 512 → ∃ (r : Int32 ⊕ Nat) (μ1 : z_Mem) (b : Int32) (μ2 : z_Mem), pG_freePlay μ c1 c2 = some (r, μ1) ∧ pm_freePlay μ1 c1 c2 = some (b, μ2) ∧ z_agI [0, 3] r b (μ2 241 12) ∧ Inv (n + 1) μ2
def z_S20 (Inv : Nat → z_Mem → Prop) : Prop := ∀ (n : Nat) (μ : z_Mem) (c1 : Int32) (c2 : Int32), Inv n μ → n < 512 → ∃ (r : Int32 ⊕ Nat) (μ1 : z_Mem) (b : Int32) (μ2 : z_Mem), pG_freePlayByTurning μ c1 c2 = some (r, μ1) ∧ pm_freePlayByTurning μ1 c1 c2 = some (b, μ2) ∧ z_agI [0, 3] r b (μ2 241 12) ∧ Inv (n + 1) μ2
def z_S21 (Inv : Nat → z_Mem → Prop) : Prop := ∀ (n : Nat) (μ : z_Mem) (c1 : Int32) (c2 : Int32), Inv n μ → n < 512 → ∃ (r : Int32 ⊕ Nat) (μ1 : z_Mem) (b : Int32) (μ2 : z_Mem), pG_addWheel μ c1 c2 = some (r, μ1) ∧ pm_addWheel μ1 c1 c2 = some (b, μ2) ∧ z_agI [0, 1, 2] r b (μ2 241 12) ∧ Inv (n + 1) μ2
def z_S22 (Inv : Nat → z_Mem → Prop) : Prop := ∀ (n : Nat) (μ : z_Mem), Inv n μ → n < 512 → ∃ (b : Int32) (μ2 : z_Mem), pG_wheelCount μ = some b ∧ pm_wheelCount μ = some (b, μ2) ∧ Inv (n + 1) μ2
def z_S23 (Inv : Nat → z_Mem → Prop) : Prop := ∀ (n : Nat) (μ : z_Mem) (c1 : Int32), Inv n μ → n < 512 → ∃ (r : Int32 ⊕ Nat) (b : Int32) (μ2 : z_Mem), pG_gearOf μ c1 = some r ∧ pm_gearOf μ c1 = some (b, μ2) ∧ z_agI [0] r b (μ2 241 12) ∧ Inv (n + 1) μ2
def z_S24 (Inv : Nat → z_Mem → Prop) : Prop := ∀ (n : Nat) (μ : z_Mem) (c1 : Int32) (c2 : Int32), Inv n μ → n < 512 → ∃ (r : Int32 ⊕ Nat) (b : Int32) (μ2 : z_Mem), pG_spokeDirection μ c1 c2 = some r ∧ pm_spokeDirection μ c1 c2 = some (b, μ2) ∧ z_agI [0, 1] r b (μ2 241 12) ∧ Inv (n + 1) μ2
def z_S25 (Inv : Nat → z_Mem → Prop) : Prop := ∀ (n : Nat) (μ : z_Mem) (c1 : Int32) (c2 : Int32), Inv n μ → n < 512 → ∃ (r : Int32 ⊕ Nat) (b : Int32) (μ2 : z_Mem), pG_nearestSpoke μ c1 c2 = some r ∧ pm_nearestSpoke μ c1 c2 = some (b, μ2) ∧ z_agI [0, 3] r b (μ2 241 12) ∧ Inv (n + 1) μ2
def z_S26 (Inv : Nat → z_Mem → Prop) : Prop := ∀ (n : Nat) (μ : z_Mem) (c1 : Int32) (c2 : Int32), Inv n μ → n < 512 → ∃ (r : Int32 ⊕ Nat) (b : Int32) (μ2 : z_Mem), pG_distanceToStar μ c1 c2 = some r ∧ pm_distanceToStar μ c1 c2 = some (b, μ2) ∧ z_agI [0, 3] r b (μ2 241 12) ∧ Inv (n + 1) μ2
def z_S27 (Inv : Nat → z_Mem → Prop) : Prop := ∀ (n : Nat) (μ : z_Mem) (c1 : Int32) (c2 : Int32), Inv n μ → n < 512 → ∃ (r : Int32 ⊕ Nat) (b : Int32) (μ2 : z_Mem), pG_teethToFollow μ c1 c2 = some r ∧ pm_teethToFollow μ c1 c2 = some (b, μ2) ∧ z_agI [0, 3] r b (μ2 241 12) ∧ Inv (n + 1) μ2
def z_S28 (Inv : Nat → z_Mem → Prop) : Prop := ∀ (n : Nat) (μ : z_Mem) (c1 : Int32) (c2 : Int32), Inv n μ → n < 512 → ∃ (r : Int32 ⊕ Nat) (μ1 : z_Mem) (b : Int32) (μ2 : z_Mem), pG_follow μ c1 c2 = some (r, μ1) ∧ pm_follow μ1 c1 c2 = some (b, μ2) ∧ z_agI [0, 3] r b (μ2 241 12) ∧ Inv (n + 1) μ2
def z_S29 (Inv : Nat → z_Mem → Prop) : Prop := ∀ (n : Nat) (μ : z_Mem) (c1 : Int32) (c2 : Int32), Inv n μ → n < 512 → ∃ (r : Int32 ⊕ Nat) (μ1 : z_Mem) (b : Int32) (μ2 : z_Mem), pG_addStar μ c1 c2 = some (r, μ1) ∧ pm_addStar μ1 c1 c2 = some (b, μ2) ∧ z_agI [1, 2] r b (μ2 241 12) ∧ Inv (n + 1) μ2
def z_S30 (Inv : Nat → z_Mem → Prop) : Prop := ∀ (n : Nat) (μ : z_Mem) (c1 : Int32), Inv n μ → n < 512 → ∃ (r : Int32 ⊕ Nat) (μ1 : z_Mem) (b : Int32) (μ2 : z_Mem), pG_removeStar μ c1 = some (r, μ1) ∧ pm_removeStar μ1 c1 = some (b, μ2) ∧ z_agI [3] r b (μ2 241 12) ∧ Inv (n + 1) μ2
def z_S31 (Inv : Nat → z_Mem → Prop) : Prop := ∀ (n : Nat) (μ : z_Mem), Inv n μ → n < 512 → ∃ (b : Int32) (μ2 : z_Mem), pG_starCount μ = some b ∧ pm_starCount μ = some (b, μ2) ∧ Inv (n + 1) μ2
def z_S32 (Inv : Nat → z_Mem → Prop) : Prop := ∀ (n : Nat) (μ : z_Mem) (c1 : Int32), Inv n μ → n < 512 → ∃ (r : Int32 ⊕ Nat) (b : Int32) (μ2 : z_Mem), pG_star μ c1 = some r ∧ pm_star μ c1 = some (b, μ2) ∧ z_agI [0] r b (μ2 241 12) ∧ Inv (n + 1) μ2
def z_S33 (Inv : Nat → z_Mem → Prop) : Prop := ∀ (n : Nat) (μ : z_Mem) (c1 : Int32), Inv n μ → n < 512 → ∃ (r : Int32 ⊕ Nat) (b : Int32) (μ2 : z_Mem), pG_direction μ c1 = some r ∧ pm_direction μ c1 = some (b, μ2) ∧ z_agI [3] r b (μ2 241 12) ∧ Inv (n + 1) μ2
def z_S34 (Inv : Nat → z_Mem → Prop) : Prop := ∀ (n : Nat) (μ : z_Mem) (c1 : Int32), Inv n μ → n < 512 → ∃ (r : Int32 ⊕ Nat) (μ1 : z_Mem) (b : Int32) (μ2 : z_Mem), pG_passHours μ c1 = some (r, μ1) ∧ pm_passHours μ1 c1 = some (b, μ2) ∧ z_agI [1] r b (μ2 241 12) ∧ Inv (n + 1) μ2
def z_S35 (Inv : Nat → z_Mem → Prop) : Prop := ∀ (n : Nat) (μ : z_Mem) (c1 : Int32) (c2 : Int32), Inv n μ → n < 512 → ∃ (r : Int32 ⊕ Nat) (b : Int32) (μ2 : z_Mem), pG_directionAfter μ c1 c2 = some r ∧ pm_directionAfter μ c1 c2 = some (b, μ2) ∧ z_agI [3, 1] r b (μ2 241 12) ∧ Inv (n + 1) μ2
def z_S36 (Inv : Nat → z_Mem → Prop) : Prop := ∀ (n : Nat) (μ : z_Mem) (c1 : Int32) (c2 : Int32), Inv n μ → n < 512 → ∃ (r : Int32 ⊕ Nat) (b : Int32) (μ2 : z_Mem), pG_directionAfterAtOnce μ c1 c2 = some r ∧ pm_directionAfterAtOnce μ c1 c2 = some (b, μ2) ∧ z_agI [3, 1] r b (μ2 241 12) ∧ Inv (n + 1) μ2
def z_S37 (Inv : Nat → z_Mem → Prop) : Prop := ∀ (n : Nat) (μ : z_Mem) (c1 : Int32), Inv n μ → n < 512 → ∃ (r : Int32 ⊕ Nat) (b : Int32) (μ2 : z_Mem), pG_nearestStar μ c1 = some r ∧ pm_nearestStar μ c1 = some (b, μ2) ∧ z_agI [1, 3] r b (μ2 241 12) ∧ Inv (n + 1) μ2
def z_S38 (Inv : Nat → z_Mem → Prop) : Prop := ∀ (n : Nat) (μ : z_Mem) (c1 : Int32) (c2 : Int32), Inv n μ → n < 512 → ∃ (r : Int32 ⊕ Nat) (μ1 : z_Mem) (b : Int32) (μ2 : z_Mem), pG_catalogue μ (z_toC c1) c2 = some (r, μ1) ∧ pm_catalogue μ1 (z_toC c1) c2 = some (b, μ2) ∧ z_agI [1, 2] r b (μ2 241 12) ∧ Inv (n + 1) μ2
def z_S39 (Inv : Nat → z_Mem → Prop) : Prop := ∀ (n : Nat) (μ : z_Mem) (c1 : Int32) (c2 : Int32), Inv n μ → n < 512 → ∃ (r : Int32 ⊕ Nat) (μ1 : z_Mem) (b : Int32) (μ2 : z_Mem), pG_forget μ (z_toC c1) c2 = some (r, μ1) ∧ pm_forget μ1 (z_toC c1) c2 = some (b, μ2) ∧ z_agI [1, 3] r b (μ2 241 12) ∧ Inv (n + 1) μ2
def z_S40 (Inv : Nat → z_Mem → Prop) : Prop := ∀ (n : Nat) (μ : z_Mem) (c1 : Int32) (c2 : Int32), Inv n μ → n < 512 → ∃ (r : Int32 ⊕ Nat) (b : Int32) (μ2 : z_Mem), pG_isCatalogued μ (z_toC c1) c2 = some r ∧ pm_isCatalogued μ (z_toC c1) c2 = some (b, μ2) ∧ z_agI [1] r b (μ2 241 12) ∧ Inv (n + 1) μ2
def z_S41 (Inv : Nat → z_Mem → Prop) : Prop := ∀ (n : Nat) (μ : z_Mem) (c1 : Int32) (c2 : Int32) (c3 : Int32), Inv n μ → n < 512 → ∃ (r : Int32 ⊕ Nat) (b : Int32) (μ2 : z_Mem), pG_entryPosition μ (z_toC c1) c2 c3 = some r ∧ pm_entryPosition μ (z_toC c1) c2 c3 = some (b, μ2) ∧ z_agI [1, 3] r b (μ2 241 12) ∧ Inv (n + 1) μ2
def z_S42 (Inv : Nat → z_Mem → Prop) : Prop := ∀ (n : Nat) (μ : z_Mem) (c1 : Int32) (c2 : Int32), Inv n μ → n < 512 → ∃ (r : Int32 ⊕ Nat) (b : Int32) (μ2 : z_Mem), pG_changedSince μ (z_toC c1) c2 = some r ∧ pm_changedSince μ (z_toC c1) c2 = some (b, μ2) ∧ z_agI [1, 3] r b (μ2 241 12) ∧ Inv (n + 1) μ2
def z_S43 (Inv : Nat → z_Mem → Prop) : Prop := ∀ (n : Nat) (μ : z_Mem), Inv n μ → n < 512 → ∃ (r : UInt64 ⊕ Nat) (b : UInt64) (μ2 : z_Mem), pG_meanTeeth μ = some r ∧ pm_meanTeeth μ = some (b, μ2) ∧ z_agD [4] r b (μ2 241 12) ∧ Inv (n + 1) μ2
def z_S44 (Inv : Nat → z_Mem → Prop) : Prop := ∀ (n : Nat) (μ : z_Mem) (c1 : Int32), Inv n μ → n < 512 → ∃ (r : UInt32 ⊕ Nat) (b : UInt32) (μ2 : z_Mem), pG_alignedFraction μ c1 = some r ∧ pm_alignedFraction μ c1 = some (b, μ2) ∧ z_agF [1, 4] r b (μ2 241 12) ∧ (∀ v, r = .inl v → z_n64 (FP.f2d v) = true) ∧ (μ2 241 12 = 0 → z_n64 (FP.f2d b) = true) ∧ (μ2 241 12 = 0 → Op.cmpValue (FP.dcmp (FP.f2d b) (FP.f2d b)) .l = 0) ∧ Inv (n + 1) μ2
def z_S45 (Inv : Nat → z_Mem → Prop) : Prop := ∀ (n : Nat) (μ : z_Mem) (c1 : Int32), Inv n μ → n < 512 → ∃ (r : Int32 ⊕ Nat) (μ1 : z_Mem) (b : Int32) (μ2 : z_Mem), pG_writeGear μ c1 = some (r, μ1) ∧ pm_writeGear μ1 c1 = some (b, μ2) ∧ z_agI [0] r b (μ2 241 12) ∧ Inv (n + 1) μ2
def z_S46 (Inv : Nat → z_Mem → Prop) : Prop := ∀ (n : Nat) (μ : z_Mem) (c1 : Int32), Inv n μ → n < 512 → ∃ (r : Int32 ⊕ Nat) (b : Int32) (μ2 : z_Mem), pG_outputCharacter μ c1 = some r ∧ pm_outputCharacter μ c1 = some (b, μ2) ∧ z_agI [0] r b (μ2 241 12) ∧ Inv (n + 1) μ2
def z_S47 (Inv : Nat → z_Mem → Prop) : Prop := ∀ (n : Nat) (μ : z_Mem), Inv n μ → n < 512 → ∃ (b : Int32) (μ1 : z_Mem) (μ2 : z_Mem), pG_isConsistent μ = some (b, μ1) ∧ pm_isConsistent μ1 = some (b, μ2) ∧ Inv (n + 1) μ2
def z_S48 (Inv : Nat → z_Mem → Prop) : Prop := ∀ (n : Nat) (μ : z_Mem) (c1 : Int32), Inv n μ → n < 512 → ∃ (r : Int32 ⊕ Nat) (μ1 : z_Mem) (b : Int32) (μ2 : z_Mem), pG_feed μ (z_toC c1) = some (r, μ1) ∧ pm_feed μ1 (z_toC c1) = some (b, μ2) ∧ z_agI [2] r b (μ2 241 12) ∧ Inv (n + 1) μ2
def z_S49 (Inv : Nat → z_Mem → Prop) : Prop := ∀ (n : Nat) (μ : z_Mem), Inv n μ → n < 512 → ∃ (r : Int32 ⊕ Nat) (μ1 : z_Mem) (b : Int32) (μ2 : z_Mem), pG_execute μ = some (r, μ1) ∧ pm_execute μ1 = some (b, μ2) ∧ z_agI [1, 5] r b (μ2 241 12) ∧ Inv (n + 1) μ2
def z_S50 (Inv : Nat → z_Mem → Prop) : Prop := ∀ (n : Nat) (μ : z_Mem), Inv n μ → n < 512 → ∃ (r : Int32 ⊕ Nat) (b : Int32) (μ2 : z_Mem), pG_errorPosition μ = some r ∧ pm_errorPosition μ = some (b, μ2) ∧ z_agI [3] r b (μ2 241 12) ∧ Inv (n + 1) μ2
def z_S51 (Inv : Nat → z_Mem → Prop) : Prop := ∀ (n : Nat) (μ : z_Mem), Inv n μ → n < 512 → ∃ (r : Int32 ⊕ Nat) (b : Int32) (μ2 : z_Mem), pG_failedCommand μ = some r ∧ pm_failedCommand μ = some (b, μ2) ∧ z_agI [3] r b (μ2 241 12) ∧ Inv (n + 1) μ2
def z_S52 (Inv : Nat → z_Mem → Prop) : Prop := ∀ (n : Nat) (μ : z_Mem), Inv n μ → n < 512 → ∃ (r : Int32 ⊕ Nat) (μ1 : z_Mem) (b : Int32) (μ2 : z_Mem), pG_undo μ = some (r, μ1) ∧ pm_undo μ1 = some (b, μ2) ∧ z_agI [2] r b (μ2 241 12) ∧ Inv (n + 1) μ2
def z_S53 (Inv : Nat → z_Mem → Prop) : Prop := ∀ (n : Nat) (μ : z_Mem), Inv n μ → n < 512 → ∃ (b : Int32) (μ2 : z_Mem), pG_undoCount μ = some b ∧ pm_undoCount μ = some (b, μ2) ∧ Inv (n + 1) μ2
def z_S54 (Inv : Nat → z_Mem → Prop) : Prop := ∀ (n : Nat) (μ : z_Mem), Inv n μ → n < 512 → ∃ (b : Int32) (μ1 : z_Mem) (μ2 : z_Mem), pG_save μ = some (b, μ1) ∧ pm_save μ1 = some (b, μ2) ∧ Inv (n + 1) μ2
def z_S55 (Inv : Nat → z_Mem → Prop) : Prop := ∀ (n : Nat) (μ : z_Mem), Inv n μ → n < 512 → ∃ (r : Int32 ⊕ Nat) (μ1 : z_Mem) (b : Int32) (μ2 : z_Mem), pG_restore μ = some (r, μ1) ∧ pm_restore μ1 = some (b, μ2) ∧ z_agI [2] r b (μ2 241 12) ∧ Inv (n + 1) μ2
theorem z_swd_off {k pc nL : Nat} {i : Instr} {ax : List Nat} {x : Int32} {t : Nat} {cs : List Int32} (hp : z_pt k pc = some (nL, i, ax)) (h : z_swd k pc cs = some t) (hx : z_nin x cs) : ∃ off, z_off i x = some off ∧ z_tgt pc off = some t := by
  have hcon : cs.contains x = false := by
    cases hc : cs.contains x with
    | false => rfl
    | true => exact absurd rfl (hx x (List.contains_iff_mem.mp hc))
  unfold z_swd at h
  rw [hp] at h
  dsimp only at h
  split at h
  · rename_i dflt lo hi offs
    cases hb : (List.range (hi - lo + 1).toNat).all (fun q => cs.contains (Int32.ofInt (lo + q)) || decide (offs[q]? = some dflt)) with
    | false => rw [hb] at h; cases h
    | true =>
      rw [hb] at h
      refine ⟨dflt, ?_, h⟩
      unfold z_off
      dsimp only
      split
      · rfl
      · rename_i hc
        have h1 : lo ≤ x.toInt := by omega
        have h2 : x.toInt ≤ hi := by omega
        have h3 := List.all_eq_true.mp hb (x.toInt - lo).toNat (List.mem_range.mpr (by omega))
        have h4 : lo + ((x.toInt - lo).toNat : Int) = x.toInt := by omega
        rw [h4, z_i32_int, hcon] at h3
        simpa using h3
  · rename_i dflt ps
    cases hb : (ps.toList.zip (ps.toList.drop 1)).all (fun (a, next) => a.1 < next.1) with
    | false => rw [hb] at h; cases h
    | true =>
      rw [hb] at h
      cases hc : ps.toList.all (fun q => cs.contains (Int32.ofInt q.1)) with
      | false => rw [hc] at h; cases h
      | true =>
        rw [hc] at h
        have hof : ∀ l : List (Int × Int), l.all (fun q => cs.contains (Int32.ofInt q.1)) = true → Op.lookupswitch.offset l dflt x.toInt = dflt := by
          intro l
          induction l with
          | nil => intro _; rfl
          | cons q l ih =>
            intro hl
            rw [List.all_cons, Bool.and_eq_true] at hl
            rw [Op.lookupswitch.offset_cons, if_neg, ih hl.2]
            intro hq
            have h5 := hl.1
            rw [hq, z_i32_int, hcon] at h5
            cases h5
        refine ⟨dflt, ?_, h⟩
        unfold z_off
        dsimp only
        rw [hb, hof _ hc]
        rfl
  · cases h
theorem L_swd {sc : Nat × (Nat → Int32)} {D k pc nL J : Nat} {ls : z_Ls} {st : List Value} {μ : z_Mem} {a : Nat → Int64} {q : Nat → UInt64} {o : z_R} {P : z_LP} {i : Instr} {ax : List Nat} {x : Int32} {t : Nat} {cs : List Int32} (hp : z_pt k pc = some (nL, i, ax)) (h : z_swd k pc cs = some t) (hx : z_nin x cs) (kk : Rl sc D k t ls st μ a q o P J) : Rl sc D k pc ls (.int x :: st) μ a q o P J := by
  obtain ⟨off, ho, ht⟩ := z_swd_off hp h hx
  exact L_pure hp (z_kd_off ho) (fun d hp => z_off_loc ho ht) kk
theorem z_step {Inv : Nat → z_Mem → Prop} (h0 : z_S0 Inv) (h1 : z_S1 Inv) (h2 : z_S2 Inv) (h3 : z_S3 Inv) (h4 : z_S4 Inv) (h5 : z_S5 Inv) (h6 : z_S6 Inv) (h7 : z_S7 Inv) (h8 : z_S8 Inv) (h9 : z_S9 Inv) (h10 : z_S10 Inv) (h11 : z_S11 Inv) (h12 : z_S12 Inv) (h13 : z_S13 Inv) (h14 : z_S14 Inv) (h15 : z_S15 Inv) (h16 : z_S16 Inv) (h17 : z_S17 Inv) (h18 : z_S18 Inv) (h19 : z_S19 Inv) (h20 : z_S20 Inv) (h21 : z_S21 Inv) (h22 : z_S22 Inv) (h23 : z_S23 Inv) (h24 : z_S24 Inv) (h25 : z_S25 Inv) (h26 : z_S26 Inv) (h27 : z_S27 Inv) (h28 : z_S28 Inv) (h29 : z_S29 Inv) (h30 : z_S30 Inv) (h31 : z_S31 Inv) (h32 : z_S32 Inv) (h33 : z_S33 Inv) (h34 : z_S34 Inv) (h35 : z_S35 Inv) (h36 : z_S36 Inv) (h37 : z_S37 Inv) (h38 : z_S38 Inv) (h39 : z_S39 Inv) (h40 : z_S40 Inv) (h41 : z_S41 Inv) (h42 : z_S42 Inv) (h43 : z_S43 Inv) (h44 : z_S44 Inv) (h45 : z_S45 Inv) (h46 : z_S46 Inv) (h47 : z_S47 Inv) (h48 : z_S48 Inv) (h49 : z_S49 Inv) (h50 : z_S50 Inv) (h51 : z_S51 Inv) (h52 : z_S52 Inv) (h53 : z_S53 Inv) (h54 : z_S54 Inv) (h55 : z_S55 Inv) {sc : Nat × (Nat → Int32)} {D J n : Nat} {i : Int32} {μ : z_Mem} {a : Nat → Int64} {q : Nat → UInt64} {o : z_R} {P : z_LP} (hup : ∀ (n : Nat) (μ : z_Mem), Inv n μ → Inv (n + 1) μ) (hD : 21 ≤ D) (hI : Inv n μ) (hn : n < 512) (hle : ¬ Int32.ofNat sc.1 - 4 < i) (hb0 : z_inb i sc.1 = true) (hb1 : z_inb (i + 1) sc.1 = true) (hb2 : z_inb (i + 2) sc.1 = true) (hb3 : z_inb (i + 3) sc.1 = true) (kk : ∀ (μ2 : z_Mem) (a : Nat → Int64) (q : Nat → UInt64), Inv (n + 1) μ2 → Rl sc D 320 28 [(0, .ref 2000), (1, .ref 0), (2, .ref 241), (3, .ref 251), (4, .ref 252), (5, .int (i + 4))] [] μ2 a q o P J) : Rl sc D 320 28 [(0, .ref 2000), (1, .ref 0), (2, .ref 241), (3, .ref 251), (4, .ref 252), (5, .int i)] [] μ a q o P (1 + J) := by
  refine L_pure (pc := 28) (pc' := 30) (st' := [.int i]) (show z_pt 320 28 = some (9, .iload 5, []) by decide +kernel) rfl (fun _ _ => rfl) ?_
  refine L_pure (pc := 30) (pc' := 31) (st' := [.ref 2000, .int i]) (show z_pt 320 30 = some (9, .aload_n 0, []) by decide +kernel) rfl (fun _ _ => rfl) ?_
  refine L_scl (pc := 31) (show z_pt 320 31 = some (9, .arraylength, []) by decide +kernel) ?_
  refine L_const (pc := 32) (pc' := 33) (v := 4) (show z_ptc 320 32 = some (33, 4) by decide +kernel) ?_
  refine L_pure (pc := 33) (pc' := 34) (st' := [.int (Int32.ofNat sc.1 - 4), .int i]) (show z_pt 320 33 = some (9, .isub, []) by decide +kernel) rfl (fun _ _ => rfl) ?_
  refine L_icF (pc := 34) (t := 3336) (show z_pt 320 34 = some (9, .if_icmp .gt 3302, []) by decide +kernel) (by decide) (decide_eq_false hle) ?_
  refine L_pure (pc := 37) (pc' := 38) (st' := [.ref 2000]) (show z_pt 320 37 = some (9, .aload_n 0, []) by decide +kernel) rfl (fun _ _ => rfl) ?_
  refine L_pure (pc := 38) (pc' := 40) (st' := [.int i, .ref 2000]) (show z_pt 320 38 = some (9, .iload 5, []) by decide +kernel) rfl (fun _ _ => rfl) ?_
  refine L_scr (pc := 40) (show z_pt 320 40 = some (9, .iaload, []) by decide +kernel) hb0 rfl ?_
  refine L_const (pc := 41) (pc' := 43) (v := 63) (show z_ptc 320 41 = some (43, 63) by decide +kernel) ?_
  refine L_pure (pc := 43) (pc' := 44) (st' := [.int (sc.2 i.toNatClampNeg &&& 63)]) (show z_pt 320 43 = some (9, .iand, []) by decide +kernel) rfl (fun _ _ => rfl) ?_
  generalize sc.2 i.toNatClampNeg &&& 63 = v
  by_cases e0 : v = 0
  · refine L_sw (pc := 44) (t := 284) (v := 0) (show z_pt 320 44 = some (9, .tableswitch 3286 0 55 #[240, 296, 376, 444, 512, 525, 581, 637, 650, 725, 793, 861, 936, 992, 1005, 1018, 1031, 1099, 1167, 1235, 1303, 1371, 1439, 1452, 1508, 1576, 1644, 1712, 1780, 1848, 1916, 1972, 1985, 2041, 2097, 2153, 2221, 2289, 2345, 2415, 2485, 2562, 2644, 2714, 2779, 2857, 2913, 2969, 2982, 3040, 3084, 3128, 3172, 3216, 3229, 3242], []) by decide +kernel) e0 (show z_swt 320 44 0 = some 284 by decide +kernel) ?_
    obtain ⟨r, μ1, b, μ2, h1, h2, hag, hI2⟩ := h0 n μ (sc.2 (i + 1).toNatClampNeg) hI hn
    exact pL_arm0 (by omega) hb1 rfl h1 h2 hag (fun a q => kk _ a q hI2)
  by_cases e1 : v = 1
  · refine L_sw (pc := 44) (t := 340) (v := 1) (show z_pt 320 44 = some (9, .tableswitch 3286 0 55 #[240, 296, 376, 444, 512, 525, 581, 637, 650, 725, 793, 861, 936, 992, 1005, 1018, 1031, 1099, 1167, 1235, 1303, 1371, 1439, 1452, 1508, 1576, 1644, 1712, 1780, 1848, 1916, 1972, 1985, 2041, 2097, 2153, 2221, 2289, 2345, 2415, 2485, 2562, 2644, 2714, 2779, 2857, 2913, 2969, 2982, 3040, 3084, 3128, 3172, 3216, 3229, 3242], []) by decide +kernel) e1 (show z_swt 320 44 1 = some 340 by decide +kernel) ?_
    obtain ⟨r, μ1, b, μ2, h1, h2, hag, hI2⟩ := h1 n μ (sc.2 (i + 1).toNatClampNeg) (sc.2 (i + 2).toNatClampNeg) (sc.2 (i + 3).toNatClampNeg) hI hn
    exact pL_arm1 (by omega) hb1 rfl hb2 rfl hb3 rfl h1 h2 hag (fun a q => kk _ a q hI2)
  by_cases e2 : v = 2
  · refine L_sw (pc := 44) (t := 420) (v := 2) (show z_pt 320 44 = some (9, .tableswitch 3286 0 55 #[240, 296, 376, 444, 512, 525, 581, 637, 650, 725, 793, 861, 936, 992, 1005, 1018, 1031, 1099, 1167, 1235, 1303, 1371, 1439, 1452, 1508, 1576, 1644, 1712, 1780, 1848, 1916, 1972, 1985, 2041, 2097, 2153, 2221, 2289, 2345, 2415, 2485, 2562, 2644, 2714, 2779, 2857, 2913, 2969, 2982, 3040, 3084, 3128, 3172, 3216, 3229, 3242], []) by decide +kernel) e2 (show z_swt 320 44 2 = some 420 by decide +kernel) ?_
    obtain ⟨r, μ1, b, μ2, h1, h2, hag, hI2⟩ := h2 n μ (sc.2 (i + 1).toNatClampNeg) (sc.2 (i + 2).toNatClampNeg) hI hn
    exact pL_arm2 (by omega) hb1 rfl hb2 rfl h1 h2 hag (fun a q => kk _ a q hI2)
  by_cases e3 : v = 3
  · refine L_sw (pc := 44) (t := 488) (v := 3) (show z_pt 320 44 = some (9, .tableswitch 3286 0 55 #[240, 296, 376, 444, 512, 525, 581, 637, 650, 725, 793, 861, 936, 992, 1005, 1018, 1031, 1099, 1167, 1235, 1303, 1371, 1439, 1452, 1508, 1576, 1644, 1712, 1780, 1848, 1916, 1972, 1985, 2041, 2097, 2153, 2221, 2289, 2345, 2415, 2485, 2562, 2644, 2714, 2779, 2857, 2913, 2969, 2982, 3040, 3084, 3128, 3172, 3216, 3229, 3242], []) by decide +kernel) e3 (show z_swt 320 44 3 = some 488 by decide +kernel) ?_
    obtain ⟨r, μ1, b, μ2, h1, h2, hag, hI2⟩ := h3 n μ (sc.2 (i + 1).toNatClampNeg) (sc.2 (i + 2).toNatClampNeg) hI hn
    exact pL_arm3 (by omega) hb1 rfl hb2 rfl h1 h2 hag (fun a q => kk _ a q hI2)
  by_cases e4 : v = 4
  · refine L_sw (pc := 44) (t := 556) (v := 4) (show z_pt 320 44 = some (9, .tableswitch 3286 0 55 #[240, 296, 376, 444, 512, 525, 581, 637, 650, 725, 793, 861, 936, 992, 1005, 1018, 1031, 1099, 1167, 1235, 1303, 1371, 1439, 1452, 1508, 1576, 1644, 1712, 1780, 1848, 1916, 1972, 1985, 2041, 2097, 2153, 2221, 2289, 2345, 2415, 2485, 2562, 2644, 2714, 2779, 2857, 2913, 2969, 2982, 3040, 3084, 3128, 3172, 3216, 3229, 3242], []) by decide +kernel) e4 (show z_swt 320 44 4 = some 556 by decide +kernel) ?_
    obtain ⟨b, μ2, h1, h2, hI2⟩ := h4 n μ hI hn
    exact L_mono (pL_arm4 (by omega) h1 h2 (kk _ _ _ hI2)) (Nat.le_add_left _ _)
  by_cases e5 : v = 5
  · refine L_sw (pc := 44) (t := 569) (v := 5) (show z_pt 320 44 = some (9, .tableswitch 3286 0 55 #[240, 296, 376, 444, 512, 525, 581, 637, 650, 725, 793, 861, 936, 992, 1005, 1018, 1031, 1099, 1167, 1235, 1303, 1371, 1439, 1452, 1508, 1576, 1644, 1712, 1780, 1848, 1916, 1972, 1985, 2041, 2097, 2153, 2221, 2289, 2345, 2415, 2485, 2562, 2644, 2714, 2779, 2857, 2913, 2969, 2982, 3040, 3084, 3128, 3172, 3216, 3229, 3242], []) by decide +kernel) e5 (show z_swt 320 44 5 = some 569 by decide +kernel) ?_
    obtain ⟨r, b, μ2, h1, h2, hag, hI2⟩ := h5 n μ (sc.2 (i + 1).toNatClampNeg) hI hn
    exact pL_arm5 (by omega) hb1 rfl h1 h2 hag (fun a q => kk _ a q hI2)
  by_cases e6 : v = 6
  · refine L_sw (pc := 44) (t := 625) (v := 6) (show z_pt 320 44 = some (9, .tableswitch 3286 0 55 #[240, 296, 376, 444, 512, 525, 581, 637, 650, 725, 793, 861, 936, 992, 1005, 1018, 1031, 1099, 1167, 1235, 1303, 1371, 1439, 1452, 1508, 1576, 1644, 1712, 1780, 1848, 1916, 1972, 1985, 2041, 2097, 2153, 2221, 2289, 2345, 2415, 2485, 2562, 2644, 2714, 2779, 2857, 2913, 2969, 2982, 3040, 3084, 3128, 3172, 3216, 3229, 3242], []) by decide +kernel) e6 (show z_swt 320 44 6 = some 625 by decide +kernel) ?_
    obtain ⟨r, b, μ2, h1, h2, hag, hI2⟩ := h6 n μ (sc.2 (i + 1).toNatClampNeg) hI hn
    exact pL_arm6 (by omega) hb1 rfl h1 h2 hag (fun a q => kk _ a q hI2)
  by_cases e7 : v = 7
  · refine L_sw (pc := 44) (t := 681) (v := 7) (show z_pt 320 44 = some (9, .tableswitch 3286 0 55 #[240, 296, 376, 444, 512, 525, 581, 637, 650, 725, 793, 861, 936, 992, 1005, 1018, 1031, 1099, 1167, 1235, 1303, 1371, 1439, 1452, 1508, 1576, 1644, 1712, 1780, 1848, 1916, 1972, 1985, 2041, 2097, 2153, 2221, 2289, 2345, 2415, 2485, 2562, 2644, 2714, 2779, 2857, 2913, 2969, 2982, 3040, 3084, 3128, 3172, 3216, 3229, 3242], []) by decide +kernel) e7 (show z_swt 320 44 7 = some 681 by decide +kernel) ?_
    obtain ⟨b, μ2, h1, h2, hI2⟩ := h7 n μ hI hn
    exact L_mono (pL_arm7 (by omega) h1 h2 (kk _ _ _ hI2)) (Nat.le_add_left _ _)
  by_cases e8 : v = 8
  · refine L_sw (pc := 44) (t := 694) (v := 8) (show z_pt 320 44 = some (9, .tableswitch 3286 0 55 #[240, 296, 376, 444, 512, 525, 581, 637, 650, 725, 793, 861, 936, 992, 1005, 1018, 1031, 1099, 1167, 1235, 1303, 1371, 1439, 1452, 1508, 1576, 1644, 1712, 1780, 1848, 1916, 1972, 1985, 2041, 2097, 2153, 2221, 2289, 2345, 2415, 2485, 2562, 2644, 2714, 2779, 2857, 2913, 2969, 2982, 3040, 3084, 3128, 3172, 3216, 3229, 3242], []) by decide +kernel) e8 (show z_swt 320 44 8 = some 694 by decide +kernel) ?_
    obtain ⟨r, b, μ2, h1, h2, hag, hI2⟩ := h8 n μ (sc.2 (i + 1).toNatClampNeg) (sc.2 (i + 2).toNatClampNeg) hI hn
    exact pL_arm8 (by omega) hb1 rfl hb2 rfl h1 h2 hag (fun a q => kk _ a q hI2)
  by_cases e9 : v = 9
  · refine L_sw (pc := 44) (t := 769) (v := 9) (show z_pt 320 44 = some (9, .tableswitch 3286 0 55 #[240, 296, 376, 444, 512, 525, 581, 637, 650, 725, 793, 861, 936, 992, 1005, 1018, 1031, 1099, 1167, 1235, 1303, 1371, 1439, 1452, 1508, 1576, 1644, 1712, 1780, 1848, 1916, 1972, 1985, 2041, 2097, 2153, 2221, 2289, 2345, 2415, 2485, 2562, 2644, 2714, 2779, 2857, 2913, 2969, 2982, 3040, 3084, 3128, 3172, 3216, 3229, 3242], []) by decide +kernel) e9 (show z_swt 320 44 9 = some 769 by decide +kernel) ?_
    obtain ⟨r, b, μ2, h1, h2, hag, hI2⟩ := h9 n μ (sc.2 (i + 1).toNatClampNeg) (sc.2 (i + 2).toNatClampNeg) hI hn
    exact pL_arm9 (by omega) hb1 rfl hb2 rfl h1 h2 hag (fun a q => kk _ a q hI2)
  by_cases e10 : v = 10
  · refine L_sw (pc := 44) (t := 837) (v := 10) (show z_pt 320 44 = some (9, .tableswitch 3286 0 55 #[240, 296, 376, 444, 512, 525, 581, 637, 650, 725, 793, 861, 936, 992, 1005, 1018, 1031, 1099, 1167, 1235, 1303, 1371, 1439, 1452, 1508, 1576, 1644, 1712, 1780, 1848, 1916, 1972, 1985, 2041, 2097, 2153, 2221, 2289, 2345, 2415, 2485, 2562, 2644, 2714, 2779, 2857, 2913, 2969, 2982, 3040, 3084, 3128, 3172, 3216, 3229, 3242], []) by decide +kernel) e10 (show z_swt 320 44 10 = some 837 by decide +kernel) ?_
    obtain ⟨r, b, μ2, h1, h2, hag, hI2⟩ := h10 n μ (sc.2 (i + 1).toNatClampNeg) (sc.2 (i + 2).toNatClampNeg) hI hn
    exact pL_arm10 (by omega) hb1 rfl hb2 rfl h1 h2 hag (fun a q => kk _ a q hI2)
  by_cases e11 : v = 11
  · refine L_sw (pc := 44) (t := 905) (v := 11) (show z_pt 320 44 = some (9, .tableswitch 3286 0 55 #[240, 296, 376, 444, 512, 525, 581, 637, 650, 725, 793, 861, 936, 992, 1005, 1018, 1031, 1099, 1167, 1235, 1303, 1371, 1439, 1452, 1508, 1576, 1644, 1712, 1780, 1848, 1916, 1972, 1985, 2041, 2097, 2153, 2221, 2289, 2345, 2415, 2485, 2562, 2644, 2714, 2779, 2857, 2913, 2969, 2982, 3040, 3084, 3128, 3172, 3216, 3229, 3242], []) by decide +kernel) e11 (show z_swt 320 44 11 = some 905 by decide +kernel) ?_
    obtain ⟨r, μ1, b, μ2, h1, h2, hag, hI2⟩ := h11 n μ (sc.2 (i + 1).toNatClampNeg) (sc.2 (i + 2).toNatClampNeg) hI hn
    exact pL_arm11 (by omega) hb1 rfl hb2 rfl h1 h2 hag (fun a q => kk _ a q hI2)
  by_cases e12 : v = 12
  · refine L_sw (pc := 44) (t := 980) (v := 12) (show z_pt 320 44 = some (9, .tableswitch 3286 0 55 #[240, 296, 376, 444, 512, 525, 581, 637, 650, 725, 793, 861, 936, 992, 1005, 1018, 1031, 1099, 1167, 1235, 1303, 1371, 1439, 1452, 1508, 1576, 1644, 1712, 1780, 1848, 1916, 1972, 1985, 2041, 2097, 2153, 2221, 2289, 2345, 2415, 2485, 2562, 2644, 2714, 2779, 2857, 2913, 2969, 2982, 3040, 3084, 3128, 3172, 3216, 3229, 3242], []) by decide +kernel) e12 (show z_swt 320 44 12 = some 980 by decide +kernel) ?_
    obtain ⟨r, μ1, b, μ2, h1, h2, hag, hI2⟩ := h12 n μ (sc.2 (i + 1).toNatClampNeg) hI hn
    exact pL_arm12 (by omega) hb1 rfl h1 h2 hag (fun a q => kk _ a q hI2)
  by_cases e13 : v = 13
  · refine L_sw (pc := 44) (t := 1036) (v := 13) (show z_pt 320 44 = some (9, .tableswitch 3286 0 55 #[240, 296, 376, 444, 512, 525, 581, 637, 650, 725, 793, 861, 936, 992, 1005, 1018, 1031, 1099, 1167, 1235, 1303, 1371, 1439, 1452, 1508, 1576, 1644, 1712, 1780, 1848, 1916, 1972, 1985, 2041, 2097, 2153, 2221, 2289, 2345, 2415, 2485, 2562, 2644, 2714, 2779, 2857, 2913, 2969, 2982, 3040, 3084, 3128, 3172, 3216, 3229, 3242], []) by decide +kernel) e13 (show z_swt 320 44 13 = some 1036 by decide +kernel) ?_
    obtain ⟨b, μ1, μ2, h1, h2, hI2⟩ := h13 n μ hI hn
    exact L_mono (pL_arm13 (by omega) h1 h2 (kk _ _ _ hI2)) (Nat.le_add_left _ _)
  by_cases e14 : v = 14
  · refine L_sw (pc := 44) (t := 1049) (v := 14) (show z_pt 320 44 = some (9, .tableswitch 3286 0 55 #[240, 296, 376, 444, 512, 525, 581, 637, 650, 725, 793, 861, 936, 992, 1005, 1018, 1031, 1099, 1167, 1235, 1303, 1371, 1439, 1452, 1508, 1576, 1644, 1712, 1780, 1848, 1916, 1972, 1985, 2041, 2097, 2153, 2221, 2289, 2345, 2415, 2485, 2562, 2644, 2714, 2779, 2857, 2913, 2969, 2982, 3040, 3084, 3128, 3172, 3216, 3229, 3242], []) by decide +kernel) e14 (show z_swt 320 44 14 = some 1049 by decide +kernel) ?_
    obtain ⟨b, μ1, μ2, h1, h2, hI2⟩ := h14 n μ hI hn
    exact L_mono (pL_arm14 (by omega) h1 h2 (kk _ _ _ hI2)) (Nat.le_add_left _ _)
  by_cases e15 : v = 15
  · refine L_sw (pc := 44) (t := 1062) (v := 15) (show z_pt 320 44 = some (9, .tableswitch 3286 0 55 #[240, 296, 376, 444, 512, 525, 581, 637, 650, 725, 793, 861, 936, 992, 1005, 1018, 1031, 1099, 1167, 1235, 1303, 1371, 1439, 1452, 1508, 1576, 1644, 1712, 1780, 1848, 1916, 1972, 1985, 2041, 2097, 2153, 2221, 2289, 2345, 2415, 2485, 2562, 2644, 2714, 2779, 2857, 2913, 2969, 2982, 3040, 3084, 3128, 3172, 3216, 3229, 3242], []) by decide +kernel) e15 (show z_swt 320 44 15 = some 1062 by decide +kernel) ?_
    obtain ⟨b, μ2, h1, h2, hI2⟩ := h15 n μ hI hn
    exact L_mono (pL_arm15 (by omega) h1 h2 (kk _ _ _ hI2)) (Nat.le_add_left _ _)
  by_cases e16 : v = 16
  · refine L_sw (pc := 44) (t := 1075) (v := 16) (show z_pt 320 44 = some (9, .tableswitch 3286 0 55 #[240, 296, 376, 444, 512, 525, 581, 637, 650, 725, 793, 861, 936, 992, 1005, 1018, 1031, 1099, 1167, 1235, 1303, 1371, 1439, 1452, 1508, 1576, 1644, 1712, 1780, 1848, 1916, 1972, 1985, 2041, 2097, 2153, 2221, 2289, 2345, 2415, 2485, 2562, 2644, 2714, 2779, 2857, 2913, 2969, 2982, 3040, 3084, 3128, 3172, 3216, 3229, 3242], []) by decide +kernel) e16 (show z_swt 320 44 16 = some 1075 by decide +kernel) ?_
    obtain ⟨r, μ1, b, μ2, h1, h2, hag, hI2⟩ := h16 n μ (sc.2 (i + 1).toNatClampNeg) (sc.2 (i + 2).toNatClampNeg) hI hn
    exact pL_arm16 (by omega) hb1 rfl hb2 rfl h1 h2 hag (fun a q => kk _ a q hI2)
  by_cases e17 : v = 17
  · refine L_sw (pc := 44) (t := 1143) (v := 17) (show z_pt 320 44 = some (9, .tableswitch 3286 0 55 #[240, 296, 376, 444, 512, 525, 581, 637, 650, 725, 793, 861, 936, 992, 1005, 1018, 1031, 1099, 1167, 1235, 1303, 1371, 1439, 1452, 1508, 1576, 1644, 1712, 1780, 1848, 1916, 1972, 1985, 2041, 2097, 2153, 2221, 2289, 2345, 2415, 2485, 2562, 2644, 2714, 2779, 2857, 2913, 2969, 2982, 3040, 3084, 3128, 3172, 3216, 3229, 3242], []) by decide +kernel) e17 (show z_swt 320 44 17 = some 1143 by decide +kernel) ?_
    obtain ⟨r, μ1, b, μ2, h1, h2, hag, hI2⟩ := h17 n μ (sc.2 (i + 1).toNatClampNeg) (sc.2 (i + 2).toNatClampNeg) hI hn
    exact pL_arm17 (by omega) hb1 rfl hb2 rfl h1 h2 hag (fun a q => kk _ a q hI2)
  by_cases e18 : v = 18
  · refine L_sw (pc := 44) (t := 1211) (v := 18) (show z_pt 320 44 = some (9, .tableswitch 3286 0 55 #[240, 296, 376, 444, 512, 525, 581, 637, 650, 725, 793, 861, 936, 992, 1005, 1018, 1031, 1099, 1167, 1235, 1303, 1371, 1439, 1452, 1508, 1576, 1644, 1712, 1780, 1848, 1916, 1972, 1985, 2041, 2097, 2153, 2221, 2289, 2345, 2415, 2485, 2562, 2644, 2714, 2779, 2857, 2913, 2969, 2982, 3040, 3084, 3128, 3172, 3216, 3229, 3242], []) by decide +kernel) e18 (show z_swt 320 44 18 = some 1211 by decide +kernel) ?_
    obtain ⟨r, μ1, b, μ2, h1, h2, hag, hI2⟩ := h18 n μ (sc.2 (i + 1).toNatClampNeg) (sc.2 (i + 2).toNatClampNeg) hI hn
    exact pL_arm18 (by omega) hb1 rfl hb2 rfl h1 h2 hag (fun a q => kk _ a q hI2)
  by_cases e19 : v = 19
  · refine L_sw (pc := 44) (t := 1279) (v := 19) (show z_pt 320 44 = some (9, .tableswitch 3286 0 55 #[240, 296, 376, 444, 512, 525, 581, 637, 650, 725, 793, 861, 936, 992, 1005, 1018, 1031, 1099, 1167, 1235, 1303, 1371, 1439, 1452, 1508, 1576, 1644, 1712, 1780, 1848, 1916, 1972, 1985, 2041, 2097, 2153, 2221, 2289, 2345, 2415, 2485, 2562, 2644, 2714, 2779, 2857, 2913, 2969, 2982, 3040, 3084, 3128, 3172, 3216, 3229, 3242], []) by decide +kernel) e19 (show z_swt 320 44 19 = some 1279 by decide +kernel) ?_
    obtain ⟨r, μ1, b, μ2, h1, h2, hag, hI2⟩ := h19 n μ (sc.2 (i + 1).toNatClampNeg) (sc.2 (i + 2).toNatClampNeg) hI hn
    exact pL_arm19 (by omega) hb1 rfl hb2 rfl h1 h2 hag (fun a q => kk _ a q hI2)
  by_cases e20 : v = 20
  · refine L_sw (pc := 44) (t := 1347) (v := 20) (show z_pt 320 44 = some (9, .tableswitch 3286 0 55 #[240, 296, 376, 444, 512, 525, 581, 637, 650, 725, 793, 861, 936, 992, 1005, 1018, 1031, 1099, 1167, 1235, 1303, 1371, 1439, 1452, 1508, 1576, 1644, 1712, 1780, 1848, 1916, 1972, 1985, 2041, 2097, 2153, 2221, 2289, 2345, 2415, 2485, 2562, 2644, 2714, 2779, 2857, 2913, 2969, 2982, 3040, 3084, 3128, 3172, 3216, 3229, 3242], []) by decide +kernel) e20 (show z_swt 320 44 20 = some 1347 by decide +kernel) ?_
    obtain ⟨r, μ1, b, μ2, h1, h2, hag, hI2⟩ := h20 n μ (sc.2 (i + 1).toNatClampNeg) (sc.2 (i + 2).toNatClampNeg) hI hn
    exact pL_arm20 (by omega) hb1 rfl hb2 rfl h1 h2 hag (fun a q => kk _ a q hI2)
  by_cases e21 : v = 21
  · refine L_sw (pc := 44) (t := 1415) (v := 21) (show z_pt 320 44 = some (9, .tableswitch 3286 0 55 #[240, 296, 376, 444, 512, 525, 581, 637, 650, 725, 793, 861, 936, 992, 1005, 1018, 1031, 1099, 1167, 1235, 1303, 1371, 1439, 1452, 1508, 1576, 1644, 1712, 1780, 1848, 1916, 1972, 1985, 2041, 2097, 2153, 2221, 2289, 2345, 2415, 2485, 2562, 2644, 2714, 2779, 2857, 2913, 2969, 2982, 3040, 3084, 3128, 3172, 3216, 3229, 3242], []) by decide +kernel) e21 (show z_swt 320 44 21 = some 1415 by decide +kernel) ?_
    obtain ⟨r, μ1, b, μ2, h1, h2, hag, hI2⟩ := h21 n μ (sc.2 (i + 1).toNatClampNeg) (sc.2 (i + 2).toNatClampNeg) hI hn
    exact pL_arm21 (by omega) hb1 rfl hb2 rfl h1 h2 hag (fun a q => kk _ a q hI2)
  by_cases e22 : v = 22
  · refine L_sw (pc := 44) (t := 1483) (v := 22) (show z_pt 320 44 = some (9, .tableswitch 3286 0 55 #[240, 296, 376, 444, 512, 525, 581, 637, 650, 725, 793, 861, 936, 992, 1005, 1018, 1031, 1099, 1167, 1235, 1303, 1371, 1439, 1452, 1508, 1576, 1644, 1712, 1780, 1848, 1916, 1972, 1985, 2041, 2097, 2153, 2221, 2289, 2345, 2415, 2485, 2562, 2644, 2714, 2779, 2857, 2913, 2969, 2982, 3040, 3084, 3128, 3172, 3216, 3229, 3242], []) by decide +kernel) e22 (show z_swt 320 44 22 = some 1483 by decide +kernel) ?_
    obtain ⟨b, μ2, h1, h2, hI2⟩ := h22 n μ hI hn
    exact L_mono (pL_arm22 (by omega) h1 h2 (kk _ _ _ hI2)) (Nat.le_add_left _ _)
  by_cases e23 : v = 23
  · refine L_sw (pc := 44) (t := 1496) (v := 23) (show z_pt 320 44 = some (9, .tableswitch 3286 0 55 #[240, 296, 376, 444, 512, 525, 581, 637, 650, 725, 793, 861, 936, 992, 1005, 1018, 1031, 1099, 1167, 1235, 1303, 1371, 1439, 1452, 1508, 1576, 1644, 1712, 1780, 1848, 1916, 1972, 1985, 2041, 2097, 2153, 2221, 2289, 2345, 2415, 2485, 2562, 2644, 2714, 2779, 2857, 2913, 2969, 2982, 3040, 3084, 3128, 3172, 3216, 3229, 3242], []) by decide +kernel) e23 (show z_swt 320 44 23 = some 1496 by decide +kernel) ?_
    obtain ⟨r, b, μ2, h1, h2, hag, hI2⟩ := h23 n μ (sc.2 (i + 1).toNatClampNeg) hI hn
    exact pL_arm23 (by omega) hb1 rfl h1 h2 hag (fun a q => kk _ a q hI2)
  by_cases e24 : v = 24
  · refine L_sw (pc := 44) (t := 1552) (v := 24) (show z_pt 320 44 = some (9, .tableswitch 3286 0 55 #[240, 296, 376, 444, 512, 525, 581, 637, 650, 725, 793, 861, 936, 992, 1005, 1018, 1031, 1099, 1167, 1235, 1303, 1371, 1439, 1452, 1508, 1576, 1644, 1712, 1780, 1848, 1916, 1972, 1985, 2041, 2097, 2153, 2221, 2289, 2345, 2415, 2485, 2562, 2644, 2714, 2779, 2857, 2913, 2969, 2982, 3040, 3084, 3128, 3172, 3216, 3229, 3242], []) by decide +kernel) e24 (show z_swt 320 44 24 = some 1552 by decide +kernel) ?_
    obtain ⟨r, b, μ2, h1, h2, hag, hI2⟩ := h24 n μ (sc.2 (i + 1).toNatClampNeg) (sc.2 (i + 2).toNatClampNeg) hI hn
    exact pL_arm24 (by omega) hb1 rfl hb2 rfl h1 h2 hag (fun a q => kk _ a q hI2)
  by_cases e25 : v = 25
  · refine L_sw (pc := 44) (t := 1620) (v := 25) (show z_pt 320 44 = some (9, .tableswitch 3286 0 55 #[240, 296, 376, 444, 512, 525, 581, 637, 650, 725, 793, 861, 936, 992, 1005, 1018, 1031, 1099, 1167, 1235, 1303, 1371, 1439, 1452, 1508, 1576, 1644, 1712, 1780, 1848, 1916, 1972, 1985, 2041, 2097, 2153, 2221, 2289, 2345, 2415, 2485, 2562, 2644, 2714, 2779, 2857, 2913, 2969, 2982, 3040, 3084, 3128, 3172, 3216, 3229, 3242], []) by decide +kernel) e25 (show z_swt 320 44 25 = some 1620 by decide +kernel) ?_
    obtain ⟨r, b, μ2, h1, h2, hag, hI2⟩ := h25 n μ (sc.2 (i + 1).toNatClampNeg) (sc.2 (i + 2).toNatClampNeg) hI hn
    exact pL_arm25 (by omega) hb1 rfl hb2 rfl h1 h2 hag (fun a q => kk _ a q hI2)
  by_cases e26 : v = 26
  · refine L_sw (pc := 44) (t := 1688) (v := 26) (show z_pt 320 44 = some (9, .tableswitch 3286 0 55 #[240, 296, 376, 444, 512, 525, 581, 637, 650, 725, 793, 861, 936, 992, 1005, 1018, 1031, 1099, 1167, 1235, 1303, 1371, 1439, 1452, 1508, 1576, 1644, 1712, 1780, 1848, 1916, 1972, 1985, 2041, 2097, 2153, 2221, 2289, 2345, 2415, 2485, 2562, 2644, 2714, 2779, 2857, 2913, 2969, 2982, 3040, 3084, 3128, 3172, 3216, 3229, 3242], []) by decide +kernel) e26 (show z_swt 320 44 26 = some 1688 by decide +kernel) ?_
    obtain ⟨r, b, μ2, h1, h2, hag, hI2⟩ := h26 n μ (sc.2 (i + 1).toNatClampNeg) (sc.2 (i + 2).toNatClampNeg) hI hn
    exact pL_arm26 (by omega) hb1 rfl hb2 rfl h1 h2 hag (fun a q => kk _ a q hI2)
  by_cases e27 : v = 27
  · refine L_sw (pc := 44) (t := 1756) (v := 27) (show z_pt 320 44 = some (9, .tableswitch 3286 0 55 #[240, 296, 376, 444, 512, 525, 581, 637, 650, 725, 793, 861, 936, 992, 1005, 1018, 1031, 1099, 1167, 1235, 1303, 1371, 1439, 1452, 1508, 1576, 1644, 1712, 1780, 1848, 1916, 1972, 1985, 2041, 2097, 2153, 2221, 2289, 2345, 2415, 2485, 2562, 2644, 2714, 2779, 2857, 2913, 2969, 2982, 3040, 3084, 3128, 3172, 3216, 3229, 3242], []) by decide +kernel) e27 (show z_swt 320 44 27 = some 1756 by decide +kernel) ?_
    obtain ⟨r, b, μ2, h1, h2, hag, hI2⟩ := h27 n μ (sc.2 (i + 1).toNatClampNeg) (sc.2 (i + 2).toNatClampNeg) hI hn
    exact pL_arm27 (by omega) hb1 rfl hb2 rfl h1 h2 hag (fun a q => kk _ a q hI2)
  by_cases e28 : v = 28
  · refine L_sw (pc := 44) (t := 1824) (v := 28) (show z_pt 320 44 = some (9, .tableswitch 3286 0 55 #[240, 296, 376, 444, 512, 525, 581, 637, 650, 725, 793, 861, 936, 992, 1005, 1018, 1031, 1099, 1167, 1235, 1303, 1371, 1439, 1452, 1508, 1576, 1644, 1712, 1780, 1848, 1916, 1972, 1985, 2041, 2097, 2153, 2221, 2289, 2345, 2415, 2485, 2562, 2644, 2714, 2779, 2857, 2913, 2969, 2982, 3040, 3084, 3128, 3172, 3216, 3229, 3242], []) by decide +kernel) e28 (show z_swt 320 44 28 = some 1824 by decide +kernel) ?_
    obtain ⟨r, μ1, b, μ2, h1, h2, hag, hI2⟩ := h28 n μ (sc.2 (i + 1).toNatClampNeg) (sc.2 (i + 2).toNatClampNeg) hI hn
    exact pL_arm28 (by omega) hb1 rfl hb2 rfl h1 h2 hag (fun a q => kk _ a q hI2)
  by_cases e29 : v = 29
  · refine L_sw (pc := 44) (t := 1892) (v := 29) (show z_pt 320 44 = some (9, .tableswitch 3286 0 55 #[240, 296, 376, 444, 512, 525, 581, 637, 650, 725, 793, 861, 936, 992, 1005, 1018, 1031, 1099, 1167, 1235, 1303, 1371, 1439, 1452, 1508, 1576, 1644, 1712, 1780, 1848, 1916, 1972, 1985, 2041, 2097, 2153, 2221, 2289, 2345, 2415, 2485, 2562, 2644, 2714, 2779, 2857, 2913, 2969, 2982, 3040, 3084, 3128, 3172, 3216, 3229, 3242], []) by decide +kernel) e29 (show z_swt 320 44 29 = some 1892 by decide +kernel) ?_
    obtain ⟨r, μ1, b, μ2, h1, h2, hag, hI2⟩ := h29 n μ (sc.2 (i + 1).toNatClampNeg) (sc.2 (i + 2).toNatClampNeg) hI hn
    exact pL_arm29 (by omega) hb1 rfl hb2 rfl h1 h2 hag (fun a q => kk _ a q hI2)
  by_cases e30 : v = 30
  · refine L_sw (pc := 44) (t := 1960) (v := 30) (show z_pt 320 44 = some (9, .tableswitch 3286 0 55 #[240, 296, 376, 444, 512, 525, 581, 637, 650, 725, 793, 861, 936, 992, 1005, 1018, 1031, 1099, 1167, 1235, 1303, 1371, 1439, 1452, 1508, 1576, 1644, 1712, 1780, 1848, 1916, 1972, 1985, 2041, 2097, 2153, 2221, 2289, 2345, 2415, 2485, 2562, 2644, 2714, 2779, 2857, 2913, 2969, 2982, 3040, 3084, 3128, 3172, 3216, 3229, 3242], []) by decide +kernel) e30 (show z_swt 320 44 30 = some 1960 by decide +kernel) ?_
    obtain ⟨r, μ1, b, μ2, h1, h2, hag, hI2⟩ := h30 n μ (sc.2 (i + 1).toNatClampNeg) hI hn
    exact pL_arm30 (by omega) hb1 rfl h1 h2 hag (fun a q => kk _ a q hI2)
  by_cases e31 : v = 31
  · refine L_sw (pc := 44) (t := 2016) (v := 31) (show z_pt 320 44 = some (9, .tableswitch 3286 0 55 #[240, 296, 376, 444, 512, 525, 581, 637, 650, 725, 793, 861, 936, 992, 1005, 1018, 1031, 1099, 1167, 1235, 1303, 1371, 1439, 1452, 1508, 1576, 1644, 1712, 1780, 1848, 1916, 1972, 1985, 2041, 2097, 2153, 2221, 2289, 2345, 2415, 2485, 2562, 2644, 2714, 2779, 2857, 2913, 2969, 2982, 3040, 3084, 3128, 3172, 3216, 3229, 3242], []) by decide +kernel) e31 (show z_swt 320 44 31 = some 2016 by decide +kernel) ?_
    obtain ⟨b, μ2, h1, h2, hI2⟩ := h31 n μ hI hn
    exact L_mono (pL_arm31 (by omega) h1 h2 (kk _ _ _ hI2)) (Nat.le_add_left _ _)
  by_cases e32 : v = 32
  · refine L_sw (pc := 44) (t := 2029) (v := 32) (show z_pt 320 44 = some (9, .tableswitch 3286 0 55 #[240, 296, 376, 444, 512, 525, 581, 637, 650, 725, 793, 861, 936, 992, 1005, 1018, 1031, 1099, 1167, 1235, 1303, 1371, 1439, 1452, 1508, 1576, 1644, 1712, 1780, 1848, 1916, 1972, 1985, 2041, 2097, 2153, 2221, 2289, 2345, 2415, 2485, 2562, 2644, 2714, 2779, 2857, 2913, 2969, 2982, 3040, 3084, 3128, 3172, 3216, 3229, 3242], []) by decide +kernel) e32 (show z_swt 320 44 32 = some 2029 by decide +kernel) ?_
    obtain ⟨r, b, μ2, h1, h2, hag, hI2⟩ := h32 n μ (sc.2 (i + 1).toNatClampNeg) hI hn
    exact pL_arm32 (by omega) hb1 rfl h1 h2 hag (fun a q => kk _ a q hI2)
  by_cases e33 : v = 33
  · refine L_sw (pc := 44) (t := 2085) (v := 33) (show z_pt 320 44 = some (9, .tableswitch 3286 0 55 #[240, 296, 376, 444, 512, 525, 581, 637, 650, 725, 793, 861, 936, 992, 1005, 1018, 1031, 1099, 1167, 1235, 1303, 1371, 1439, 1452, 1508, 1576, 1644, 1712, 1780, 1848, 1916, 1972, 1985, 2041, 2097, 2153, 2221, 2289, 2345, 2415, 2485, 2562, 2644, 2714, 2779, 2857, 2913, 2969, 2982, 3040, 3084, 3128, 3172, 3216, 3229, 3242], []) by decide +kernel) e33 (show z_swt 320 44 33 = some 2085 by decide +kernel) ?_
    obtain ⟨r, b, μ2, h1, h2, hag, hI2⟩ := h33 n μ (sc.2 (i + 1).toNatClampNeg) hI hn
    exact pL_arm33 (by omega) hb1 rfl h1 h2 hag (fun a q => kk _ a q hI2)
  by_cases e34 : v = 34
  · refine L_sw (pc := 44) (t := 2141) (v := 34) (show z_pt 320 44 = some (9, .tableswitch 3286 0 55 #[240, 296, 376, 444, 512, 525, 581, 637, 650, 725, 793, 861, 936, 992, 1005, 1018, 1031, 1099, 1167, 1235, 1303, 1371, 1439, 1452, 1508, 1576, 1644, 1712, 1780, 1848, 1916, 1972, 1985, 2041, 2097, 2153, 2221, 2289, 2345, 2415, 2485, 2562, 2644, 2714, 2779, 2857, 2913, 2969, 2982, 3040, 3084, 3128, 3172, 3216, 3229, 3242], []) by decide +kernel) e34 (show z_swt 320 44 34 = some 2141 by decide +kernel) ?_
    obtain ⟨r, μ1, b, μ2, h1, h2, hag, hI2⟩ := h34 n μ (sc.2 (i + 1).toNatClampNeg) hI hn
    exact pL_arm34 (by omega) hb1 rfl h1 h2 hag (fun a q => kk _ a q hI2)
  by_cases e35 : v = 35
  · refine L_sw (pc := 44) (t := 2197) (v := 35) (show z_pt 320 44 = some (9, .tableswitch 3286 0 55 #[240, 296, 376, 444, 512, 525, 581, 637, 650, 725, 793, 861, 936, 992, 1005, 1018, 1031, 1099, 1167, 1235, 1303, 1371, 1439, 1452, 1508, 1576, 1644, 1712, 1780, 1848, 1916, 1972, 1985, 2041, 2097, 2153, 2221, 2289, 2345, 2415, 2485, 2562, 2644, 2714, 2779, 2857, 2913, 2969, 2982, 3040, 3084, 3128, 3172, 3216, 3229, 3242], []) by decide +kernel) e35 (show z_swt 320 44 35 = some 2197 by decide +kernel) ?_
    obtain ⟨r, b, μ2, h1, h2, hag, hI2⟩ := h35 n μ (sc.2 (i + 1).toNatClampNeg) (sc.2 (i + 2).toNatClampNeg) hI hn
    exact pL_arm35 (by omega) hb1 rfl hb2 rfl h1 h2 hag (fun a q => kk _ a q hI2)
  by_cases e36 : v = 36
  · refine L_sw (pc := 44) (t := 2265) (v := 36) (show z_pt 320 44 = some (9, .tableswitch 3286 0 55 #[240, 296, 376, 444, 512, 525, 581, 637, 650, 725, 793, 861, 936, 992, 1005, 1018, 1031, 1099, 1167, 1235, 1303, 1371, 1439, 1452, 1508, 1576, 1644, 1712, 1780, 1848, 1916, 1972, 1985, 2041, 2097, 2153, 2221, 2289, 2345, 2415, 2485, 2562, 2644, 2714, 2779, 2857, 2913, 2969, 2982, 3040, 3084, 3128, 3172, 3216, 3229, 3242], []) by decide +kernel) e36 (show z_swt 320 44 36 = some 2265 by decide +kernel) ?_
    obtain ⟨r, b, μ2, h1, h2, hag, hI2⟩ := h36 n μ (sc.2 (i + 1).toNatClampNeg) (sc.2 (i + 2).toNatClampNeg) hI hn
    exact pL_arm36 (by omega) hb1 rfl hb2 rfl h1 h2 hag (fun a q => kk _ a q hI2)
  by_cases e37 : v = 37
  · refine L_sw (pc := 44) (t := 2333) (v := 37) (show z_pt 320 44 = some (9, .tableswitch 3286 0 55 #[240, 296, 376, 444, 512, 525, 581, 637, 650, 725, 793, 861, 936, 992, 1005, 1018, 1031, 1099, 1167, 1235, 1303, 1371, 1439, 1452, 1508, 1576, 1644, 1712, 1780, 1848, 1916, 1972, 1985, 2041, 2097, 2153, 2221, 2289, 2345, 2415, 2485, 2562, 2644, 2714, 2779, 2857, 2913, 2969, 2982, 3040, 3084, 3128, 3172, 3216, 3229, 3242], []) by decide +kernel) e37 (show z_swt 320 44 37 = some 2333 by decide +kernel) ?_
    obtain ⟨r, b, μ2, h1, h2, hag, hI2⟩ := h37 n μ (sc.2 (i + 1).toNatClampNeg) hI hn
    exact pL_arm37 (by omega) hb1 rfl h1 h2 hag (fun a q => kk _ a q hI2)
  by_cases e38 : v = 38
  · refine L_sw (pc := 44) (t := 2389) (v := 38) (show z_pt 320 44 = some (9, .tableswitch 3286 0 55 #[240, 296, 376, 444, 512, 525, 581, 637, 650, 725, 793, 861, 936, 992, 1005, 1018, 1031, 1099, 1167, 1235, 1303, 1371, 1439, 1452, 1508, 1576, 1644, 1712, 1780, 1848, 1916, 1972, 1985, 2041, 2097, 2153, 2221, 2289, 2345, 2415, 2485, 2562, 2644, 2714, 2779, 2857, 2913, 2969, 2982, 3040, 3084, 3128, 3172, 3216, 3229, 3242], []) by decide +kernel) e38 (show z_swt 320 44 38 = some 2389 by decide +kernel) ?_
    obtain ⟨r, μ1, b, μ2, h1, h2, hag, hI2⟩ := h38 n μ (sc.2 (i + 1).toNatClampNeg) (sc.2 (i + 2).toNatClampNeg) hI hn
    exact pL_arm38 (by omega) hb1 rfl hb2 rfl h1 h2 hag (fun a q => kk _ a q hI2)
  by_cases e39 : v = 39
  · refine L_sw (pc := 44) (t := 2459) (v := 39) (show z_pt 320 44 = some (9, .tableswitch 3286 0 55 #[240, 296, 376, 444, 512, 525, 581, 637, 650, 725, 793, 861, 936, 992, 1005, 1018, 1031, 1099, 1167, 1235, 1303, 1371, 1439, 1452, 1508, 1576, 1644, 1712, 1780, 1848, 1916, 1972, 1985, 2041, 2097, 2153, 2221, 2289, 2345, 2415, 2485, 2562, 2644, 2714, 2779, 2857, 2913, 2969, 2982, 3040, 3084, 3128, 3172, 3216, 3229, 3242], []) by decide +kernel) e39 (show z_swt 320 44 39 = some 2459 by decide +kernel) ?_
    obtain ⟨r, μ1, b, μ2, h1, h2, hag, hI2⟩ := h39 n μ (sc.2 (i + 1).toNatClampNeg) (sc.2 (i + 2).toNatClampNeg) hI hn
    exact pL_arm39 (by omega) hb1 rfl hb2 rfl h1 h2 hag (fun a q => kk _ a q hI2)
  by_cases e40 : v = 40
  · refine L_sw (pc := 44) (t := 2529) (v := 40) (show z_pt 320 44 = some (9, .tableswitch 3286 0 55 #[240, 296, 376, 444, 512, 525, 581, 637, 650, 725, 793, 861, 936, 992, 1005, 1018, 1031, 1099, 1167, 1235, 1303, 1371, 1439, 1452, 1508, 1576, 1644, 1712, 1780, 1848, 1916, 1972, 1985, 2041, 2097, 2153, 2221, 2289, 2345, 2415, 2485, 2562, 2644, 2714, 2779, 2857, 2913, 2969, 2982, 3040, 3084, 3128, 3172, 3216, 3229, 3242], []) by decide +kernel) e40 (show z_swt 320 44 40 = some 2529 by decide +kernel) ?_
    obtain ⟨r, b, μ2, h1, h2, hag, hI2⟩ := h40 n μ (sc.2 (i + 1).toNatClampNeg) (sc.2 (i + 2).toNatClampNeg) hI hn
    exact pL_arm40 (by omega) hb1 rfl hb2 rfl h1 h2 hag (fun a q => kk _ a q hI2)
  by_cases e41 : v = 41
  · refine L_sw (pc := 44) (t := 2606) (v := 41) (show z_pt 320 44 = some (9, .tableswitch 3286 0 55 #[240, 296, 376, 444, 512, 525, 581, 637, 650, 725, 793, 861, 936, 992, 1005, 1018, 1031, 1099, 1167, 1235, 1303, 1371, 1439, 1452, 1508, 1576, 1644, 1712, 1780, 1848, 1916, 1972, 1985, 2041, 2097, 2153, 2221, 2289, 2345, 2415, 2485, 2562, 2644, 2714, 2779, 2857, 2913, 2969, 2982, 3040, 3084, 3128, 3172, 3216, 3229, 3242], []) by decide +kernel) e41 (show z_swt 320 44 41 = some 2606 by decide +kernel) ?_
    obtain ⟨r, b, μ2, h1, h2, hag, hI2⟩ := h41 n μ (sc.2 (i + 1).toNatClampNeg) (sc.2 (i + 2).toNatClampNeg) (sc.2 (i + 3).toNatClampNeg) hI hn
    exact pL_arm41 (by omega) hb1 rfl hb2 rfl hb3 rfl h1 h2 hag (fun a q => kk _ a q hI2)
  by_cases e42 : v = 42
  · refine L_sw (pc := 44) (t := 2688) (v := 42) (show z_pt 320 44 = some (9, .tableswitch 3286 0 55 #[240, 296, 376, 444, 512, 525, 581, 637, 650, 725, 793, 861, 936, 992, 1005, 1018, 1031, 1099, 1167, 1235, 1303, 1371, 1439, 1452, 1508, 1576, 1644, 1712, 1780, 1848, 1916, 1972, 1985, 2041, 2097, 2153, 2221, 2289, 2345, 2415, 2485, 2562, 2644, 2714, 2779, 2857, 2913, 2969, 2982, 3040, 3084, 3128, 3172, 3216, 3229, 3242], []) by decide +kernel) e42 (show z_swt 320 44 42 = some 2688 by decide +kernel) ?_
    obtain ⟨r, b, μ2, h1, h2, hag, hI2⟩ := h42 n μ (sc.2 (i + 1).toNatClampNeg) (sc.2 (i + 2).toNatClampNeg) hI hn
    exact pL_arm42 (by omega) hb1 rfl hb2 rfl h1 h2 hag (fun a q => kk _ a q hI2)
  by_cases e43 : v = 43
  · refine L_sw (pc := 44) (t := 2758) (v := 43) (show z_pt 320 44 = some (9, .tableswitch 3286 0 55 #[240, 296, 376, 444, 512, 525, 581, 637, 650, 725, 793, 861, 936, 992, 1005, 1018, 1031, 1099, 1167, 1235, 1303, 1371, 1439, 1452, 1508, 1576, 1644, 1712, 1780, 1848, 1916, 1972, 1985, 2041, 2097, 2153, 2221, 2289, 2345, 2415, 2485, 2562, 2644, 2714, 2779, 2857, 2913, 2969, 2982, 3040, 3084, 3128, 3172, 3216, 3229, 3242], []) by decide +kernel) e43 (show z_swt 320 44 43 = some 2758 by decide +kernel) ?_
    obtain ⟨r, b, μ2, h1, h2, hag, hI2⟩ := h43 n μ hI hn
    exact pL_arm43 (by omega)  h1 h2 hag (fun a q => kk _ a q hI2)
  by_cases e44 : v = 44
  · refine L_sw (pc := 44) (t := 2823) (v := 44) (show z_pt 320 44 = some (9, .tableswitch 3286 0 55 #[240, 296, 376, 444, 512, 525, 581, 637, 650, 725, 793, 861, 936, 992, 1005, 1018, 1031, 1099, 1167, 1235, 1303, 1371, 1439, 1452, 1508, 1576, 1644, 1712, 1780, 1848, 1916, 1972, 1985, 2041, 2097, 2153, 2221, 2289, 2345, 2415, 2485, 2562, 2644, 2714, 2779, 2857, 2913, 2969, 2982, 3040, 3084, 3128, 3172, 3216, 3229, 3242], []) by decide +kernel) e44 (show z_swt 320 44 44 = some 2823 by decide +kernel) ?_
    obtain ⟨r, b, μ2, h1, h2, hag, x1, x2, x3, hI2⟩ := h44 n μ (sc.2 (i + 1).toNatClampNeg) hI hn
    exact pL_arm44 (by omega) hb1 rfl h1 h2 hag x1 x2 x3 (fun a q => kk _ a q hI2)
  by_cases e45 : v = 45
  · refine L_sw (pc := 44) (t := 2901) (v := 45) (show z_pt 320 44 = some (9, .tableswitch 3286 0 55 #[240, 296, 376, 444, 512, 525, 581, 637, 650, 725, 793, 861, 936, 992, 1005, 1018, 1031, 1099, 1167, 1235, 1303, 1371, 1439, 1452, 1508, 1576, 1644, 1712, 1780, 1848, 1916, 1972, 1985, 2041, 2097, 2153, 2221, 2289, 2345, 2415, 2485, 2562, 2644, 2714, 2779, 2857, 2913, 2969, 2982, 3040, 3084, 3128, 3172, 3216, 3229, 3242], []) by decide +kernel) e45 (show z_swt 320 44 45 = some 2901 by decide +kernel) ?_
    obtain ⟨r, μ1, b, μ2, h1, h2, hag, hI2⟩ := h45 n μ (sc.2 (i + 1).toNatClampNeg) hI hn
    exact pL_arm45 (by omega) hb1 rfl h1 h2 hag (fun a q => kk _ a q hI2)
  by_cases e46 : v = 46
  · refine L_sw (pc := 44) (t := 2957) (v := 46) (show z_pt 320 44 = some (9, .tableswitch 3286 0 55 #[240, 296, 376, 444, 512, 525, 581, 637, 650, 725, 793, 861, 936, 992, 1005, 1018, 1031, 1099, 1167, 1235, 1303, 1371, 1439, 1452, 1508, 1576, 1644, 1712, 1780, 1848, 1916, 1972, 1985, 2041, 2097, 2153, 2221, 2289, 2345, 2415, 2485, 2562, 2644, 2714, 2779, 2857, 2913, 2969, 2982, 3040, 3084, 3128, 3172, 3216, 3229, 3242], []) by decide +kernel) e46 (show z_swt 320 44 46 = some 2957 by decide +kernel) ?_
    obtain ⟨r, b, μ2, h1, h2, hag, hI2⟩ := h46 n μ (sc.2 (i + 1).toNatClampNeg) hI hn
    exact pL_arm46 (by omega) hb1 rfl h1 h2 hag (fun a q => kk _ a q hI2)
  by_cases e47 : v = 47
  · refine L_sw (pc := 44) (t := 3013) (v := 47) (show z_pt 320 44 = some (9, .tableswitch 3286 0 55 #[240, 296, 376, 444, 512, 525, 581, 637, 650, 725, 793, 861, 936, 992, 1005, 1018, 1031, 1099, 1167, 1235, 1303, 1371, 1439, 1452, 1508, 1576, 1644, 1712, 1780, 1848, 1916, 1972, 1985, 2041, 2097, 2153, 2221, 2289, 2345, 2415, 2485, 2562, 2644, 2714, 2779, 2857, 2913, 2969, 2982, 3040, 3084, 3128, 3172, 3216, 3229, 3242], []) by decide +kernel) e47 (show z_swt 320 44 47 = some 3013 by decide +kernel) ?_
    obtain ⟨b, μ1, μ2, h1, h2, hI2⟩ := h47 n μ hI hn
    exact L_mono (pL_arm47 (by omega) h1 h2 (kk _ _ _ hI2)) (Nat.le_add_left _ _)
  by_cases e48 : v = 48
  · refine L_sw (pc := 44) (t := 3026) (v := 48) (show z_pt 320 44 = some (9, .tableswitch 3286 0 55 #[240, 296, 376, 444, 512, 525, 581, 637, 650, 725, 793, 861, 936, 992, 1005, 1018, 1031, 1099, 1167, 1235, 1303, 1371, 1439, 1452, 1508, 1576, 1644, 1712, 1780, 1848, 1916, 1972, 1985, 2041, 2097, 2153, 2221, 2289, 2345, 2415, 2485, 2562, 2644, 2714, 2779, 2857, 2913, 2969, 2982, 3040, 3084, 3128, 3172, 3216, 3229, 3242], []) by decide +kernel) e48 (show z_swt 320 44 48 = some 3026 by decide +kernel) ?_
    obtain ⟨r, μ1, b, μ2, h1, h2, hag, hI2⟩ := h48 n μ (sc.2 (i + 1).toNatClampNeg) hI hn
    exact pL_arm48 (by omega) hb1 rfl h1 h2 hag (fun a q => kk _ a q hI2)
  by_cases e49 : v = 49
  · refine L_sw (pc := 44) (t := 3084) (v := 49) (show z_pt 320 44 = some (9, .tableswitch 3286 0 55 #[240, 296, 376, 444, 512, 525, 581, 637, 650, 725, 793, 861, 936, 992, 1005, 1018, 1031, 1099, 1167, 1235, 1303, 1371, 1439, 1452, 1508, 1576, 1644, 1712, 1780, 1848, 1916, 1972, 1985, 2041, 2097, 2153, 2221, 2289, 2345, 2415, 2485, 2562, 2644, 2714, 2779, 2857, 2913, 2969, 2982, 3040, 3084, 3128, 3172, 3216, 3229, 3242], []) by decide +kernel) e49 (show z_swt 320 44 49 = some 3084 by decide +kernel) ?_
    obtain ⟨r, μ1, b, μ2, h1, h2, hag, hI2⟩ := h49 n μ hI hn
    exact pL_arm49 (by omega)  h1 h2 hag (fun a q => kk _ a q hI2)
  by_cases e50 : v = 50
  · refine L_sw (pc := 44) (t := 3128) (v := 50) (show z_pt 320 44 = some (9, .tableswitch 3286 0 55 #[240, 296, 376, 444, 512, 525, 581, 637, 650, 725, 793, 861, 936, 992, 1005, 1018, 1031, 1099, 1167, 1235, 1303, 1371, 1439, 1452, 1508, 1576, 1644, 1712, 1780, 1848, 1916, 1972, 1985, 2041, 2097, 2153, 2221, 2289, 2345, 2415, 2485, 2562, 2644, 2714, 2779, 2857, 2913, 2969, 2982, 3040, 3084, 3128, 3172, 3216, 3229, 3242], []) by decide +kernel) e50 (show z_swt 320 44 50 = some 3128 by decide +kernel) ?_
    obtain ⟨r, b, μ2, h1, h2, hag, hI2⟩ := h50 n μ hI hn
    exact pL_arm50 (by omega)  h1 h2 hag (fun a q => kk _ a q hI2)
  by_cases e51 : v = 51
  · refine L_sw (pc := 44) (t := 3172) (v := 51) (show z_pt 320 44 = some (9, .tableswitch 3286 0 55 #[240, 296, 376, 444, 512, 525, 581, 637, 650, 725, 793, 861, 936, 992, 1005, 1018, 1031, 1099, 1167, 1235, 1303, 1371, 1439, 1452, 1508, 1576, 1644, 1712, 1780, 1848, 1916, 1972, 1985, 2041, 2097, 2153, 2221, 2289, 2345, 2415, 2485, 2562, 2644, 2714, 2779, 2857, 2913, 2969, 2982, 3040, 3084, 3128, 3172, 3216, 3229, 3242], []) by decide +kernel) e51 (show z_swt 320 44 51 = some 3172 by decide +kernel) ?_
    obtain ⟨r, b, μ2, h1, h2, hag, hI2⟩ := h51 n μ hI hn
    exact pL_arm51 (by omega)  h1 h2 hag (fun a q => kk _ a q hI2)
  by_cases e52 : v = 52
  · refine L_sw (pc := 44) (t := 3216) (v := 52) (show z_pt 320 44 = some (9, .tableswitch 3286 0 55 #[240, 296, 376, 444, 512, 525, 581, 637, 650, 725, 793, 861, 936, 992, 1005, 1018, 1031, 1099, 1167, 1235, 1303, 1371, 1439, 1452, 1508, 1576, 1644, 1712, 1780, 1848, 1916, 1972, 1985, 2041, 2097, 2153, 2221, 2289, 2345, 2415, 2485, 2562, 2644, 2714, 2779, 2857, 2913, 2969, 2982, 3040, 3084, 3128, 3172, 3216, 3229, 3242], []) by decide +kernel) e52 (show z_swt 320 44 52 = some 3216 by decide +kernel) ?_
    obtain ⟨r, μ1, b, μ2, h1, h2, hag, hI2⟩ := h52 n μ hI hn
    exact pL_arm52 (by omega)  h1 h2 hag (fun a q => kk _ a q hI2)
  by_cases e53 : v = 53
  · refine L_sw (pc := 44) (t := 3260) (v := 53) (show z_pt 320 44 = some (9, .tableswitch 3286 0 55 #[240, 296, 376, 444, 512, 525, 581, 637, 650, 725, 793, 861, 936, 992, 1005, 1018, 1031, 1099, 1167, 1235, 1303, 1371, 1439, 1452, 1508, 1576, 1644, 1712, 1780, 1848, 1916, 1972, 1985, 2041, 2097, 2153, 2221, 2289, 2345, 2415, 2485, 2562, 2644, 2714, 2779, 2857, 2913, 2969, 2982, 3040, 3084, 3128, 3172, 3216, 3229, 3242], []) by decide +kernel) e53 (show z_swt 320 44 53 = some 3260 by decide +kernel) ?_
    obtain ⟨b, μ2, h1, h2, hI2⟩ := h53 n μ hI hn
    exact L_mono (pL_arm53 (by omega) h1 h2 (kk _ _ _ hI2)) (Nat.le_add_left _ _)
  by_cases e54 : v = 54
  · refine L_sw (pc := 44) (t := 3273) (v := 54) (show z_pt 320 44 = some (9, .tableswitch 3286 0 55 #[240, 296, 376, 444, 512, 525, 581, 637, 650, 725, 793, 861, 936, 992, 1005, 1018, 1031, 1099, 1167, 1235, 1303, 1371, 1439, 1452, 1508, 1576, 1644, 1712, 1780, 1848, 1916, 1972, 1985, 2041, 2097, 2153, 2221, 2289, 2345, 2415, 2485, 2562, 2644, 2714, 2779, 2857, 2913, 2969, 2982, 3040, 3084, 3128, 3172, 3216, 3229, 3242], []) by decide +kernel) e54 (show z_swt 320 44 54 = some 3273 by decide +kernel) ?_
    obtain ⟨b, μ1, μ2, h1, h2, hI2⟩ := h54 n μ hI hn
    exact L_mono (pL_arm54 (by omega) h1 h2 (kk _ _ _ hI2)) (Nat.le_add_left _ _)
  by_cases e55 : v = 55
  · refine L_sw (pc := 44) (t := 3286) (v := 55) (show z_pt 320 44 = some (9, .tableswitch 3286 0 55 #[240, 296, 376, 444, 512, 525, 581, 637, 650, 725, 793, 861, 936, 992, 1005, 1018, 1031, 1099, 1167, 1235, 1303, 1371, 1439, 1452, 1508, 1576, 1644, 1712, 1780, 1848, 1916, 1972, 1985, 2041, 2097, 2153, 2221, 2289, 2345, 2415, 2485, 2562, 2644, 2714, 2779, 2857, 2913, 2969, 2982, 3040, 3084, 3128, 3172, 3216, 3229, 3242], []) by decide +kernel) e55 (show z_swt 320 44 55 = some 3286 by decide +kernel) ?_
    obtain ⟨r, μ1, b, μ2, h1, h2, hag, hI2⟩ := h55 n μ hI hn
    exact pL_arm55 (by omega)  h1 h2 hag (fun a q => kk _ a q hI2)
  refine L_swd (pc := 44) (t := 3330) (cs := [0, 1, 2, 3, 4, 5, 6, 7, 8, 9, 10, 11, 12, 13, 14, 15, 16, 17, 18, 19, 20, 21, 22, 23, 24, 25, 26, 27, 28, 29, 30, 31, 32, 33, 34, 35, 36, 37, 38, 39, 40, 41, 42, 43, 44, 45, 46, 47, 48, 49, 50, 51, 52, 53, 54, 55]) (show z_pt 320 44 = some (9, .tableswitch 3286 0 55 #[240, 296, 376, 444, 512, 525, 581, 637, 650, 725, 793, 861, 936, 992, 1005, 1018, 1031, 1099, 1167, 1235, 1303, 1371, 1439, 1452, 1508, 1576, 1644, 1712, 1780, 1848, 1916, 1972, 1985, 2041, 2097, 2153, 2221, 2289, 2345, 2415, 2485, 2562, 2644, 2714, 2779, 2857, 2913, 2969, 2982, 3040, 3084, 3128, 3172, 3216, 3229, 3242], []) by decide +kernel) (show z_swd 320 44 [0, 1, 2, 3, 4, 5, 6, 7, 8, 9, 10, 11, 12, 13, 14, 15, 16, 17, 18, 19, 20, 21, 22, 23, 24, 25, 26, 27, 28, 29, 30, 31, 32, 33, 34, 35, 36, 37, 38, 39, 40, 41, 42, 43, 44, 45, 46, 47, 48, 49, 50, 51, 52, 53, 54, 55] = some 3330 by decide +kernel) (z_nc e0 (z_nc e1 (z_nc e2 (z_nc e3 (z_nc e4 (z_nc e5 (z_nc e6 (z_nc e7 (z_nc e8 (z_nc e9 (z_nc e10 (z_nc e11 (z_nc e12 (z_nc e13 (z_nc e14 (z_nc e15 (z_nc e16 (z_nc e17 (z_nc e18 (z_nc e19 (z_nc e20 (z_nc e21 (z_nc e22 (z_nc e23 (z_nc e24 (z_nc e25 (z_nc e26 (z_nc e27 (z_nc e28 (z_nc e29 (z_nc e30 (z_nc e31 (z_nc e32 (z_nc e33 (z_nc e34 (z_nc e35 (z_nc e36 (z_nc e37 (z_nc e38 (z_nc e39 (z_nc e40 (z_nc e41 (z_nc e42 (z_nc e43 (z_nc e44 (z_nc e45 (z_nc e46 (z_nc e47 (z_nc e48 (z_nc e49 (z_nc e50 (z_nc e51 (z_nc e52 (z_nc e53 (z_nc e54 (z_nc e55 (z_nn _))))))))))))))))))))))))))))))))))))))))))))))))))))))))) ?_
  refine L_inc (pc := 3330) (pc' := 3333) (ls' := [(0, .ref 2000), (1, .ref 0), (2, .ref 241), (3, .ref 251), (4, .ref 252), (5, .int (i + 4))]) (c := 4) (show z_pt 320 3330 = some (9, .iinc 5 4, []) by decide +kernel) (by decide) rfl rfl ?_
  refine L_pure (pc := 3333) (pc' := 28) (ls' := [(0, .ref 2000), (1, .ref 0), (2, .ref 241), (3, .ref 251), (4, .ref 252), (5, .int (i + 4))]) (st' := []) (show z_pt 320 3333 = some (9, .goto (-3305), [6]) by decide +kernel) rfl (fun _ _ => rfl) ?_
  exact L_mono (kk _ _ _ (hup n μ hI)) (Nat.le_add_left _ _)
theorem z_i4 {n L : Nat} (hL : L ≤ 2048) (h : 4 * n + 4 ≤ L) : ¬ Int32.ofNat L - 4 < Int32.ofNat (4 * n) ∧ z_inb (Int32.ofNat (4 * n)) L = true ∧ z_inb (Int32.ofNat (4 * n) + 1) L = true ∧ z_inb (Int32.ofNat (4 * n) + 2) L = true ∧ z_inb (Int32.ofNat (4 * n) + 3) L = true := by
  have ht : ∀ m : Nat, m < 4096 → (Int32.ofNat m).toInt = (m : Int) := fun m hm => Int32.toInt_ofNat_of_lt (by omega)
  have hi : ∀ m : Nat, m < L → z_inb (Int32.ofNat m) L = true := by
    intro m hm
    have h1 := ht m (by omega)
    unfold z_inb
    rw [Bool.and_eq_true]
    refine ⟨?_, decide_eq_true ?_⟩
    · rw [decide_eq_false]
      · rfl
      · intro hc
        have h2 := Int32.lt_iff_toInt_lt.mp hc
        rw [h1] at h2
        have h3 : (0 : Int32).toInt = 0 := rfl
        omega
    · show (Int32.ofNat m).toInt.toNat < L
      rw [h1]
      omega
  have ha : ∀ c : Nat, Int32.ofNat (4 * n) + Int32.ofNat c = Int32.ofNat (4 * n + c) := fun c => (Int32.ofNat_add _ _).symm
  refine ⟨?_, hi _ (by omega), ?_, ?_, ?_⟩
  · intro hc
    have h2 := Int32.lt_iff_toInt_lt.mp hc
    have e4 : Int32.ofNat L - 4 = Int32.ofNat (L - 4) := by
      have : Int32.ofNat L = Int32.ofNat (L - 4) + Int32.ofNat 4 := by rw [← Int32.ofNat_add]; congr 1; omega
      rw [this]
      show Int32.ofNat (L - 4) + 4 - 4 = _
      rw [Int32.add_sub_cancel]
    rw [e4, ht _ (by omega), ht _ (by omega)] at h2
    omega
  · exact (ha 1) ▸ hi _ (by omega)
  · exact (ha 2) ▸ hi _ (by omega)
  · exact (ha 3) ▸ hi _ (by omega)
theorem z_i4n {n L : Nat} (hL : L ≤ 2048) (hn : 4 * n ≤ 2048) (h : ¬ 4 * n + 4 ≤ L) : Int32.ofNat L - 4 < Int32.ofNat (4 * n) := by
  have ht : ∀ m : Nat, m < 4096 → (Int32.ofNat m).toInt = (m : Int) := fun m hm => Int32.toInt_ofNat_of_lt (by omega)
  have h1 := ht L (by omega)
  have h2 := ht (4 * n) (by omega)
  have h3 : (Int32.ofNat L - 4).toInt = (L : Int) - 4 := by
    rw [Int32.toInt_sub, h1, show (4 : Int32).toInt = 4 from rfl]
    exact Int.bmod_eq_of_le (by omega) (by omega)
  rw [Int32.lt_iff_toInt_lt, h3, h2]
  omega
theorem z_loop {Inv : Nat → z_Mem → Prop} (h0 : z_S0 Inv) (h1 : z_S1 Inv) (h2 : z_S2 Inv) (h3 : z_S3 Inv) (h4 : z_S4 Inv) (h5 : z_S5 Inv) (h6 : z_S6 Inv) (h7 : z_S7 Inv) (h8 : z_S8 Inv) (h9 : z_S9 Inv) (h10 : z_S10 Inv) (h11 : z_S11 Inv) (h12 : z_S12 Inv) (h13 : z_S13 Inv) (h14 : z_S14 Inv) (h15 : z_S15 Inv) (h16 : z_S16 Inv) (h17 : z_S17 Inv) (h18 : z_S18 Inv) (h19 : z_S19 Inv) (h20 : z_S20 Inv) (h21 : z_S21 Inv) (h22 : z_S22 Inv) (h23 : z_S23 Inv) (h24 : z_S24 Inv) (h25 : z_S25 Inv) (h26 : z_S26 Inv) (h27 : z_S27 Inv) (h28 : z_S28 Inv) (h29 : z_S29 Inv) (h30 : z_S30 Inv) (h31 : z_S31 Inv) (h32 : z_S32 Inv) (h33 : z_S33 Inv) (h34 : z_S34 Inv) (h35 : z_S35 Inv) (h36 : z_S36 Inv) (h37 : z_S37 Inv) (h38 : z_S38 Inv) (h39 : z_S39 Inv) (h40 : z_S40 Inv) (h41 : z_S41 Inv) (h42 : z_S42 Inv) (h43 : z_S43 Inv) (h44 : z_S44 Inv) (h45 : z_S45 Inv) (h46 : z_S46 Inv) (h47 : z_S47 Inv) (h48 : z_S48 Inv) (h49 : z_S49 Inv) (h50 : z_S50 Inv) (h51 : z_S51 Inv) (h52 : z_S52 Inv) (h53 : z_S53 Inv) (h54 : z_S54 Inv) (h55 : z_S55 Inv) (hup : ∀ (n : Nat) (μ : z_Mem), Inv n μ → Inv (n + 1) μ) {sc : Nat × (Nat → Int32)} (hL : sc.1 ≤ 2048) : ∀ (m n : Nat) (μ : z_Mem) (a : Nat → Int64) (q : Nat → UInt64), m + n = 512 → Inv n μ → Rl sc 21 320 28 [(0, .ref 2000), (1, .ref 0), (2, .ref 241), (3, .ref 251), (4, .ref 252), (5, .int (Int32.ofNat (4 * n)))] [] μ a q (.inl (some (.int 1))) (fun _ _ _ => True) m := by
  intro m
  have hend : ∀ (n : Nat) (μ : z_Mem) (a : Nat → Int64) (q : Nat → UInt64), n ≤ 512 → ¬ 4 * n + 4 ≤ sc.1 → ∀ J, Rl sc 21 320 28 [(0, .ref 2000), (1, .ref 0), (2, .ref 241), (3, .ref 251), (4, .ref 252), (5, .int (Int32.ofNat (4 * n)))] [] μ a q (.inl (some (.int 1))) (fun _ _ _ => True) J := by
    intro n μ a q hn hle J
    refine L_pure (pc := 28) (pc' := 30) (st' := [.int (Int32.ofNat (4 * n))]) (show z_pt 320 28 = some (9, .iload 5, []) by decide +kernel) rfl (fun _ _ => rfl) ?_
    refine L_pure (pc := 30) (pc' := 31) (st' := [.ref 2000, .int (Int32.ofNat (4 * n))]) (show z_pt 320 30 = some (9, .aload_n 0, []) by decide +kernel) rfl (fun _ _ => rfl) ?_
    refine L_scl (pc := 31) (show z_pt 320 31 = some (9, .arraylength, []) by decide +kernel) ?_
    refine L_const (pc := 32) (pc' := 33) (v := 4) (show z_ptc 320 32 = some (33, 4) by decide +kernel) ?_
    refine L_pure (pc := 33) (pc' := 34) (st' := [.int (Int32.ofNat sc.1 - 4), .int (Int32.ofNat (4 * n))]) (show z_pt 320 33 = some (9, .isub, []) by decide +kernel) rfl (fun _ _ => rfl) ?_
    refine L_icT (pc := 34) (t := 3336) (show z_pt 320 34 = some (9, .if_icmp .gt 3302, []) by decide +kernel) (by decide) (decide_eq_true (z_i4n hL (by omega) hle)) ?_
    refine L_const (pc := 3336) (pc' := 3337) (v := 1) (show z_ptc 320 3336 = some (3337, 1) by decide +kernel) ?_
    exact L_retZ (pc := 3337) (show z_pt 320 3337 = some (9, .ireturn, []) by decide +kernel) (by decide +kernel) (by decide) trivial
  induction m with
  | zero =>
    intro n μ a q hm hI
    exact hend n μ a q (by omega) (by omega) 0
  | succ m ih =>
    intro n μ a q hm hI
    by_cases hle : 4 * n + 4 ≤ sc.1
    · obtain ⟨g1, g2, g3, g4, g5⟩ := z_i4 hL hle
      rw [Nat.add_comm m 1]
      refine z_step h0 h1 h2 h3 h4 h5 h6 h7 h8 h9 h10 h11 h12 h13 h14 h15 h16 h17 h18 h19 h20 h21 h22 h23 h24 h25 h26 h27 h28 h29 h30 h31 h32 h33 h34 h35 h36 h37 h38 h39 h40 h41 h42 h43 h44 h45 h46 h47 h48 h49 h50 h51 h52 h53 h54 h55 hup (Nat.le_refl _) hI (by omega) g1 g2 g3 g4 g5 (fun μ2 a q hI2 => ?_)
      have h4 : Int32.ofNat (4 * n) + 4 = Int32.ofNat (4 * (n + 1)) := by
        rw [show 4 * (n + 1) = 4 * n + 4 by omega, Int32.ofNat_add]
        rfl
      rw [h4]
      exact ih (n + 1) μ2 a q (by omega) hI2
    · exact hend n μ a q (by omega) hle _
end ZLOOP
