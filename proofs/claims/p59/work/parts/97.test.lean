section ZTEST
def t_feed (s : List Nat) (m : z_Mem) : Option z_Mem := s.foldl (fun o c => o.bind fun m => (pG_feed m (Int32.ofNat c)).bind fun q => some q.2) (some m)
def t_is (r : Int32 ⊕ Nat) (v : Int32) : Bool := match r with | .inl x => decide (x = v) | .inr _ => false
def t_1 : Bool := match t_feed (z_str 20) z_mu0 with
  | some m => decide (m 21 0 = 45)
  | none => false
def t_2 : Bool := match t_feed (z_str 20) z_mu0 with
  | some m => (match pG_execute m with
    | some q => t_is q.1 5
    | none => false)
  | none => false
theorem t_1t : t_1 = true := by decide +kernel
theorem t_2t : t_2 = true := by decide +kernel
end ZTEST
