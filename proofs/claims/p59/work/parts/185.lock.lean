/-! A value that the kernel reads, and the elaborator doesn't look into. -/
section ZLK
theorem z_lka : Acc (fun (_ _ : Nat) => False) 0 := Acc.intro 0 (fun _ h => h.elim)
noncomputable def z_lock {α : Type} (x : α) : α := @Acc.rec Nat (fun _ _ => False) (fun _ _ => α) (fun _ _ _ => x) 0 z_lka
end ZLK
