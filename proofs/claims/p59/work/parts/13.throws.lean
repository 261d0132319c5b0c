section ZTH
def z_xat (e : Nat) : List Cond := vx_at0 RX9 (z_xl e).2 (z_xn e) ["java/lang/RuntimeException", "java/lang/Exception"]
theorem z_xat_ok : (List.range 6).all (fun e => (z_xat e).all (fun w => (!goodWord w || decide (w ∈ lw_tbl)) && (goodWord w || decide (w = Jvm.Cond.castable (z_xn e) (z_xn e) ∨ w ∈ z_dec.map (fun C => Jvm.Cond.declares ⟨C, "<init>", "()V"⟩))))) = true := by decide +kernel
theorem z_xat_ot : (List.range 6).all (fun e => (z_xat e).all vx_ot) = true := by decide +kernel
theorem z_xnk : (List.range 6).all (fun e => decide (Jvm.Cond.classLink RX9 (z_xl e).1 (z_xn e) ∈ lw_tbl) && (goodWord (Jvm.Cond.classLink RX9 (z_xl e).1 (z_xn e)) && (decide (Jvm.Cond.initialized (z_xn e) ∈ lw_tbl) && (goodWord (Jvm.Cond.initialized (z_xn e)) && (vx_ot (Jvm.Cond.classLink RX9 (z_xl e).1 (z_xn e)) && (vx_ot (Jvm.Cond.initialized (z_xn e)) && (Bundle.fit (z_xn e)))))))) = true := by decide +kernel
theorem z_xcl : ([0, 1, 2, 3, 5] : List Nat).all (fun e => decide (Jvm.Cond.classLink RL ([92, 94, 96, 98, 0, 261].getD e 0) (z_xn e) ∈ lw_tbl) && (goodWord (Jvm.Cond.classLink RL ([92, 94, 96, 98, 0, 261].getD e 0) (z_xn e)) && decide (Jvm.Cond.castable (z_xn e) (z_xn e) ∈ lw_tbl))) = true := by decide +kernel
end ZTH
