/-! The law's third object, run by the kernel. -/
section ZRUZ0
theorem z_z0 : (pW_z (Int32.ofNat (6 + 0)) z_mu0).isSome = true := by decide +kernel
theorem z_z1 : (pW_z (Int32.ofNat (6 + 1)) z_mu0).isSome = true := by decide +kernel
theorem z_z2 : (pW_z (Int32.ofNat (6 + 2)) z_mu0).isSome = true := by decide +kernel
theorem z_z3 : (pW_z (Int32.ofNat (6 + 3)) z_mu0).isSome = true := by decide +kernel
theorem z_z4 : (pW_z (Int32.ofNat (6 + 4)) z_mu0).isSome = true := by decide +kernel
theorem z_z5 : (pW_z (Int32.ofNat (6 + 5)) z_mu0).isSome = true := by decide +kernel
theorem z_z6 : (pW_z (Int32.ofNat (6 + 6)) z_mu0).isSome = true := by decide +kernel
theorem z_z7 : (pW_z (Int32.ofNat (6 + 7)) z_mu0).isSome = true := by decide +kernel
end ZRUZ0
