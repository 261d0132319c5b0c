/-! The law's third object, run by the kernel. -/
section ZRUZ1
theorem z_z8 : (pW_z (Int32.ofNat (6 + 8)) z_mu0).isSome = true := by decide +kernel
theorem z_z9 : (pW_z (Int32.ofNat (6 + 9)) z_mu0).isSome = true := by decide +kernel
theorem z_z10 : (pW_z (Int32.ofNat (6 + 10)) z_mu0).isSome = true := by decide +kernel
theorem z_z11 : (pW_z (Int32.ofNat (6 + 11)) z_mu0).isSome = true := by decide +kernel
theorem z_z12 : (pW_z (Int32.ofNat (6 + 12)) z_mu0).isSome = true := by decide +kernel
theorem z_z13 : (pW_z (Int32.ofNat (6 + 13)) z_mu0).isSome = true := by decide +kernel
theorem z_z14 : (pW_z (Int32.ofNat (6 + 14)) z_mu0).isSome = true := by decide +kernel
theorem z_z15 : (pW_z (Int32.ofNat (6 + 15)) z_mu0).isSome = true := by decide +kernel
end ZRUZ1
