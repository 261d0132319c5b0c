/-! The law's third object, run by the kernel. -/
section ZRUZ3
theorem z_z24 : (pW_z (Int32.ofNat (6 + 24)) z_mu0).isSome = true := by decide +kernel
theorem z_z25 : (pW_z (Int32.ofNat (6 + 25)) z_mu0).isSome = true := by decide +kernel
theorem z_z26 : (pW_z (Int32.ofNat (6 + 26)) z_mu0).isSome = true := by decide +kernel
theorem z_z27 : (pW_z (Int32.ofNat (6 + 27)) z_mu0).isSome = true := by decide +kernel
theorem z_z28 : (pW_z (Int32.ofNat (6 + 28)) z_mu0).isSome = true := by decide +kernel
theorem z_z29 : (pW_z (Int32.ofNat (6 + 29)) z_mu0).isSome = true := by decide +kernel
theorem z_z30 : (pW_z (Int32.ofNat (6 + 30)) z_mu0).isSome = true := by decide +kernel
theorem z_z31 : (pW_z (Int32.ofNat (6 + 31)) z_mu0).isSome = true := by decide +kernel
end ZRUZ3
