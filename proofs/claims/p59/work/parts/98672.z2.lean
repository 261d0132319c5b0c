/-! The law's third object, run by the kernel. -/
section ZRUZ2
theorem z_z16 : (pW_z (Int32.ofNat (6 + 16)) z_mu0).isSome = true := by decide +kernel
theorem z_z17 : (pW_z (Int32.ofNat (6 + 17)) z_mu0).isSome = true := by decide +kernel
theorem z_z18 : (pW_z (Int32.ofNat (6 + 18)) z_mu0).isSome = true := by decide +kernel
theorem z_z19 : (pW_z (Int32.ofNat (6 + 19)) z_mu0).isSome = true := by decide +kernel
theorem z_z20 : (pW_z (Int32.ofNat (6 + 20)) z_mu0).isSome = true := by decide +kernel
theorem z_z21 : (pW_z (Int32.ofNat (6 + 21)) z_mu0).isSome = true := by decide +kernel
theorem z_z22 : (pW_z (Int32.ofNat (6 + 22)) z_mu0).isSome = true := by decide +kernel
theorem z_z23 : (pW_z (Int32.ofNat (6 + 23)) z_mu0).isSome = true := by decide +kernel
end ZRUZ2
