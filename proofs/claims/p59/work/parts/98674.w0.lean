/-! The law's fourth object, run by the kernel. -/
section ZRUW0
theorem z_w0 : (pW_w (Int32.ofNat 0 * 100) z_mu0).isSome = true := by decide +kernel
theorem z_w1 : (pW_w (Int32.ofNat 1 * 100) z_mu0).isSome = true := by decide +kernel
theorem z_w2 : (pW_w (Int32.ofNat 2 * 100) z_mu0).isSome = true := by decide +kernel
theorem z_w3 : (pW_w (Int32.ofNat 3 * 100) z_mu0).isSome = true := by decide +kernel
theorem z_w4 : (pW_w (Int32.ofNat 4 * 100) z_mu0).isSome = true := by decide +kernel
theorem z_w5 : (pW_w (Int32.ofNat 5 * 100) z_mu0).isSome = true := by decide +kernel
theorem z_w6 : (pW_w (Int32.ofNat 6 * 100) z_mu0).isSome = true := by decide +kernel
theorem z_w7 : (pW_w (Int32.ofNat 7 * 100) z_mu0).isSome = true := by decide +kernel
end ZRUW0
