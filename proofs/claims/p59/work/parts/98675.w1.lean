/-! The law's fourth object, run by the kernel. -/
section ZRUW1
theorem z_w8 : (pW_w (Int32.ofNat 8 * 100) z_mu0).isSome = true := by decide +kernel
theorem z_w9 : (pW_w (Int32.ofNat 9 * 100) z_mu0).isSome = true := by decide +kernel
theorem z_w10 : (pW_w (Int32.ofNat 10 * 100) z_mu0).isSome = true := by decide +kernel
theorem z_w11 : (pW_w (Int32.ofNat 11 * 100) z_mu0).isSome = true := by decide +kernel
theorem z_w12 : (pW_w (Int32.ofNat 12 * 100) z_mu0).isSome = true := by decide +kernel
theorem z_w13 : (pW_w (Int32.ofNat 13 * 100) z_mu0).isSome = true := by decide +kernel
theorem z_w14 : (pW_w (Int32.ofNat 14 * 100) z_mu0).isSome = true := by decide +kernel
theorem z_w15 : (pW_w (Int32.ofNat 15 * 100) z_mu0).isSome = true := by decide +kernel
end ZRUW1
