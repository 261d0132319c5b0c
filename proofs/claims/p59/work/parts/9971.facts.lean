/-! The law's body at any script. -/
section ZFACT
theorem f_law {sc : Nat × (Nat → Int32)} (hL : sc.1 ≤ 260) : Lw sc 2000 50000 0 [(0, .ref 2000)] [] [] := by
  obtain ⟨μ, h1, r, h2, h3⟩ := f_build (z_S sc)
  exact pW_run hL h1 h2 f_z f_w h3
end ZFACT
