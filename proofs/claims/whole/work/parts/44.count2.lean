def nxok (v : Nat) : Bool := v == 0 || (bc (nx (nI v)) + 1 == bc (nI v) && nx (nI v) &&& (-16384) == 0)
set_option maxRecDepth 100000 in
theorem nx_tab : ∀ a, a < 128 → ∀ b, b < 128 → nxok (128 * a + b) = true := by decide +kernel
