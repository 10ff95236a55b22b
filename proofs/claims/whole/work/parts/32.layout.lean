set_option maxRecDepth 100000 in
theorem zsc_R0 : ∀ a, a < 237 → ∀ k, k < 50 → zR0 a k ≠ none → zsc.2.1 a k = zR0 a k := by decide +kernel
