theorem zR_a_ok : zR_a.isSome = true := by decide +kernel
