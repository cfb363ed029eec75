theorem sg_test0 : sg_S0.isSome = true := by decide +kernel
