theorem sg_g1 : ((List.range 1).all fun k => sg_chk (2 + k)) = true := by decide +kernel
