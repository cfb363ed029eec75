theorem sg_g4 : ((List.range 5).all fun k => sg_chk (5 + k)) = true := by decide +kernel
