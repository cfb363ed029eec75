theorem sg_g5 : ((List.range 10).all fun k => sg_chk (10 + k)) = true := by decide +kernel
