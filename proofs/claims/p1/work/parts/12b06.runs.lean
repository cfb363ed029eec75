theorem sg_g6 : ((List.range 10).all fun k => sg_chk (20 + k)) = true := by decide +kernel
