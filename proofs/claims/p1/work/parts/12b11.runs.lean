theorem sg_g11 : ((List.range 10).all fun k => sg_chk (54 + k)) = true := by decide +kernel
