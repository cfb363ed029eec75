theorem sg_g0 : ((List.range 2).all fun k => sg_chk (0 + k)) = true := by decide +kernel
