theorem sg_g3 : ((List.range 1).all fun k => sg_chk (4 + k)) = true := by decide +kernel
