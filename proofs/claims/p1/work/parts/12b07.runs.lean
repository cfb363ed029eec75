theorem sg_g7 : ((List.range 10).all fun k => sg_chk (30 + k)) = true := by decide +kernel
