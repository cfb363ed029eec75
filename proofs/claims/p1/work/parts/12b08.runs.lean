theorem sg_g8 : ((List.range 10).all fun k => sg_chk (40 + k)) = true := by decide +kernel
