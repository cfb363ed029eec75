theorem sg_g2 : ((List.range 1).all fun k => sg_chk (3 + k)) = true := by decide +kernel
