theorem sg_g10 : ((List.range 1).all fun k => sg_chk (53 + k)) = true := by decide +kernel
