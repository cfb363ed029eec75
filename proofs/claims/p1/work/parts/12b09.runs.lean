theorem sg_g9 : ((List.range 3).all fun k => sg_chk (50 + k)) = true := by decide +kernel
