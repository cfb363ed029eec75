theorem sg_gs : ((List.range 64).all sg_chs) = true := by decide +kernel
