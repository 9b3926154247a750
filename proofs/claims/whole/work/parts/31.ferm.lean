theorem cd_f32749 : cd_rng (cd_fs 32749) 15 0 = true := by decide +kernel
