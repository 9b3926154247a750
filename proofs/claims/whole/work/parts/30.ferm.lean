theorem cd_f32719 : cd_rng (cd_fs 32719) 15 0 = true := by decide +kernel
