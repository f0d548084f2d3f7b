theorem q_mchk_60 : ∀ mi, mi < 20 → q_mchk (60 + mi) = true := by decide +kernel
theorem q_mchk_80 : ∀ mi, mi < 20 → q_mchk (80 + mi) = true := by decide +kernel
theorem q_mchk_100 : ∀ mi, mi < 20 → q_mchk (100 + mi) = true := by decide +kernel
