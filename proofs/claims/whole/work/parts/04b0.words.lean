theorem q_mchk_0 : ∀ mi, mi < 20 → q_mchk (0 + mi) = true := by decide +kernel
theorem q_mchk_20 : ∀ mi, mi < 20 → q_mchk (20 + mi) = true := by decide +kernel
theorem q_mchk_40 : ∀ mi, mi < 20 → q_mchk (40 + mi) = true := by decide +kernel
