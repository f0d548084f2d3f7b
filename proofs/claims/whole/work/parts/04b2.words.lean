theorem q_mchk_120 : ∀ mi, mi < 20 → q_mchk (120 + mi) = true := by decide +kernel
theorem q_mchk_140 : ∀ mi, mi < 20 → q_mchk (140 + mi) = true := by decide +kernel
theorem q_mchk_160 : ∀ mi, mi < 11 → q_mchk (160 + mi) = true := by decide +kernel
