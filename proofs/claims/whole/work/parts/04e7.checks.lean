theorem q_ck_170 : q_chk 170 = true := by decide +kernel
