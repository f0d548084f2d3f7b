
theorem q_ckL_0 : ∀ j, j < 50 → q_chk1 171 (0 + j) = true := by decide +kernel
theorem q_ckL_1 : ∀ j, j < 50 → q_chk1 171 (50 + j) = true := by decide +kernel
theorem q_ckL_2 : ∀ j, j < 50 → q_chk1 171 (100 + j) = true := by decide +kernel
theorem q_ckL_3 : ∀ j, j < 50 → q_chk1 171 (150 + j) = true := by decide +kernel
theorem q_ckL_4 : ∀ j, j < 50 → q_chk1 171 (200 + j) = true := by decide +kernel
theorem q_ckL_5 : ∀ j, j < 50 → q_chk1 171 (250 + j) = true := by decide +kernel
theorem q_ckL_6 : ∀ j, j < 50 → q_chk1 171 (300 + j) = true := by decide +kernel
theorem q_ckL_7 : ∀ j, j < 50 → q_chk1 171 (350 + j) = true := by decide +kernel
theorem q_ckL_8 : ∀ j, j < 50 → q_chk1 171 (400 + j) = true := by decide +kernel
theorem q_ckL_9 : ∀ j, j < 50 → q_chk1 171 (450 + j) = true := by decide +kernel
theorem q_ckL_10 : ∀ j, j < 50 → q_chk1 171 (500 + j) = true := by decide +kernel
theorem q_ckL_11 : ∀ j, j < 50 → q_chk1 171 (550 + j) = true := by decide +kernel
theorem q_ckL_12 : ∀ j, j < 50 → q_chk1 171 (600 + j) = true := by decide +kernel
theorem q_ckL_13 : ∀ j, j < 50 → q_chk1 171 (650 + j) = true := by decide +kernel
theorem q_ckL_14 : ∀ j, j < 50 → q_chk1 171 (700 + j) = true := by decide +kernel
theorem q_ckL_15 : ∀ j, j < 50 → q_chk1 171 (750 + j) = true := by decide +kernel
theorem q_ckL_16 : ∀ j, j < 50 → q_chk1 171 (800 + j) = true := by decide +kernel
theorem q_ck_171 : q_chk 171 = true := by
  unfold q_chk
  rw [List.all_eq_true]
  intro pc hpc
  have hpc : pc < q_len 171 := List.mem_range.mp hpc
  have hl : q_len 171 = 847 := rfl
  by_cases h0 : pc < 50
  · have := q_ckL_0 (pc - 0) (by omega)
    rwa [show 0 + (pc - 0) = pc by omega] at this
  by_cases h1 : pc < 100
  · have := q_ckL_1 (pc - 50) (by omega)
    rwa [show 50 + (pc - 50) = pc by omega] at this
  by_cases h2 : pc < 150
  · have := q_ckL_2 (pc - 100) (by omega)
    rwa [show 100 + (pc - 100) = pc by omega] at this
  by_cases h3 : pc < 200
  · have := q_ckL_3 (pc - 150) (by omega)
    rwa [show 150 + (pc - 150) = pc by omega] at this
  by_cases h4 : pc < 250
  · have := q_ckL_4 (pc - 200) (by omega)
    rwa [show 200 + (pc - 200) = pc by omega] at this
  by_cases h5 : pc < 300
  · have := q_ckL_5 (pc - 250) (by omega)
    rwa [show 250 + (pc - 250) = pc by omega] at this
  by_cases h6 : pc < 350
  · have := q_ckL_6 (pc - 300) (by omega)
    rwa [show 300 + (pc - 300) = pc by omega] at this
  by_cases h7 : pc < 400
  · have := q_ckL_7 (pc - 350) (by omega)
    rwa [show 350 + (pc - 350) = pc by omega] at this
  by_cases h8 : pc < 450
  · have := q_ckL_8 (pc - 400) (by omega)
    rwa [show 400 + (pc - 400) = pc by omega] at this
  by_cases h9 : pc < 500
  · have := q_ckL_9 (pc - 450) (by omega)
    rwa [show 450 + (pc - 450) = pc by omega] at this
  by_cases h10 : pc < 550
  · have := q_ckL_10 (pc - 500) (by omega)
    rwa [show 500 + (pc - 500) = pc by omega] at this
  by_cases h11 : pc < 600
  · have := q_ckL_11 (pc - 550) (by omega)
    rwa [show 550 + (pc - 550) = pc by omega] at this
  by_cases h12 : pc < 650
  · have := q_ckL_12 (pc - 600) (by omega)
    rwa [show 600 + (pc - 600) = pc by omega] at this
  by_cases h13 : pc < 700
  · have := q_ckL_13 (pc - 650) (by omega)
    rwa [show 650 + (pc - 650) = pc by omega] at this
  by_cases h14 : pc < 750
  · have := q_ckL_14 (pc - 700) (by omega)
    rwa [show 700 + (pc - 700) = pc by omega] at this
  by_cases h15 : pc < 800
  · have := q_ckL_15 (pc - 750) (by omega)
    rwa [show 750 + (pc - 750) = pc by omega] at this
  by_cases h16 : pc < 850
  · have := q_ckL_16 (pc - 800) (by omega)
    rwa [show 800 + (pc - 800) = pc by omega] at this
  omega
