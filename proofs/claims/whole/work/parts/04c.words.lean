theorem q_mchk_all {mi : Nat} (h : mi < 171) : q_mchk mi = true := by
  by_cases h0 : mi < 20
  · have := q_mchk_0 (mi - 0) (by omega)
    rwa [show 0 + (mi - 0) = mi by omega] at this
  by_cases h20 : mi < 40
  · have := q_mchk_20 (mi - 20) (by omega)
    rwa [show 20 + (mi - 20) = mi by omega] at this
  by_cases h40 : mi < 60
  · have := q_mchk_40 (mi - 40) (by omega)
    rwa [show 40 + (mi - 40) = mi by omega] at this
  by_cases h60 : mi < 80
  · have := q_mchk_60 (mi - 60) (by omega)
    rwa [show 60 + (mi - 60) = mi by omega] at this
  by_cases h80 : mi < 100
  · have := q_mchk_80 (mi - 80) (by omega)
    rwa [show 80 + (mi - 80) = mi by omega] at this
  by_cases h100 : mi < 120
  · have := q_mchk_100 (mi - 100) (by omega)
    rwa [show 100 + (mi - 100) = mi by omega] at this
  by_cases h120 : mi < 140
  · have := q_mchk_120 (mi - 120) (by omega)
    rwa [show 120 + (mi - 120) = mi by omega] at this
  by_cases h140 : mi < 160
  · have := q_mchk_140 (mi - 140) (by omega)
    rwa [show 140 + (mi - 140) = mi by omega] at this
  by_cases h160 : mi < 171
  · have := q_mchk_160 (mi - 160) (by omega)
    rwa [show 160 + (mi - 160) = mi by omega] at this
  omega
theorem q_mch2_all : ∀ mi, mi < 172 → q_mch2 mi = true := by decide +kernel
