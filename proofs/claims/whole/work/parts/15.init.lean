noncomputable def q_iM : Option (Option Value × qM) := match q_iA with
  | some (_, M) => q_ex q_xt0 200000 40 103 (0, [some (.ref 56)], [], q_new M (8, 21))
  | none => none
noncomputable def q_okM : Bool := match q_iM with
  | some (none, M) => decide (M.1 = qSH) && (decide (M.2.2.2.2 = qRH) && (decide (M.2.2.2.1 0 = 0) && (decide (M.2.2.2.1 56 = 0) && q_rowsok M 0 70)))
  | _ => false
theorem q_okM_t : q_okM = true := by decide +kernel
