noncomputable def FL_Mo_rate_151 : Nat → (Nat → Nat → Int32) → (Nat → Int64) → Int32 → Int32 → Int32 → Int32 → Int32 → Int32 → Option (Int32)
  | 0, _, _, _, _, _, _, _, _ => none
  | fu + 1, m, lm, x1, x2, x3, x4, x5, x6 =>
    if m 58 1 ≤ x6 then
      some (x5)
    else
      cond (q_in (8 + x6) 93) (
        cond (q_in (8 + x2) 93) (
          if m 58 ((8 + x6)).toNatClampNeg = m 58 ((8 + x2)).toNatClampNeg then
            FL_Mo_rate_151 fu m lm x1 x2 x3 x4 (x5 - 1) (x6 + 1)
          else
            FL_Mo_rate_151 fu m lm x1 x2 x3 x4 (x5 - 0) (x6 + 1)
         ) none
       ) none
theorem TL_Mo_rate_151 {Ln : Nat} {xs : Nat → Int32} {n : (Nat → Nat → Int32)} {d : Nat} (hd : 0 ≤ d) {r : Option Value × qM} : ∀ (fu : Nat) (m : (Nat → Nat → Int32)) (lm : (Nat → Int64)) (x1 : Int32) (x2 : Int32) (x3 : Int32) (x4 : Int32) (x5 : Int32) (x6 : Int32)  (y5 : Int32), FL_Mo_rate_151 fu m lm x1 x2 x3 x4 x5 x6 = some y5 → (∀ (u6 : Option Value), q_Ev (qXT Ln xs) d 164 (200, [some (.ref 58), some (.int x1), some (.int x2), some (.int x3), some (.int x4), some (.int y5), u6], [], qMM n m lm) r) → q_Ev (qXT Ln xs) d 164 (151, [some (.ref 58), some (.int x1), some (.int x2), some (.int x3), some (.int x4), some (.int x5), some (.int x6)], [], qMM n m lm) r := by
  intro fu
  induction fu with
  | zero => intro m lm x1 x2 x3 x4 x5 x6 y5 h hk; cases h
  | succ fu ih =>
    intro m lm x1 x2 x3 x4 x5 x6 y5 h hk
    rw [FL_Mo_rate_151] at h
    refine q_ev_run 5 (S' := (159, [some (.ref 58), some (.int x1), some (.int x2), some (.int x3), some (.int x4), some (.int x5), some (.int x6)], [.int (m 58 1), .int x6], qMM n m lm)) rfl ?_
    by_cases hc1 : m 58 1 ≤ x6
    · rw [if_pos hc1] at h
      refine q_ev_brT hc1 (a := 200) (b := 162) rfl ?_
      have h_z0 := Option.some.inj h
      subst h_z0
      exact hk (some (.int x6))
    · rw [if_neg hc1] at h
      refine q_ev_brF hc1 (a := 200) (b := 162) rfl ?_
      refine q_ev_run 6 (S' := (173, [some (.ref 58), some (.int x1), some (.int x2), some (.int x3), some (.int x4), some (.int x5), some (.int x6)], [.int (8 + x6), .ref 60, .int x5], qMM n m lm)) rfl ?_
      obtain ⟨hb2, h⟩ := q_cd h
      refine q_ev_chk (b := q_in (8 + x6) 93) hb2 (S' := (174, [some (.ref 58), some (.int x1), some (.int x2), some (.int x3), some (.int x4), some (.int x5), some (.int x6)], [.int (m 58 ((8 + x6)).toNatClampNeg), .int x5], qMM n m lm)) rfl ?_
      refine q_ev_run 5 (S' := (182, [some (.ref 58), some (.int x1), some (.int x2), some (.int x3), some (.int x4), some (.int x5), some (.int x6)], [.int (8 + x2), .ref 60, .int (m 58 ((8 + x6)).toNatClampNeg), .int x5], qMM n m lm)) rfl ?_
      obtain ⟨hb3, h⟩ := q_cd h
      refine q_ev_chk (b := q_in (8 + x2) 93) hb3 (S' := (183, [some (.ref 58), some (.int x1), some (.int x2), some (.int x3), some (.int x4), some (.int x5), some (.int x6)], [.int (m 58 ((8 + x2)).toNatClampNeg), .int (m 58 ((8 + x6)).toNatClampNeg), .int x5], qMM n m lm)) rfl ?_
      by_cases hc4 : m 58 ((8 + x6)).toNatClampNeg = m 58 ((8 + x2)).toNatClampNeg
      · rw [if_pos hc4] at h
        refine q_ev_brT hc4 (a := 186) (b := 190) rfl ?_
        refine q_ev_run 6 (S' := (151, [some (.ref 58), some (.int x1), some (.int x2), some (.int x3), some (.int x4), some (.int (x5 - 1)), some (.int (x6 + 1))], [], qMM n m lm)) rfl ?_
        exact ih m lm x1 x2 x3 x4 (x5 - 1) (x6 + 1) _ h hk
      · rw [if_neg hc4] at h
        refine q_ev_brF hc4 (a := 186) (b := 190) rfl ?_
        refine q_ev_run 5 (S' := (151, [some (.ref 58), some (.int x1), some (.int x2), some (.int x3), some (.int x4), some (.int (x5 - 0)), some (.int (x6 + 1))], [], qMM n m lm)) rfl ?_
        exact ih m lm x1 x2 x3 x4 (x5 - 0) (x6 + 1) _ h hk
noncomputable def F_Mo_rate (m : (Nat → Nat → Int32)) (lm : (Nat → Int64)) (a1 : Int32) (a2 : Int32) : Option (Int32 × (Nat → Int64)) :=
  Option.bind (F_Mo_in a1 0 5) (fun r1 =>
    if r1 = 0 then
      some ((Int32.ofInt (-1000000)), lm)
    else
      Option.bind (F_Mo_isHog m a2) (fun r4 =>
        if r4 = 0 then
          some ((Int32.ofInt (-1000000)), lm)
        else
          if a1 = 0 then
            cond (q_in (8 + a2) 93) (
              Option.bind (F_Mo_ones (m 58 ((8 + a2)).toNatClampNeg)) (fun r9 =>
                Option.bind (FL_Mo_rate_103 qFU m (va_up lm 56 (lm 56 + 1)) a1 a2 r9 r9 0) (fun y11 =>
                  Option.bind (FL_Mo_rate_151 qFU m (va_up lm 56 (lm 56 + 1)) a1 a2 r9 y11 (r9 + 1) 0) (fun y15 =>
                    if a1 = 0 then
                      some (r9, (va_up lm 56 (lm 56 + 1)))
                    else
                      if a1 = 1 then
                        some (y11, (va_up lm 56 (lm 56 + 1)))
                      else
                        if a1 = 2 then
                          some (y15, (va_up lm 56 (lm 56 + 1)))
                        else
                          if a1 = 3 then
                            some ((2 * y11), (va_up lm 56 (lm 56 + 1)))
                          else
                            if a1 = 4 then
                              some ((y15 + a2), (va_up lm 56 (lm 56 + 1)))
                            else
                              some ((r9 + m 58 2), (va_up lm 56 (lm 56 + 1))))))
             ) none
          else
            if a1 = 1 then
              cond (q_in (8 + a2) 93) (
                Option.bind (F_Mo_ones (m 58 ((8 + a2)).toNatClampNeg)) (fun r25 =>
                  Option.bind (FL_Mo_rate_103 qFU m (va_up lm 56 (lm 56 + 11)) a1 a2 r25 r25 0) (fun y27 =>
                    Option.bind (FL_Mo_rate_151 qFU m (va_up lm 56 (lm 56 + 11)) a1 a2 r25 y27 (r25 + 1) 0) (fun y31 =>
                      if a1 = 0 then
                        some (r25, (va_up lm 56 (lm 56 + 11)))
                      else
                        if a1 = 1 then
                          some (y27, (va_up lm 56 (lm 56 + 11)))
                        else
                          if a1 = 2 then
                            some (y31, (va_up lm 56 (lm 56 + 11)))
                          else
                            if a1 = 3 then
                              some ((2 * y27), (va_up lm 56 (lm 56 + 11)))
                            else
                              if a1 = 4 then
                                some ((y31 + a2), (va_up lm 56 (lm 56 + 11)))
                              else
                                some ((r25 + m 58 2), (va_up lm 56 (lm 56 + 11))))))
               ) none
            else
              if a1 = 2 then
                cond (q_in (8 + a2) 93) (
                  Option.bind (F_Mo_ones (m 58 ((8 + a2)).toNatClampNeg)) (fun r41 =>
                    Option.bind (FL_Mo_rate_103 qFU m (va_up lm 56 (lm 56 + 101)) a1 a2 r41 r41 0) (fun y43 =>
                      Option.bind (FL_Mo_rate_151 qFU m (va_up lm 56 (lm 56 + 101)) a1 a2 r41 y43 (r41 + 1) 0) (fun y47 =>
                        if a1 = 0 then
                          some (r41, (va_up lm 56 (lm 56 + 101)))
                        else
                          if a1 = 1 then
                            some (y43, (va_up lm 56 (lm 56 + 101)))
                          else
                            if a1 = 2 then
                              some (y47, (va_up lm 56 (lm 56 + 101)))
                            else
                              if a1 = 3 then
                                some ((2 * y43), (va_up lm 56 (lm 56 + 101)))
                              else
                                if a1 = 4 then
                                  some ((y47 + a2), (va_up lm 56 (lm 56 + 101)))
                                else
                                  some ((r41 + m 58 2), (va_up lm 56 (lm 56 + 101))))))
                 ) none
              else
                if a1 = 3 then
                  cond (q_in (8 + a2) 93) (
                    Option.bind (F_Mo_ones (m 58 ((8 + a2)).toNatClampNeg)) (fun r57 =>
                      Option.bind (FL_Mo_rate_103 qFU m (va_up lm 56 (lm 56 + 1011)) a1 a2 r57 r57 0) (fun y59 =>
                        Option.bind (FL_Mo_rate_151 qFU m (va_up lm 56 (lm 56 + 1011)) a1 a2 r57 y59 (r57 + 1) 0) (fun y63 =>
                          if a1 = 0 then
                            some (r57, (va_up lm 56 (lm 56 + 1011)))
                          else
                            if a1 = 1 then
                              some (y59, (va_up lm 56 (lm 56 + 1011)))
                            else
                              if a1 = 2 then
                                some (y63, (va_up lm 56 (lm 56 + 1011)))
                              else
                                if a1 = 3 then
                                  some ((2 * y59), (va_up lm 56 (lm 56 + 1011)))
                                else
                                  if a1 = 4 then
                                    some ((y63 + a2), (va_up lm 56 (lm 56 + 1011)))
                                  else
                                    some ((r57 + m 58 2), (va_up lm 56 (lm 56 + 1011))))))
                   ) none
                else
                  if a1 = 4 then
                    cond (q_in (8 + a2) 93) (
                      Option.bind (F_Mo_ones (m 58 ((8 + a2)).toNatClampNeg)) (fun r73 =>
                        Option.bind (FL_Mo_rate_103 qFU m (va_up lm 56 (lm 56 + 10101)) a1 a2 r73 r73 0) (fun y75 =>
                          Option.bind (FL_Mo_rate_151 qFU m (va_up lm 56 (lm 56 + 10101)) a1 a2 r73 y75 (r73 + 1) 0) (fun y79 =>
                            if a1 = 0 then
                              some (r73, (va_up lm 56 (lm 56 + 10101)))
                            else
                              if a1 = 1 then
                                some (y75, (va_up lm 56 (lm 56 + 10101)))
                              else
                                if a1 = 2 then
                                  some (y79, (va_up lm 56 (lm 56 + 10101)))
                                else
                                  if a1 = 3 then
                                    some ((2 * y75), (va_up lm 56 (lm 56 + 10101)))
                                  else
                                    if a1 = 4 then
                                      some ((y79 + a2), (va_up lm 56 (lm 56 + 10101)))
                                    else
                                      some ((r73 + m 58 2), (va_up lm 56 (lm 56 + 10101))))))
                     ) none
                  else
                    cond (q_in (8 + a2) 93) (
                      Option.bind (F_Mo_ones (m 58 ((8 + a2)).toNatClampNeg)) (fun r88 =>
                        Option.bind (FL_Mo_rate_103 qFU m (va_up lm 56 (lm 56 + 100001)) a1 a2 r88 r88 0) (fun y90 =>
                          Option.bind (FL_Mo_rate_151 qFU m (va_up lm 56 (lm 56 + 100001)) a1 a2 r88 y90 (r88 + 1) 0) (fun y94 =>
                            if a1 = 0 then
                              some (r88, (va_up lm 56 (lm 56 + 100001)))
                            else
                              if a1 = 1 then
                                some (y90, (va_up lm 56 (lm 56 + 100001)))
                              else
                                if a1 = 2 then
                                  some (y94, (va_up lm 56 (lm 56 + 100001)))
                                else
                                  if a1 = 3 then
                                    some ((2 * y90), (va_up lm 56 (lm 56 + 100001)))
                                  else
                                    if a1 = 4 then
                                      some ((y94 + a2), (va_up lm 56 (lm 56 + 100001)))
                                    else
                                      some ((r88 + m 58 2), (va_up lm 56 (lm 56 + 100001))))))
                     ) none))
theorem T_Mo_rate {Ln : Nat} {xs : Nat → Int32} {n : (Nat → Nat → Int32)} {d : Nat} (hd : 2 ≤ d) {m : (Nat → Nat → Int32)} {lm : (Nat → Int64)} {a1 : Int32} {a2 : Int32} {rv : Int32} {lm1 : (Nat → Int64)} (h : F_Mo_rate m lm a1 a2 = some (rv, lm1)) : q_Ev (qXT Ln xs) d 164 (0, [some (.ref 58), some (.int a1), some (.int a2), none, none, none, none], [], qMM n m lm) (some (.int rv), qMM n m lm1) := by
  unfold F_Mo_rate at h
  refine q_ev_run 3 (S' := (3, [some (.ref 58), some (.int a1), some (.int a2), none, none, none, none], [.int 5, .int 0, .int a1], qMM n m lm)) rfl ?_
  obtain ⟨r1, hf2, h⟩ := Option.bind_eq_some_iff.mp h
  try dsimp only at h
  refine q_ev_call (S' := (6, [some (.ref 58), some (.int a1), some (.int a2), none, none, none, none], [], qMM n m lm)) rfl (by omega) (T_Mo_in (by first | omega | decide) hf2) ?_
  refine q_ev_eq (S' := (6, [some (.ref 58), some (.int a1), some (.int a2), none, none, none, none], [.int r1], qMM n m lm)) rfl ?_
  by_cases hc3 : r1 = 0
  · rw [if_pos hc3] at h
    refine q_ev_brT hc3 (a := 17) (b := 9) rfl ?_
    refine q_ev_run 1 (S' := (19, [some (.ref 58), some (.int a1), some (.int a2), none, none, none, none], [.int (Int32.ofInt (-1000000))], qMM n m lm)) rfl ?_
    have h_z0 := Option.some.inj h
    obtain ⟨h_0, h_z1⟩ := Prod.mk.inj h_z0
    subst h_0
    subst h_z1
    exact q_ev_ret rfl rfl
  · rw [if_neg hc3] at h
    refine q_ev_brF hc3 (a := 17) (b := 9) rfl ?_
    refine q_ev_run 2 (S' := (11, [some (.ref 58), some (.int a1), some (.int a2), none, none, none, none], [.int a2, .ref 58], qMM n m lm)) rfl ?_
    obtain ⟨r4, hf5, h⟩ := Option.bind_eq_some_iff.mp h
    try dsimp only at h
    refine q_ev_call (S' := (14, [some (.ref 58), some (.int a1), some (.int a2), none, none, none, none], [], qMM n m lm)) rfl (by omega) (T_Mo_isHog (by first | omega | decide) hf5) ?_
    refine q_ev_eq (S' := (14, [some (.ref 58), some (.int a1), some (.int a2), none, none, none, none], [.int r4], qMM n m lm)) rfl ?_
    by_cases hc6 : r4 = 0
    · rw [if_pos hc6] at h
      refine q_ev_brT hc6 (a := 17) (b := 20) rfl ?_
      refine q_ev_run 1 (S' := (19, [some (.ref 58), some (.int a1), some (.int a2), none, none, none, none], [.int (Int32.ofInt (-1000000))], qMM n m lm)) rfl ?_
      have h_z0 := Option.some.inj h
      obtain ⟨h_0, h_z1⟩ := Prod.mk.inj h_z0
      subst h_0
      subst h_z1
      exact q_ev_ret rfl rfl
    · rw [if_neg hc6] at h
      refine q_ev_brF hc6 (a := 17) (b := 20) rfl ?_
      refine q_ev_run 4 (S' := (26, [some (.ref 58), some (.int a1), some (.int a2), none, none, none, none], [.int a1, .long (lm 56), .ref 58], qMM n m lm)) rfl ?_
      by_cases hc7 : a1 = 0
      · rw [if_pos hc7] at h
        refine q_ev_brT hc7 (a := 29) (b := 33) rfl ?_
        refine q_ev_run 9 (S' := (92, [some (.ref 58), some (.int a1), some (.int a2), none, none, none, none], [.int (8 + a2), .ref 60], qMM n m (va_up lm 56 (lm 56 + 1)))) rfl ?_
        obtain ⟨hb8, h⟩ := q_cd h
        refine q_ev_chk (b := q_in (8 + a2) 93) hb8 (S' := (93, [some (.ref 58), some (.int a1), some (.int a2), none, none, none, none], [.int (m 58 ((8 + a2)).toNatClampNeg)], qMM n m (va_up lm 56 (lm 56 + 1)))) rfl ?_
        obtain ⟨r9, hf10, h⟩ := Option.bind_eq_some_iff.mp h
        try dsimp only at h
        refine q_ev_call (S' := (96, [some (.ref 58), some (.int a1), some (.int a2), none, none, none, none], [], qMM n m (va_up lm 56 (lm 56 + 1)))) rfl (by omega) (T_Mo_ones (by first | omega | decide) hf10) ?_
        refine q_ev_eq (S' := (96, [some (.ref 58), some (.int a1), some (.int a2), none, none, none, none], [.int r9], qMM n m (va_up lm 56 (lm 56 + 1)))) rfl ?_
        refine q_ev_run 5 (S' := (103, [some (.ref 58), some (.int a1), some (.int a2), some (.int r9), some (.int r9), some (.int 0), none], [], qMM n m (va_up lm 56 (lm 56 + 1)))) rfl ?_
        obtain ⟨y11, hl14, h⟩ := Option.bind_eq_some_iff.mp h
        try dsimp only at h
        refine TL_Mo_rate_103 (by first | omega | decide) _ m (va_up lm 56 (lm 56 + 1)) a1 a2 r9 r9 0 (none) _ hl14 (fun w12 w13 => ?_)
        refine q_ev_run 6 (S' := (151, [some (.ref 58), some (.int a1), some (.int a2), some (.int r9), some (.int y11), some (.int (r9 + 1)), some (.int 0)], [], qMM n m (va_up lm 56 (lm 56 + 1)))) rfl ?_
        obtain ⟨y15, hl17, h⟩ := Option.bind_eq_some_iff.mp h
        try dsimp only at h
        refine TL_Mo_rate_151 (by first | omega | decide) _ m (va_up lm 56 (lm 56 + 1)) a1 a2 r9 y11 (r9 + 1) 0 _ hl17 (fun w16 => ?_)
        refine q_ev_run 1 (S' := (201, [some (.ref 58), some (.int a1), some (.int a2), some (.int r9), some (.int y11), some (.int y15), w16], [.int a1], qMM n m (va_up lm 56 (lm 56 + 1)))) rfl ?_
        by_cases hc18 : a1 = 0
        · rw [if_pos hc18] at h
          refine q_ev_brT hc18 (a := 204) (b := 208) rfl ?_
          refine q_ev_run 2 (S' := (260, [some (.ref 58), some (.int a1), some (.int a2), some (.int r9), some (.int y11), some (.int y15), w16], [.int r9], qMM n m (va_up lm 56 (lm 56 + 1)))) rfl ?_
          have h_z0 := Option.some.inj h
          obtain ⟨h_0, h_z1⟩ := Prod.mk.inj h_z0
          subst h_0
          subst h_z1
          exact q_ev_ret rfl rfl
        · rw [if_neg hc18] at h
          refine q_ev_brF hc18 (a := 204) (b := 208) rfl ?_
          refine q_ev_run 2 (S' := (210, [some (.ref 58), some (.int a1), some (.int a2), some (.int r9), some (.int y11), some (.int y15), w16], [.int 1, .int a1], qMM n m (va_up lm 56 (lm 56 + 1)))) rfl ?_
          by_cases hc19 : a1 = 1
          · rw [if_pos hc19] at h
            refine q_ev_brT hc19 (a := 213) (b := 218) rfl ?_
            refine q_ev_run 2 (S' := (260, [some (.ref 58), some (.int a1), some (.int a2), some (.int r9), some (.int y11), some (.int y15), w16], [.int y11], qMM n m (va_up lm 56 (lm 56 + 1)))) rfl ?_
            have h_z0 := Option.some.inj h
            obtain ⟨h_0, h_z1⟩ := Prod.mk.inj h_z0
            subst h_0
            subst h_z1
            exact q_ev_ret rfl rfl
          · rw [if_neg hc19] at h
            refine q_ev_brF hc19 (a := 213) (b := 218) rfl ?_
            refine q_ev_run 2 (S' := (220, [some (.ref 58), some (.int a1), some (.int a2), some (.int r9), some (.int y11), some (.int y15), w16], [.int 2, .int a1], qMM n m (va_up lm 56 (lm 56 + 1)))) rfl ?_
            by_cases hc20 : a1 = 2
            · rw [if_pos hc20] at h
              refine q_ev_brT hc20 (a := 223) (b := 228) rfl ?_
              refine q_ev_run 2 (S' := (260, [some (.ref 58), some (.int a1), some (.int a2), some (.int r9), some (.int y11), some (.int y15), w16], [.int y15], qMM n m (va_up lm 56 (lm 56 + 1)))) rfl ?_
              have h_z0 := Option.some.inj h
              obtain ⟨h_0, h_z1⟩ := Prod.mk.inj h_z0
              subst h_0
              subst h_z1
              exact q_ev_ret rfl rfl
            · rw [if_neg hc20] at h
              refine q_ev_brF hc20 (a := 223) (b := 228) rfl ?_
              refine q_ev_run 2 (S' := (230, [some (.ref 58), some (.int a1), some (.int a2), some (.int r9), some (.int y11), some (.int y15), w16], [.int 3, .int a1], qMM n m (va_up lm 56 (lm 56 + 1)))) rfl ?_
              by_cases hc21 : a1 = 3
              · rw [if_pos hc21] at h
                refine q_ev_brT hc21 (a := 233) (b := 240) rfl ?_
                refine q_ev_run 4 (S' := (260, [some (.ref 58), some (.int a1), some (.int a2), some (.int r9), some (.int y11), some (.int y15), w16], [.int (2 * y11)], qMM n m (va_up lm 56 (lm 56 + 1)))) rfl ?_
                have h_z0 := Option.some.inj h
                obtain ⟨h_0, h_z1⟩ := Prod.mk.inj h_z0
                subst h_0
                subst h_z1
                exact q_ev_ret rfl rfl
              · rw [if_neg hc21] at h
                refine q_ev_brF hc21 (a := 233) (b := 240) rfl ?_
                refine q_ev_run 2 (S' := (242, [some (.ref 58), some (.int a1), some (.int a2), some (.int r9), some (.int y11), some (.int y15), w16], [.int 4, .int a1], qMM n m (va_up lm 56 (lm 56 + 1)))) rfl ?_
                by_cases hc22 : a1 = 4
                · rw [if_pos hc22] at h
                  refine q_ev_brT hc22 (a := 245) (b := 252) rfl ?_
                  refine q_ev_run 4 (S' := (260, [some (.ref 58), some (.int a1), some (.int a2), some (.int r9), some (.int y11), some (.int y15), w16], [.int (y15 + a2)], qMM n m (va_up lm 56 (lm 56 + 1)))) rfl ?_
                  have h_z0 := Option.some.inj h
                  obtain ⟨h_0, h_z1⟩ := Prod.mk.inj h_z0
                  subst h_0
                  subst h_z1
                  exact q_ev_ret rfl rfl
                · rw [if_neg hc22] at h
                  refine q_ev_brF hc22 (a := 245) (b := 252) rfl ?_
                  refine q_ev_run 6 (S' := (260, [some (.ref 58), some (.int a1), some (.int a2), some (.int r9), some (.int y11), some (.int y15), w16], [.int (r9 + m 58 2)], qMM n m (va_up lm 56 (lm 56 + 1)))) rfl ?_
                  have h_z0 := Option.some.inj h
                  obtain ⟨h_0, h_z1⟩ := Prod.mk.inj h_z0
                  subst h_0
                  subst h_z1
                  exact q_ev_ret rfl rfl
      · rw [if_neg hc7] at h
        refine q_ev_brF hc7 (a := 29) (b := 33) rfl ?_
        refine q_ev_run 2 (S' := (35, [some (.ref 58), some (.int a1), some (.int a2), none, none, none, none], [.int 1, .int a1, .long (lm 56), .ref 58], qMM n m lm)) rfl ?_
        by_cases hc23 : a1 = 1
        · rw [if_pos hc23] at h
          refine q_ev_brT hc23 (a := 38) (b := 44) rfl ?_
          refine q_ev_run 9 (S' := (92, [some (.ref 58), some (.int a1), some (.int a2), none, none, none, none], [.int (8 + a2), .ref 60], qMM n m (va_up lm 56 (lm 56 + 11)))) rfl ?_
          obtain ⟨hb24, h⟩ := q_cd h
          refine q_ev_chk (b := q_in (8 + a2) 93) hb24 (S' := (93, [some (.ref 58), some (.int a1), some (.int a2), none, none, none, none], [.int (m 58 ((8 + a2)).toNatClampNeg)], qMM n m (va_up lm 56 (lm 56 + 11)))) rfl ?_
          obtain ⟨r25, hf26, h⟩ := Option.bind_eq_some_iff.mp h
          try dsimp only at h
          refine q_ev_call (S' := (96, [some (.ref 58), some (.int a1), some (.int a2), none, none, none, none], [], qMM n m (va_up lm 56 (lm 56 + 11)))) rfl (by omega) (T_Mo_ones (by first | omega | decide) hf26) ?_
          refine q_ev_eq (S' := (96, [some (.ref 58), some (.int a1), some (.int a2), none, none, none, none], [.int r25], qMM n m (va_up lm 56 (lm 56 + 11)))) rfl ?_
          refine q_ev_run 5 (S' := (103, [some (.ref 58), some (.int a1), some (.int a2), some (.int r25), some (.int r25), some (.int 0), none], [], qMM n m (va_up lm 56 (lm 56 + 11)))) rfl ?_
          obtain ⟨y27, hl30, h⟩ := Option.bind_eq_some_iff.mp h
          try dsimp only at h
          refine TL_Mo_rate_103 (by first | omega | decide) _ m (va_up lm 56 (lm 56 + 11)) a1 a2 r25 r25 0 (none) _ hl30 (fun w28 w29 => ?_)
          refine q_ev_run 6 (S' := (151, [some (.ref 58), some (.int a1), some (.int a2), some (.int r25), some (.int y27), some (.int (r25 + 1)), some (.int 0)], [], qMM n m (va_up lm 56 (lm 56 + 11)))) rfl ?_
          obtain ⟨y31, hl33, h⟩ := Option.bind_eq_some_iff.mp h
          try dsimp only at h
          refine TL_Mo_rate_151 (by first | omega | decide) _ m (va_up lm 56 (lm 56 + 11)) a1 a2 r25 y27 (r25 + 1) 0 _ hl33 (fun w32 => ?_)
          refine q_ev_run 1 (S' := (201, [some (.ref 58), some (.int a1), some (.int a2), some (.int r25), some (.int y27), some (.int y31), w32], [.int a1], qMM n m (va_up lm 56 (lm 56 + 11)))) rfl ?_
          by_cases hc34 : a1 = 0
          · rw [if_pos hc34] at h
            refine q_ev_brT hc34 (a := 204) (b := 208) rfl ?_
            refine q_ev_run 2 (S' := (260, [some (.ref 58), some (.int a1), some (.int a2), some (.int r25), some (.int y27), some (.int y31), w32], [.int r25], qMM n m (va_up lm 56 (lm 56 + 11)))) rfl ?_
            have h_z0 := Option.some.inj h
            obtain ⟨h_0, h_z1⟩ := Prod.mk.inj h_z0
            subst h_0
            subst h_z1
            exact q_ev_ret rfl rfl
          · rw [if_neg hc34] at h
            refine q_ev_brF hc34 (a := 204) (b := 208) rfl ?_
            refine q_ev_run 2 (S' := (210, [some (.ref 58), some (.int a1), some (.int a2), some (.int r25), some (.int y27), some (.int y31), w32], [.int 1, .int a1], qMM n m (va_up lm 56 (lm 56 + 11)))) rfl ?_
            by_cases hc35 : a1 = 1
            · rw [if_pos hc35] at h
              refine q_ev_brT hc35 (a := 213) (b := 218) rfl ?_
              refine q_ev_run 2 (S' := (260, [some (.ref 58), some (.int a1), some (.int a2), some (.int r25), some (.int y27), some (.int y31), w32], [.int y27], qMM n m (va_up lm 56 (lm 56 + 11)))) rfl ?_
              have h_z0 := Option.some.inj h
              obtain ⟨h_0, h_z1⟩ := Prod.mk.inj h_z0
              subst h_0
              subst h_z1
              exact q_ev_ret rfl rfl
            · rw [if_neg hc35] at h
              refine q_ev_brF hc35 (a := 213) (b := 218) rfl ?_
              refine q_ev_run 2 (S' := (220, [some (.ref 58), some (.int a1), some (.int a2), some (.int r25), some (.int y27), some (.int y31), w32], [.int 2, .int a1], qMM n m (va_up lm 56 (lm 56 + 11)))) rfl ?_
              by_cases hc36 : a1 = 2
              · rw [if_pos hc36] at h
                refine q_ev_brT hc36 (a := 223) (b := 228) rfl ?_
                refine q_ev_run 2 (S' := (260, [some (.ref 58), some (.int a1), some (.int a2), some (.int r25), some (.int y27), some (.int y31), w32], [.int y31], qMM n m (va_up lm 56 (lm 56 + 11)))) rfl ?_
                have h_z0 := Option.some.inj h
                obtain ⟨h_0, h_z1⟩ := Prod.mk.inj h_z0
                subst h_0
                subst h_z1
                exact q_ev_ret rfl rfl
              · rw [if_neg hc36] at h
                refine q_ev_brF hc36 (a := 223) (b := 228) rfl ?_
                refine q_ev_run 2 (S' := (230, [some (.ref 58), some (.int a1), some (.int a2), some (.int r25), some (.int y27), some (.int y31), w32], [.int 3, .int a1], qMM n m (va_up lm 56 (lm 56 + 11)))) rfl ?_
                by_cases hc37 : a1 = 3
                · rw [if_pos hc37] at h
                  refine q_ev_brT hc37 (a := 233) (b := 240) rfl ?_
                  refine q_ev_run 4 (S' := (260, [some (.ref 58), some (.int a1), some (.int a2), some (.int r25), some (.int y27), some (.int y31), w32], [.int (2 * y27)], qMM n m (va_up lm 56 (lm 56 + 11)))) rfl ?_
                  have h_z0 := Option.some.inj h
                  obtain ⟨h_0, h_z1⟩ := Prod.mk.inj h_z0
                  subst h_0
                  subst h_z1
                  exact q_ev_ret rfl rfl
                · rw [if_neg hc37] at h
                  refine q_ev_brF hc37 (a := 233) (b := 240) rfl ?_
                  refine q_ev_run 2 (S' := (242, [some (.ref 58), some (.int a1), some (.int a2), some (.int r25), some (.int y27), some (.int y31), w32], [.int 4, .int a1], qMM n m (va_up lm 56 (lm 56 + 11)))) rfl ?_
                  by_cases hc38 : a1 = 4
                  · rw [if_pos hc38] at h
                    refine q_ev_brT hc38 (a := 245) (b := 252) rfl ?_
                    refine q_ev_run 4 (S' := (260, [some (.ref 58), some (.int a1), some (.int a2), some (.int r25), some (.int y27), some (.int y31), w32], [.int (y31 + a2)], qMM n m (va_up lm 56 (lm 56 + 11)))) rfl ?_
                    have h_z0 := Option.some.inj h
                    obtain ⟨h_0, h_z1⟩ := Prod.mk.inj h_z0
                    subst h_0
                    subst h_z1
                    exact q_ev_ret rfl rfl
                  · rw [if_neg hc38] at h
                    refine q_ev_brF hc38 (a := 245) (b := 252) rfl ?_
                    refine q_ev_run 6 (S' := (260, [some (.ref 58), some (.int a1), some (.int a2), some (.int r25), some (.int y27), some (.int y31), w32], [.int (r25 + m 58 2)], qMM n m (va_up lm 56 (lm 56 + 11)))) rfl ?_
                    have h_z0 := Option.some.inj h
                    obtain ⟨h_0, h_z1⟩ := Prod.mk.inj h_z0
                    subst h_0
                    subst h_z1
                    exact q_ev_ret rfl rfl
        · rw [if_neg hc23] at h
          refine q_ev_brF hc23 (a := 38) (b := 44) rfl ?_
          refine q_ev_run 2 (S' := (46, [some (.ref 58), some (.int a1), some (.int a2), none, none, none, none], [.int 2, .int a1, .long (lm 56), .ref 58], qMM n m lm)) rfl ?_
          by_cases hc39 : a1 = 2
          · rw [if_pos hc39] at h
            refine q_ev_brT hc39 (a := 49) (b := 55) rfl ?_
            refine q_ev_run 9 (S' := (92, [some (.ref 58), some (.int a1), some (.int a2), none, none, none, none], [.int (8 + a2), .ref 60], qMM n m (va_up lm 56 (lm 56 + 101)))) rfl ?_
            obtain ⟨hb40, h⟩ := q_cd h
            refine q_ev_chk (b := q_in (8 + a2) 93) hb40 (S' := (93, [some (.ref 58), some (.int a1), some (.int a2), none, none, none, none], [.int (m 58 ((8 + a2)).toNatClampNeg)], qMM n m (va_up lm 56 (lm 56 + 101)))) rfl ?_
            obtain ⟨r41, hf42, h⟩ := Option.bind_eq_some_iff.mp h
            try dsimp only at h
            refine q_ev_call (S' := (96, [some (.ref 58), some (.int a1), some (.int a2), none, none, none, none], [], qMM n m (va_up lm 56 (lm 56 + 101)))) rfl (by omega) (T_Mo_ones (by first | omega | decide) hf42) ?_
            refine q_ev_eq (S' := (96, [some (.ref 58), some (.int a1), some (.int a2), none, none, none, none], [.int r41], qMM n m (va_up lm 56 (lm 56 + 101)))) rfl ?_
            refine q_ev_run 5 (S' := (103, [some (.ref 58), some (.int a1), some (.int a2), some (.int r41), some (.int r41), some (.int 0), none], [], qMM n m (va_up lm 56 (lm 56 + 101)))) rfl ?_
            obtain ⟨y43, hl46, h⟩ := Option.bind_eq_some_iff.mp h
            try dsimp only at h
            refine TL_Mo_rate_103 (by first | omega | decide) _ m (va_up lm 56 (lm 56 + 101)) a1 a2 r41 r41 0 (none) _ hl46 (fun w44 w45 => ?_)
            refine q_ev_run 6 (S' := (151, [some (.ref 58), some (.int a1), some (.int a2), some (.int r41), some (.int y43), some (.int (r41 + 1)), some (.int 0)], [], qMM n m (va_up lm 56 (lm 56 + 101)))) rfl ?_
            obtain ⟨y47, hl49, h⟩ := Option.bind_eq_some_iff.mp h
            try dsimp only at h
            refine TL_Mo_rate_151 (by first | omega | decide) _ m (va_up lm 56 (lm 56 + 101)) a1 a2 r41 y43 (r41 + 1) 0 _ hl49 (fun w48 => ?_)
            refine q_ev_run 1 (S' := (201, [some (.ref 58), some (.int a1), some (.int a2), some (.int r41), some (.int y43), some (.int y47), w48], [.int a1], qMM n m (va_up lm 56 (lm 56 + 101)))) rfl ?_
            by_cases hc50 : a1 = 0
            · rw [if_pos hc50] at h
              refine q_ev_brT hc50 (a := 204) (b := 208) rfl ?_
              refine q_ev_run 2 (S' := (260, [some (.ref 58), some (.int a1), some (.int a2), some (.int r41), some (.int y43), some (.int y47), w48], [.int r41], qMM n m (va_up lm 56 (lm 56 + 101)))) rfl ?_
              have h_z0 := Option.some.inj h
              obtain ⟨h_0, h_z1⟩ := Prod.mk.inj h_z0
              subst h_0
              subst h_z1
              exact q_ev_ret rfl rfl
            · rw [if_neg hc50] at h
              refine q_ev_brF hc50 (a := 204) (b := 208) rfl ?_
              refine q_ev_run 2 (S' := (210, [some (.ref 58), some (.int a1), some (.int a2), some (.int r41), some (.int y43), some (.int y47), w48], [.int 1, .int a1], qMM n m (va_up lm 56 (lm 56 + 101)))) rfl ?_
              by_cases hc51 : a1 = 1
              · rw [if_pos hc51] at h
                refine q_ev_brT hc51 (a := 213) (b := 218) rfl ?_
                refine q_ev_run 2 (S' := (260, [some (.ref 58), some (.int a1), some (.int a2), some (.int r41), some (.int y43), some (.int y47), w48], [.int y43], qMM n m (va_up lm 56 (lm 56 + 101)))) rfl ?_
                have h_z0 := Option.some.inj h
                obtain ⟨h_0, h_z1⟩ := Prod.mk.inj h_z0
                subst h_0
                subst h_z1
                exact q_ev_ret rfl rfl
              · rw [if_neg hc51] at h
                refine q_ev_brF hc51 (a := 213) (b := 218) rfl ?_
                refine q_ev_run 2 (S' := (220, [some (.ref 58), some (.int a1), some (.int a2), some (.int r41), some (.int y43), some (.int y47), w48], [.int 2, .int a1], qMM n m (va_up lm 56 (lm 56 + 101)))) rfl ?_
                by_cases hc52 : a1 = 2
                · rw [if_pos hc52] at h
                  refine q_ev_brT hc52 (a := 223) (b := 228) rfl ?_
                  refine q_ev_run 2 (S' := (260, [some (.ref 58), some (.int a1), some (.int a2), some (.int r41), some (.int y43), some (.int y47), w48], [.int y47], qMM n m (va_up lm 56 (lm 56 + 101)))) rfl ?_
                  have h_z0 := Option.some.inj h
                  obtain ⟨h_0, h_z1⟩ := Prod.mk.inj h_z0
                  subst h_0
                  subst h_z1
                  exact q_ev_ret rfl rfl
                · rw [if_neg hc52] at h
                  refine q_ev_brF hc52 (a := 223) (b := 228) rfl ?_
                  refine q_ev_run 2 (S' := (230, [some (.ref 58), some (.int a1), some (.int a2), some (.int r41), some (.int y43), some (.int y47), w48], [.int 3, .int a1], qMM n m (va_up lm 56 (lm 56 + 101)))) rfl ?_
                  by_cases hc53 : a1 = 3
                  · rw [if_pos hc53] at h
                    refine q_ev_brT hc53 (a := 233) (b := 240) rfl ?_
                    refine q_ev_run 4 (S' := (260, [some (.ref 58), some (.int a1), some (.int a2), some (.int r41), some (.int y43), some (.int y47), w48], [.int (2 * y43)], qMM n m (va_up lm 56 (lm 56 + 101)))) rfl ?_
                    have h_z0 := Option.some.inj h
                    obtain ⟨h_0, h_z1⟩ := Prod.mk.inj h_z0
                    subst h_0
                    subst h_z1
                    exact q_ev_ret rfl rfl
                  · rw [if_neg hc53] at h
                    refine q_ev_brF hc53 (a := 233) (b := 240) rfl ?_
                    refine q_ev_run 2 (S' := (242, [some (.ref 58), some (.int a1), some (.int a2), some (.int r41), some (.int y43), some (.int y47), w48], [.int 4, .int a1], qMM n m (va_up lm 56 (lm 56 + 101)))) rfl ?_
                    by_cases hc54 : a1 = 4
                    · rw [if_pos hc54] at h
                      refine q_ev_brT hc54 (a := 245) (b := 252) rfl ?_
                      refine q_ev_run 4 (S' := (260, [some (.ref 58), some (.int a1), some (.int a2), some (.int r41), some (.int y43), some (.int y47), w48], [.int (y47 + a2)], qMM n m (va_up lm 56 (lm 56 + 101)))) rfl ?_
                      have h_z0 := Option.some.inj h
                      obtain ⟨h_0, h_z1⟩ := Prod.mk.inj h_z0
                      subst h_0
                      subst h_z1
                      exact q_ev_ret rfl rfl
                    · rw [if_neg hc54] at h
                      refine q_ev_brF hc54 (a := 245) (b := 252) rfl ?_
                      refine q_ev_run 6 (S' := (260, [some (.ref 58), some (.int a1), some (.int a2), some (.int r41), some (.int y43), some (.int y47), w48], [.int (r41 + m 58 2)], qMM n m (va_up lm 56 (lm 56 + 101)))) rfl ?_
                      have h_z0 := Option.some.inj h
                      obtain ⟨h_0, h_z1⟩ := Prod.mk.inj h_z0
                      subst h_0
                      subst h_z1
                      exact q_ev_ret rfl rfl
          · rw [if_neg hc39] at h
            refine q_ev_brF hc39 (a := 49) (b := 55) rfl ?_
            refine q_ev_run 2 (S' := (57, [some (.ref 58), some (.int a1), some (.int a2), none, none, none, none], [.int 3, .int a1, .long (lm 56), .ref 58], qMM n m lm)) rfl ?_
            by_cases hc55 : a1 = 3
            · rw [if_pos hc55] at h
              refine q_ev_brT hc55 (a := 60) (b := 66) rfl ?_
              refine q_ev_run 9 (S' := (92, [some (.ref 58), some (.int a1), some (.int a2), none, none, none, none], [.int (8 + a2), .ref 60], qMM n m (va_up lm 56 (lm 56 + 1011)))) rfl ?_
              obtain ⟨hb56, h⟩ := q_cd h
              refine q_ev_chk (b := q_in (8 + a2) 93) hb56 (S' := (93, [some (.ref 58), some (.int a1), some (.int a2), none, none, none, none], [.int (m 58 ((8 + a2)).toNatClampNeg)], qMM n m (va_up lm 56 (lm 56 + 1011)))) rfl ?_
              obtain ⟨r57, hf58, h⟩ := Option.bind_eq_some_iff.mp h
              try dsimp only at h
              refine q_ev_call (S' := (96, [some (.ref 58), some (.int a1), some (.int a2), none, none, none, none], [], qMM n m (va_up lm 56 (lm 56 + 1011)))) rfl (by omega) (T_Mo_ones (by first | omega | decide) hf58) ?_
              refine q_ev_eq (S' := (96, [some (.ref 58), some (.int a1), some (.int a2), none, none, none, none], [.int r57], qMM n m (va_up lm 56 (lm 56 + 1011)))) rfl ?_
              refine q_ev_run 5 (S' := (103, [some (.ref 58), some (.int a1), some (.int a2), some (.int r57), some (.int r57), some (.int 0), none], [], qMM n m (va_up lm 56 (lm 56 + 1011)))) rfl ?_
              obtain ⟨y59, hl62, h⟩ := Option.bind_eq_some_iff.mp h
              try dsimp only at h
              refine TL_Mo_rate_103 (by first | omega | decide) _ m (va_up lm 56 (lm 56 + 1011)) a1 a2 r57 r57 0 (none) _ hl62 (fun w60 w61 => ?_)
              refine q_ev_run 6 (S' := (151, [some (.ref 58), some (.int a1), some (.int a2), some (.int r57), some (.int y59), some (.int (r57 + 1)), some (.int 0)], [], qMM n m (va_up lm 56 (lm 56 + 1011)))) rfl ?_
              obtain ⟨y63, hl65, h⟩ := Option.bind_eq_some_iff.mp h
              try dsimp only at h
              refine TL_Mo_rate_151 (by first | omega | decide) _ m (va_up lm 56 (lm 56 + 1011)) a1 a2 r57 y59 (r57 + 1) 0 _ hl65 (fun w64 => ?_)
              refine q_ev_run 1 (S' := (201, [some (.ref 58), some (.int a1), some (.int a2), some (.int r57), some (.int y59), some (.int y63), w64], [.int a1], qMM n m (va_up lm 56 (lm 56 + 1011)))) rfl ?_
              by_cases hc66 : a1 = 0
              · rw [if_pos hc66] at h
                refine q_ev_brT hc66 (a := 204) (b := 208) rfl ?_
                refine q_ev_run 2 (S' := (260, [some (.ref 58), some (.int a1), some (.int a2), some (.int r57), some (.int y59), some (.int y63), w64], [.int r57], qMM n m (va_up lm 56 (lm 56 + 1011)))) rfl ?_
                have h_z0 := Option.some.inj h
                obtain ⟨h_0, h_z1⟩ := Prod.mk.inj h_z0
                subst h_0
                subst h_z1
                exact q_ev_ret rfl rfl
              · rw [if_neg hc66] at h
                refine q_ev_brF hc66 (a := 204) (b := 208) rfl ?_
                refine q_ev_run 2 (S' := (210, [some (.ref 58), some (.int a1), some (.int a2), some (.int r57), some (.int y59), some (.int y63), w64], [.int 1, .int a1], qMM n m (va_up lm 56 (lm 56 + 1011)))) rfl ?_
                by_cases hc67 : a1 = 1
                · rw [if_pos hc67] at h
                  refine q_ev_brT hc67 (a := 213) (b := 218) rfl ?_
                  refine q_ev_run 2 (S' := (260, [some (.ref 58), some (.int a1), some (.int a2), some (.int r57), some (.int y59), some (.int y63), w64], [.int y59], qMM n m (va_up lm 56 (lm 56 + 1011)))) rfl ?_
                  have h_z0 := Option.some.inj h
                  obtain ⟨h_0, h_z1⟩ := Prod.mk.inj h_z0
                  subst h_0
                  subst h_z1
                  exact q_ev_ret rfl rfl
                · rw [if_neg hc67] at h
                  refine q_ev_brF hc67 (a := 213) (b := 218) rfl ?_
                  refine q_ev_run 2 (S' := (220, [some (.ref 58), some (.int a1), some (.int a2), some (.int r57), some (.int y59), some (.int y63), w64], [.int 2, .int a1], qMM n m (va_up lm 56 (lm 56 + 1011)))) rfl ?_
                  by_cases hc68 : a1 = 2
                  · rw [if_pos hc68] at h
                    refine q_ev_brT hc68 (a := 223) (b := 228) rfl ?_
                    refine q_ev_run 2 (S' := (260, [some (.ref 58), some (.int a1), some (.int a2), some (.int r57), some (.int y59), some (.int y63), w64], [.int y63], qMM n m (va_up lm 56 (lm 56 + 1011)))) rfl ?_
                    have h_z0 := Option.some.inj h
                    obtain ⟨h_0, h_z1⟩ := Prod.mk.inj h_z0
                    subst h_0
                    subst h_z1
                    exact q_ev_ret rfl rfl
                  · rw [if_neg hc68] at h
                    refine q_ev_brF hc68 (a := 223) (b := 228) rfl ?_
                    refine q_ev_run 2 (S' := (230, [some (.ref 58), some (.int a1), some (.int a2), some (.int r57), some (.int y59), some (.int y63), w64], [.int 3, .int a1], qMM n m (va_up lm 56 (lm 56 + 1011)))) rfl ?_
                    by_cases hc69 : a1 = 3
                    · rw [if_pos hc69] at h
                      refine q_ev_brT hc69 (a := 233) (b := 240) rfl ?_
                      refine q_ev_run 4 (S' := (260, [some (.ref 58), some (.int a1), some (.int a2), some (.int r57), some (.int y59), some (.int y63), w64], [.int (2 * y59)], qMM n m (va_up lm 56 (lm 56 + 1011)))) rfl ?_
                      have h_z0 := Option.some.inj h
                      obtain ⟨h_0, h_z1⟩ := Prod.mk.inj h_z0
                      subst h_0
                      subst h_z1
                      exact q_ev_ret rfl rfl
                    · rw [if_neg hc69] at h
                      refine q_ev_brF hc69 (a := 233) (b := 240) rfl ?_
                      refine q_ev_run 2 (S' := (242, [some (.ref 58), some (.int a1), some (.int a2), some (.int r57), some (.int y59), some (.int y63), w64], [.int 4, .int a1], qMM n m (va_up lm 56 (lm 56 + 1011)))) rfl ?_
                      by_cases hc70 : a1 = 4
                      · rw [if_pos hc70] at h
                        refine q_ev_brT hc70 (a := 245) (b := 252) rfl ?_
                        refine q_ev_run 4 (S' := (260, [some (.ref 58), some (.int a1), some (.int a2), some (.int r57), some (.int y59), some (.int y63), w64], [.int (y63 + a2)], qMM n m (va_up lm 56 (lm 56 + 1011)))) rfl ?_
                        have h_z0 := Option.some.inj h
                        obtain ⟨h_0, h_z1⟩ := Prod.mk.inj h_z0
                        subst h_0
                        subst h_z1
                        exact q_ev_ret rfl rfl
                      · rw [if_neg hc70] at h
                        refine q_ev_brF hc70 (a := 245) (b := 252) rfl ?_
                        refine q_ev_run 6 (S' := (260, [some (.ref 58), some (.int a1), some (.int a2), some (.int r57), some (.int y59), some (.int y63), w64], [.int (r57 + m 58 2)], qMM n m (va_up lm 56 (lm 56 + 1011)))) rfl ?_
                        have h_z0 := Option.some.inj h
                        obtain ⟨h_0, h_z1⟩ := Prod.mk.inj h_z0
                        subst h_0
                        subst h_z1
                        exact q_ev_ret rfl rfl
            · rw [if_neg hc55] at h
              refine q_ev_brF hc55 (a := 60) (b := 66) rfl ?_
              refine q_ev_run 2 (S' := (68, [some (.ref 58), some (.int a1), some (.int a2), none, none, none, none], [.int 4, .int a1, .long (lm 56), .ref 58], qMM n m lm)) rfl ?_
              by_cases hc71 : a1 = 4
              · rw [if_pos hc71] at h
                refine q_ev_brT hc71 (a := 71) (b := 77) rfl ?_
                refine q_ev_run 9 (S' := (92, [some (.ref 58), some (.int a1), some (.int a2), none, none, none, none], [.int (8 + a2), .ref 60], qMM n m (va_up lm 56 (lm 56 + 10101)))) rfl ?_
                obtain ⟨hb72, h⟩ := q_cd h
                refine q_ev_chk (b := q_in (8 + a2) 93) hb72 (S' := (93, [some (.ref 58), some (.int a1), some (.int a2), none, none, none, none], [.int (m 58 ((8 + a2)).toNatClampNeg)], qMM n m (va_up lm 56 (lm 56 + 10101)))) rfl ?_
                obtain ⟨r73, hf74, h⟩ := Option.bind_eq_some_iff.mp h
                try dsimp only at h
                refine q_ev_call (S' := (96, [some (.ref 58), some (.int a1), some (.int a2), none, none, none, none], [], qMM n m (va_up lm 56 (lm 56 + 10101)))) rfl (by omega) (T_Mo_ones (by first | omega | decide) hf74) ?_
                refine q_ev_eq (S' := (96, [some (.ref 58), some (.int a1), some (.int a2), none, none, none, none], [.int r73], qMM n m (va_up lm 56 (lm 56 + 10101)))) rfl ?_
                refine q_ev_run 5 (S' := (103, [some (.ref 58), some (.int a1), some (.int a2), some (.int r73), some (.int r73), some (.int 0), none], [], qMM n m (va_up lm 56 (lm 56 + 10101)))) rfl ?_
                obtain ⟨y75, hl78, h⟩ := Option.bind_eq_some_iff.mp h
                try dsimp only at h
                refine TL_Mo_rate_103 (by first | omega | decide) _ m (va_up lm 56 (lm 56 + 10101)) a1 a2 r73 r73 0 (none) _ hl78 (fun w76 w77 => ?_)
                refine q_ev_run 6 (S' := (151, [some (.ref 58), some (.int a1), some (.int a2), some (.int r73), some (.int y75), some (.int (r73 + 1)), some (.int 0)], [], qMM n m (va_up lm 56 (lm 56 + 10101)))) rfl ?_
                obtain ⟨y79, hl81, h⟩ := Option.bind_eq_some_iff.mp h
                try dsimp only at h
                refine TL_Mo_rate_151 (by first | omega | decide) _ m (va_up lm 56 (lm 56 + 10101)) a1 a2 r73 y75 (r73 + 1) 0 _ hl81 (fun w80 => ?_)
                refine q_ev_run 1 (S' := (201, [some (.ref 58), some (.int a1), some (.int a2), some (.int r73), some (.int y75), some (.int y79), w80], [.int a1], qMM n m (va_up lm 56 (lm 56 + 10101)))) rfl ?_
                by_cases hc82 : a1 = 0
                · rw [if_pos hc82] at h
                  refine q_ev_brT hc82 (a := 204) (b := 208) rfl ?_
                  refine q_ev_run 2 (S' := (260, [some (.ref 58), some (.int a1), some (.int a2), some (.int r73), some (.int y75), some (.int y79), w80], [.int r73], qMM n m (va_up lm 56 (lm 56 + 10101)))) rfl ?_
                  have h_z0 := Option.some.inj h
                  obtain ⟨h_0, h_z1⟩ := Prod.mk.inj h_z0
                  subst h_0
                  subst h_z1
                  exact q_ev_ret rfl rfl
                · rw [if_neg hc82] at h
                  refine q_ev_brF hc82 (a := 204) (b := 208) rfl ?_
                  refine q_ev_run 2 (S' := (210, [some (.ref 58), some (.int a1), some (.int a2), some (.int r73), some (.int y75), some (.int y79), w80], [.int 1, .int a1], qMM n m (va_up lm 56 (lm 56 + 10101)))) rfl ?_
                  by_cases hc83 : a1 = 1
                  · rw [if_pos hc83] at h
                    refine q_ev_brT hc83 (a := 213) (b := 218) rfl ?_
                    refine q_ev_run 2 (S' := (260, [some (.ref 58), some (.int a1), some (.int a2), some (.int r73), some (.int y75), some (.int y79), w80], [.int y75], qMM n m (va_up lm 56 (lm 56 + 10101)))) rfl ?_
                    have h_z0 := Option.some.inj h
                    obtain ⟨h_0, h_z1⟩ := Prod.mk.inj h_z0
                    subst h_0
                    subst h_z1
                    exact q_ev_ret rfl rfl
                  · rw [if_neg hc83] at h
                    refine q_ev_brF hc83 (a := 213) (b := 218) rfl ?_
                    refine q_ev_run 2 (S' := (220, [some (.ref 58), some (.int a1), some (.int a2), some (.int r73), some (.int y75), some (.int y79), w80], [.int 2, .int a1], qMM n m (va_up lm 56 (lm 56 + 10101)))) rfl ?_
                    by_cases hc84 : a1 = 2
                    · rw [if_pos hc84] at h
                      refine q_ev_brT hc84 (a := 223) (b := 228) rfl ?_
                      refine q_ev_run 2 (S' := (260, [some (.ref 58), some (.int a1), some (.int a2), some (.int r73), some (.int y75), some (.int y79), w80], [.int y79], qMM n m (va_up lm 56 (lm 56 + 10101)))) rfl ?_
                      have h_z0 := Option.some.inj h
                      obtain ⟨h_0, h_z1⟩ := Prod.mk.inj h_z0
                      subst h_0
                      subst h_z1
                      exact q_ev_ret rfl rfl
                    · rw [if_neg hc84] at h
                      refine q_ev_brF hc84 (a := 223) (b := 228) rfl ?_
                      refine q_ev_run 2 (S' := (230, [some (.ref 58), some (.int a1), some (.int a2), some (.int r73), some (.int y75), some (.int y79), w80], [.int 3, .int a1], qMM n m (va_up lm 56 (lm 56 + 10101)))) rfl ?_
                      by_cases hc85 : a1 = 3
                      · rw [if_pos hc85] at h
                        refine q_ev_brT hc85 (a := 233) (b := 240) rfl ?_
                        refine q_ev_run 4 (S' := (260, [some (.ref 58), some (.int a1), some (.int a2), some (.int r73), some (.int y75), some (.int y79), w80], [.int (2 * y75)], qMM n m (va_up lm 56 (lm 56 + 10101)))) rfl ?_
                        have h_z0 := Option.some.inj h
                        obtain ⟨h_0, h_z1⟩ := Prod.mk.inj h_z0
                        subst h_0
                        subst h_z1
                        exact q_ev_ret rfl rfl
                      · rw [if_neg hc85] at h
                        refine q_ev_brF hc85 (a := 233) (b := 240) rfl ?_
                        refine q_ev_run 2 (S' := (242, [some (.ref 58), some (.int a1), some (.int a2), some (.int r73), some (.int y75), some (.int y79), w80], [.int 4, .int a1], qMM n m (va_up lm 56 (lm 56 + 10101)))) rfl ?_
                        by_cases hc86 : a1 = 4
                        · rw [if_pos hc86] at h
                          refine q_ev_brT hc86 (a := 245) (b := 252) rfl ?_
                          refine q_ev_run 4 (S' := (260, [some (.ref 58), some (.int a1), some (.int a2), some (.int r73), some (.int y75), some (.int y79), w80], [.int (y79 + a2)], qMM n m (va_up lm 56 (lm 56 + 10101)))) rfl ?_
                          have h_z0 := Option.some.inj h
                          obtain ⟨h_0, h_z1⟩ := Prod.mk.inj h_z0
                          subst h_0
                          subst h_z1
                          exact q_ev_ret rfl rfl
                        · rw [if_neg hc86] at h
                          refine q_ev_brF hc86 (a := 245) (b := 252) rfl ?_
                          refine q_ev_run 6 (S' := (260, [some (.ref 58), some (.int a1), some (.int a2), some (.int r73), some (.int y75), some (.int y79), w80], [.int (r73 + m 58 2)], qMM n m (va_up lm 56 (lm 56 + 10101)))) rfl ?_
                          have h_z0 := Option.some.inj h
                          obtain ⟨h_0, h_z1⟩ := Prod.mk.inj h_z0
                          subst h_0
                          subst h_z1
                          exact q_ev_ret rfl rfl
              · rw [if_neg hc71] at h
                refine q_ev_brF hc71 (a := 71) (b := 77) rfl ?_
                refine q_ev_run 8 (S' := (92, [some (.ref 58), some (.int a1), some (.int a2), none, none, none, none], [.int (8 + a2), .ref 60], qMM n m (va_up lm 56 (lm 56 + 100001)))) rfl ?_
                obtain ⟨hb87, h⟩ := q_cd h
                refine q_ev_chk (b := q_in (8 + a2) 93) hb87 (S' := (93, [some (.ref 58), some (.int a1), some (.int a2), none, none, none, none], [.int (m 58 ((8 + a2)).toNatClampNeg)], qMM n m (va_up lm 56 (lm 56 + 100001)))) rfl ?_
                obtain ⟨r88, hf89, h⟩ := Option.bind_eq_some_iff.mp h
                try dsimp only at h
                refine q_ev_call (S' := (96, [some (.ref 58), some (.int a1), some (.int a2), none, none, none, none], [], qMM n m (va_up lm 56 (lm 56 + 100001)))) rfl (by omega) (T_Mo_ones (by first | omega | decide) hf89) ?_
                refine q_ev_eq (S' := (96, [some (.ref 58), some (.int a1), some (.int a2), none, none, none, none], [.int r88], qMM n m (va_up lm 56 (lm 56 + 100001)))) rfl ?_
                refine q_ev_run 5 (S' := (103, [some (.ref 58), some (.int a1), some (.int a2), some (.int r88), some (.int r88), some (.int 0), none], [], qMM n m (va_up lm 56 (lm 56 + 100001)))) rfl ?_
                obtain ⟨y90, hl93, h⟩ := Option.bind_eq_some_iff.mp h
                try dsimp only at h
                refine TL_Mo_rate_103 (by first | omega | decide) _ m (va_up lm 56 (lm 56 + 100001)) a1 a2 r88 r88 0 (none) _ hl93 (fun w91 w92 => ?_)
                refine q_ev_run 6 (S' := (151, [some (.ref 58), some (.int a1), some (.int a2), some (.int r88), some (.int y90), some (.int (r88 + 1)), some (.int 0)], [], qMM n m (va_up lm 56 (lm 56 + 100001)))) rfl ?_
                obtain ⟨y94, hl96, h⟩ := Option.bind_eq_some_iff.mp h
                try dsimp only at h
                refine TL_Mo_rate_151 (by first | omega | decide) _ m (va_up lm 56 (lm 56 + 100001)) a1 a2 r88 y90 (r88 + 1) 0 _ hl96 (fun w95 => ?_)
                refine q_ev_run 1 (S' := (201, [some (.ref 58), some (.int a1), some (.int a2), some (.int r88), some (.int y90), some (.int y94), w95], [.int a1], qMM n m (va_up lm 56 (lm 56 + 100001)))) rfl ?_
                by_cases hc97 : a1 = 0
                · rw [if_pos hc97] at h
                  refine q_ev_brT hc97 (a := 204) (b := 208) rfl ?_
                  refine q_ev_run 2 (S' := (260, [some (.ref 58), some (.int a1), some (.int a2), some (.int r88), some (.int y90), some (.int y94), w95], [.int r88], qMM n m (va_up lm 56 (lm 56 + 100001)))) rfl ?_
                  have h_z0 := Option.some.inj h
                  obtain ⟨h_0, h_z1⟩ := Prod.mk.inj h_z0
                  subst h_0
                  subst h_z1
                  exact q_ev_ret rfl rfl
                · rw [if_neg hc97] at h
                  refine q_ev_brF hc97 (a := 204) (b := 208) rfl ?_
                  refine q_ev_run 2 (S' := (210, [some (.ref 58), some (.int a1), some (.int a2), some (.int r88), some (.int y90), some (.int y94), w95], [.int 1, .int a1], qMM n m (va_up lm 56 (lm 56 + 100001)))) rfl ?_
                  by_cases hc98 : a1 = 1
                  · rw [if_pos hc98] at h
                    refine q_ev_brT hc98 (a := 213) (b := 218) rfl ?_
                    refine q_ev_run 2 (S' := (260, [some (.ref 58), some (.int a1), some (.int a2), some (.int r88), some (.int y90), some (.int y94), w95], [.int y90], qMM n m (va_up lm 56 (lm 56 + 100001)))) rfl ?_
                    have h_z0 := Option.some.inj h
                    obtain ⟨h_0, h_z1⟩ := Prod.mk.inj h_z0
                    subst h_0
                    subst h_z1
                    exact q_ev_ret rfl rfl
                  · rw [if_neg hc98] at h
                    refine q_ev_brF hc98 (a := 213) (b := 218) rfl ?_
                    refine q_ev_run 2 (S' := (220, [some (.ref 58), some (.int a1), some (.int a2), some (.int r88), some (.int y90), some (.int y94), w95], [.int 2, .int a1], qMM n m (va_up lm 56 (lm 56 + 100001)))) rfl ?_
                    by_cases hc99 : a1 = 2
                    · rw [if_pos hc99] at h
                      refine q_ev_brT hc99 (a := 223) (b := 228) rfl ?_
                      refine q_ev_run 2 (S' := (260, [some (.ref 58), some (.int a1), some (.int a2), some (.int r88), some (.int y90), some (.int y94), w95], [.int y94], qMM n m (va_up lm 56 (lm 56 + 100001)))) rfl ?_
                      have h_z0 := Option.some.inj h
                      obtain ⟨h_0, h_z1⟩ := Prod.mk.inj h_z0
                      subst h_0
                      subst h_z1
                      exact q_ev_ret rfl rfl
                    · rw [if_neg hc99] at h
                      refine q_ev_brF hc99 (a := 223) (b := 228) rfl ?_
                      refine q_ev_run 2 (S' := (230, [some (.ref 58), some (.int a1), some (.int a2), some (.int r88), some (.int y90), some (.int y94), w95], [.int 3, .int a1], qMM n m (va_up lm 56 (lm 56 + 100001)))) rfl ?_
                      by_cases hc100 : a1 = 3
                      · rw [if_pos hc100] at h
                        refine q_ev_brT hc100 (a := 233) (b := 240) rfl ?_
                        refine q_ev_run 4 (S' := (260, [some (.ref 58), some (.int a1), some (.int a2), some (.int r88), some (.int y90), some (.int y94), w95], [.int (2 * y90)], qMM n m (va_up lm 56 (lm 56 + 100001)))) rfl ?_
                        have h_z0 := Option.some.inj h
                        obtain ⟨h_0, h_z1⟩ := Prod.mk.inj h_z0
                        subst h_0
                        subst h_z1
                        exact q_ev_ret rfl rfl
                      · rw [if_neg hc100] at h
                        refine q_ev_brF hc100 (a := 233) (b := 240) rfl ?_
                        refine q_ev_run 2 (S' := (242, [some (.ref 58), some (.int a1), some (.int a2), some (.int r88), some (.int y90), some (.int y94), w95], [.int 4, .int a1], qMM n m (va_up lm 56 (lm 56 + 100001)))) rfl ?_
                        by_cases hc101 : a1 = 4
                        · rw [if_pos hc101] at h
                          refine q_ev_brT hc101 (a := 245) (b := 252) rfl ?_
                          refine q_ev_run 4 (S' := (260, [some (.ref 58), some (.int a1), some (.int a2), some (.int r88), some (.int y90), some (.int y94), w95], [.int (y94 + a2)], qMM n m (va_up lm 56 (lm 56 + 100001)))) rfl ?_
                          have h_z0 := Option.some.inj h
                          obtain ⟨h_0, h_z1⟩ := Prod.mk.inj h_z0
                          subst h_0
                          subst h_z1
                          exact q_ev_ret rfl rfl
                        · rw [if_neg hc101] at h
                          refine q_ev_brF hc101 (a := 245) (b := 252) rfl ?_
                          refine q_ev_run 6 (S' := (260, [some (.ref 58), some (.int a1), some (.int a2), some (.int r88), some (.int y90), some (.int y94), w95], [.int (r88 + m 58 2)], qMM n m (va_up lm 56 (lm 56 + 100001)))) rfl ?_
                          have h_z0 := Option.some.inj h
                          obtain ⟨h_0, h_z1⟩ := Prod.mk.inj h_z0
                          subst h_0
                          subst h_z1
                          exact q_ev_ret rfl rfl
noncomputable def F_No_become_22_15 (m : (Nat → Nat → Int32)) : Option ((Nat → Nat → Int32)) :=
  some ((q_cw (q_cw (q_cw (q_cw (q_cw (q_cw (q_w m 22 1 (m 15 1)) 16 23 0 0 12) 17 24 0 0 12) 18 25 0 0 12) 19 26 0 0 12) 20 27 0 0 8) 21 28 0 0 8))
theorem T_No_become_22_15 {Ln : Nat} {xs : Nat → Int32} {n : (Nat → Nat → Int32)} {lm : Nat → Int64} {d : Nat} (hd : 0 ≤ d) {m : (Nat → Nat → Int32)} {m1 : (Nat → Nat → Int32)} (h : F_No_become_22_15 m = some m1) : q_Ev (qXT Ln xs) d 28 (0, [some (.ref 24), some (.ref 17)], [], qMM m n lm) (none, qMM m1 n lm) := by
  unfold F_No_become_22_15 at h
  refine q_ev_run 52 (S' := (98, [some (.ref 24), some (.ref 17)], [], qMM (q_cw (q_cw (q_cw (q_cw (q_cw (q_cw (q_w m 22 1 (m 15 1)) 16 23 0 0 12) 17 24 0 0 12) 18 25 0 0 12) 19 26 0 0 12) 20 27 0 0 8) 21 28 0 0 8) n lm)) rfl ?_
  have h_z0 := Option.some.inj h
  subst h_z0
  exact q_ev_ret rfl rfl
noncomputable def F_No_become_29_15 (m : (Nat → Nat → Int32)) : Option ((Nat → Nat → Int32)) :=
  some ((q_cw (q_cw (q_cw (q_cw (q_cw (q_cw (q_w m 29 1 (m 15 1)) 16 30 0 0 12) 17 31 0 0 12) 18 32 0 0 12) 19 33 0 0 12) 20 34 0 0 8) 21 35 0 0 8))
theorem T_No_become_29_15 {Ln : Nat} {xs : Nat → Int32} {n : (Nat → Nat → Int32)} {lm : Nat → Int64} {d : Nat} (hd : 0 ≤ d) {m : (Nat → Nat → Int32)} {m1 : (Nat → Nat → Int32)} (h : F_No_become_29_15 m = some m1) : q_Ev (qXT Ln xs) d 28 (0, [some (.ref 31), some (.ref 17)], [], qMM m n lm) (none, qMM m1 n lm) := by
  unfold F_No_become_29_15 at h
  refine q_ev_run 52 (S' := (98, [some (.ref 31), some (.ref 17)], [], qMM (q_cw (q_cw (q_cw (q_cw (q_cw (q_cw (q_w m 29 1 (m 15 1)) 16 30 0 0 12) 17 31 0 0 12) 18 32 0 0 12) 19 33 0 0 12) 20 34 0 0 8) 21 35 0 0 8) n lm)) rfl ?_
  have h_z0 := Option.some.inj h
  subst h_z0
  exact q_ev_ret rfl rfl
