noncomputable def F_Mo_letterAt (m : (Nat → Nat → Int32)) (a1 : Int32) : Option (Int32) :=
  if m 56 2 ≤ a1 then
    some ((Int32.ofInt (-1)))
  else
    cond (q_in a1 200) (some (m 57 a1.toNatClampNeg)) none
theorem T_Mo_letterAt {Ln : Nat} {xs : Nat → Int32} {n : (Nat → Nat → Int32)} {lm : Nat → Int64} {d : Nat} (hd : 0 ≤ d) {m : (Nat → Nat → Int32)} {a1 : Int32} {rv : Int32} (h : F_Mo_letterAt m a1 = some rv) : q_Ev (qXT Ln xs) d 111 (0, [some (.ref 58), some (.int a1)], [], qMM n m lm) (some (.int rv), qMM n m lm) := by
  unfold F_Mo_letterAt at h
  refine q_ev_run 3 (S' := (5, [some (.ref 58), some (.int a1)], [.int (m 56 2), .int a1], qMM n m lm)) rfl ?_
  by_cases hc1 : m 56 2 ≤ a1
  · rw [if_pos hc1] at h
    refine q_ev_brT hc1 (a := 17) (b := 8) rfl ?_
    refine q_ev_run 1 (S' := (18, [some (.ref 58), some (.int a1)], [.int (Int32.ofInt (-1))], qMM n m lm)) rfl ?_
    have h_z0 := Option.some.inj h
    subst h_z0
    exact q_ev_ret rfl rfl
  · rw [if_neg hc1] at h
    refine q_ev_brF hc1 (a := 17) (b := 8) rfl ?_
    refine q_ev_run 3 (S' := (13, [some (.ref 58), some (.int a1)], [.int a1, .ref 59], qMM n m lm)) rfl ?_
    obtain ⟨hb2, h⟩ := q_cd h
    refine q_ev_chk (b := q_in a1 200) hb2 (S' := (14, [some (.ref 58), some (.int a1)], [.int (m 57 a1.toNatClampNeg)], qMM n m lm)) rfl ?_
    refine q_ev_run 1 (S' := (18, [some (.ref 58), some (.int a1)], [.int (m 57 a1.toNatClampNeg)], qMM n m lm)) rfl ?_
    have h_z0 := Option.some.inj h
    subst h_z0
    exact q_ev_ret rfl rfl
noncomputable def FL_Mo_token_0 : Nat → (Nat → Nat → Int32) → Option ((Nat → Nat → Int32))
  | 0, _ => none
  | fu + 1, m =>
    Option.bind (F_Mo_letterAt m (m 56 11)) (fun r1 =>
      if r1 = 32 then
        FL_Mo_token_0 fu (q_w m 56 11 (m 56 11 + 1))
      else
        some (m))
theorem TL_Mo_token_0 {Ln : Nat} {xs : Nat → Int32} {n : (Nat → Nat → Int32)} {lm : Nat → Int64} {d : Nat} (hd : 1 ≤ d) {r : Option Value × qM} : ∀ (fu : Nat) (m : (Nat → Nat → Int32)) (w1 : Option Value) (w2 : Option Value) (m1 : (Nat → Nat → Int32)), FL_Mo_token_0 fu m = some m1 → (∀ (u1 u2 : Option Value), q_Ev (qXT Ln xs) d 114 (26, [some (.ref 58), u1, u2], [], qMM n m1 lm) r) → q_Ev (qXT Ln xs) d 114 (0, [some (.ref 58), w1, w2], [], qMM n m lm) r := by
  intro fu
  induction fu with
  | zero => intro m w1 w2 m1 h hk; cases h
  | succ fu ih =>
    intro m w1 w2 m1 h hk
    rw [FL_Mo_token_0] at h
    refine q_ev_run 3 (S' := (5, [some (.ref 58), w1, w2], [.int (m 56 11), .ref 58], qMM n m lm)) rfl ?_
    obtain ⟨r1, hf2, h⟩ := Option.bind_eq_some_iff.mp h
    try dsimp only at h
    refine q_ev_call (S' := (8, [some (.ref 58), w1, w2], [], qMM n m lm)) rfl (by omega) (T_Mo_letterAt (by first | omega | decide) hf2) ?_
    refine q_ev_eq (S' := (8, [some (.ref 58), w1, w2], [.int r1], qMM n m lm)) rfl ?_
    refine q_ev_run 1 (S' := (10, [some (.ref 58), w1, w2], [.int 32, .int r1], qMM n m lm)) rfl ?_
    by_cases hc3 : r1 = 32
    · rw [if_pos hc3] at h
      refine q_ev_brT hc3 (a := 13) (b := 26) rfl ?_
      refine q_ev_run 7 (S' := (0, [some (.ref 58), w1, w2], [], qMM n (q_w m 56 11 (m 56 11 + 1)) lm)) rfl ?_
      exact ih (q_w m 56 11 (m 56 11 + 1)) (w1) (w2) _ h hk
    · rw [if_neg hc3] at h
      refine q_ev_brF hc3 (a := 13) (b := 26) rfl ?_
      have h_z0 := Option.some.inj h
      subst h_z0
      exact hk (w1) (w2)
noncomputable def F_Mo_isLetter (a0 : Int32) : Option (Int32) :=
  if a0 = 110 then
    some (1)
  else
    if a0 = 102 then
      some (1)
    else
      if a0 = 118 then
        some (1)
      else
        if a0 = 104 then
          some (1)
        else
          if a0 = 115 then
            some (1)
          else
            if a0 = 116 then
              some (1)
            else
              if a0 = 114 then
                some (1)
              else
                if a0 = 99 then
                  some (1)
                else
                  some (0)
theorem T_Mo_isLetter {Ln : Nat} {xs : Nat → Int32} {n : (Nat → Nat → Int32)} {m : (Nat → Nat → Int32)} {lm : Nat → Int64} {d : Nat} (hd : 0 ≤ d) {a0 : Int32} {rv : Int32} (h : F_Mo_isLetter a0 = some rv) : q_Ev (qXT Ln xs) d 112 (0, [some (.int a0)], [], qMM m n lm) (some (.int rv), qMM m n lm) := by
  unfold F_Mo_isLetter at h
  refine q_ev_run 2 (S' := (3, [some (.int a0)], [.int 110, .int a0], qMM m n lm)) rfl ?_
  by_cases hc1 : a0 = 110
  · rw [if_pos hc1] at h
    refine q_ev_brT hc1 (a := 48) (b := 6) rfl ?_
    refine q_ev_run 2 (S' := (53, [some (.int a0)], [.int 1], qMM m n lm)) rfl ?_
    have h_z0 := Option.some.inj h
    subst h_z0
    exact q_ev_ret rfl rfl
  · rw [if_neg hc1] at h
    refine q_ev_brF hc1 (a := 48) (b := 6) rfl ?_
    refine q_ev_run 2 (S' := (9, [some (.int a0)], [.int 102, .int a0], qMM m n lm)) rfl ?_
    by_cases hc2 : a0 = 102
    · rw [if_pos hc2] at h
      refine q_ev_brT hc2 (a := 48) (b := 12) rfl ?_
      refine q_ev_run 2 (S' := (53, [some (.int a0)], [.int 1], qMM m n lm)) rfl ?_
      have h_z0 := Option.some.inj h
      subst h_z0
      exact q_ev_ret rfl rfl
    · rw [if_neg hc2] at h
      refine q_ev_brF hc2 (a := 48) (b := 12) rfl ?_
      refine q_ev_run 2 (S' := (15, [some (.int a0)], [.int 118, .int a0], qMM m n lm)) rfl ?_
      by_cases hc3 : a0 = 118
      · rw [if_pos hc3] at h
        refine q_ev_brT hc3 (a := 48) (b := 18) rfl ?_
        refine q_ev_run 2 (S' := (53, [some (.int a0)], [.int 1], qMM m n lm)) rfl ?_
        have h_z0 := Option.some.inj h
        subst h_z0
        exact q_ev_ret rfl rfl
      · rw [if_neg hc3] at h
        refine q_ev_brF hc3 (a := 48) (b := 18) rfl ?_
        refine q_ev_run 2 (S' := (21, [some (.int a0)], [.int 104, .int a0], qMM m n lm)) rfl ?_
        by_cases hc4 : a0 = 104
        · rw [if_pos hc4] at h
          refine q_ev_brT hc4 (a := 48) (b := 24) rfl ?_
          refine q_ev_run 2 (S' := (53, [some (.int a0)], [.int 1], qMM m n lm)) rfl ?_
          have h_z0 := Option.some.inj h
          subst h_z0
          exact q_ev_ret rfl rfl
        · rw [if_neg hc4] at h
          refine q_ev_brF hc4 (a := 48) (b := 24) rfl ?_
          refine q_ev_run 2 (S' := (27, [some (.int a0)], [.int 115, .int a0], qMM m n lm)) rfl ?_
          by_cases hc5 : a0 = 115
          · rw [if_pos hc5] at h
            refine q_ev_brT hc5 (a := 48) (b := 30) rfl ?_
            refine q_ev_run 2 (S' := (53, [some (.int a0)], [.int 1], qMM m n lm)) rfl ?_
            have h_z0 := Option.some.inj h
            subst h_z0
            exact q_ev_ret rfl rfl
          · rw [if_neg hc5] at h
            refine q_ev_brF hc5 (a := 48) (b := 30) rfl ?_
            refine q_ev_run 2 (S' := (33, [some (.int a0)], [.int 116, .int a0], qMM m n lm)) rfl ?_
            by_cases hc6 : a0 = 116
            · rw [if_pos hc6] at h
              refine q_ev_brT hc6 (a := 48) (b := 36) rfl ?_
              refine q_ev_run 2 (S' := (53, [some (.int a0)], [.int 1], qMM m n lm)) rfl ?_
              have h_z0 := Option.some.inj h
              subst h_z0
              exact q_ev_ret rfl rfl
            · rw [if_neg hc6] at h
              refine q_ev_brF hc6 (a := 48) (b := 36) rfl ?_
              refine q_ev_run 2 (S' := (39, [some (.int a0)], [.int 114, .int a0], qMM m n lm)) rfl ?_
              by_cases hc7 : a0 = 114
              · rw [if_pos hc7] at h
                refine q_ev_brT hc7 (a := 48) (b := 42) rfl ?_
                refine q_ev_run 2 (S' := (53, [some (.int a0)], [.int 1], qMM m n lm)) rfl ?_
                have h_z0 := Option.some.inj h
                subst h_z0
                exact q_ev_ret rfl rfl
              · rw [if_neg hc7] at h
                refine q_ev_brF hc7 (a := 48) (b := 42) rfl ?_
                refine q_ev_run 2 (S' := (45, [some (.int a0)], [.int 99, .int a0], qMM m n lm)) rfl ?_
                by_cases hc8 : a0 = 99
                · rw [if_pos hc8] at h
                  refine q_ev_brT hc8 (a := 48) (b := 52) rfl ?_
                  refine q_ev_run 2 (S' := (53, [some (.int a0)], [.int 1], qMM m n lm)) rfl ?_
                  have h_z0 := Option.some.inj h
                  subst h_z0
                  exact q_ev_ret rfl rfl
                · rw [if_neg hc8] at h
                  refine q_ev_brF hc8 (a := 48) (b := 52) rfl ?_
                  refine q_ev_run 1 (S' := (53, [some (.int a0)], [.int 0], qMM m n lm)) rfl ?_
                  have h_z0 := Option.some.inj h
                  subst h_z0
                  exact q_ev_ret rfl rfl
noncomputable def F_Mo_isDigit (a0 : Int32) : Option (Int32) :=
  Option.bind (F_Mo_in a0 48 57) (fun r1 =>
    cond (q_bl r1) (some (r1)) none)
theorem T_Mo_isDigit {Ln : Nat} {xs : Nat → Int32} {n : (Nat → Nat → Int32)} {m : (Nat → Nat → Int32)} {lm : Nat → Int64} {d : Nat} (hd : 1 ≤ d) {a0 : Int32} {rv : Int32} (h : F_Mo_isDigit a0 = some rv) : q_Ev (qXT Ln xs) d 113 (0, [some (.int a0)], [], qMM m n lm) (some (.int rv), qMM m n lm) := by
  unfold F_Mo_isDigit at h
  refine q_ev_run 3 (S' := (5, [some (.int a0)], [.int 57, .int 48, .int a0], qMM m n lm)) rfl ?_
  obtain ⟨r1, hf2, h⟩ := Option.bind_eq_some_iff.mp h
  try dsimp only at h
  refine q_ev_call (S' := (8, [some (.int a0)], [], qMM m n lm)) rfl (by omega) (T_Mo_in (by first | omega | decide) hf2) ?_
  refine q_ev_eq (S' := (8, [some (.int a0)], [.int r1], qMM m n lm)) rfl ?_
  obtain ⟨hb3, h⟩ := q_cd h
  have h_z0 := Option.some.inj h
  subst h_z0
  exact q_ev_retb hb3 rfl rfl
noncomputable def FL_Mo_token_128 : Nat → (Nat → Nat → Int32) → Int32 → Int32 → Option ((Nat → Nat → Int32))
  | 0, _, _, _ => none
  | fu + 1, m, x1, x2 =>
    Option.bind (F_Mo_letterAt m (m 56 11)) (fun r1 =>
      Option.bind (F_Mo_isDigit r1) (fun r3 =>
        if r3 = 0 then
          some (m)
        else
          if x2 = 0 then
            FL_Mo_token_128 fu (q_w (q_w m 56 14 100) 56 11 (m 56 11 + 1)) x1 0
          else
            if x1 = 48 then
              FL_Mo_token_128 fu (q_w (q_w m 56 14 100) 56 11 (m 56 11 + 1)) x1 0
            else
              if 2 ≤ (m 56 11 - m 56 13) then
                FL_Mo_token_128 fu (q_w (q_w m 56 14 100) 56 11 (m 56 11 + 1)) x1 0
              else
                Option.bind (F_Mo_letterAt m (m 56 11)) (fun r9 =>
                  FL_Mo_token_128 fu (q_w (q_w m 56 14 (((10 * m 56 14) + r9) - 48)) 56 11 (m 56 11 + 1)) x1 1)))
theorem TL_Mo_token_128 {Ln : Nat} {xs : Nat → Int32} {n : (Nat → Nat → Int32)} {lm : Nat → Int64} {d : Nat} (hd : 2 ≤ d) {r : Option Value × qM} : ∀ (fu : Nat) (m : (Nat → Nat → Int32)) (x1 : Int32) (x2 : Int32)  (m1 : (Nat → Nat → Int32)), FL_Mo_token_128 fu m x1 x2 = some m1 → (∀ (u2 : Option Value), q_Ev (qXT Ln xs) d 114 (216, [some (.ref 58), some (.int x1), u2], [], qMM n m1 lm) r) → q_Ev (qXT Ln xs) d 114 (128, [some (.ref 58), some (.int x1), some (.int x2)], [], qMM n m lm) r := by
  intro fu
  induction fu with
  | zero => intro m x1 x2 m1 h hk; cases h
  | succ fu ih =>
    intro m x1 x2 m1 h hk
    rw [FL_Mo_token_128] at h
    refine q_ev_run 3 (S' := (133, [some (.ref 58), some (.int x1), some (.int x2)], [.int (m 56 11), .ref 58], qMM n m lm)) rfl ?_
    obtain ⟨r1, hf2, h⟩ := Option.bind_eq_some_iff.mp h
    try dsimp only at h
    refine q_ev_call (S' := (136, [some (.ref 58), some (.int x1), some (.int x2)], [], qMM n m lm)) rfl (by omega) (T_Mo_letterAt (by first | omega | decide) hf2) ?_
    refine q_ev_eq (S' := (136, [some (.ref 58), some (.int x1), some (.int x2)], [.int r1], qMM n m lm)) rfl ?_
    obtain ⟨r3, hf4, h⟩ := Option.bind_eq_some_iff.mp h
    try dsimp only at h
    refine q_ev_call (S' := (139, [some (.ref 58), some (.int x1), some (.int x2)], [], qMM n m lm)) rfl (by omega) (T_Mo_isDigit (by first | omega | decide) hf4) ?_
    refine q_ev_eq (S' := (139, [some (.ref 58), some (.int x1), some (.int x2)], [.int r3], qMM n m lm)) rfl ?_
    by_cases hc5 : r3 = 0
    · rw [if_pos hc5] at h
      refine q_ev_brT hc5 (a := 216) (b := 142) rfl ?_
      have h_z0 := Option.some.inj h
      subst h_z0
      exact hk (some (.int x2))
    · rw [if_neg hc5] at h
      refine q_ev_brF hc5 (a := 216) (b := 142) rfl ?_
      refine q_ev_run 1 (S' := (143, [some (.ref 58), some (.int x1), some (.int x2)], [.int x2], qMM n m lm)) rfl ?_
      by_cases hc6 : x2 = 0
      · rw [if_pos hc6] at h
        refine q_ev_brT hc6 (a := 169) (b := 146) rfl ?_
        refine q_ev_run 14 (S' := (128, [some (.ref 58), some (.int x1), some (.int 0)], [], qMM n (q_w (q_w m 56 14 100) 56 11 (m 56 11 + 1)) lm)) rfl ?_
        exact ih (q_w (q_w m 56 14 100) 56 11 (m 56 11 + 1)) x1 0 _ h hk
      · rw [if_neg hc6] at h
        refine q_ev_brF hc6 (a := 169) (b := 146) rfl ?_
        refine q_ev_run 2 (S' := (149, [some (.ref 58), some (.int x1), some (.int x2)], [.int 48, .int x1], qMM n m lm)) rfl ?_
        by_cases hc7 : x1 = 48
        · rw [if_pos hc7] at h
          refine q_ev_brT hc7 (a := 169) (b := 152) rfl ?_
          refine q_ev_run 14 (S' := (128, [some (.ref 58), some (.int x1), some (.int 0)], [], qMM n (q_w (q_w m 56 14 100) 56 11 (m 56 11 + 1)) lm)) rfl ?_
          exact ih (q_w (q_w m 56 14 100) 56 11 (m 56 11 + 1)) x1 0 _ h hk
        · rw [if_neg hc7] at h
          refine q_ev_brF hc7 (a := 169) (b := 152) rfl ?_
          refine q_ev_run 6 (S' := (162, [some (.ref 58), some (.int x1), some (.int x2)], [.int 2, .int (m 56 11 - m 56 13)], qMM n m lm)) rfl ?_
          by_cases hc8 : 2 ≤ (m 56 11 - m 56 13)
          · rw [if_pos hc8] at h
            refine q_ev_brT hc8 (a := 169) (b := 165) rfl ?_
            refine q_ev_run 14 (S' := (128, [some (.ref 58), some (.int x1), some (.int 0)], [], qMM n (q_w (q_w m 56 14 100) 56 11 (m 56 11 + 1)) lm)) rfl ?_
            exact ih (q_w (q_w m 56 14 100) 56 11 (m 56 11 + 1)) x1 0 _ h hk
          · rw [if_neg hc8] at h
            refine q_ev_brF hc8 (a := 169) (b := 165) rfl ?_
            refine q_ev_run 13 (S' := (188, [some (.ref 58), some (.int x1), some (.int 1)], [.int (m 56 11), .ref 58, .int (10 * m 56 14), .ref 58], qMM n m lm)) rfl ?_
            obtain ⟨r9, hf10, h⟩ := Option.bind_eq_some_iff.mp h
            try dsimp only at h
            refine q_ev_call (S' := (191, [some (.ref 58), some (.int x1), some (.int 1)], [.int (10 * m 56 14), .ref 58], qMM n m lm)) rfl (by omega) (T_Mo_letterAt (by first | omega | decide) hf10) ?_
            refine q_ev_eq (S' := (191, [some (.ref 58), some (.int x1), some (.int 1)], [.int r9, .int (10 * m 56 14), .ref 58], qMM n m lm)) rfl ?_
            refine q_ev_run 12 (S' := (128, [some (.ref 58), some (.int x1), some (.int 1)], [], qMM n (q_w (q_w m 56 14 (((10 * m 56 14) + r9) - 48)) 56 11 (m 56 11 + 1)) lm)) rfl ?_
            exact ih (q_w (q_w m 56 14 (((10 * m 56 14) + r9) - 48)) 56 11 (m 56 11 + 1)) x1 1 _ h hk
noncomputable def F_Mo_token (m : (Nat → Nat → Int32)) : Option ((Nat → Nat → Int32)) :=
  Option.bind (F_Mo_letterAt m (m 56 11)) (fun r1 =>
    if r1 = 32 then
      Option.bind (FL_Mo_token_0 qFU (q_w m 56 11 (m 56 11 + 1))) (fun m6 =>
        Option.bind (F_Mo_letterAt (q_w m6 56 13 (m6 56 11)) (m6 56 11)) (fun r8 =>
          if 0 ≤ r8 then
            Option.bind (F_Mo_isLetter r8) (fun r11 =>
              if r11 = 0 then
                Option.bind (F_Mo_isDigit r8) (fun r14 =>
                  if r14 = 0 then
                    if r8 = 59 then
                      some ((q_w (q_w (q_w (q_w m6 56 13 (m6 56 11)) 56 12 3) 56 14 r8) 56 11 (m6 56 11 + 1)))
                    else
                      some ((q_w (q_w (q_w (q_w m6 56 13 (m6 56 11)) 56 12 4) 56 14 r8) 56 11 (m6 56 11 + 1)))
                  else
                    Option.bind (FL_Mo_token_128 qFU (q_w (q_w (q_w (q_w (q_w m6 56 13 (m6 56 11)) 56 12 2) 56 14 r8) 56 11 (m6 56 11 + 1)) 56 14 (r8 - 48)) r8 1) (fun m19 =>
                      some (m19)))
              else
                some ((q_w (q_w (q_w (q_w m6 56 13 (m6 56 11)) 56 12 1) 56 14 r8) 56 11 (m6 56 11 + 1))))
          else
            some ((q_w (q_w (q_w m6 56 13 (m6 56 11)) 56 12 0) 56 14 r8))))
    else
      Option.bind (F_Mo_letterAt (q_w m 56 13 (m 56 11)) (m 56 11)) (fun r21 =>
        if 0 ≤ r21 then
          Option.bind (F_Mo_isLetter r21) (fun r24 =>
            if r24 = 0 then
              Option.bind (F_Mo_isDigit r21) (fun r27 =>
                if r27 = 0 then
                  if r21 = 59 then
                    some ((q_w (q_w (q_w (q_w m 56 13 (m 56 11)) 56 12 3) 56 14 r21) 56 11 (m 56 11 + 1)))
                  else
                    some ((q_w (q_w (q_w (q_w m 56 13 (m 56 11)) 56 12 4) 56 14 r21) 56 11 (m 56 11 + 1)))
                else
                  Option.bind (FL_Mo_token_128 qFU (q_w (q_w (q_w (q_w (q_w m 56 13 (m 56 11)) 56 12 2) 56 14 r21) 56 11 (m 56 11 + 1)) 56 14 (r21 - 48)) r21 1) (fun m32 =>
                    some (m32)))
            else
              some ((q_w (q_w (q_w (q_w m 56 13 (m 56 11)) 56 12 1) 56 14 r21) 56 11 (m 56 11 + 1))))
        else
          some ((q_w (q_w (q_w m 56 13 (m 56 11)) 56 12 0) 56 14 r21))))
theorem T_Mo_token {Ln : Nat} {xs : Nat → Int32} {n : (Nat → Nat → Int32)} {lm : Nat → Int64} {d : Nat} (hd : 2 ≤ d) {m : (Nat → Nat → Int32)} {m1 : (Nat → Nat → Int32)} (h : F_Mo_token m = some m1) : q_Ev (qXT Ln xs) d 114 (0, [some (.ref 58), none, none], [], qMM n m lm) (none, qMM n m1 lm) := by
  unfold F_Mo_token at h
  refine q_ev_run 3 (S' := (5, [some (.ref 58), none, none], [.int (m 56 11), .ref 58], qMM n m lm)) rfl ?_
  obtain ⟨r1, hf2, h⟩ := Option.bind_eq_some_iff.mp h
  try dsimp only at h
  refine q_ev_call (S' := (8, [some (.ref 58), none, none], [], qMM n m lm)) rfl (by omega) (T_Mo_letterAt (by first | omega | decide) hf2) ?_
  refine q_ev_eq (S' := (8, [some (.ref 58), none, none], [.int r1], qMM n m lm)) rfl ?_
  refine q_ev_run 1 (S' := (10, [some (.ref 58), none, none], [.int 32, .int r1], qMM n m lm)) rfl ?_
  by_cases hc3 : r1 = 32
  · rw [if_pos hc3] at h
    refine q_ev_brT hc3 (a := 13) (b := 26) rfl ?_
    refine q_ev_run 7 (S' := (0, [some (.ref 58), none, none], [], qMM n (q_w m 56 11 (m 56 11 + 1)) lm)) rfl ?_
    obtain ⟨m6, hl7, h⟩ := Option.bind_eq_some_iff.mp h
    try dsimp only at h
    refine TL_Mo_token_0 (by first | omega | decide) _ (q_w m 56 11 (m 56 11 + 1)) (none) (none) _ hl7 (fun w4 w5 => ?_)
    refine q_ev_run 7 (S' := (39, [some (.ref 58), w4, w5], [.int (m6 56 11), .ref 58], qMM n (q_w m6 56 13 (m6 56 11)) lm)) rfl ?_
    obtain ⟨r8, hf9, h⟩ := Option.bind_eq_some_iff.mp h
    try dsimp only at h
    refine q_ev_call (S' := (42, [some (.ref 58), w4, w5], [], qMM n (q_w m6 56 13 (m6 56 11)) lm)) rfl (by omega) (T_Mo_letterAt (by first | omega | decide) hf9) ?_
    refine q_ev_eq (S' := (42, [some (.ref 58), w4, w5], [.int r8], qMM n (q_w m6 56 13 (m6 56 11)) lm)) rfl ?_
    refine q_ev_run 3 (S' := (45, [some (.ref 58), some (.int r8), w5], [.int r8, .ref 58], qMM n (q_w m6 56 13 (m6 56 11)) lm)) rfl ?_
    by_cases hc10 : 0 ≤ r8
    · rw [if_pos hc10] at h
      refine q_ev_brT hc10 (a := 52) (b := 48) rfl ?_
      refine q_ev_run 1 (S' := (53, [some (.ref 58), some (.int r8), w5], [.int r8, .ref 58], qMM n (q_w m6 56 13 (m6 56 11)) lm)) rfl ?_
      obtain ⟨r11, hf12, h⟩ := Option.bind_eq_some_iff.mp h
      try dsimp only at h
      refine q_ev_call (S' := (56, [some (.ref 58), some (.int r8), w5], [.ref 58], qMM n (q_w m6 56 13 (m6 56 11)) lm)) rfl (by omega) (T_Mo_isLetter (by first | omega | decide) hf12) ?_
      refine q_ev_eq (S' := (56, [some (.ref 58), some (.int r8), w5], [.int r11, .ref 58], qMM n (q_w m6 56 13 (m6 56 11)) lm)) rfl ?_
      by_cases hc13 : r11 = 0
      · rw [if_pos hc13] at h
        refine q_ev_brT hc13 (a := 63) (b := 59) rfl ?_
        refine q_ev_run 1 (S' := (64, [some (.ref 58), some (.int r8), w5], [.int r8, .ref 58], qMM n (q_w m6 56 13 (m6 56 11)) lm)) rfl ?_
        obtain ⟨r14, hf15, h⟩ := Option.bind_eq_some_iff.mp h
        try dsimp only at h
        refine q_ev_call (S' := (67, [some (.ref 58), some (.int r8), w5], [.ref 58], qMM n (q_w m6 56 13 (m6 56 11)) lm)) rfl (by omega) (T_Mo_isDigit (by first | omega | decide) hf15) ?_
        refine q_ev_eq (S' := (67, [some (.ref 58), some (.int r8), w5], [.int r14, .ref 58], qMM n (q_w m6 56 13 (m6 56 11)) lm)) rfl ?_
        by_cases hc16 : r14 = 0
        · rw [if_pos hc16] at h
          refine q_ev_brT hc16 (a := 74) (b := 70) rfl ?_
          refine q_ev_run 2 (S' := (77, [some (.ref 58), some (.int r8), w5], [.int 59, .int r8, .ref 58], qMM n (q_w m6 56 13 (m6 56 11)) lm)) rfl ?_
          by_cases hc17 : r8 = 59
          · rw [if_pos hc17] at h
            refine q_ev_brT hc17 (a := 80) (b := 84) rfl ?_
            refine q_ev_run 19 (S' := (216, [some (.ref 58), some (.int r8), w5], [], qMM n (q_w (q_w (q_w (q_w m6 56 13 (m6 56 11)) 56 12 3) 56 14 r8) 56 11 (m6 56 11 + 1)) lm)) rfl ?_
            have h_z0 := Option.some.inj h
            subst h_z0
            exact q_ev_ret rfl rfl
          · rw [if_neg hc17] at h
            refine q_ev_brF hc17 (a := 80) (b := 84) rfl ?_
            refine q_ev_run 18 (S' := (216, [some (.ref 58), some (.int r8), w5], [], qMM n (q_w (q_w (q_w (q_w m6 56 13 (m6 56 11)) 56 12 4) 56 14 r8) 56 11 (m6 56 11 + 1)) lm)) rfl ?_
            have h_z0 := Option.some.inj h
            subst h_z0
            exact q_ev_ret rfl rfl
        · rw [if_neg hc16] at h
          refine q_ev_brF hc16 (a := 74) (b := 70) rfl ?_
          refine q_ev_run 26 (S' := (128, [some (.ref 58), some (.int r8), some (.int 1)], [], qMM n (q_w (q_w (q_w (q_w (q_w m6 56 13 (m6 56 11)) 56 12 2) 56 14 r8) 56 11 (m6 56 11 + 1)) 56 14 (r8 - 48)) lm)) rfl ?_
          obtain ⟨m19, hl20, h⟩ := Option.bind_eq_some_iff.mp h
          try dsimp only at h
          refine TL_Mo_token_128 (by first | omega | decide) _ (q_w (q_w (q_w (q_w (q_w m6 56 13 (m6 56 11)) 56 12 2) 56 14 r8) 56 11 (m6 56 11 + 1)) 56 14 (r8 - 48)) r8 1 _ hl20 (fun w18 => ?_)
          have h_z0 := Option.some.inj h
          subst h_z0
          exact q_ev_ret rfl rfl
      · rw [if_neg hc13] at h
        refine q_ev_brF hc13 (a := 63) (b := 59) rfl ?_
        refine q_ev_run 19 (S' := (216, [some (.ref 58), some (.int r8), w5], [], qMM n (q_w (q_w (q_w (q_w m6 56 13 (m6 56 11)) 56 12 1) 56 14 r8) 56 11 (m6 56 11 + 1)) lm)) rfl ?_
        have h_z0 := Option.some.inj h
        subst h_z0
        exact q_ev_ret rfl rfl
    · rw [if_neg hc10] at h
      refine q_ev_brF hc10 (a := 52) (b := 48) rfl ?_
      refine q_ev_run 13 (S' := (216, [some (.ref 58), some (.int r8), w5], [], qMM n (q_w (q_w (q_w m6 56 13 (m6 56 11)) 56 12 0) 56 14 r8) lm)) rfl ?_
      have h_z0 := Option.some.inj h
      subst h_z0
      exact q_ev_ret rfl rfl
  · rw [if_neg hc3] at h
    refine q_ev_brF hc3 (a := 13) (b := 26) rfl ?_
    refine q_ev_run 7 (S' := (39, [some (.ref 58), none, none], [.int (m 56 11), .ref 58], qMM n (q_w m 56 13 (m 56 11)) lm)) rfl ?_
    obtain ⟨r21, hf22, h⟩ := Option.bind_eq_some_iff.mp h
    try dsimp only at h
    refine q_ev_call (S' := (42, [some (.ref 58), none, none], [], qMM n (q_w m 56 13 (m 56 11)) lm)) rfl (by omega) (T_Mo_letterAt (by first | omega | decide) hf22) ?_
    refine q_ev_eq (S' := (42, [some (.ref 58), none, none], [.int r21], qMM n (q_w m 56 13 (m 56 11)) lm)) rfl ?_
    refine q_ev_run 3 (S' := (45, [some (.ref 58), some (.int r21), none], [.int r21, .ref 58], qMM n (q_w m 56 13 (m 56 11)) lm)) rfl ?_
    by_cases hc23 : 0 ≤ r21
    · rw [if_pos hc23] at h
      refine q_ev_brT hc23 (a := 52) (b := 48) rfl ?_
      refine q_ev_run 1 (S' := (53, [some (.ref 58), some (.int r21), none], [.int r21, .ref 58], qMM n (q_w m 56 13 (m 56 11)) lm)) rfl ?_
      obtain ⟨r24, hf25, h⟩ := Option.bind_eq_some_iff.mp h
      try dsimp only at h
      refine q_ev_call (S' := (56, [some (.ref 58), some (.int r21), none], [.ref 58], qMM n (q_w m 56 13 (m 56 11)) lm)) rfl (by omega) (T_Mo_isLetter (by first | omega | decide) hf25) ?_
      refine q_ev_eq (S' := (56, [some (.ref 58), some (.int r21), none], [.int r24, .ref 58], qMM n (q_w m 56 13 (m 56 11)) lm)) rfl ?_
      by_cases hc26 : r24 = 0
      · rw [if_pos hc26] at h
        refine q_ev_brT hc26 (a := 63) (b := 59) rfl ?_
        refine q_ev_run 1 (S' := (64, [some (.ref 58), some (.int r21), none], [.int r21, .ref 58], qMM n (q_w m 56 13 (m 56 11)) lm)) rfl ?_
        obtain ⟨r27, hf28, h⟩ := Option.bind_eq_some_iff.mp h
        try dsimp only at h
        refine q_ev_call (S' := (67, [some (.ref 58), some (.int r21), none], [.ref 58], qMM n (q_w m 56 13 (m 56 11)) lm)) rfl (by omega) (T_Mo_isDigit (by first | omega | decide) hf28) ?_
        refine q_ev_eq (S' := (67, [some (.ref 58), some (.int r21), none], [.int r27, .ref 58], qMM n (q_w m 56 13 (m 56 11)) lm)) rfl ?_
        by_cases hc29 : r27 = 0
        · rw [if_pos hc29] at h
          refine q_ev_brT hc29 (a := 74) (b := 70) rfl ?_
          refine q_ev_run 2 (S' := (77, [some (.ref 58), some (.int r21), none], [.int 59, .int r21, .ref 58], qMM n (q_w m 56 13 (m 56 11)) lm)) rfl ?_
          by_cases hc30 : r21 = 59
          · rw [if_pos hc30] at h
            refine q_ev_brT hc30 (a := 80) (b := 84) rfl ?_
            refine q_ev_run 19 (S' := (216, [some (.ref 58), some (.int r21), none], [], qMM n (q_w (q_w (q_w (q_w m 56 13 (m 56 11)) 56 12 3) 56 14 r21) 56 11 (m 56 11 + 1)) lm)) rfl ?_
            have h_z0 := Option.some.inj h
            subst h_z0
            exact q_ev_ret rfl rfl
          · rw [if_neg hc30] at h
            refine q_ev_brF hc30 (a := 80) (b := 84) rfl ?_
            refine q_ev_run 18 (S' := (216, [some (.ref 58), some (.int r21), none], [], qMM n (q_w (q_w (q_w (q_w m 56 13 (m 56 11)) 56 12 4) 56 14 r21) 56 11 (m 56 11 + 1)) lm)) rfl ?_
            have h_z0 := Option.some.inj h
            subst h_z0
            exact q_ev_ret rfl rfl
        · rw [if_neg hc29] at h
          refine q_ev_brF hc29 (a := 74) (b := 70) rfl ?_
          refine q_ev_run 26 (S' := (128, [some (.ref 58), some (.int r21), some (.int 1)], [], qMM n (q_w (q_w (q_w (q_w (q_w m 56 13 (m 56 11)) 56 12 2) 56 14 r21) 56 11 (m 56 11 + 1)) 56 14 (r21 - 48)) lm)) rfl ?_
          obtain ⟨m32, hl33, h⟩ := Option.bind_eq_some_iff.mp h
          try dsimp only at h
          refine TL_Mo_token_128 (by first | omega | decide) _ (q_w (q_w (q_w (q_w (q_w m 56 13 (m 56 11)) 56 12 2) 56 14 r21) 56 11 (m 56 11 + 1)) 56 14 (r21 - 48)) r21 1 _ hl33 (fun w31 => ?_)
          have h_z0 := Option.some.inj h
          subst h_z0
          exact q_ev_ret rfl rfl
      · rw [if_neg hc26] at h
        refine q_ev_brF hc26 (a := 63) (b := 59) rfl ?_
        refine q_ev_run 19 (S' := (216, [some (.ref 58), some (.int r21), none], [], qMM n (q_w (q_w (q_w (q_w m 56 13 (m 56 11)) 56 12 1) 56 14 r21) 56 11 (m 56 11 + 1)) lm)) rfl ?_
        have h_z0 := Option.some.inj h
        subst h_z0
        exact q_ev_ret rfl rfl
    · rw [if_neg hc23] at h
      refine q_ev_brF hc23 (a := 52) (b := 48) rfl ?_
      refine q_ev_run 13 (S' := (216, [some (.ref 58), some (.int r21), none], [], qMM n (q_w (q_w (q_w m 56 13 (m 56 11)) 56 12 0) 56 14 r21) lm)) rfl ?_
      have h_z0 := Option.some.inj h
      subst h_z0
      exact q_ev_ret rfl rfl
noncomputable def F_Mo_isOnce (m : (Nat → Nat → Int32)) (a1 : Int32) : Option (Int32 × (Nat → Nat → Int32)) :=
  if ((m 59 7 >>> (a1 &&& 31)) &&& 1) = 0 then
    some (1, (q_w m 59 7 (m 59 7 ||| ((1 : Int32) <<< (a1 &&& 31)))))
  else
    some (0, (q_w m 59 7 (m 59 7 ||| ((1 : Int32) <<< (a1 &&& 31)))))
theorem T_Mo_isOnce {Ln : Nat} {xs : Nat → Int32} {n : (Nat → Nat → Int32)} {lm : Nat → Int64} {d : Nat} (hd : 0 ≤ d) {m : (Nat → Nat → Int32)} {a1 : Int32} {rv : Int32} {m1 : (Nat → Nat → Int32)} (h : F_Mo_isOnce m a1 = some (rv, m1)) : q_Ev (qXT Ln xs) d 121 (0, [some (.ref 58), some (.int a1), none], [], qMM n m lm) (some (.int rv), qMM n m1 lm) := by
  unfold F_Mo_isOnce at h
  refine q_ev_run 8 (S' := (11, [some (.ref 58), some (.int a1), none], [.int ((m 59 7 >>> (a1 &&& 31)) &&& 1)], qMM n m lm)) rfl ?_
  by_cases hc1 : ((m 59 7 >>> (a1 &&& 31)) &&& 1) = 0
  · rw [if_pos hc1] at h
    refine q_ev_brT hc1 (a := 14) (b := 18) rfl ?_
    refine q_ev_run 14 (S' := (34, [some (.ref 58), some (.int a1), some (.int 1)], [.int 1], qMM n (q_w m 59 7 (m 59 7 ||| ((1 : Int32) <<< (a1 &&& 31)))) lm)) rfl ?_
    have h_z0 := Option.some.inj h
    obtain ⟨h_0, h_z1⟩ := Prod.mk.inj h_z0
    subst h_0
    subst h_z1
    exact q_ev_ret rfl rfl
  · rw [if_neg hc1] at h
    refine q_ev_brF hc1 (a := 14) (b := 18) rfl ?_
    refine q_ev_run 13 (S' := (34, [some (.ref 58), some (.int a1), some (.int 0)], [.int 0], qMM n (q_w m 59 7 (m 59 7 ||| ((1 : Int32) <<< (a1 &&& 31)))) lm)) rfl ?_
    have h_z0 := Option.some.inj h
    obtain ⟨h_0, h_z1⟩ := Prod.mk.inj h_z0
    subst h_0
    subst h_z1
    exact q_ev_ret rfl rfl
noncomputable def F_Mo_isNumber (m : (Nat → Nat → Int32)) (a1 : Int32) (a2 : Int32) : Option (Int32) :=
  if m 56 12 = 2 then
    Option.bind (F_Mo_in (m 56 14) a1 a2) (fun r2 =>
      if r2 = 0 then
        some (0)
      else
        some (1))
  else
    some (0)
theorem T_Mo_isNumber {Ln : Nat} {xs : Nat → Int32} {n : (Nat → Nat → Int32)} {lm : Nat → Int64} {d : Nat} (hd : 1 ≤ d) {m : (Nat → Nat → Int32)} {a1 : Int32} {a2 : Int32} {rv : Int32} (h : F_Mo_isNumber m a1 a2 = some rv) : q_Ev (qXT Ln xs) d 115 (0, [some (.ref 58), some (.int a1), some (.int a2)], [], qMM n m lm) (some (.int rv), qMM n m lm) := by
  unfold F_Mo_isNumber at h
  refine q_ev_run 3 (S' := (5, [some (.ref 58), some (.int a1), some (.int a2)], [.int 2, .int (m 56 12)], qMM n m lm)) rfl ?_
  by_cases hc1 : m 56 12 = 2
  · rw [if_pos hc1] at h
    refine q_ev_brT hc1 (a := 8) (b := 24) rfl ?_
    refine q_ev_run 4 (S' := (14, [some (.ref 58), some (.int a1), some (.int a2)], [.int a2, .int a1, .int (m 56 14)], qMM n m lm)) rfl ?_
    obtain ⟨r2, hf3, h⟩ := Option.bind_eq_some_iff.mp h
    try dsimp only at h
    refine q_ev_call (S' := (17, [some (.ref 58), some (.int a1), some (.int a2)], [], qMM n m lm)) rfl (by omega) (T_Mo_in (by first | omega | decide) hf3) ?_
    refine q_ev_eq (S' := (17, [some (.ref 58), some (.int a1), some (.int a2)], [.int r2], qMM n m lm)) rfl ?_
    by_cases hc4 : r2 = 0
    · rw [if_pos hc4] at h
      refine q_ev_brT hc4 (a := 24) (b := 20) rfl ?_
      refine q_ev_run 1 (S' := (25, [some (.ref 58), some (.int a1), some (.int a2)], [.int 0], qMM n m lm)) rfl ?_
      have h_z0 := Option.some.inj h
      subst h_z0
      exact q_ev_ret rfl rfl
    · rw [if_neg hc4] at h
      refine q_ev_brF hc4 (a := 24) (b := 20) rfl ?_
      refine q_ev_run 2 (S' := (25, [some (.ref 58), some (.int a1), some (.int a2)], [.int 1], qMM n m lm)) rfl ?_
      have h_z0 := Option.some.inj h
      subst h_z0
      exact q_ev_ret rfl rfl
  · rw [if_neg hc1] at h
    refine q_ev_brF hc1 (a := 8) (b := 24) rfl ?_
    refine q_ev_run 1 (S' := (25, [some (.ref 58), some (.int a1), some (.int a2)], [.int 0], qMM n m lm)) rfl ?_
    have h_z0 := Option.some.inj h
    subst h_z0
    exact q_ev_ret rfl rfl
noncomputable def FL_Mo_readsCourse_6 : Nat → (Nat → Nat → Int32) → Int32 → Option ((Int32 × (Nat → Nat → Int32)) ⊕ (Int32 × (Nat → Nat → Int32)))
  | 0, _, _ => none
  | fu + 1, m, x1 =>
    if x1 = 0 then
      if x1 = 8 then
        some (.inl (0, m))
      else
        Option.bind (F_Mo_isNumber m 0 (m 59 0 - 1)) (fun r3 =>
          if r3 = 0 then
            some (.inl (0, m))
          else
            if x1 ≤ 0 then
              cond (q_in (13 + x1) 93) (
                Option.bind (F_Mo_token (q_w m 59 ((13 + x1)).toNatClampNeg (m 56 14))) (fun m8 =>
                  FL_Mo_readsCourse_6 fu m8 (x1 + 1))
               ) none
            else
              cond (q_in ((13 + x1) - 1) 93) (
                cond (q_in ((21 + (8 * m 59 (((13 + x1) - 1)).toNatClampNeg)) + m 56 14) 93) (
                  if m 59 (((21 + (8 * m 59 (((13 + x1) - 1)).toNatClampNeg)) + m 56 14)).toNatClampNeg = 0 then
                    some (.inl (0, m))
                  else
                    cond (q_in (13 + x1) 93) (
                      Option.bind (F_Mo_token (q_w m 59 ((13 + x1)).toNatClampNeg (m 56 14))) (fun m14 =>
                        FL_Mo_readsCourse_6 fu m14 (x1 + 1))
                     ) none
                 ) none
               ) none)
    else
      if m 56 12 = 2 then
        if x1 = 8 then
          some (.inl (0, m))
        else
          Option.bind (F_Mo_isNumber m 0 (m 59 0 - 1)) (fun r18 =>
            if r18 = 0 then
              some (.inl (0, m))
            else
              if x1 ≤ 0 then
                cond (q_in (13 + x1) 93) (
                  Option.bind (F_Mo_token (q_w m 59 ((13 + x1)).toNatClampNeg (m 56 14))) (fun m23 =>
                    FL_Mo_readsCourse_6 fu m23 (x1 + 1))
                 ) none
              else
                cond (q_in ((13 + x1) - 1) 93) (
                  cond (q_in ((21 + (8 * m 59 (((13 + x1) - 1)).toNatClampNeg)) + m 56 14) 93) (
                    if m 59 (((21 + (8 * m 59 (((13 + x1) - 1)).toNatClampNeg)) + m 56 14)).toNatClampNeg = 0 then
                      some (.inl (0, m))
                    else
                      cond (q_in (13 + x1) 93) (
                        Option.bind (F_Mo_token (q_w m 59 ((13 + x1)).toNatClampNeg (m 56 14))) (fun m29 =>
                          FL_Mo_readsCourse_6 fu m29 (x1 + 1))
                       ) none
                   ) none
                 ) none)
      else
        some (.inr (x1, m))
theorem TL_Mo_readsCourse_6 {Ln : Nat} {xs : Nat → Int32} {n : (Nat → Nat → Int32)} {lm : Nat → Int64} {d : Nat} (hd : 3 ≤ d) {r : Option Value × qM} : ∀ (fu : Nat) (m : (Nat → Nat → Int32)) (x1 : Int32)  (o : (Int32 × (Nat → Nat → Int32)) ⊕ (Int32 × (Nat → Nat → Int32))), FL_Mo_readsCourse_6 fu m x1 = some o → (∀ (rv : Int32) (m1 : (Nat → Nat → Int32)), o = .inl (rv, m1) → r = (some (.int rv), qMM n m1 lm)) → (∀ (y1 : Int32) (m1 : (Nat → Nat → Int32)), o = .inr (y1, m1) → q_Ev (qXT Ln xs) d 122 (99, [some (.ref 58), some (.int y1)], [], qMM n m1 lm) r) → q_Ev (qXT Ln xs) d 122 (6, [some (.ref 58), some (.int x1)], [], qMM n m lm) r := by
  intro fu
  induction fu with
  | zero => intro m x1 o h hr hk; cases h
  | succ fu ih =>
    intro m x1 o h hr hk
    rw [FL_Mo_readsCourse_6] at h
    refine q_ev_run 1 (S' := (7, [some (.ref 58), some (.int x1)], [.int x1], qMM n m lm)) rfl ?_
    by_cases hc1 : x1 = 0
    · rw [if_pos hc1] at h
      refine q_ev_brT hc1 (a := 18) (b := 10) rfl ?_
      refine q_ev_run 2 (S' := (21, [some (.ref 58), some (.int x1)], [.int 8, .int x1], qMM n m lm)) rfl ?_
      by_cases hc2 : x1 = 8
      · rw [if_pos hc2] at h
        refine q_ev_brT hc2 (a := 74) (b := 24) rfl ?_
        refine q_ev_run 1 (S' := (75, [some (.ref 58), some (.int x1)], [.int 0], qMM n m lm)) rfl ?_
        obtain rfl := (Option.some.inj h).symm
        rw [hr _ _ rfl]
        exact q_ev_ret rfl rfl
      · rw [if_neg hc2] at h
        refine q_ev_brF hc2 (a := 74) (b := 24) rfl ?_
        refine q_ev_run 8 (S' := (34, [some (.ref 58), some (.int x1)], [.int (m 59 0 - 1), .int 0, .ref 58], qMM n m lm)) rfl ?_
        obtain ⟨r3, hf4, h⟩ := Option.bind_eq_some_iff.mp h
        try dsimp only at h
        refine q_ev_call (S' := (37, [some (.ref 58), some (.int x1)], [], qMM n m lm)) rfl (by omega) (T_Mo_isNumber (by first | omega | decide) hf4) ?_
        refine q_ev_eq (S' := (37, [some (.ref 58), some (.int x1)], [.int r3], qMM n m lm)) rfl ?_
        by_cases hc5 : r3 = 0
        · rw [if_pos hc5] at h
          refine q_ev_brT hc5 (a := 74) (b := 40) rfl ?_
          refine q_ev_run 1 (S' := (75, [some (.ref 58), some (.int x1)], [.int 0], qMM n m lm)) rfl ?_
          obtain rfl := (Option.some.inj h).symm
          rw [hr _ _ rfl]
          exact q_ev_ret rfl rfl
        · rw [if_neg hc5] at h
          refine q_ev_brF hc5 (a := 74) (b := 40) rfl ?_
          refine q_ev_run 1 (S' := (41, [some (.ref 58), some (.int x1)], [.int x1], qMM n m lm)) rfl ?_
          by_cases hc6 : x1 ≤ 0
          · rw [if_pos hc6] at h
            refine q_ev_brT hc6 (a := 76) (b := 44) rfl ?_
            refine q_ev_run 7 (S' := (88, [some (.ref 58), some (.int x1)], [.int (m 56 14), .int (13 + x1), .ref 61], qMM n m lm)) rfl ?_
            obtain ⟨hb7, h⟩ := q_cd h
            refine q_ev_chk (b := q_in (13 + x1) 93) hb7 (S' := (89, [some (.ref 58), some (.int x1)], [], qMM n (q_w m 59 ((13 + x1)).toNatClampNeg (m 56 14)) lm)) rfl ?_
            refine q_ev_run 2 (S' := (93, [some (.ref 58), some (.int (x1 + 1))], [.ref 58], qMM n (q_w m 59 ((13 + x1)).toNatClampNeg (m 56 14)) lm)) rfl ?_
            obtain ⟨m8, hf9, h⟩ := Option.bind_eq_some_iff.mp h
            try dsimp only at h
            refine q_ev_call (S' := (96, [some (.ref 58), some (.int (x1 + 1))], [], qMM n (q_w m 59 ((13 + x1)).toNatClampNeg (m 56 14)) lm)) rfl (by omega) (T_Mo_token (by first | omega | decide) hf9) ?_
            refine q_ev_eq (S' := (96, [some (.ref 58), some (.int (x1 + 1))], [], qMM n m8 lm)) rfl ?_
            refine q_ev_run 1 (S' := (6, [some (.ref 58), some (.int (x1 + 1))], [], qMM n m8 lm)) rfl ?_
            exact ih m8 (x1 + 1) _ h hr hk
          · rw [if_neg hc6] at h
            refine q_ev_brF hc6 (a := 76) (b := 44) rfl ?_
            refine q_ev_run 11 (S' := (62, [some (.ref 58), some (.int x1)], [.int ((13 + x1) - 1), .ref 61, .int 8, .int 21, .ref 61], qMM n m lm)) rfl ?_
            obtain ⟨hb10, h⟩ := q_cd h
            refine q_ev_chk (b := q_in ((13 + x1) - 1) 93) hb10 (S' := (63, [some (.ref 58), some (.int x1)], [.int (m 59 (((13 + x1) - 1)).toNatClampNeg), .int 8, .int 21, .ref 61], qMM n m lm)) rfl ?_
            refine q_ev_run 5 (S' := (70, [some (.ref 58), some (.int x1)], [.int ((21 + (8 * m 59 (((13 + x1) - 1)).toNatClampNeg)) + m 56 14), .ref 61], qMM n m lm)) rfl ?_
            obtain ⟨hb11, h⟩ := q_cd h
            refine q_ev_chk (b := q_in ((21 + (8 * m 59 (((13 + x1) - 1)).toNatClampNeg)) + m 56 14) 93) hb11 (S' := (71, [some (.ref 58), some (.int x1)], [.int (m 59 (((21 + (8 * m 59 (((13 + x1) - 1)).toNatClampNeg)) + m 56 14)).toNatClampNeg)], qMM n m lm)) rfl ?_
            by_cases hc12 : m 59 (((21 + (8 * m 59 (((13 + x1) - 1)).toNatClampNeg)) + m 56 14)).toNatClampNeg = 0
            · rw [if_pos hc12] at h
              refine q_ev_brT hc12 (a := 74) (b := 76) rfl ?_
              refine q_ev_run 1 (S' := (75, [some (.ref 58), some (.int x1)], [.int 0], qMM n m lm)) rfl ?_
              obtain rfl := (Option.some.inj h).symm
              rw [hr _ _ rfl]
              exact q_ev_ret rfl rfl
            · rw [if_neg hc12] at h
              refine q_ev_brF hc12 (a := 74) (b := 76) rfl ?_
              refine q_ev_run 7 (S' := (88, [some (.ref 58), some (.int x1)], [.int (m 56 14), .int (13 + x1), .ref 61], qMM n m lm)) rfl ?_
              obtain ⟨hb13, h⟩ := q_cd h
              refine q_ev_chk (b := q_in (13 + x1) 93) hb13 (S' := (89, [some (.ref 58), some (.int x1)], [], qMM n (q_w m 59 ((13 + x1)).toNatClampNeg (m 56 14)) lm)) rfl ?_
              refine q_ev_run 2 (S' := (93, [some (.ref 58), some (.int (x1 + 1))], [.ref 58], qMM n (q_w m 59 ((13 + x1)).toNatClampNeg (m 56 14)) lm)) rfl ?_
              obtain ⟨m14, hf15, h⟩ := Option.bind_eq_some_iff.mp h
              try dsimp only at h
              refine q_ev_call (S' := (96, [some (.ref 58), some (.int (x1 + 1))], [], qMM n (q_w m 59 ((13 + x1)).toNatClampNeg (m 56 14)) lm)) rfl (by omega) (T_Mo_token (by first | omega | decide) hf15) ?_
              refine q_ev_eq (S' := (96, [some (.ref 58), some (.int (x1 + 1))], [], qMM n m14 lm)) rfl ?_
              refine q_ev_run 1 (S' := (6, [some (.ref 58), some (.int (x1 + 1))], [], qMM n m14 lm)) rfl ?_
              exact ih m14 (x1 + 1) _ h hr hk
    · rw [if_neg hc1] at h
      refine q_ev_brF hc1 (a := 18) (b := 10) rfl ?_
      refine q_ev_run 3 (S' := (15, [some (.ref 58), some (.int x1)], [.int 2, .int (m 56 12)], qMM n m lm)) rfl ?_
      by_cases hc16 : m 56 12 = 2
      · rw [if_pos hc16] at h
        refine q_ev_brT hc16 (a := 18) (b := 99) rfl ?_
        refine q_ev_run 2 (S' := (21, [some (.ref 58), some (.int x1)], [.int 8, .int x1], qMM n m lm)) rfl ?_
        by_cases hc17 : x1 = 8
        · rw [if_pos hc17] at h
          refine q_ev_brT hc17 (a := 74) (b := 24) rfl ?_
          refine q_ev_run 1 (S' := (75, [some (.ref 58), some (.int x1)], [.int 0], qMM n m lm)) rfl ?_
          obtain rfl := (Option.some.inj h).symm
          rw [hr _ _ rfl]
          exact q_ev_ret rfl rfl
        · rw [if_neg hc17] at h
          refine q_ev_brF hc17 (a := 74) (b := 24) rfl ?_
          refine q_ev_run 8 (S' := (34, [some (.ref 58), some (.int x1)], [.int (m 59 0 - 1), .int 0, .ref 58], qMM n m lm)) rfl ?_
          obtain ⟨r18, hf19, h⟩ := Option.bind_eq_some_iff.mp h
          try dsimp only at h
          refine q_ev_call (S' := (37, [some (.ref 58), some (.int x1)], [], qMM n m lm)) rfl (by omega) (T_Mo_isNumber (by first | omega | decide) hf19) ?_
          refine q_ev_eq (S' := (37, [some (.ref 58), some (.int x1)], [.int r18], qMM n m lm)) rfl ?_
          by_cases hc20 : r18 = 0
          · rw [if_pos hc20] at h
            refine q_ev_brT hc20 (a := 74) (b := 40) rfl ?_
            refine q_ev_run 1 (S' := (75, [some (.ref 58), some (.int x1)], [.int 0], qMM n m lm)) rfl ?_
            obtain rfl := (Option.some.inj h).symm
            rw [hr _ _ rfl]
            exact q_ev_ret rfl rfl
          · rw [if_neg hc20] at h
            refine q_ev_brF hc20 (a := 74) (b := 40) rfl ?_
            refine q_ev_run 1 (S' := (41, [some (.ref 58), some (.int x1)], [.int x1], qMM n m lm)) rfl ?_
            by_cases hc21 : x1 ≤ 0
            · rw [if_pos hc21] at h
              refine q_ev_brT hc21 (a := 76) (b := 44) rfl ?_
              refine q_ev_run 7 (S' := (88, [some (.ref 58), some (.int x1)], [.int (m 56 14), .int (13 + x1), .ref 61], qMM n m lm)) rfl ?_
              obtain ⟨hb22, h⟩ := q_cd h
              refine q_ev_chk (b := q_in (13 + x1) 93) hb22 (S' := (89, [some (.ref 58), some (.int x1)], [], qMM n (q_w m 59 ((13 + x1)).toNatClampNeg (m 56 14)) lm)) rfl ?_
              refine q_ev_run 2 (S' := (93, [some (.ref 58), some (.int (x1 + 1))], [.ref 58], qMM n (q_w m 59 ((13 + x1)).toNatClampNeg (m 56 14)) lm)) rfl ?_
              obtain ⟨m23, hf24, h⟩ := Option.bind_eq_some_iff.mp h
              try dsimp only at h
              refine q_ev_call (S' := (96, [some (.ref 58), some (.int (x1 + 1))], [], qMM n (q_w m 59 ((13 + x1)).toNatClampNeg (m 56 14)) lm)) rfl (by omega) (T_Mo_token (by first | omega | decide) hf24) ?_
              refine q_ev_eq (S' := (96, [some (.ref 58), some (.int (x1 + 1))], [], qMM n m23 lm)) rfl ?_
              refine q_ev_run 1 (S' := (6, [some (.ref 58), some (.int (x1 + 1))], [], qMM n m23 lm)) rfl ?_
              exact ih m23 (x1 + 1) _ h hr hk
            · rw [if_neg hc21] at h
              refine q_ev_brF hc21 (a := 76) (b := 44) rfl ?_
              refine q_ev_run 11 (S' := (62, [some (.ref 58), some (.int x1)], [.int ((13 + x1) - 1), .ref 61, .int 8, .int 21, .ref 61], qMM n m lm)) rfl ?_
              obtain ⟨hb25, h⟩ := q_cd h
              refine q_ev_chk (b := q_in ((13 + x1) - 1) 93) hb25 (S' := (63, [some (.ref 58), some (.int x1)], [.int (m 59 (((13 + x1) - 1)).toNatClampNeg), .int 8, .int 21, .ref 61], qMM n m lm)) rfl ?_
              refine q_ev_run 5 (S' := (70, [some (.ref 58), some (.int x1)], [.int ((21 + (8 * m 59 (((13 + x1) - 1)).toNatClampNeg)) + m 56 14), .ref 61], qMM n m lm)) rfl ?_
              obtain ⟨hb26, h⟩ := q_cd h
              refine q_ev_chk (b := q_in ((21 + (8 * m 59 (((13 + x1) - 1)).toNatClampNeg)) + m 56 14) 93) hb26 (S' := (71, [some (.ref 58), some (.int x1)], [.int (m 59 (((21 + (8 * m 59 (((13 + x1) - 1)).toNatClampNeg)) + m 56 14)).toNatClampNeg)], qMM n m lm)) rfl ?_
              by_cases hc27 : m 59 (((21 + (8 * m 59 (((13 + x1) - 1)).toNatClampNeg)) + m 56 14)).toNatClampNeg = 0
              · rw [if_pos hc27] at h
                refine q_ev_brT hc27 (a := 74) (b := 76) rfl ?_
                refine q_ev_run 1 (S' := (75, [some (.ref 58), some (.int x1)], [.int 0], qMM n m lm)) rfl ?_
                obtain rfl := (Option.some.inj h).symm
                rw [hr _ _ rfl]
                exact q_ev_ret rfl rfl
              · rw [if_neg hc27] at h
                refine q_ev_brF hc27 (a := 74) (b := 76) rfl ?_
                refine q_ev_run 7 (S' := (88, [some (.ref 58), some (.int x1)], [.int (m 56 14), .int (13 + x1), .ref 61], qMM n m lm)) rfl ?_
                obtain ⟨hb28, h⟩ := q_cd h
                refine q_ev_chk (b := q_in (13 + x1) 93) hb28 (S' := (89, [some (.ref 58), some (.int x1)], [], qMM n (q_w m 59 ((13 + x1)).toNatClampNeg (m 56 14)) lm)) rfl ?_
                refine q_ev_run 2 (S' := (93, [some (.ref 58), some (.int (x1 + 1))], [.ref 58], qMM n (q_w m 59 ((13 + x1)).toNatClampNeg (m 56 14)) lm)) rfl ?_
                obtain ⟨m29, hf30, h⟩ := Option.bind_eq_some_iff.mp h
                try dsimp only at h
                refine q_ev_call (S' := (96, [some (.ref 58), some (.int (x1 + 1))], [], qMM n (q_w m 59 ((13 + x1)).toNatClampNeg (m 56 14)) lm)) rfl (by omega) (T_Mo_token (by first | omega | decide) hf30) ?_
                refine q_ev_eq (S' := (96, [some (.ref 58), some (.int (x1 + 1))], [], qMM n m29 lm)) rfl ?_
                refine q_ev_run 1 (S' := (6, [some (.ref 58), some (.int (x1 + 1))], [], qMM n m29 lm)) rfl ?_
                exact ih m29 (x1 + 1) _ h hr hk
      · rw [if_neg hc16] at h
        refine q_ev_brF hc16 (a := 18) (b := 99) rfl ?_
        obtain rfl := (Option.some.inj h).symm
        exact hk _ _ rfl 
noncomputable def F_Mo_readsCourse (m : (Nat → Nat → Int32)) : Option (Int32 × (Nat → Nat → Int32)) :=
  Option.bind (F_Mo_token m) (fun m1 =>
    Option.bind (FL_Mo_readsCourse_6 qFU m1 0) (fun o6 => match o6 with
      | .inl (v0, v1) => some (v0, v1)
      | .inr (y3, m4) =>
        some (1, (q_w m4 59 2 y3))))
theorem T_Mo_readsCourse {Ln : Nat} {xs : Nat → Int32} {n : (Nat → Nat → Int32)} {lm : Nat → Int64} {d : Nat} (hd : 3 ≤ d) {m : (Nat → Nat → Int32)} {rv : Int32} {m1 : (Nat → Nat → Int32)} (h : F_Mo_readsCourse m = some (rv, m1)) : q_Ev (qXT Ln xs) d 122 (0, [some (.ref 58), none], [], qMM n m lm) (some (.int rv), qMM n m1 lm) := by
  unfold F_Mo_readsCourse at h
  refine q_ev_run 1 (S' := (1, [some (.ref 58), none], [.ref 58], qMM n m lm)) rfl ?_
  obtain ⟨m1, hf2, h⟩ := Option.bind_eq_some_iff.mp h
  try dsimp only at h
  refine q_ev_call (S' := (4, [some (.ref 58), none], [], qMM n m lm)) rfl (by omega) (T_Mo_token (by first | omega | decide) hf2) ?_
  refine q_ev_eq (S' := (4, [some (.ref 58), none], [], qMM n m1 lm)) rfl ?_
  refine q_ev_run 2 (S' := (6, [some (.ref 58), some (.int 0)], [], qMM n m1 lm)) rfl ?_
  obtain ⟨o6, hl5, h⟩ := Option.bind_eq_some_iff.mp h
  rcases o6 with ⟨v0, v1⟩ | ⟨y3, m4⟩
  · have h_z0 := Option.some.inj h
    obtain ⟨h_0, h_z1⟩ := Prod.mk.inj h_z0
    subst h_0
    subst h_z1
    exact TL_Mo_readsCourse_6 (by first | omega | decide) _ m1 0 _ hl5 (fun _ _ hh => by cases hh; rfl) (fun _ _ hh => by cases hh)
  · refine TL_Mo_readsCourse_6 (by first | omega | decide) _ m1 0 _ hl5 (fun _ _ hh => by cases hh) (fun _ _ hh  => ?_)
    cases hh
    try dsimp only at h
    refine q_ev_run 6 (S' := (107, [some (.ref 58), some (.int y3)], [.int 1], qMM n (q_w m4 59 2 y3) lm)) rfl ?_
    have h_z0 := Option.some.inj h
    obtain ⟨h_0, h_z1⟩ := Prod.mk.inj h_z0
    subst h_0
    subst h_z1
    exact q_ev_ret rfl rfl
noncomputable def F_Mo_readsTwo (m : (Nat → Nat → Int32)) : Option (Int32 × (Nat → Nat → Int32)) :=
  Option.bind (F_Mo_token m) (fun m1 =>
    Option.bind (F_Mo_isNumber m1 0 (m1 59 0 - 1)) (fun r3 =>
      if r3 = 0 then
        some ((Int32.ofInt (-9)), m1)
      else
        Option.bind (F_Mo_token m1) (fun m6 =>
          Option.bind (F_Mo_isNumber m6 0 (m6 59 0 - 1)) (fun r8 =>
            if r8 = 0 then
              some ((Int32.ofInt (-9)), m6)
            else
              if m6 56 14 = m1 56 14 then
                some ((Int32.ofInt (-9)), m6)
              else
                some (((8 * m1 56 14) + m6 56 14), m6)))))
theorem T_Mo_readsTwo {Ln : Nat} {xs : Nat → Int32} {n : (Nat → Nat → Int32)} {lm : Nat → Int64} {d : Nat} (hd : 3 ≤ d) {m : (Nat → Nat → Int32)} {rv : Int32} {m1 : (Nat → Nat → Int32)} (h : F_Mo_readsTwo m = some (rv, m1)) : q_Ev (qXT Ln xs) d 116 (0, [some (.ref 58), none], [], qMM n m lm) (some (.int rv), qMM n m1 lm) := by
  unfold F_Mo_readsTwo at h
  refine q_ev_run 1 (S' := (1, [some (.ref 58), none], [.ref 58], qMM n m lm)) rfl ?_
  obtain ⟨m1, hf2, h⟩ := Option.bind_eq_some_iff.mp h
  try dsimp only at h
  refine q_ev_call (S' := (4, [some (.ref 58), none], [], qMM n m lm)) rfl (by omega) (T_Mo_token (by first | omega | decide) hf2) ?_
  refine q_ev_eq (S' := (4, [some (.ref 58), none], [], qMM n m1 lm)) rfl ?_
  refine q_ev_run 11 (S' := (19, [some (.ref 58), some (.int (m1 56 14))], [.int (m1 59 0 - 1), .int 0, .ref 58], qMM n m1 lm)) rfl ?_
  obtain ⟨r3, hf4, h⟩ := Option.bind_eq_some_iff.mp h
  try dsimp only at h
  refine q_ev_call (S' := (22, [some (.ref 58), some (.int (m1 56 14))], [], qMM n m1 lm)) rfl (by omega) (T_Mo_isNumber (by first | omega | decide) hf4) ?_
  refine q_ev_eq (S' := (22, [some (.ref 58), some (.int (m1 56 14))], [.int r3], qMM n m1 lm)) rfl ?_
  by_cases hc5 : r3 = 0
  · rw [if_pos hc5] at h
    refine q_ev_brT hc5 (a := 25) (b := 28) rfl ?_
    refine q_ev_run 1 (S' := (27, [some (.ref 58), some (.int (m1 56 14))], [.int (Int32.ofInt (-9))], qMM n m1 lm)) rfl ?_
    have h_z0 := Option.some.inj h
    obtain ⟨h_0, h_z1⟩ := Prod.mk.inj h_z0
    subst h_0
    subst h_z1
    exact q_ev_ret rfl rfl
  · rw [if_neg hc5] at h
    refine q_ev_brF hc5 (a := 25) (b := 28) rfl ?_
    refine q_ev_run 1 (S' := (29, [some (.ref 58), some (.int (m1 56 14))], [.ref 58], qMM n m1 lm)) rfl ?_
    obtain ⟨m6, hf7, h⟩ := Option.bind_eq_some_iff.mp h
    try dsimp only at h
    refine q_ev_call (S' := (32, [some (.ref 58), some (.int (m1 56 14))], [], qMM n m1 lm)) rfl (by omega) (T_Mo_token (by first | omega | decide) hf7) ?_
    refine q_ev_eq (S' := (32, [some (.ref 58), some (.int (m1 56 14))], [], qMM n m6 lm)) rfl ?_
    refine q_ev_run 8 (S' := (42, [some (.ref 58), some (.int (m1 56 14))], [.int (m6 59 0 - 1), .int 0, .ref 58], qMM n m6 lm)) rfl ?_
    obtain ⟨r8, hf9, h⟩ := Option.bind_eq_some_iff.mp h
    try dsimp only at h
    refine q_ev_call (S' := (45, [some (.ref 58), some (.int (m1 56 14))], [], qMM n m6 lm)) rfl (by omega) (T_Mo_isNumber (by first | omega | decide) hf9) ?_
    refine q_ev_eq (S' := (45, [some (.ref 58), some (.int (m1 56 14))], [.int r8], qMM n m6 lm)) rfl ?_
    by_cases hc10 : r8 = 0
    · rw [if_pos hc10] at h
      refine q_ev_brT hc10 (a := 68) (b := 48) rfl ?_
      refine q_ev_run 1 (S' := (70, [some (.ref 58), some (.int (m1 56 14))], [.int (Int32.ofInt (-9))], qMM n m6 lm)) rfl ?_
      have h_z0 := Option.some.inj h
      obtain ⟨h_0, h_z1⟩ := Prod.mk.inj h_z0
      subst h_0
      subst h_z1
      exact q_ev_ret rfl rfl
    · rw [if_neg hc10] at h
      refine q_ev_brF hc10 (a := 68) (b := 48) rfl ?_
      refine q_ev_run 3 (S' := (53, [some (.ref 58), some (.int (m1 56 14))], [.int (m1 56 14), .int (m6 56 14)], qMM n m6 lm)) rfl ?_
      by_cases hc11 : m6 56 14 = m1 56 14
      · rw [if_pos hc11] at h
        refine q_ev_brT hc11 (a := 68) (b := 56) rfl ?_
        refine q_ev_run 1 (S' := (70, [some (.ref 58), some (.int (m1 56 14))], [.int (Int32.ofInt (-9))], qMM n m6 lm)) rfl ?_
        have h_z0 := Option.some.inj h
        obtain ⟨h_0, h_z1⟩ := Prod.mk.inj h_z0
        subst h_0
        subst h_z1
        exact q_ev_ret rfl rfl
      · rw [if_neg hc11] at h
        refine q_ev_brF hc11 (a := 68) (b := 56) rfl ?_
        refine q_ev_run 7 (S' := (70, [some (.ref 58), some (.int (m1 56 14))], [.int ((8 * m1 56 14) + m6 56 14)], qMM n m6 lm)) rfl ?_
        have h_z0 := Option.some.inj h
        obtain ⟨h_0, h_z1⟩ := Prod.mk.inj h_z0
        subst h_0
        subst h_z1
        exact q_ev_ret rfl rfl
noncomputable def F_Mo_readsFurrow (m : (Nat → Nat → Int32)) : Option (Int32 × (Nat → Nat → Int32)) :=
  Option.bind (F_Mo_readsTwo m) (fun (r1, m2) =>
    if r1 = (Int32.ofInt (-9)) then
      some (0, m2)
    else
      Option.bind (F_Mo_token m2) (fun m5 =>
        Option.bind (F_Mo_isNumber m5 1 9) (fun r7 =>
          if r7 = 0 then
            some (0, m5)
          else
            cond (q_in (21 + r1) 93) (
              cond (q_in ((21 + ((r1 - r1 / 8 * 8) * 8)) + (r1 / 8)) 93) (
                Option.bind (F_Mo_token (q_w (q_w m5 59 ((21 + r1)).toNatClampNeg (m5 56 14)) 59 (((21 + ((r1 - r1 / 8 * 8) * 8)) + (r1 / 8))).toNatClampNeg (m5 56 14))) (fun m12 =>
                  some (1, m12))
               ) none
             ) none)))
theorem T_Mo_readsFurrow {Ln : Nat} {xs : Nat → Int32} {n : (Nat → Nat → Int32)} {lm : Nat → Int64} {d : Nat} (hd : 4 ≤ d) {m : (Nat → Nat → Int32)} {rv : Int32} {m1 : (Nat → Nat → Int32)} (h : F_Mo_readsFurrow m = some (rv, m1)) : q_Ev (qXT Ln xs) d 117 (0, [some (.ref 58), none], [], qMM n m lm) (some (.int rv), qMM n m1 lm) := by
  unfold F_Mo_readsFurrow at h
  refine q_ev_run 1 (S' := (1, [some (.ref 58), none], [.ref 58], qMM n m lm)) rfl ?_
  obtain ⟨⟨r1, m2⟩, hf3, h⟩ := Option.bind_eq_some_iff.mp h
  try dsimp only at h
  refine q_ev_call (S' := (4, [some (.ref 58), none], [], qMM n m lm)) rfl (by omega) (T_Mo_readsTwo (by first | omega | decide) hf3) ?_
  refine q_ev_eq (S' := (4, [some (.ref 58), none], [.int r1], qMM n m2 lm)) rfl ?_
  refine q_ev_run 3 (S' := (8, [some (.ref 58), some (.int r1)], [.int (Int32.ofInt (-9)), .int r1], qMM n m2 lm)) rfl ?_
  by_cases hc4 : r1 = (Int32.ofInt (-9))
  · rw [if_pos hc4] at h
    refine q_ev_brT hc4 (a := 11) (b := 13) rfl ?_
    refine q_ev_run 1 (S' := (12, [some (.ref 58), some (.int r1)], [.int 0], qMM n m2 lm)) rfl ?_
    have h_z0 := Option.some.inj h
    obtain ⟨h_0, h_z1⟩ := Prod.mk.inj h_z0
    subst h_0
    subst h_z1
    exact q_ev_ret rfl rfl
  · rw [if_neg hc4] at h
    refine q_ev_brF hc4 (a := 11) (b := 13) rfl ?_
    refine q_ev_run 1 (S' := (14, [some (.ref 58), some (.int r1)], [.ref 58], qMM n m2 lm)) rfl ?_
    obtain ⟨m5, hf6, h⟩ := Option.bind_eq_some_iff.mp h
    try dsimp only at h
    refine q_ev_call (S' := (17, [some (.ref 58), some (.int r1)], [], qMM n m2 lm)) rfl (by omega) (T_Mo_token (by first | omega | decide) hf6) ?_
    refine q_ev_eq (S' := (17, [some (.ref 58), some (.int r1)], [], qMM n m5 lm)) rfl ?_
    refine q_ev_run 3 (S' := (21, [some (.ref 58), some (.int r1)], [.int 9, .int 1, .ref 58], qMM n m5 lm)) rfl ?_
    obtain ⟨r7, hf8, h⟩ := Option.bind_eq_some_iff.mp h
    try dsimp only at h
    refine q_ev_call (S' := (24, [some (.ref 58), some (.int r1)], [], qMM n m5 lm)) rfl (by omega) (T_Mo_isNumber (by first | omega | decide) hf8) ?_
    refine q_ev_eq (S' := (24, [some (.ref 58), some (.int r1)], [.int r7], qMM n m5 lm)) rfl ?_
    by_cases hc9 : r7 = 0
    · rw [if_pos hc9] at h
      refine q_ev_brT hc9 (a := 27) (b := 29) rfl ?_
      refine q_ev_run 1 (S' := (28, [some (.ref 58), some (.int r1)], [.int 0], qMM n m5 lm)) rfl ?_
      have h_z0 := Option.some.inj h
      obtain ⟨h_0, h_z1⟩ := Prod.mk.inj h_z0
      subst h_0
      subst h_z1
      exact q_ev_ret rfl rfl
    · rw [if_neg hc9] at h
      refine q_ev_brF hc9 (a := 27) (b := 29) rfl ?_
      refine q_ev_run 7 (S' := (41, [some (.ref 58), some (.int r1)], [.int (m5 56 14), .int (21 + r1), .ref 61], qMM n m5 lm)) rfl ?_
      obtain ⟨hb10, h⟩ := q_cd h
      refine q_ev_chk (b := q_in (21 + r1) 93) hb10 (S' := (42, [some (.ref 58), some (.int r1)], [], qMM n (q_w m5 59 ((21 + r1)).toNatClampNeg (m5 56 14)) lm)) rfl ?_
      refine q_ev_run 15 (S' := (65, [some (.ref 58), some (.int r1)], [.int (m5 56 14), .int ((21 + ((r1 - r1 / 8 * 8) * 8)) + (r1 / 8)), .ref 61], qMM n (q_w m5 59 ((21 + r1)).toNatClampNeg (m5 56 14)) lm)) rfl ?_
      obtain ⟨hb11, h⟩ := q_cd h
      refine q_ev_chk (b := q_in ((21 + ((r1 - r1 / 8 * 8) * 8)) + (r1 / 8)) 93) hb11 (S' := (66, [some (.ref 58), some (.int r1)], [], qMM n (q_w (q_w m5 59 ((21 + r1)).toNatClampNeg (m5 56 14)) 59 (((21 + ((r1 - r1 / 8 * 8) * 8)) + (r1 / 8))).toNatClampNeg (m5 56 14)) lm)) rfl ?_
      refine q_ev_run 1 (S' := (67, [some (.ref 58), some (.int r1)], [.ref 58], qMM n (q_w (q_w m5 59 ((21 + r1)).toNatClampNeg (m5 56 14)) 59 (((21 + ((r1 - r1 / 8 * 8) * 8)) + (r1 / 8))).toNatClampNeg (m5 56 14)) lm)) rfl ?_
      obtain ⟨m12, hf13, h⟩ := Option.bind_eq_some_iff.mp h
      try dsimp only at h
      refine q_ev_call (S' := (70, [some (.ref 58), some (.int r1)], [], qMM n (q_w (q_w m5 59 ((21 + r1)).toNatClampNeg (m5 56 14)) 59 (((21 + ((r1 - r1 / 8 * 8) * 8)) + (r1 / 8))).toNatClampNeg (m5 56 14)) lm)) rfl (by omega) (T_Mo_token (by first | omega | decide) hf13) ?_
      refine q_ev_eq (S' := (70, [some (.ref 58), some (.int r1)], [], qMM n m12 lm)) rfl ?_
      refine q_ev_run 1 (S' := (71, [some (.ref 58), some (.int r1)], [.int 1], qMM n m12 lm)) rfl ?_
      have h_z0 := Option.some.inj h
      obtain ⟨h_0, h_z1⟩ := Prod.mk.inj h_z0
      subst h_0
      subst h_z1
      exact q_ev_ret rfl rfl
