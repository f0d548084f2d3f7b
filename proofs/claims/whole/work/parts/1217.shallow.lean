noncomputable def F_AT_keep (m : (Nat → Nat → Int32)) (a1 : Int32) : Option (Int32 × (Nat → Nat → Int32)) :=
  if a1 < 0 then
    some ((Int32.ofInt (-1)), m)
  else
    if a1 < 2 then
      if a1 = 0 then
        Option.bind (F_No_become_22_15 m) (fun m4 =>
          some (m4 15 1, (q_w m4 22 0 1)))
      else
        Option.bind (F_No_become_29_15 m) (fun m6 =>
          some (m6 15 1, (q_w m6 29 0 1)))
    else
      some ((Int32.ofInt (-1)), m)
theorem T_AT_keep {Ln : Nat} {xs : Nat → Int32} {n : (Nat → Nat → Int32)} {lm : Nat → Int64} {d : Nat} (hd : 1 ≤ d) {m : (Nat → Nat → Int32)} {a1 : Int32} {rv : Int32} {m1 : (Nat → Nat → Int32)} (h : F_AT_keep m a1 = some (rv, m1)) : q_Ev (qXT Ln xs) d 91 (0, [some (.ref 0), some (.int a1), none], [], qMM m n lm) (some (.int rv), qMM m1 n lm) := by
  unfold F_AT_keep at h
  refine q_ev_run 1 (S' := (1, [some (.ref 0), some (.int a1), none], [.int a1], qMM m n lm)) rfl ?_
  by_cases hc1 : a1 < 0
  · rw [if_pos hc1] at h
    refine q_ev_brT hc1 (a := 9) (b := 4) rfl ?_
    refine q_ev_run 1 (S' := (10, [some (.ref 0), some (.int a1), none], [.int (Int32.ofInt (-1))], qMM m n lm)) rfl ?_
    have h_z0 := Option.some.inj h
    obtain ⟨h_0, h_z1⟩ := Prod.mk.inj h_z0
    subst h_0
    subst h_z1
    exact q_ev_ret rfl rfl
  · rw [if_neg hc1] at h
    refine q_ev_brF hc1 (a := 9) (b := 4) rfl ?_
    refine q_ev_run 2 (S' := (6, [some (.ref 0), some (.int a1), none], [.int 2, .int a1], qMM m n lm)) rfl ?_
    by_cases hc2 : a1 < 2
    · rw [if_pos hc2] at h
      refine q_ev_brT hc2 (a := 11) (b := 9) rfl ?_
      refine q_ev_run 2 (S' := (13, [some (.ref 0), some (.int a1), none], [.int a1, .ref 0], qMM m n lm)) rfl ?_
      by_cases hc3 : a1 = 0
      · rw [if_pos hc3] at h
        refine q_ev_call (S' := (16, [some (.ref 0), some (.int a1), none], [], qMM m n lm)) rfl (by omega) (q_ev_run 1 (S' := (1, [some (.ref 0), some (.int a1)], [.int a1], qMM m n lm)) rfl (q_ev_brT hc3 (a := 4) (b := 11) rfl (q_ev_run 3 (S' := (15, [some (.ref 0), some (.int a1)], [.ref 24], qMM m n lm)) rfl (q_ev_ret rfl rfl)))) ?_
        refine q_ev_eq (S' := (16, [some (.ref 0), some (.int a1), none], [.ref 24], qMM m n lm)) rfl ?_
        refine q_ev_run 4 (S' := (22, [some (.ref 0), some (.int a1), some (.ref 24)], [.ref 17, .ref 24], qMM m n lm)) rfl ?_
        obtain ⟨m4, hf5, h⟩ := Option.bind_eq_some_iff.mp h
        try dsimp only at h
        refine q_ev_call (S' := (25, [some (.ref 0), some (.int a1), some (.ref 24)], [], qMM m n lm)) rfl (by omega) (T_No_become_22_15 (by first | omega | decide) hf5) ?_
        refine q_ev_eq (S' := (25, [some (.ref 0), some (.int a1), some (.ref 24)], [], qMM m4 n lm)) rfl ?_
        refine q_ev_run 6 (S' := (37, [some (.ref 0), some (.int a1), some (.ref 24)], [.int (m4 15 1)], qMM (q_w m4 22 0 1) n lm)) rfl ?_
        have h_z0 := Option.some.inj h
        obtain ⟨h_0, h_z1⟩ := Prod.mk.inj h_z0
        subst h_0
        subst h_z1
        exact q_ev_ret rfl rfl
      · rw [if_neg hc3] at h
        refine q_ev_call (S' := (16, [some (.ref 0), some (.int a1), none], [], qMM m n lm)) rfl (by omega) (q_ev_run 1 (S' := (1, [some (.ref 0), some (.int a1)], [.int a1], qMM m n lm)) rfl (q_ev_brF hc3 (a := 4) (b := 11) rfl (q_ev_run 2 (S' := (15, [some (.ref 0), some (.int a1)], [.ref 31], qMM m n lm)) rfl (q_ev_ret rfl rfl)))) ?_
        refine q_ev_eq (S' := (16, [some (.ref 0), some (.int a1), none], [.ref 31], qMM m n lm)) rfl ?_
        refine q_ev_run 4 (S' := (22, [some (.ref 0), some (.int a1), some (.ref 31)], [.ref 17, .ref 31], qMM m n lm)) rfl ?_
        obtain ⟨m6, hf7, h⟩ := Option.bind_eq_some_iff.mp h
        try dsimp only at h
        refine q_ev_call (S' := (25, [some (.ref 0), some (.int a1), some (.ref 31)], [], qMM m n lm)) rfl (by omega) (T_No_become_29_15 (by first | omega | decide) hf7) ?_
        refine q_ev_eq (S' := (25, [some (.ref 0), some (.int a1), some (.ref 31)], [], qMM m6 n lm)) rfl ?_
        refine q_ev_run 6 (S' := (37, [some (.ref 0), some (.int a1), some (.ref 31)], [.int (m6 15 1)], qMM (q_w m6 29 0 1) n lm)) rfl ?_
        have h_z0 := Option.some.inj h
        obtain ⟨h_0, h_z1⟩ := Prod.mk.inj h_z0
        subst h_0
        subst h_z1
        exact q_ev_ret rfl rfl
    · rw [if_neg hc2] at h
      refine q_ev_brF hc2 (a := 11) (b := 9) rfl ?_
      refine q_ev_run 1 (S' := (10, [some (.ref 0), some (.int a1), none], [.int (Int32.ofInt (-1))], qMM m n lm)) rfl ?_
      have h_z0 := Option.some.inj h
      obtain ⟨h_0, h_z1⟩ := Prod.mk.inj h_z0
      subst h_0
      subst h_z1
      exact q_ev_ret rfl rfl
noncomputable def FL_Mo_keep_13 : Nat → (Nat → Nat → Int32) → Int32 → Int32 → Option ((Nat → Nat → Int32))
  | 0, _, _, _ => none
  | fu + 1, m, x1, x2 =>
    if 65 ≤ x2 then
      some (m)
    else
      cond (q_in x2 65) (cond (q_in ((65 * x1) + x2) 130) (FL_Mo_keep_13 fu (q_w m 62 (((65 * x1) + x2)).toNatClampNeg (m 60 x2.toNatClampNeg)) x1 (x2 + 1)) none) none
theorem TL_Mo_keep_13 {Ln : Nat} {xs : Nat → Int32} {n : (Nat → Nat → Int32)} {lm : Nat → Int64} {d : Nat} (hd : 0 ≤ d) {r : Option Value × qM} : ∀ (fu : Nat) (m : (Nat → Nat → Int32)) (x1 : Int32) (x2 : Int32)  (m1 : (Nat → Nat → Int32)), FL_Mo_keep_13 fu m x1 x2 = some m1 → (∀ (u2 : Option Value), q_Ev (qXT Ln xs) d 165 (42, [some (.ref 58), some (.int x1), u2], [], qMM n m1 lm) r) → q_Ev (qXT Ln xs) d 165 (13, [some (.ref 58), some (.int x1), some (.int x2)], [], qMM n m lm) r := by
  intro fu
  induction fu with
  | zero => intro m x1 x2 m1 h hk; cases h
  | succ fu ih =>
    intro m x1 x2 m1 h hk
    rw [FL_Mo_keep_13] at h
    refine q_ev_run 2 (S' := (16, [some (.ref 58), some (.int x1), some (.int x2)], [.int 65, .int x2], qMM n m lm)) rfl ?_
    by_cases hc1 : 65 ≤ x2
    · rw [if_pos hc1] at h
      refine q_ev_brT hc1 (a := 42) (b := 19) rfl ?_
      have h_z0 := Option.some.inj h
      subst h_z0
      exact hk (some (.int x2))
    · rw [if_neg hc1] at h
      refine q_ev_brF hc1 (a := 42) (b := 19) rfl ?_
      refine q_ev_run 10 (S' := (34, [some (.ref 58), some (.int x1), some (.int x2)], [.int x2, .ref 62, .int ((65 * x1) + x2), .ref 64], qMM n m lm)) rfl ?_
      obtain ⟨hb2, h⟩ := q_cd h
      refine q_ev_chk (b := q_in x2 65) hb2 (S' := (35, [some (.ref 58), some (.int x1), some (.int x2)], [.int (m 60 x2.toNatClampNeg), .int ((65 * x1) + x2), .ref 64], qMM n m lm)) rfl ?_
      obtain ⟨hb3, h⟩ := q_cd h
      refine q_ev_chk (b := q_in ((65 * x1) + x2) 130) hb3 (S' := (36, [some (.ref 58), some (.int x1), some (.int x2)], [], qMM n (q_w m 62 (((65 * x1) + x2)).toNatClampNeg (m 60 x2.toNatClampNeg)) lm)) rfl ?_
      refine q_ev_run 2 (S' := (13, [some (.ref 58), some (.int x1), some (.int (x2 + 1))], [], qMM n (q_w m 62 (((65 * x1) + x2)).toNatClampNeg (m 60 x2.toNatClampNeg)) lm)) rfl ?_
      exact ih (q_w m 62 (((65 * x1) + x2)).toNatClampNeg (m 60 x2.toNatClampNeg)) x1 (x2 + 1) _ h hk
noncomputable def F_Mo_keep (m : (Nat → Nat → Int32)) (a1 : Int32) : Option (Int32 × (Nat → Nat → Int32)) :=
  Option.bind (F_Mo_in a1 0 1) (fun r1 =>
    if r1 = 0 then
      some ((Int32.ofInt (-1)), m)
    else
      Option.bind (FL_Mo_keep_13 qFU m a1 0) (fun m5 =>
        cond (q_in a1 2) (some (m5 60 0, (q_w m5 63 a1.toNatClampNeg 1))) none))
theorem T_Mo_keep {Ln : Nat} {xs : Nat → Int32} {n : (Nat → Nat → Int32)} {lm : Nat → Int64} {d : Nat} (hd : 1 ≤ d) {m : (Nat → Nat → Int32)} {a1 : Int32} {rv : Int32} {m1 : (Nat → Nat → Int32)} (h : F_Mo_keep m a1 = some (rv, m1)) : q_Ev (qXT Ln xs) d 165 (0, [some (.ref 58), some (.int a1), none], [], qMM n m lm) (some (.int rv), qMM n m1 lm) := by
  unfold F_Mo_keep at h
  refine q_ev_run 3 (S' := (3, [some (.ref 58), some (.int a1), none], [.int 1, .int 0, .int a1], qMM n m lm)) rfl ?_
  obtain ⟨r1, hf2, h⟩ := Option.bind_eq_some_iff.mp h
  try dsimp only at h
  refine q_ev_call (S' := (6, [some (.ref 58), some (.int a1), none], [], qMM n m lm)) rfl (by omega) (T_Mo_in (by first | omega | decide) hf2) ?_
  refine q_ev_eq (S' := (6, [some (.ref 58), some (.int a1), none], [.int r1], qMM n m lm)) rfl ?_
  by_cases hc3 : r1 = 0
  · rw [if_pos hc3] at h
    refine q_ev_brT hc3 (a := 9) (b := 11) rfl ?_
    refine q_ev_run 1 (S' := (10, [some (.ref 58), some (.int a1), none], [.int (Int32.ofInt (-1))], qMM n m lm)) rfl ?_
    have h_z0 := Option.some.inj h
    obtain ⟨h_0, h_z1⟩ := Prod.mk.inj h_z0
    subst h_0
    subst h_z1
    exact q_ev_ret rfl rfl
  · rw [if_neg hc3] at h
    refine q_ev_brF hc3 (a := 9) (b := 11) rfl ?_
    refine q_ev_run 2 (S' := (13, [some (.ref 58), some (.int a1), some (.int 0)], [], qMM n m lm)) rfl ?_
    obtain ⟨m5, hl6, h⟩ := Option.bind_eq_some_iff.mp h
    try dsimp only at h
    refine TL_Mo_keep_13 (by first | omega | decide) _ m a1 0 _ hl6 (fun w4 => ?_)
    refine q_ev_run 4 (S' := (48, [some (.ref 58), some (.int a1), w4], [.int 1, .int a1, .ref 65], qMM n m5 lm)) rfl ?_
    obtain ⟨hb7, h⟩ := q_cd h
    refine q_ev_chk (b := q_in a1 2) hb7 (S' := (49, [some (.ref 58), some (.int a1), w4], [], qMM n (q_w m5 63 a1.toNatClampNeg 1) lm)) rfl ?_
    refine q_ev_run 4 (S' := (55, [some (.ref 58), some (.int a1), w4], [.int (m5 60 0)], qMM n (q_w m5 63 a1.toNatClampNeg 1) lm)) rfl ?_
    have h_z0 := Option.some.inj h
    obtain ⟨h_0, h_z1⟩ := Prod.mk.inj h_z0
    subst h_0
    subst h_z1
    exact q_ev_ret rfl rfl
noncomputable def F_No_become_15_22 (m : (Nat → Nat → Int32)) : Option ((Nat → Nat → Int32)) :=
  some ((q_cw (q_cw (q_cw (q_cw (q_cw (q_cw (q_w m 15 1 (m 22 1)) 23 16 0 0 12) 24 17 0 0 12) 25 18 0 0 12) 26 19 0 0 12) 27 20 0 0 8) 28 21 0 0 8))
theorem T_No_become_15_22 {Ln : Nat} {xs : Nat → Int32} {n : (Nat → Nat → Int32)} {lm : Nat → Int64} {d : Nat} (hd : 0 ≤ d) {m : (Nat → Nat → Int32)} {m1 : (Nat → Nat → Int32)} (h : F_No_become_15_22 m = some m1) : q_Ev (qXT Ln xs) d 28 (0, [some (.ref 17), some (.ref 24)], [], qMM m n lm) (none, qMM m1 n lm) := by
  unfold F_No_become_15_22 at h
  refine q_ev_run 52 (S' := (98, [some (.ref 17), some (.ref 24)], [], qMM (q_cw (q_cw (q_cw (q_cw (q_cw (q_cw (q_w m 15 1 (m 22 1)) 23 16 0 0 12) 24 17 0 0 12) 25 18 0 0 12) 26 19 0 0 12) 27 20 0 0 8) 28 21 0 0 8) n lm)) rfl ?_
  have h_z0 := Option.some.inj h
  subst h_z0
  exact q_ev_ret rfl rfl
noncomputable def F_No_become_15_29 (m : (Nat → Nat → Int32)) : Option ((Nat → Nat → Int32)) :=
  some ((q_cw (q_cw (q_cw (q_cw (q_cw (q_cw (q_w m 15 1 (m 29 1)) 30 16 0 0 12) 31 17 0 0 12) 32 18 0 0 12) 33 19 0 0 12) 34 20 0 0 8) 35 21 0 0 8))
theorem T_No_become_15_29 {Ln : Nat} {xs : Nat → Int32} {n : (Nat → Nat → Int32)} {lm : Nat → Int64} {d : Nat} (hd : 0 ≤ d) {m : (Nat → Nat → Int32)} {m1 : (Nat → Nat → Int32)} (h : F_No_become_15_29 m = some m1) : q_Ev (qXT Ln xs) d 28 (0, [some (.ref 17), some (.ref 31)], [], qMM m n lm) (none, qMM m1 n lm) := by
  unfold F_No_become_15_29 at h
  refine q_ev_run 52 (S' := (98, [some (.ref 17), some (.ref 31)], [], qMM (q_cw (q_cw (q_cw (q_cw (q_cw (q_cw (q_w m 15 1 (m 29 1)) 30 16 0 0 12) 31 17 0 0 12) 32 18 0 0 12) 33 19 0 0 12) 34 20 0 0 8) 35 21 0 0 8) n lm)) rfl ?_
  have h_z0 := Option.some.inj h
  subst h_z0
  exact q_ev_ret rfl rfl
noncomputable def F_AT_back (m : (Nat → Nat → Int32)) (a1 : Int32) : Option (Int32 × (Nat → Nat → Int32)) :=
  if a1 < 0 then
    some ((Int32.ofInt (-1)), m)
  else
    if a1 < 2 then
      if a1 = 0 then
        if m 22 0 = 0 then
          some ((Int32.ofInt (-2)), m)
        else
          Option.bind (F_No_become_15_22 m) (fun m5 =>
            Option.bind (F_Ru_follow_39_9_20 (q_w m5 36 0 0)) (fun m7 =>
              some (m7 15 1, m7)))
      else
        if m 29 0 = 0 then
          some ((Int32.ofInt (-2)), m)
        else
          Option.bind (F_No_become_15_29 m) (fun m10 =>
            Option.bind (F_Ru_follow_39_9_20 (q_w m10 36 0 0)) (fun m12 =>
              some (m12 15 1, m12)))
    else
      some ((Int32.ofInt (-1)), m)
theorem T_AT_back {Ln : Nat} {xs : Nat → Int32} {n : (Nat → Nat → Int32)} {lm : Nat → Int64} {d : Nat} (hd : 4 ≤ d) {m : (Nat → Nat → Int32)} {a1 : Int32} {rv : Int32} {m1 : (Nat → Nat → Int32)} (h : F_AT_back m a1 = some (rv, m1)) : q_Ev (qXT Ln xs) d 92 (0, [some (.ref 0), some (.int a1), none], [], qMM m n lm) (some (.int rv), qMM m1 n lm) := by
  unfold F_AT_back at h
  refine q_ev_run 1 (S' := (1, [some (.ref 0), some (.int a1), none], [.int a1], qMM m n lm)) rfl ?_
  by_cases hc1 : a1 < 0
  · rw [if_pos hc1] at h
    refine q_ev_brT hc1 (a := 9) (b := 4) rfl ?_
    refine q_ev_run 1 (S' := (10, [some (.ref 0), some (.int a1), none], [.int (Int32.ofInt (-1))], qMM m n lm)) rfl ?_
    have h_z0 := Option.some.inj h
    obtain ⟨h_0, h_z1⟩ := Prod.mk.inj h_z0
    subst h_0
    subst h_z1
    exact q_ev_ret rfl rfl
  · rw [if_neg hc1] at h
    refine q_ev_brF hc1 (a := 9) (b := 4) rfl ?_
    refine q_ev_run 2 (S' := (6, [some (.ref 0), some (.int a1), none], [.int 2, .int a1], qMM m n lm)) rfl ?_
    by_cases hc2 : a1 < 2
    · rw [if_pos hc2] at h
      refine q_ev_brT hc2 (a := 11) (b := 9) rfl ?_
      refine q_ev_run 2 (S' := (13, [some (.ref 0), some (.int a1), none], [.int a1, .ref 0], qMM m n lm)) rfl ?_
      by_cases hc3 : a1 = 0
      · rw [if_pos hc3] at h
        refine q_ev_call (S' := (16, [some (.ref 0), some (.int a1), none], [], qMM m n lm)) rfl (by omega) (q_ev_run 1 (S' := (1, [some (.ref 0), some (.int a1)], [.int a1], qMM m n lm)) rfl (q_ev_brT hc3 (a := 4) (b := 11) rfl (q_ev_run 3 (S' := (15, [some (.ref 0), some (.int a1)], [.ref 24], qMM m n lm)) rfl (q_ev_ret rfl rfl)))) ?_
        refine q_ev_eq (S' := (16, [some (.ref 0), some (.int a1), none], [.ref 24], qMM m n lm)) rfl ?_
        refine q_ev_run 3 (S' := (21, [some (.ref 0), some (.int a1), some (.ref 24)], [.int (m 22 0)], qMM m n lm)) rfl ?_
        by_cases hc4 : m 22 0 = 0
        · rw [if_pos hc4] at h
          refine q_ev_brT hc4 (a := 24) (b := 27) rfl ?_
          refine q_ev_run 1 (S' := (26, [some (.ref 0), some (.int a1), some (.ref 24)], [.int (Int32.ofInt (-2))], qMM m n lm)) rfl ?_
          have h_z0 := Option.some.inj h
          obtain ⟨h_0, h_z1⟩ := Prod.mk.inj h_z0
          subst h_0
          subst h_z1
          exact q_ev_ret rfl rfl
        · rw [if_neg hc4] at h
          refine q_ev_brF hc4 (a := 24) (b := 27) rfl ?_
          refine q_ev_run 3 (S' := (32, [some (.ref 0), some (.int a1), some (.ref 24)], [.ref 24, .ref 17], qMM m n lm)) rfl ?_
          obtain ⟨m5, hf6, h⟩ := Option.bind_eq_some_iff.mp h
          try dsimp only at h
          refine q_ev_call (S' := (35, [some (.ref 0), some (.int a1), some (.ref 24)], [], qMM m n lm)) rfl (by omega) (T_No_become_15_22 (by first | omega | decide) hf6) ?_
          refine q_ev_eq (S' := (35, [some (.ref 0), some (.int a1), some (.ref 24)], [], qMM m5 n lm)) rfl ?_
          refine q_ev_run 11 (S' := (58, [some (.ref 0), some (.int a1), some (.ref 24)], [.ref 22, .ref 11, .ref 41], qMM (q_w m5 36 0 0) n lm)) rfl ?_
          obtain ⟨m7, hf8, h⟩ := Option.bind_eq_some_iff.mp h
          try dsimp only at h
          refine q_ev_call (S' := (61, [some (.ref 0), some (.int a1), some (.ref 24)], [], qMM (q_w m5 36 0 0) n lm)) rfl (by omega) (T_Ru_follow_39_9_20 (by first | omega | decide) hf8) ?_
          refine q_ev_eq (S' := (61, [some (.ref 0), some (.int a1), some (.ref 24)], [], qMM m7 n lm)) rfl ?_
          refine q_ev_run 3 (S' := (68, [some (.ref 0), some (.int a1), some (.ref 24)], [.int (m7 15 1)], qMM m7 n lm)) rfl ?_
          have h_z0 := Option.some.inj h
          obtain ⟨h_0, h_z1⟩ := Prod.mk.inj h_z0
          subst h_0
          subst h_z1
          exact q_ev_ret rfl rfl
      · rw [if_neg hc3] at h
        refine q_ev_call (S' := (16, [some (.ref 0), some (.int a1), none], [], qMM m n lm)) rfl (by omega) (q_ev_run 1 (S' := (1, [some (.ref 0), some (.int a1)], [.int a1], qMM m n lm)) rfl (q_ev_brF hc3 (a := 4) (b := 11) rfl (q_ev_run 2 (S' := (15, [some (.ref 0), some (.int a1)], [.ref 31], qMM m n lm)) rfl (q_ev_ret rfl rfl)))) ?_
        refine q_ev_eq (S' := (16, [some (.ref 0), some (.int a1), none], [.ref 31], qMM m n lm)) rfl ?_
        refine q_ev_run 3 (S' := (21, [some (.ref 0), some (.int a1), some (.ref 31)], [.int (m 29 0)], qMM m n lm)) rfl ?_
        by_cases hc9 : m 29 0 = 0
        · rw [if_pos hc9] at h
          refine q_ev_brT hc9 (a := 24) (b := 27) rfl ?_
          refine q_ev_run 1 (S' := (26, [some (.ref 0), some (.int a1), some (.ref 31)], [.int (Int32.ofInt (-2))], qMM m n lm)) rfl ?_
          have h_z0 := Option.some.inj h
          obtain ⟨h_0, h_z1⟩ := Prod.mk.inj h_z0
          subst h_0
          subst h_z1
          exact q_ev_ret rfl rfl
        · rw [if_neg hc9] at h
          refine q_ev_brF hc9 (a := 24) (b := 27) rfl ?_
          refine q_ev_run 3 (S' := (32, [some (.ref 0), some (.int a1), some (.ref 31)], [.ref 31, .ref 17], qMM m n lm)) rfl ?_
          obtain ⟨m10, hf11, h⟩ := Option.bind_eq_some_iff.mp h
          try dsimp only at h
          refine q_ev_call (S' := (35, [some (.ref 0), some (.int a1), some (.ref 31)], [], qMM m n lm)) rfl (by omega) (T_No_become_15_29 (by first | omega | decide) hf11) ?_
          refine q_ev_eq (S' := (35, [some (.ref 0), some (.int a1), some (.ref 31)], [], qMM m10 n lm)) rfl ?_
          refine q_ev_run 11 (S' := (58, [some (.ref 0), some (.int a1), some (.ref 31)], [.ref 22, .ref 11, .ref 41], qMM (q_w m10 36 0 0) n lm)) rfl ?_
          obtain ⟨m12, hf13, h⟩ := Option.bind_eq_some_iff.mp h
          try dsimp only at h
          refine q_ev_call (S' := (61, [some (.ref 0), some (.int a1), some (.ref 31)], [], qMM (q_w m10 36 0 0) n lm)) rfl (by omega) (T_Ru_follow_39_9_20 (by first | omega | decide) hf13) ?_
          refine q_ev_eq (S' := (61, [some (.ref 0), some (.int a1), some (.ref 31)], [], qMM m12 n lm)) rfl ?_
          refine q_ev_run 3 (S' := (68, [some (.ref 0), some (.int a1), some (.ref 31)], [.int (m12 15 1)], qMM m12 n lm)) rfl ?_
          have h_z0 := Option.some.inj h
          obtain ⟨h_0, h_z1⟩ := Prod.mk.inj h_z0
          subst h_0
          subst h_z1
          exact q_ev_ret rfl rfl
    · rw [if_neg hc2] at h
      refine q_ev_brF hc2 (a := 11) (b := 9) rfl ?_
      refine q_ev_run 1 (S' := (10, [some (.ref 0), some (.int a1), none], [.int (Int32.ofInt (-1))], qMM m n lm)) rfl ?_
      have h_z0 := Option.some.inj h
      obtain ⟨h_0, h_z1⟩ := Prod.mk.inj h_z0
      subst h_0
      subst h_z1
      exact q_ev_ret rfl rfl
noncomputable def FL_Mo_back_25 : Nat → (Nat → Nat → Int32) → Int32 → Int32 → Option ((Nat → Nat → Int32))
  | 0, _, _, _ => none
  | fu + 1, m, x1, x2 =>
    if 65 ≤ x2 then
      some (m)
    else
      cond (q_in ((65 * x1) + x2) 130) (cond (q_in x2 65) (FL_Mo_back_25 fu (q_w m 60 x2.toNatClampNeg (m 62 (((65 * x1) + x2)).toNatClampNeg)) x1 (x2 + 1)) none) none
theorem TL_Mo_back_25 {Ln : Nat} {xs : Nat → Int32} {n : (Nat → Nat → Int32)} {lm : Nat → Int64} {d : Nat} (hd : 0 ≤ d) {r : Option Value × qM} : ∀ (fu : Nat) (m : (Nat → Nat → Int32)) (x1 : Int32) (x2 : Int32)  (m1 : (Nat → Nat → Int32)), FL_Mo_back_25 fu m x1 x2 = some m1 → (∀ (u2 : Option Value), q_Ev (qXT Ln xs) d 166 (54, [some (.ref 58), some (.int x1), u2], [], qMM n m1 lm) r) → q_Ev (qXT Ln xs) d 166 (25, [some (.ref 58), some (.int x1), some (.int x2)], [], qMM n m lm) r := by
  intro fu
  induction fu with
  | zero => intro m x1 x2 m1 h hk; cases h
  | succ fu ih =>
    intro m x1 x2 m1 h hk
    rw [FL_Mo_back_25] at h
    refine q_ev_run 2 (S' := (28, [some (.ref 58), some (.int x1), some (.int x2)], [.int 65, .int x2], qMM n m lm)) rfl ?_
    by_cases hc1 : 65 ≤ x2
    · rw [if_pos hc1] at h
      refine q_ev_brT hc1 (a := 54) (b := 31) rfl ?_
      have h_z0 := Option.some.inj h
      subst h_z0
      exact hk (some (.int x2))
    · rw [if_neg hc1] at h
      refine q_ev_brF hc1 (a := 54) (b := 31) rfl ?_
      refine q_ev_run 10 (S' := (46, [some (.ref 58), some (.int x1), some (.int x2)], [.int ((65 * x1) + x2), .ref 64, .int x2, .ref 62], qMM n m lm)) rfl ?_
      obtain ⟨hb2, h⟩ := q_cd h
      refine q_ev_chk (b := q_in ((65 * x1) + x2) 130) hb2 (S' := (47, [some (.ref 58), some (.int x1), some (.int x2)], [.int (m 62 (((65 * x1) + x2)).toNatClampNeg), .int x2, .ref 62], qMM n m lm)) rfl ?_
      obtain ⟨hb3, h⟩ := q_cd h
      refine q_ev_chk (b := q_in x2 65) hb3 (S' := (48, [some (.ref 58), some (.int x1), some (.int x2)], [], qMM n (q_w m 60 x2.toNatClampNeg (m 62 (((65 * x1) + x2)).toNatClampNeg)) lm)) rfl ?_
      refine q_ev_run 2 (S' := (25, [some (.ref 58), some (.int x1), some (.int (x2 + 1))], [], qMM n (q_w m 60 x2.toNatClampNeg (m 62 (((65 * x1) + x2)).toNatClampNeg)) lm)) rfl ?_
      exact ih (q_w m 60 x2.toNatClampNeg (m 62 (((65 * x1) + x2)).toNatClampNeg)) x1 (x2 + 1) _ h hk
noncomputable def F_Mo_back (m : (Nat → Nat → Int32)) (a1 : Int32) : Option (Int32 × (Nat → Nat → Int32)) :=
  Option.bind (F_Mo_in a1 0 1) (fun r1 =>
    if r1 = 0 then
      some ((Int32.ofInt (-1)), m)
    else
      cond (q_in a1 2) (
        if m 63 a1.toNatClampNeg = 0 then
          some ((Int32.ofInt (-2)), m)
        else
          Option.bind (FL_Mo_back_25 qFU m a1 0) (fun m7 =>
            some (m7 60 0, (q_w m7 56 7 0)))
       ) none)
theorem T_Mo_back {Ln : Nat} {xs : Nat → Int32} {n : (Nat → Nat → Int32)} {lm : Nat → Int64} {d : Nat} (hd : 1 ≤ d) {m : (Nat → Nat → Int32)} {a1 : Int32} {rv : Int32} {m1 : (Nat → Nat → Int32)} (h : F_Mo_back m a1 = some (rv, m1)) : q_Ev (qXT Ln xs) d 166 (0, [some (.ref 58), some (.int a1), none], [], qMM n m lm) (some (.int rv), qMM n m1 lm) := by
  unfold F_Mo_back at h
  refine q_ev_run 3 (S' := (3, [some (.ref 58), some (.int a1), none], [.int 1, .int 0, .int a1], qMM n m lm)) rfl ?_
  obtain ⟨r1, hf2, h⟩ := Option.bind_eq_some_iff.mp h
  try dsimp only at h
  refine q_ev_call (S' := (6, [some (.ref 58), some (.int a1), none], [], qMM n m lm)) rfl (by omega) (T_Mo_in (by first | omega | decide) hf2) ?_
  refine q_ev_eq (S' := (6, [some (.ref 58), some (.int a1), none], [.int r1], qMM n m lm)) rfl ?_
  by_cases hc3 : r1 = 0
  · rw [if_pos hc3] at h
    refine q_ev_brT hc3 (a := 9) (b := 11) rfl ?_
    refine q_ev_run 1 (S' := (10, [some (.ref 58), some (.int a1), none], [.int (Int32.ofInt (-1))], qMM n m lm)) rfl ?_
    have h_z0 := Option.some.inj h
    obtain ⟨h_0, h_z1⟩ := Prod.mk.inj h_z0
    subst h_0
    subst h_z1
    exact q_ev_ret rfl rfl
  · rw [if_neg hc3] at h
    refine q_ev_brF hc3 (a := 9) (b := 11) rfl ?_
    refine q_ev_run 3 (S' := (16, [some (.ref 58), some (.int a1), none], [.int a1, .ref 65], qMM n m lm)) rfl ?_
    obtain ⟨hb4, h⟩ := q_cd h
    refine q_ev_chk (b := q_in a1 2) hb4 (S' := (17, [some (.ref 58), some (.int a1), none], [.int (m 63 a1.toNatClampNeg)], qMM n m lm)) rfl ?_
    by_cases hc5 : m 63 a1.toNatClampNeg = 0
    · rw [if_pos hc5] at h
      refine q_ev_brT hc5 (a := 20) (b := 23) rfl ?_
      refine q_ev_run 1 (S' := (22, [some (.ref 58), some (.int a1), none], [.int (Int32.ofInt (-2))], qMM n m lm)) rfl ?_
      have h_z0 := Option.some.inj h
      obtain ⟨h_0, h_z1⟩ := Prod.mk.inj h_z0
      subst h_0
      subst h_z1
      exact q_ev_ret rfl rfl
    · rw [if_neg hc5] at h
      refine q_ev_brF hc5 (a := 20) (b := 23) rfl ?_
      refine q_ev_run 2 (S' := (25, [some (.ref 58), some (.int a1), some (.int 0)], [], qMM n m lm)) rfl ?_
      obtain ⟨m7, hl8, h⟩ := Option.bind_eq_some_iff.mp h
      try dsimp only at h
      refine TL_Mo_back_25 (by first | omega | decide) _ m a1 0 _ hl8 (fun w6 => ?_)
      refine q_ev_run 7 (S' := (65, [some (.ref 58), some (.int a1), w6], [.int (m7 60 0)], qMM n (q_w m7 56 7 0) lm)) rfl ?_
      have h_z0 := Option.some.inj h
      obtain ⟨h_0, h_z1⟩ := Prod.mk.inj h_z0
      subst h_0
      subst h_z1
      exact q_ev_ret rfl rfl
noncomputable def F_AT_count (m : (Nat → Nat → Int32)) (a1 : Int32) : Option (Int32) :=
  if a1 = 0 then
    some (m 9 0)
  else
  if a1 = 1 then
    some (m 9 1)
  else
  if a1 = 2 then
    some (m 9 2)
  else
  if a1 = 3 then
    some (m 15 1)
  else
  if a1 = 4 then
    some (m 1 1)
  else
  if a1 = 5 then
    some (m 9 3)
  else
  if a1 = 6 then
    some (m 9 4)
  else
  if a1 = 7 then
    some (m 9 5)
  else
    some ((Int32.ofInt (-1)))
theorem T_AT_count {Ln : Nat} {xs : Nat → Int32} {n : (Nat → Nat → Int32)} {lm : Nat → Int64} {d : Nat} (hd : 0 ≤ d) {m : (Nat → Nat → Int32)} {a1 : Int32} {rv : Int32} (h : F_AT_count m a1 = some rv) : q_Ev (qXT Ln xs) d 93 (0, [some (.ref 0), some (.int a1)], [], qMM m n lm) (some (.int rv), qMM m n lm) := by
  unfold F_AT_count at h
  refine q_ev_run 1 (S' := (1, [some (.ref 0), some (.int a1)], [.int a1], qMM m n lm)) rfl ?_
  by_cases hc1 : a1 = 0
  · rw [if_pos hc1] at h
    refine q_ev_sw (v := 48) (a := 48) (show q_sw a1 112 0 [48, 56, 64, 72, 80, 88, 96, 104] = 48 by rw [hc1]; rfl) rfl rfl ?_
    refine q_ev_run 3 (S' := (55, [some (.ref 0), some (.int a1)], [.int (m 9 0)], qMM m n lm)) rfl ?_
    have h_z0 := Option.some.inj h
    subst h_z0
    exact q_ev_ret rfl rfl
  rw [if_neg hc1] at h
  by_cases hc2 : a1 = 1
  · rw [if_pos hc2] at h
    refine q_ev_sw (v := 56) (a := 56) (show q_sw a1 112 0 [48, 56, 64, 72, 80, 88, 96, 104] = 56 by rw [hc2]; rfl) rfl rfl ?_
    refine q_ev_run 3 (S' := (63, [some (.ref 0), some (.int a1)], [.int (m 9 1)], qMM m n lm)) rfl ?_
    have h_z0 := Option.some.inj h
    subst h_z0
    exact q_ev_ret rfl rfl
  rw [if_neg hc2] at h
  by_cases hc3 : a1 = 2
  · rw [if_pos hc3] at h
    refine q_ev_sw (v := 64) (a := 64) (show q_sw a1 112 0 [48, 56, 64, 72, 80, 88, 96, 104] = 64 by rw [hc3]; rfl) rfl rfl ?_
    refine q_ev_run 3 (S' := (71, [some (.ref 0), some (.int a1)], [.int (m 9 2)], qMM m n lm)) rfl ?_
    have h_z0 := Option.some.inj h
    subst h_z0
    exact q_ev_ret rfl rfl
  rw [if_neg hc3] at h
  by_cases hc4 : a1 = 3
  · rw [if_pos hc4] at h
    refine q_ev_sw (v := 72) (a := 72) (show q_sw a1 112 0 [48, 56, 64, 72, 80, 88, 96, 104] = 72 by rw [hc4]; rfl) rfl rfl ?_
    refine q_ev_run 3 (S' := (79, [some (.ref 0), some (.int a1)], [.int (m 15 1)], qMM m n lm)) rfl ?_
    have h_z0 := Option.some.inj h
    subst h_z0
    exact q_ev_ret rfl rfl
  rw [if_neg hc4] at h
  by_cases hc5 : a1 = 4
  · rw [if_pos hc5] at h
    refine q_ev_sw (v := 80) (a := 80) (show q_sw a1 112 0 [48, 56, 64, 72, 80, 88, 96, 104] = 80 by rw [hc5]; rfl) rfl rfl ?_
    refine q_ev_run 3 (S' := (87, [some (.ref 0), some (.int a1)], [.int (m 1 1)], qMM m n lm)) rfl ?_
    have h_z0 := Option.some.inj h
    subst h_z0
    exact q_ev_ret rfl rfl
  rw [if_neg hc5] at h
  by_cases hc6 : a1 = 5
  · rw [if_pos hc6] at h
    refine q_ev_sw (v := 88) (a := 88) (show q_sw a1 112 0 [48, 56, 64, 72, 80, 88, 96, 104] = 88 by rw [hc6]; rfl) rfl rfl ?_
    refine q_ev_run 3 (S' := (95, [some (.ref 0), some (.int a1)], [.int (m 9 3)], qMM m n lm)) rfl ?_
    have h_z0 := Option.some.inj h
    subst h_z0
    exact q_ev_ret rfl rfl
  rw [if_neg hc6] at h
  by_cases hc7 : a1 = 6
  · rw [if_pos hc7] at h
    refine q_ev_sw (v := 96) (a := 96) (show q_sw a1 112 0 [48, 56, 64, 72, 80, 88, 96, 104] = 96 by rw [hc7]; rfl) rfl rfl ?_
    refine q_ev_run 3 (S' := (103, [some (.ref 0), some (.int a1)], [.int (m 9 4)], qMM m n lm)) rfl ?_
    have h_z0 := Option.some.inj h
    subst h_z0
    exact q_ev_ret rfl rfl
  rw [if_neg hc7] at h
  by_cases hc8 : a1 = 7
  · rw [if_pos hc8] at h
    refine q_ev_sw (v := 104) (a := 104) (show q_sw a1 112 0 [48, 56, 64, 72, 80, 88, 96, 104] = 104 by rw [hc8]; rfl) rfl rfl ?_
    refine q_ev_run 3 (S' := (111, [some (.ref 0), some (.int a1)], [.int (m 9 5)], qMM m n lm)) rfl ?_
    have h_z0 := Option.some.inj h
    subst h_z0
    exact q_ev_ret rfl rfl
  rw [if_neg hc8] at h
  refine q_ev_sw (v := 112) (a := 112) (show q_sw a1 112 0 [48, 56, 64, 72, 80, 88, 96, 104] = 112 from q_sw_nd (by show a1 ∉ ([0, 1, 2, 3, 4, 5, 6, 7] : List Int32); simp [hc1, hc2, hc3, hc4, hc5, hc6, hc7, hc8])) rfl rfl ?_
  refine q_ev_run 1 (S' := (113, [some (.ref 0), some (.int a1)], [.int (Int32.ofInt (-1))], qMM m n lm)) rfl ?_
  have h_z0 := Option.some.inj h
  subst h_z0
  exact q_ev_ret rfl rfl
noncomputable def F_Mo_count (m : (Nat → Nat → Int32)) (a1 : Int32) : Option (Int32) :=
  Option.bind (F_Mo_in a1 0 7) (fun r1 =>
    if r1 = 0 then
      some ((Int32.ofInt (-1)))
    else
      if 3 ≤ a1 then
        if a1 = 3 then
          some (m 60 0)
        else
          if a1 = 4 then
            some (m 56 2)
          else
            cond (q_in (a1 - 2) 93) (some (m 58 ((a1 - 2)).toNatClampNeg)) none
      else
        cond (q_in a1 93) (some (m 58 a1.toNatClampNeg)) none)
theorem T_Mo_count {Ln : Nat} {xs : Nat → Int32} {n : (Nat → Nat → Int32)} {lm : Nat → Int64} {d : Nat} (hd : 1 ≤ d) {m : (Nat → Nat → Int32)} {a1 : Int32} {rv : Int32} (h : F_Mo_count m a1 = some rv) : q_Ev (qXT Ln xs) d 167 (0, [some (.ref 58), some (.int a1)], [], qMM n m lm) (some (.int rv), qMM n m lm) := by
  unfold F_Mo_count at h
  refine q_ev_run 3 (S' := (4, [some (.ref 58), some (.int a1)], [.int 7, .int 0, .int a1], qMM n m lm)) rfl ?_
  obtain ⟨r1, hf2, h⟩ := Option.bind_eq_some_iff.mp h
  try dsimp only at h
  refine q_ev_call (S' := (7, [some (.ref 58), some (.int a1)], [], qMM n m lm)) rfl (by omega) (T_Mo_in (by first | omega | decide) hf2) ?_
  refine q_ev_eq (S' := (7, [some (.ref 58), some (.int a1)], [.int r1], qMM n m lm)) rfl ?_
  by_cases hc3 : r1 = 0
  · rw [if_pos hc3] at h
    refine q_ev_brT hc3 (a := 10) (b := 12) rfl ?_
    refine q_ev_run 1 (S' := (11, [some (.ref 58), some (.int a1)], [.int (Int32.ofInt (-1))], qMM n m lm)) rfl ?_
    have h_z0 := Option.some.inj h
    subst h_z0
    exact q_ev_ret rfl rfl
  · rw [if_neg hc3] at h
    refine q_ev_brF hc3 (a := 10) (b := 12) rfl ?_
    refine q_ev_run 2 (S' := (14, [some (.ref 58), some (.int a1)], [.int 3, .int a1], qMM n m lm)) rfl ?_
    by_cases hc4 : 3 ≤ a1
    · rw [if_pos hc4] at h
      refine q_ev_brT hc4 (a := 26) (b := 17) rfl ?_
      refine q_ev_run 2 (S' := (28, [some (.ref 58), some (.int a1)], [.int 3, .int a1], qMM n m lm)) rfl ?_
      by_cases hc5 : a1 = 3
      · rw [if_pos hc5] at h
        refine q_ev_brT hc5 (a := 31) (b := 40) rfl ?_
        refine q_ev_run 5 (S' := (60, [some (.ref 58), some (.int a1)], [.int (m 60 0)], qMM n m lm)) rfl ?_
        have h_z0 := Option.some.inj h
        subst h_z0
        exact q_ev_ret rfl rfl
      · rw [if_neg hc5] at h
        refine q_ev_brF hc5 (a := 31) (b := 40) rfl ?_
        refine q_ev_run 2 (S' := (42, [some (.ref 58), some (.int a1)], [.int 4, .int a1], qMM n m lm)) rfl ?_
        by_cases hc6 : a1 = 4
        · rw [if_pos hc6] at h
          refine q_ev_brT hc6 (a := 45) (b := 52) rfl ?_
          refine q_ev_run 3 (S' := (60, [some (.ref 58), some (.int a1)], [.int (m 56 2)], qMM n m lm)) rfl ?_
          have h_z0 := Option.some.inj h
          subst h_z0
          exact q_ev_ret rfl rfl
        · rw [if_neg hc6] at h
          refine q_ev_brF hc6 (a := 45) (b := 52) rfl ?_
          refine q_ev_run 5 (S' := (59, [some (.ref 58), some (.int a1)], [.int (a1 - 2), .ref 60], qMM n m lm)) rfl ?_
          obtain ⟨hb7, h⟩ := q_cd h
          refine q_ev_chk (b := q_in (a1 - 2) 93) hb7 (S' := (60, [some (.ref 58), some (.int a1)], [.int (m 58 ((a1 - 2)).toNatClampNeg)], qMM n m lm)) rfl ?_
          have h_z0 := Option.some.inj h
          subst h_z0
          exact q_ev_ret rfl rfl
    · rw [if_neg hc4] at h
      refine q_ev_brF hc4 (a := 26) (b := 17) rfl ?_
      refine q_ev_run 3 (S' := (22, [some (.ref 58), some (.int a1)], [.int a1, .ref 60], qMM n m lm)) rfl ?_
      obtain ⟨hb8, h⟩ := q_cd h
      refine q_ev_chk (b := q_in a1 93) hb8 (S' := (23, [some (.ref 58), some (.int a1)], [.int (m 58 a1.toNatClampNeg)], qMM n m lm)) rfl ?_
      refine q_ev_run 1 (S' := (60, [some (.ref 58), some (.int a1)], [.int (m 58 a1.toNatClampNeg)], qMM n m lm)) rfl ?_
      have h_z0 := Option.some.inj h
      subst h_z0
      exact q_ev_ret rfl rfl
noncomputable def F_AT_trace (m : (Nat → Nat → Int32)) (lm : (Nat → Int64)) : Option (Int64) :=
  some (lm 0)
theorem T_AT_trace {Ln : Nat} {xs : Nat → Int32} {n : (Nat → Nat → Int32)} {d : Nat} (hd : 0 ≤ d) {m : (Nat → Nat → Int32)} {lm : (Nat → Int64)} {rv : Int64} (h : F_AT_trace m lm = some rv) : q_Ev (qXT Ln xs) d 94 (0, [some (.ref 0)], [], qMM m n lm) (some (.long rv), qMM m n lm) := by
  unfold F_AT_trace at h
  refine q_ev_run 2 (S' := (4, [some (.ref 0)], [.long (lm 0)], qMM m n lm)) rfl ?_
  have h_z0 := Option.some.inj h
  subst h_z0
  exact q_ev_ret rfl rfl
noncomputable def F_Mo_trace (m : (Nat → Nat → Int32)) (lm : (Nat → Int64)) : Option (Int64) :=
  some (lm 56)
theorem T_Mo_trace {Ln : Nat} {xs : Nat → Int32} {n : (Nat → Nat → Int32)} {d : Nat} (hd : 0 ≤ d) {m : (Nat → Nat → Int32)} {lm : (Nat → Int64)} {rv : Int64} (h : F_Mo_trace m lm = some rv) : q_Ev (qXT Ln xs) d 168 (0, [some (.ref 58)], [], qMM n m lm) (some (.long rv), qMM n m lm) := by
  unfold F_Mo_trace at h
  refine q_ev_run 2 (S' := (4, [some (.ref 58)], [.long (lm 56)], qMM n m lm)) rfl ?_
  have h_z0 := Option.some.inj h
  subst h_z0
  exact q_ev_ret rfl rfl
