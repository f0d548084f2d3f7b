noncomputable def F_AT_waits (m : (Nat → Nat → Int32)) (a1 : Int32) (a2 : Int32) : Option (Int32 × (Nat → Nat → Int32)) :=
  Option.bind (F_Ru_hasPoint_39 m a1) (fun r1 =>
    if r1 = 0 then
      some ((Int32.ofInt (-1)), m)
    else
      if a2 < 0 then
        some ((Int32.ofInt (-1)), m)
      else
        if a2 ≤ 20 then
          cond (q_in a1 8) (
            Option.bind (F_Hi_noteWait_36 m a1 (m 20 a1.toNatClampNeg)) (fun m7 =>
              cond (q_in a1 8) (
                Option.bind (F_Ru_follow_39_9_20 (q_w m7 20 a1.toNatClampNeg a2)) (fun m10 =>
                  Option.bind (F_Ru_comesLast_39 m10) (fun r12 =>
                    some (r12, m10)))
               ) none)
           ) none
        else
          some ((Int32.ofInt (-1)), m))
theorem T_AT_waits {Ln : Nat} {xs : Nat → Int32} {n : (Nat → Nat → Int32)} {lm : Nat → Int64} {d : Nat} (hd : 4 ≤ d) {m : (Nat → Nat → Int32)} {a1 : Int32} {a2 : Int32} {rv : Int32} {m1 : (Nat → Nat → Int32)} (h : F_AT_waits m a1 a2 = some (rv, m1)) : q_Ev (qXT Ln xs) d 77 (0, [some (.ref 0), some (.int a1), some (.int a2)], [], qMM m n lm) (some (.int rv), qMM m1 n lm) := by
  unfold F_AT_waits at h
  refine q_ev_run 3 (S' := (5, [some (.ref 0), some (.int a1), some (.int a2)], [.int a1, .ref 41], qMM m n lm)) rfl ?_
  obtain ⟨r1, hf2, h⟩ := Option.bind_eq_some_iff.mp h
  try dsimp only at h
  refine q_ev_call (S' := (8, [some (.ref 0), some (.int a1), some (.int a2)], [], qMM m n lm)) rfl (by omega) (T_Ru_hasPoint_39 (by first | omega | decide) hf2) ?_
  refine q_ev_eq (S' := (8, [some (.ref 0), some (.int a1), some (.int a2)], [.int r1], qMM m n lm)) rfl ?_
  by_cases hc3 : r1 = 0
  · rw [if_pos hc3] at h
    refine q_ev_brT hc3 (a := 21) (b := 11) rfl ?_
    refine q_ev_run 1 (S' := (22, [some (.ref 0), some (.int a1), some (.int a2)], [.int (Int32.ofInt (-1))], qMM m n lm)) rfl ?_
    have h_z0 := Option.some.inj h
    obtain ⟨h_0, h_z1⟩ := Prod.mk.inj h_z0
    subst h_0
    subst h_z1
    exact q_ev_ret rfl rfl
  · rw [if_neg hc3] at h
    refine q_ev_brF hc3 (a := 21) (b := 11) rfl ?_
    refine q_ev_run 1 (S' := (12, [some (.ref 0), some (.int a1), some (.int a2)], [.int a2], qMM m n lm)) rfl ?_
    by_cases hc4 : a2 < 0
    · rw [if_pos hc4] at h
      refine q_ev_brT hc4 (a := 21) (b := 15) rfl ?_
      refine q_ev_run 1 (S' := (22, [some (.ref 0), some (.int a1), some (.int a2)], [.int (Int32.ofInt (-1))], qMM m n lm)) rfl ?_
      have h_z0 := Option.some.inj h
      obtain ⟨h_0, h_z1⟩ := Prod.mk.inj h_z0
      subst h_0
      subst h_z1
      exact q_ev_ret rfl rfl
    · rw [if_neg hc4] at h
      refine q_ev_brF hc4 (a := 21) (b := 15) rfl ?_
      refine q_ev_run 2 (S' := (18, [some (.ref 0), some (.int a1), some (.int a2)], [.int 20, .int a2], qMM m n lm)) rfl ?_
      by_cases hc5 : a2 ≤ 20
      · rw [if_pos hc5] at h
        refine q_ev_brT hc5 (a := 23) (b := 21) rfl ?_
        refine q_ev_run 7 (S' := (36, [some (.ref 0), some (.int a1), some (.int a2)], [.int a1, .ref 22, .int a1, .ref 38], qMM m n lm)) rfl ?_
        obtain ⟨hb6, h⟩ := q_cd h
        refine q_ev_chk (b := q_in a1 8) hb6 (S' := (37, [some (.ref 0), some (.int a1), some (.int a2)], [.int (m 20 a1.toNatClampNeg), .int a1, .ref 38], qMM m n lm)) rfl ?_
        obtain ⟨m7, hf8, h⟩ := Option.bind_eq_some_iff.mp h
        try dsimp only at h
        refine q_ev_call (S' := (40, [some (.ref 0), some (.int a1), some (.int a2)], [], qMM m n lm)) rfl (by omega) (T_Hi_noteWait_36 (by first | omega | decide) hf8) ?_
        refine q_ev_eq (S' := (40, [some (.ref 0), some (.int a1), some (.int a2)], [], qMM m7 n lm)) rfl ?_
        refine q_ev_run 5 (S' := (49, [some (.ref 0), some (.int a1), some (.int a2)], [.int a2, .int a1, .ref 22], qMM m7 n lm)) rfl ?_
        obtain ⟨hb9, h⟩ := q_cd h
        refine q_ev_chk (b := q_in a1 8) hb9 (S' := (50, [some (.ref 0), some (.int a1), some (.int a2)], [], qMM (q_w m7 20 a1.toNatClampNeg a2) n lm)) rfl ?_
        refine q_ev_run 7 (S' := (65, [some (.ref 0), some (.int a1), some (.int a2)], [.ref 22, .ref 11, .ref 41], qMM (q_w m7 20 a1.toNatClampNeg a2) n lm)) rfl ?_
        obtain ⟨m10, hf11, h⟩ := Option.bind_eq_some_iff.mp h
        try dsimp only at h
        refine q_ev_call (S' := (68, [some (.ref 0), some (.int a1), some (.int a2)], [], qMM (q_w m7 20 a1.toNatClampNeg a2) n lm)) rfl (by omega) (T_Ru_follow_39_9_20 (by first | omega | decide) hf11) ?_
        refine q_ev_eq (S' := (68, [some (.ref 0), some (.int a1), some (.int a2)], [], qMM m10 n lm)) rfl ?_
        refine q_ev_run 2 (S' := (72, [some (.ref 0), some (.int a1), some (.int a2)], [.ref 41], qMM m10 n lm)) rfl ?_
        obtain ⟨r12, hf13, h⟩ := Option.bind_eq_some_iff.mp h
        try dsimp only at h
        refine q_ev_call (S' := (75, [some (.ref 0), some (.int a1), some (.int a2)], [], qMM m10 n lm)) rfl (by omega) (T_Ru_comesLast_39 (by first | omega | decide) hf13) ?_
        refine q_ev_eq (S' := (75, [some (.ref 0), some (.int a1), some (.int a2)], [.int r12], qMM m10 n lm)) rfl ?_
        have h_z0 := Option.some.inj h
        obtain ⟨h_0, h_z1⟩ := Prod.mk.inj h_z0
        subst h_0
        subst h_z1
        exact q_ev_ret rfl rfl
      · rw [if_neg hc5] at h
        refine q_ev_brF hc5 (a := 23) (b := 21) rfl ?_
        refine q_ev_run 1 (S' := (22, [some (.ref 0), some (.int a1), some (.int a2)], [.int (Int32.ofInt (-1))], qMM m n lm)) rfl ?_
        have h_z0 := Option.some.inj h
        obtain ⟨h_0, h_z1⟩ := Prod.mk.inj h_z0
        subst h_0
        subst h_z1
        exact q_ev_ret rfl rfl
noncomputable def F_Mo_waits (m : (Nat → Nat → Int32)) (a1 : Int32) (a2 : Int32) : Option (Int32 × (Nat → Nat → Int32)) :=
  Option.bind (F_Mo_isPoint m a1) (fun r1 =>
    if r1 = 0 then
      some ((Int32.ofInt (-1)), m)
    else
      Option.bind (F_Mo_in a2 0 20) (fun r4 =>
        if r4 = 0 then
          some ((Int32.ofInt (-1)), m)
        else
          Option.bind (F_Mo_keeps m) (fun m7 =>
            cond (q_in (49 + a1) 65) (
              Option.bind (F_Mo_comes (q_w m7 60 ((49 + a1)).toNatClampNeg a2) (m7 58 2 - 1)) (fun r10 =>
                some (r10, (q_w m7 60 ((49 + a1)).toNatClampNeg a2)))
             ) none)))
theorem T_Mo_waits {Ln : Nat} {xs : Nat → Int32} {n : (Nat → Nat → Int32)} {lm : Nat → Int64} {d : Nat} (hd : 2 ≤ d) {m : (Nat → Nat → Int32)} {a1 : Int32} {a2 : Int32} {rv : Int32} {m1 : (Nat → Nat → Int32)} (h : F_Mo_waits m a1 a2 = some (rv, m1)) : q_Ev (qXT Ln xs) d 140 (0, [some (.ref 58), some (.int a1), some (.int a2)], [], qMM n m lm) (some (.int rv), qMM n m1 lm) := by
  unfold F_Mo_waits at h
  refine q_ev_run 2 (S' := (2, [some (.ref 58), some (.int a1), some (.int a2)], [.int a1, .ref 58], qMM n m lm)) rfl ?_
  obtain ⟨r1, hf2, h⟩ := Option.bind_eq_some_iff.mp h
  try dsimp only at h
  refine q_ev_call (S' := (5, [some (.ref 58), some (.int a1), some (.int a2)], [], qMM n m lm)) rfl (by omega) (T_Mo_isPoint (by first | omega | decide) hf2) ?_
  refine q_ev_eq (S' := (5, [some (.ref 58), some (.int a1), some (.int a2)], [.int r1], qMM n m lm)) rfl ?_
  by_cases hc3 : r1 = 0
  · rw [if_pos hc3] at h
    refine q_ev_brT hc3 (a := 18) (b := 8) rfl ?_
    refine q_ev_run 1 (S' := (19, [some (.ref 58), some (.int a1), some (.int a2)], [.int (Int32.ofInt (-1))], qMM n m lm)) rfl ?_
    have h_z0 := Option.some.inj h
    obtain ⟨h_0, h_z1⟩ := Prod.mk.inj h_z0
    subst h_0
    subst h_z1
    exact q_ev_ret rfl rfl
  · rw [if_neg hc3] at h
    refine q_ev_brF hc3 (a := 18) (b := 8) rfl ?_
    refine q_ev_run 3 (S' := (12, [some (.ref 58), some (.int a1), some (.int a2)], [.int 20, .int 0, .int a2], qMM n m lm)) rfl ?_
    obtain ⟨r4, hf5, h⟩ := Option.bind_eq_some_iff.mp h
    try dsimp only at h
    refine q_ev_call (S' := (15, [some (.ref 58), some (.int a1), some (.int a2)], [], qMM n m lm)) rfl (by omega) (T_Mo_in (by first | omega | decide) hf5) ?_
    refine q_ev_eq (S' := (15, [some (.ref 58), some (.int a1), some (.int a2)], [.int r4], qMM n m lm)) rfl ?_
    by_cases hc6 : r4 = 0
    · rw [if_pos hc6] at h
      refine q_ev_brT hc6 (a := 18) (b := 20) rfl ?_
      refine q_ev_run 1 (S' := (19, [some (.ref 58), some (.int a1), some (.int a2)], [.int (Int32.ofInt (-1))], qMM n m lm)) rfl ?_
      have h_z0 := Option.some.inj h
      obtain ⟨h_0, h_z1⟩ := Prod.mk.inj h_z0
      subst h_0
      subst h_z1
      exact q_ev_ret rfl rfl
    · rw [if_neg hc6] at h
      refine q_ev_brF hc6 (a := 18) (b := 20) rfl ?_
      refine q_ev_run 1 (S' := (21, [some (.ref 58), some (.int a1), some (.int a2)], [.ref 58], qMM n m lm)) rfl ?_
      obtain ⟨m7, hf8, h⟩ := Option.bind_eq_some_iff.mp h
      try dsimp only at h
      refine q_ev_call (S' := (24, [some (.ref 58), some (.int a1), some (.int a2)], [], qMM n m lm)) rfl (by omega) (T_Mo_keeps (by first | omega | decide) hf8) ?_
      refine q_ev_eq (S' := (24, [some (.ref 58), some (.int a1), some (.int a2)], [], qMM n m7 lm)) rfl ?_
      refine q_ev_run 6 (S' := (33, [some (.ref 58), some (.int a1), some (.int a2)], [.int a2, .int (49 + a1), .ref 62], qMM n m7 lm)) rfl ?_
      obtain ⟨hb9, h⟩ := q_cd h
      refine q_ev_chk (b := q_in (49 + a1) 65) hb9 (S' := (34, [some (.ref 58), some (.int a1), some (.int a2)], [], qMM n (q_w m7 60 ((49 + a1)).toNatClampNeg a2) lm)) rfl ?_
      refine q_ev_run 7 (S' := (43, [some (.ref 58), some (.int a1), some (.int a2)], [.int (m7 58 2 - 1), .ref 58], qMM n (q_w m7 60 ((49 + a1)).toNatClampNeg a2) lm)) rfl ?_
      obtain ⟨r10, hf11, h⟩ := Option.bind_eq_some_iff.mp h
      try dsimp only at h
      refine q_ev_call (S' := (46, [some (.ref 58), some (.int a1), some (.int a2)], [], qMM n (q_w m7 60 ((49 + a1)).toNatClampNeg a2) lm)) rfl (by omega) (T_Mo_comes (by first | omega | decide) hf11) ?_
      refine q_ev_eq (S' := (46, [some (.ref 58), some (.int a1), some (.int a2)], [.int r10], qMM n (q_w m7 60 ((49 + a1)).toNatClampNeg a2) lm)) rfl ?_
      have h_z0 := Option.some.inj h
      obtain ⟨h_0, h_z1⟩ := Prod.mk.inj h_z0
      subst h_0
      subst h_z1
      exact q_ev_ret rfl rfl
noncomputable def F_No_dropLastSits_15 (m : (Nat → Nat → Int32)) : Option ((Nat → Nat → Int32)) :=
  if m 15 1 ≤ 0 then
    some (m)
  else
    some ((q_w m 15 1 (m 15 1 - 1)))
theorem T_No_dropLastSits_15 {Ln : Nat} {xs : Nat → Int32} {n : (Nat → Nat → Int32)} {lm : Nat → Int64} {d : Nat} (hd : 0 ≤ d) {m : (Nat → Nat → Int32)} {m1 : (Nat → Nat → Int32)} (h : F_No_dropLastSits_15 m = some m1) : q_Ev (qXT Ln xs) d 30 (0, [some (.ref 17)], [], qMM m n lm) (none, qMM m1 n lm) := by
  unfold F_No_dropLastSits_15 at h
  refine q_ev_run 2 (S' := (4, [some (.ref 17)], [.int (m 15 1)], qMM m n lm)) rfl ?_
  by_cases hc1 : m 15 1 ≤ 0
  · rw [if_pos hc1] at h
    refine q_ev_brT hc1 (a := 17) (b := 7) rfl ?_
    have h_z0 := Option.some.inj h
    subst h_z0
    exact q_ev_ret rfl rfl
  · rw [if_neg hc1] at h
    refine q_ev_brF hc1 (a := 17) (b := 7) rfl ?_
    refine q_ev_run 6 (S' := (17, [some (.ref 17)], [], qMM (q_w m 15 1 (m 15 1 - 1)) n lm)) rfl ?_
    have h_z0 := Option.some.inj h
    subst h_z0
    exact q_ev_ret rfl rfl
noncomputable def F_Hi_takeBack_36_15 (m : (Nat → Nat → Int32)) : Option ((Nat → Nat → Int32)) :=
  if 0 < m 36 0 then
    cond (q_in (m 36 0 - 1) 12) (
      if m 37 ((m 36 0 - 1)).toNatClampNeg = (Int32.ofInt (-1)) then
        Option.bind (F_No_dropLastSits_15 (q_w m 36 0 (m 36 0 - 1))) (fun m4 =>
          some (m4))
      else
        cond (q_in (m 36 0 - 1) 12) (cond (q_in (m 37 ((m 36 0 - 1)).toNatClampNeg) 8) (some ((q_w (q_w m 36 0 (m 36 0 - 1)) 20 (m 37 ((m 36 0 - 1)).toNatClampNeg).toNatClampNeg (m 38 ((m 36 0 - 1)).toNatClampNeg)))) none) none
     ) none
  else
    some (m)
theorem T_Hi_takeBack_36_15 {Ln : Nat} {xs : Nat → Int32} {n : (Nat → Nat → Int32)} {lm : Nat → Int64} {d : Nat} (hd : 1 ≤ d) {m : (Nat → Nat → Int32)} {m1 : (Nat → Nat → Int32)} (h : F_Hi_takeBack_36_15 m = some m1) : q_Ev (qXT Ln xs) d 11 (0, [some (.ref 38), some (.ref 17), none], [], qMM m n lm) (none, qMM m1 n lm) := by
  unfold F_Hi_takeBack_36_15 at h
  refine q_ev_run 2 (S' := (4, [some (.ref 38), some (.ref 17), none], [.int (m 36 0)], qMM m n lm)) rfl ?_
  by_cases hc1 : 0 < m 36 0
  · rw [if_pos hc1] at h
    refine q_ev_brT hc1 (a := 8) (b := 7) rfl ?_
    refine q_ev_run 10 (S' := (26, [some (.ref 38), some (.ref 17), none], [.int (m 36 0 - 1), .ref 39], qMM (q_w m 36 0 (m 36 0 - 1)) n lm)) rfl ?_
    obtain ⟨hb2, h⟩ := q_cd h
    refine q_ev_chk (b := q_in (m 36 0 - 1) 12) hb2 (S' := (27, [some (.ref 38), some (.ref 17), none], [.int (m 37 ((m 36 0 - 1)).toNatClampNeg)], qMM (q_w m 36 0 (m 36 0 - 1)) n lm)) rfl ?_
    refine q_ev_run 3 (S' := (30, [some (.ref 38), some (.ref 17), some (.int (m 37 ((m 36 0 - 1)).toNatClampNeg))], [.int (Int32.ofInt (-1)), .int (m 37 ((m 36 0 - 1)).toNatClampNeg)], qMM (q_w m 36 0 (m 36 0 - 1)) n lm)) rfl ?_
    by_cases hc3 : m 37 ((m 36 0 - 1)).toNatClampNeg = (Int32.ofInt (-1))
    · rw [if_pos hc3] at h
      refine q_ev_brT hc3 (a := 33) (b := 40) rfl ?_
      refine q_ev_run 1 (S' := (34, [some (.ref 38), some (.ref 17), some (.int (m 37 ((m 36 0 - 1)).toNatClampNeg))], [.ref 17], qMM (q_w m 36 0 (m 36 0 - 1)) n lm)) rfl ?_
      obtain ⟨m4, hf5, h⟩ := Option.bind_eq_some_iff.mp h
      try dsimp only at h
      refine q_ev_call (S' := (37, [some (.ref 38), some (.ref 17), some (.int (m 37 ((m 36 0 - 1)).toNatClampNeg))], [], qMM (q_w m 36 0 (m 36 0 - 1)) n lm)) rfl (by omega) (T_No_dropLastSits_15 (by first | omega | decide) hf5) ?_
      refine q_ev_eq (S' := (37, [some (.ref 38), some (.ref 17), some (.int (m 37 ((m 36 0 - 1)).toNatClampNeg))], [], qMM m4 n lm)) rfl ?_
      refine q_ev_run 1 (S' := (55, [some (.ref 38), some (.ref 17), some (.int (m 37 ((m 36 0 - 1)).toNatClampNeg))], [], qMM m4 n lm)) rfl ?_
      have h_z0 := Option.some.inj h
      subst h_z0
      exact q_ev_ret rfl rfl
    · rw [if_neg hc3] at h
      refine q_ev_brF hc3 (a := 33) (b := 40) rfl ?_
      refine q_ev_run 7 (S' := (53, [some (.ref 38), some (.ref 17), some (.int (m 37 ((m 36 0 - 1)).toNatClampNeg))], [.int (m 36 0 - 1), .ref 40, .int (m 37 ((m 36 0 - 1)).toNatClampNeg), .ref 22], qMM (q_w m 36 0 (m 36 0 - 1)) n lm)) rfl ?_
      obtain ⟨hb6, h⟩ := q_cd h
      refine q_ev_chk (b := q_in (m 36 0 - 1) 12) hb6 (S' := (54, [some (.ref 38), some (.ref 17), some (.int (m 37 ((m 36 0 - 1)).toNatClampNeg))], [.int (m 38 ((m 36 0 - 1)).toNatClampNeg), .int (m 37 ((m 36 0 - 1)).toNatClampNeg), .ref 22], qMM (q_w m 36 0 (m 36 0 - 1)) n lm)) rfl ?_
      obtain ⟨hb7, h⟩ := q_cd h
      refine q_ev_chk (b := q_in (m 37 ((m 36 0 - 1)).toNatClampNeg) 8) hb7 (S' := (55, [some (.ref 38), some (.ref 17), some (.int (m 37 ((m 36 0 - 1)).toNatClampNeg))], [], qMM (q_w (q_w m 36 0 (m 36 0 - 1)) 20 (m 37 ((m 36 0 - 1)).toNatClampNeg).toNatClampNeg (m 38 ((m 36 0 - 1)).toNatClampNeg)) n lm)) rfl ?_
      have h_z0 := Option.some.inj h
      subst h_z0
      exact q_ev_ret rfl rfl
  · rw [if_neg hc1] at h
    refine q_ev_brF hc1 (a := 8) (b := 7) rfl ?_
    have h_z0 := Option.some.inj h
    subst h_z0
    exact q_ev_ret rfl rfl
noncomputable def F_AT_undo (m : (Nat → Nat → Int32)) : Option (Int32 × (Nat → Nat → Int32)) :=
  if 0 < m 36 0 then
    Option.bind (F_Hi_takeBack_36_15 m) (fun m2 =>
      Option.bind (F_Ru_follow_39_9_20 m2) (fun m4 =>
        some (m4 36 0, m4)))
  else
    some ((Int32.ofInt (-2)), m)
theorem T_AT_undo {Ln : Nat} {xs : Nat → Int32} {n : (Nat → Nat → Int32)} {lm : Nat → Int64} {d : Nat} (hd : 4 ≤ d) {m : (Nat → Nat → Int32)} {rv : Int32} {m1 : (Nat → Nat → Int32)} (h : F_AT_undo m = some (rv, m1)) : q_Ev (qXT Ln xs) d 78 (0, [some (.ref 0)], [], qMM m n lm) (some (.int rv), qMM m1 n lm) := by
  unfold F_AT_undo at h
  refine q_ev_run 3 (S' := (7, [some (.ref 0)], [.int (m 36 0)], qMM m n lm)) rfl ?_
  by_cases hc1 : 0 < m 36 0
  · rw [if_pos hc1] at h
    refine q_ev_brT hc1 (a := 13) (b := 10) rfl ?_
    refine q_ev_run 4 (S' := (21, [some (.ref 0)], [.ref 17, .ref 38], qMM m n lm)) rfl ?_
    obtain ⟨m2, hf3, h⟩ := Option.bind_eq_some_iff.mp h
    try dsimp only at h
    refine q_ev_call (S' := (24, [some (.ref 0)], [], qMM m n lm)) rfl (by omega) (T_Hi_takeBack_36_15 (by first | omega | decide) hf3) ?_
    refine q_ev_eq (S' := (24, [some (.ref 0)], [], qMM m2 n lm)) rfl ?_
    refine q_ev_run 7 (S' := (39, [some (.ref 0)], [.ref 22, .ref 11, .ref 41], qMM m2 n lm)) rfl ?_
    obtain ⟨m4, hf5, h⟩ := Option.bind_eq_some_iff.mp h
    try dsimp only at h
    refine q_ev_call (S' := (42, [some (.ref 0)], [], qMM m2 n lm)) rfl (by omega) (T_Ru_follow_39_9_20 (by first | omega | decide) hf5) ?_
    refine q_ev_eq (S' := (42, [some (.ref 0)], [], qMM m4 n lm)) rfl ?_
    refine q_ev_run 3 (S' := (49, [some (.ref 0)], [.int (m4 36 0)], qMM m4 n lm)) rfl ?_
    have h_z0 := Option.some.inj h
    obtain ⟨h_0, h_z1⟩ := Prod.mk.inj h_z0
    subst h_0
    subst h_z1
    exact q_ev_ret rfl rfl
  · rw [if_neg hc1] at h
    refine q_ev_brF hc1 (a := 13) (b := 10) rfl ?_
    refine q_ev_run 1 (S' := (12, [some (.ref 0)], [.int (Int32.ofInt (-2))], qMM m n lm)) rfl ?_
    have h_z0 := Option.some.inj h
    obtain ⟨h_0, h_z1⟩ := Prod.mk.inj h_z0
    subst h_0
    subst h_z1
    exact q_ev_ret rfl rfl
noncomputable def FL_Mo_undo_22 : Nat → (Nat → Nat → Int32) → Int32 → Option ((Nat → Nat → Int32))
  | 0, _, _ => none
  | fu + 1, m, x1 =>
    if 57 ≤ x1 then
      some (m)
    else
      cond (q_in ((57 * m 56 7) + x1) 780) (cond (q_in x1 65) (FL_Mo_undo_22 fu (q_w m 60 x1.toNatClampNeg (m 61 (((57 * m 56 7) + x1)).toNatClampNeg)) (x1 + 1)) none) none
theorem TL_Mo_undo_22 {Ln : Nat} {xs : Nat → Int32} {n : (Nat → Nat → Int32)} {lm : Nat → Int64} {d : Nat} (hd : 0 ≤ d) {r : Option Value × qM} : ∀ (fu : Nat) (m : (Nat → Nat → Int32)) (x1 : Int32)  (m1 : (Nat → Nat → Int32)), FL_Mo_undo_22 fu m x1 = some m1 → (∀ (u1 : Option Value), q_Ev (qXT Ln xs) d 141 (54, [some (.ref 58), u1], [], qMM n m1 lm) r) → q_Ev (qXT Ln xs) d 141 (22, [some (.ref 58), some (.int x1)], [], qMM n m lm) r := by
  intro fu
  induction fu with
  | zero => intro m x1 m1 h hk; cases h
  | succ fu ih =>
    intro m x1 m1 h hk
    rw [FL_Mo_undo_22] at h
    refine q_ev_run 2 (S' := (25, [some (.ref 58), some (.int x1)], [.int 57, .int x1], qMM n m lm)) rfl ?_
    by_cases hc1 : 57 ≤ x1
    · rw [if_pos hc1] at h
      refine q_ev_brT hc1 (a := 54) (b := 28) rfl ?_
      have h_z0 := Option.some.inj h
      subst h_z0
      exact hk (some (.int x1))
    · rw [if_neg hc1] at h
      refine q_ev_brF hc1 (a := 54) (b := 28) rfl ?_
      refine q_ev_run 11 (S' := (46, [some (.ref 58), some (.int x1)], [.int ((57 * m 56 7) + x1), .ref 63, .int x1, .ref 62], qMM n m lm)) rfl ?_
      obtain ⟨hb2, h⟩ := q_cd h
      refine q_ev_chk (b := q_in ((57 * m 56 7) + x1) 780) hb2 (S' := (47, [some (.ref 58), some (.int x1)], [.int (m 61 (((57 * m 56 7) + x1)).toNatClampNeg), .int x1, .ref 62], qMM n m lm)) rfl ?_
      obtain ⟨hb3, h⟩ := q_cd h
      refine q_ev_chk (b := q_in x1 65) hb3 (S' := (48, [some (.ref 58), some (.int x1)], [], qMM n (q_w m 60 x1.toNatClampNeg (m 61 (((57 * m 56 7) + x1)).toNatClampNeg)) lm)) rfl ?_
      refine q_ev_run 2 (S' := (22, [some (.ref 58), some (.int (x1 + 1))], [], qMM n (q_w m 60 x1.toNatClampNeg (m 61 (((57 * m 56 7) + x1)).toNatClampNeg)) lm)) rfl ?_
      exact ih (q_w m 60 x1.toNatClampNeg (m 61 (((57 * m 56 7) + x1)).toNatClampNeg)) (x1 + 1) _ h hk
noncomputable def F_Mo_undo (m : (Nat → Nat → Int32)) : Option (Int32 × (Nat → Nat → Int32)) :=
  if m 56 7 = 0 then
    some ((Int32.ofInt (-2)), m)
  else
    Option.bind (FL_Mo_undo_22 qFU (q_w m 56 7 (m 56 7 - 1)) 0) (fun m3 =>
      some (m3 56 7, m3))
theorem T_Mo_undo {Ln : Nat} {xs : Nat → Int32} {n : (Nat → Nat → Int32)} {lm : Nat → Int64} {d : Nat} (hd : 0 ≤ d) {m : (Nat → Nat → Int32)} {rv : Int32} {m1 : (Nat → Nat → Int32)} (h : F_Mo_undo m = some (rv, m1)) : q_Ev (qXT Ln xs) d 141 (0, [some (.ref 58), none], [], qMM n m lm) (some (.int rv), qMM n m1 lm) := by
  unfold F_Mo_undo at h
  refine q_ev_run 2 (S' := (4, [some (.ref 58), none], [.int (m 56 7)], qMM n m lm)) rfl ?_
  by_cases hc1 : m 56 7 = 0
  · rw [if_pos hc1] at h
    refine q_ev_brT hc1 (a := 7) (b := 10) rfl ?_
    refine q_ev_run 1 (S' := (9, [some (.ref 58), none], [.int (Int32.ofInt (-2))], qMM n m lm)) rfl ?_
    have h_z0 := Option.some.inj h
    obtain ⟨h_0, h_z1⟩ := Prod.mk.inj h_z0
    subst h_0
    subst h_z1
    exact q_ev_ret rfl rfl
  · rw [if_neg hc1] at h
    refine q_ev_brF hc1 (a := 7) (b := 10) rfl ?_
    refine q_ev_run 8 (S' := (22, [some (.ref 58), some (.int 0)], [], qMM n (q_w m 56 7 (m 56 7 - 1)) lm)) rfl ?_
    obtain ⟨m3, hl4, h⟩ := Option.bind_eq_some_iff.mp h
    try dsimp only at h
    refine TL_Mo_undo_22 (by first | omega | decide) _ (q_w m 56 7 (m 56 7 - 1)) 0 _ hl4 (fun w2 => ?_)
    refine q_ev_run 2 (S' := (58, [some (.ref 58), w2], [.int (m3 56 7)], qMM n m3 lm)) rfl ?_
    have h_z0 := Option.some.inj h
    obtain ⟨h_0, h_z1⟩ := Prod.mk.inj h_z0
    subst h_0
    subst h_z1
    exact q_ev_ret rfl rfl
noncomputable def F_AT_sat (m : (Nat → Nat → Int32)) (a1 : Int32) (a2 : Int32) : Option (Int32) :=
  if a1 < 0 then
    some ((Int32.ofInt (-1)))
  else
    if a1 < m 15 1 then
      if a2 = 0 then
        cond (q_in a1 12) (some (m 16 a1.toNatClampNeg)) none
      else
      if a2 = 1 then
        cond (q_in a1 12) (some (m 17 a1.toNatClampNeg)) none
      else
      if a2 = 2 then
        cond (q_in a1 12) (some (m 18 a1.toNatClampNeg)) none
      else
      if a2 = 3 then
        cond (q_in a1 12) (some (m 19 a1.toNatClampNeg)) none
      else
        some ((Int32.ofInt (-1)))
    else
      some ((Int32.ofInt (-1)))
theorem T_AT_sat {Ln : Nat} {xs : Nat → Int32} {n : (Nat → Nat → Int32)} {lm : Nat → Int64} {d : Nat} (hd : 0 ≤ d) {m : (Nat → Nat → Int32)} {a1 : Int32} {a2 : Int32} {rv : Int32} (h : F_AT_sat m a1 a2 = some rv) : q_Ev (qXT Ln xs) d 79 (0, [some (.ref 0), some (.int a1), some (.int a2)], [], qMM m n lm) (some (.int rv), qMM m n lm) := by
  unfold F_AT_sat at h
  refine q_ev_run 1 (S' := (1, [some (.ref 0), some (.int a1), some (.int a2)], [.int a1], qMM m n lm)) rfl ?_
  by_cases hc1 : a1 < 0
  · rw [if_pos hc1] at h
    refine q_ev_brT hc1 (a := 15) (b := 4) rfl ?_
    refine q_ev_run 1 (S' := (16, [some (.ref 0), some (.int a1), some (.int a2)], [.int (Int32.ofInt (-1))], qMM m n lm)) rfl ?_
    have h_z0 := Option.some.inj h
    subst h_z0
    exact q_ev_ret rfl rfl
  · rw [if_neg hc1] at h
    refine q_ev_brF hc1 (a := 15) (b := 4) rfl ?_
    refine q_ev_run 4 (S' := (12, [some (.ref 0), some (.int a1), some (.int a2)], [.int (m 15 1), .int a1], qMM m n lm)) rfl ?_
    by_cases hc2 : a1 < m 15 1
    · rw [if_pos hc2] at h
      refine q_ev_brT hc2 (a := 17) (b := 15) rfl ?_
      refine q_ev_run 1 (S' := (18, [some (.ref 0), some (.int a1), some (.int a2)], [.int a2], qMM m n lm)) rfl ?_
      by_cases hc4 : a2 = 0
      · rw [if_pos hc4] at h
        refine q_ev_sw (v := 48) (a := 48) (show q_sw a2 88 0 [48, 58, 68, 78] = 48 by rw [hc4]; rfl) rfl rfl ?_
        refine q_ev_run 4 (S' := (56, [some (.ref 0), some (.int a1), some (.int a2)], [.int a1, .ref 18], qMM m n lm)) rfl ?_
        obtain ⟨hb3, h⟩ := q_cd h
        refine q_ev_chk (b := q_in a1 12) hb3 (S' := (57, [some (.ref 0), some (.int a1), some (.int a2)], [.int (m 16 a1.toNatClampNeg)], qMM m n lm)) rfl ?_
        have h_z0 := Option.some.inj h
        subst h_z0
        exact q_ev_ret rfl rfl
      rw [if_neg hc4] at h
      by_cases hc6 : a2 = 1
      · rw [if_pos hc6] at h
        refine q_ev_sw (v := 58) (a := 58) (show q_sw a2 88 0 [48, 58, 68, 78] = 58 by rw [hc6]; rfl) rfl rfl ?_
        refine q_ev_run 4 (S' := (66, [some (.ref 0), some (.int a1), some (.int a2)], [.int a1, .ref 19], qMM m n lm)) rfl ?_
        obtain ⟨hb5, h⟩ := q_cd h
        refine q_ev_chk (b := q_in a1 12) hb5 (S' := (67, [some (.ref 0), some (.int a1), some (.int a2)], [.int (m 17 a1.toNatClampNeg)], qMM m n lm)) rfl ?_
        have h_z0 := Option.some.inj h
        subst h_z0
        exact q_ev_ret rfl rfl
      rw [if_neg hc6] at h
      by_cases hc8 : a2 = 2
      · rw [if_pos hc8] at h
        refine q_ev_sw (v := 68) (a := 68) (show q_sw a2 88 0 [48, 58, 68, 78] = 68 by rw [hc8]; rfl) rfl rfl ?_
        refine q_ev_run 4 (S' := (76, [some (.ref 0), some (.int a1), some (.int a2)], [.int a1, .ref 20], qMM m n lm)) rfl ?_
        obtain ⟨hb7, h⟩ := q_cd h
        refine q_ev_chk (b := q_in a1 12) hb7 (S' := (77, [some (.ref 0), some (.int a1), some (.int a2)], [.int (m 18 a1.toNatClampNeg)], qMM m n lm)) rfl ?_
        have h_z0 := Option.some.inj h
        subst h_z0
        exact q_ev_ret rfl rfl
      rw [if_neg hc8] at h
      by_cases hc10 : a2 = 3
      · rw [if_pos hc10] at h
        refine q_ev_sw (v := 78) (a := 78) (show q_sw a2 88 0 [48, 58, 68, 78] = 78 by rw [hc10]; rfl) rfl rfl ?_
        refine q_ev_run 4 (S' := (86, [some (.ref 0), some (.int a1), some (.int a2)], [.int a1, .ref 21], qMM m n lm)) rfl ?_
        obtain ⟨hb9, h⟩ := q_cd h
        refine q_ev_chk (b := q_in a1 12) hb9 (S' := (87, [some (.ref 0), some (.int a1), some (.int a2)], [.int (m 19 a1.toNatClampNeg)], qMM m n lm)) rfl ?_
        have h_z0 := Option.some.inj h
        subst h_z0
        exact q_ev_ret rfl rfl
      rw [if_neg hc10] at h
      refine q_ev_sw (v := 88) (a := 88) (show q_sw a2 88 0 [48, 58, 68, 78] = 88 from q_sw_nd (by show a2 ∉ ([0, 1, 2, 3] : List Int32); simp [hc4, hc6, hc8, hc10])) rfl rfl ?_
      refine q_ev_run 1 (S' := (89, [some (.ref 0), some (.int a1), some (.int a2)], [.int (Int32.ofInt (-1))], qMM m n lm)) rfl ?_
      have h_z0 := Option.some.inj h
      subst h_z0
      exact q_ev_ret rfl rfl
    · rw [if_neg hc2] at h
      refine q_ev_brF hc2 (a := 17) (b := 15) rfl ?_
      refine q_ev_run 1 (S' := (16, [some (.ref 0), some (.int a1), some (.int a2)], [.int (Int32.ofInt (-1))], qMM m n lm)) rfl ?_
      have h_z0 := Option.some.inj h
      subst h_z0
      exact q_ev_ret rfl rfl
noncomputable def F_Mo_sat (m : (Nat → Nat → Int32)) (a1 : Int32) (a2 : Int32) : Option (Int32) :=
  Option.bind (F_Mo_in a1 0 (m 60 0 - 1)) (fun r1 =>
    if r1 = 0 then
      some ((Int32.ofInt (-1)))
    else
      Option.bind (F_Mo_in a2 0 3) (fun r4 =>
        if r4 = 0 then
          some ((Int32.ofInt (-1)))
        else
          cond (q_in ((1 + (12 * a2)) + a1) 65) (some (m 60 (((1 + (12 * a2)) + a1)).toNatClampNeg)) none))
theorem T_Mo_sat {Ln : Nat} {xs : Nat → Int32} {n : (Nat → Nat → Int32)} {lm : Nat → Int64} {d : Nat} (hd : 1 ≤ d) {m : (Nat → Nat → Int32)} {a1 : Int32} {a2 : Int32} {rv : Int32} (h : F_Mo_sat m a1 a2 = some rv) : q_Ev (qXT Ln xs) d 142 (0, [some (.ref 58), some (.int a1), some (.int a2)], [], qMM n m lm) (some (.int rv), qMM n m lm) := by
  unfold F_Mo_sat at h
  refine q_ev_run 8 (S' := (10, [some (.ref 58), some (.int a1), some (.int a2)], [.int (m 60 0 - 1), .int 0, .int a1], qMM n m lm)) rfl ?_
  obtain ⟨r1, hf2, h⟩ := Option.bind_eq_some_iff.mp h
  try dsimp only at h
  refine q_ev_call (S' := (13, [some (.ref 58), some (.int a1), some (.int a2)], [], qMM n m lm)) rfl (by omega) (T_Mo_in (by first | omega | decide) hf2) ?_
  refine q_ev_eq (S' := (13, [some (.ref 58), some (.int a1), some (.int a2)], [.int r1], qMM n m lm)) rfl ?_
  by_cases hc3 : r1 = 0
  · rw [if_pos hc3] at h
    refine q_ev_brT hc3 (a := 41) (b := 16) rfl ?_
    refine q_ev_run 1 (S' := (42, [some (.ref 58), some (.int a1), some (.int a2)], [.int (Int32.ofInt (-1))], qMM n m lm)) rfl ?_
    have h_z0 := Option.some.inj h
    subst h_z0
    exact q_ev_ret rfl rfl
  · rw [if_neg hc3] at h
    refine q_ev_brF hc3 (a := 41) (b := 16) rfl ?_
    refine q_ev_run 3 (S' := (19, [some (.ref 58), some (.int a1), some (.int a2)], [.int 3, .int 0, .int a2], qMM n m lm)) rfl ?_
    obtain ⟨r4, hf5, h⟩ := Option.bind_eq_some_iff.mp h
    try dsimp only at h
    refine q_ev_call (S' := (22, [some (.ref 58), some (.int a1), some (.int a2)], [], qMM n m lm)) rfl (by omega) (T_Mo_in (by first | omega | decide) hf5) ?_
    refine q_ev_eq (S' := (22, [some (.ref 58), some (.int a1), some (.int a2)], [.int r4], qMM n m lm)) rfl ?_
    by_cases hc6 : r4 = 0
    · rw [if_pos hc6] at h
      refine q_ev_brT hc6 (a := 41) (b := 25) rfl ?_
      refine q_ev_run 1 (S' := (42, [some (.ref 58), some (.int a1), some (.int a2)], [.int (Int32.ofInt (-1))], qMM n m lm)) rfl ?_
      have h_z0 := Option.some.inj h
      subst h_z0
      exact q_ev_ret rfl rfl
    · rw [if_neg hc6] at h
      refine q_ev_brF hc6 (a := 41) (b := 25) rfl ?_
      refine q_ev_run 9 (S' := (37, [some (.ref 58), some (.int a1), some (.int a2)], [.int ((1 + (12 * a2)) + a1), .ref 62], qMM n m lm)) rfl ?_
      obtain ⟨hb7, h⟩ := q_cd h
      refine q_ev_chk (b := q_in ((1 + (12 * a2)) + a1) 65) hb7 (S' := (38, [some (.ref 58), some (.int a1), some (.int a2)], [.int (m 60 (((1 + (12 * a2)) + a1)).toNatClampNeg)], qMM n m lm)) rfl ?_
      refine q_ev_run 1 (S' := (42, [some (.ref 58), some (.int a1), some (.int a2)], [.int (m 60 (((1 + (12 * a2)) + a1)).toNatClampNeg)], qMM n m lm)) rfl ?_
      have h_z0 := Option.some.inj h
      subst h_z0
      exact q_ev_ret rfl rfl
noncomputable def FL_AT_firstEmpty_2 : Nat → (Nat → Nat → Int32) → Int32 → Option ((Int32) ⊕ (Unit))
  | 0, _, _ => none
  | fu + 1, m, x1 =>
    if m 39 0 ≤ x1 then
      some (.inr ())
    else
      Option.bind (F_AT_meetingAt m x1) (fun r2 =>
        if r2 = 0 then
          some (.inl (x1))
        else
          FL_AT_firstEmpty_2 fu m (x1 + 1))
theorem TL_AT_firstEmpty_2 {Ln : Nat} {xs : Nat → Int32} {n : (Nat → Nat → Int32)} {lm : Nat → Int64} {d : Nat} (hd : 2 ≤ d) {r : Option Value × qM} : ∀ (fu : Nat) (m : (Nat → Nat → Int32)) (x1 : Int32)  (o : (Int32) ⊕ (Unit)), FL_AT_firstEmpty_2 fu m x1 = some o → (∀ (rv : Int32), o = .inl rv → r = (some (.int rv), qMM m n lm)) → (∀ (_ : Unit), o = .inr () → ∀ (u1 : Option Value), q_Ev (qXT Ln xs) d 98 (29, [some (.ref 0), u1], [], qMM m n lm) r) → q_Ev (qXT Ln xs) d 98 (2, [some (.ref 0), some (.int x1)], [], qMM m n lm) r := by
  intro fu
  induction fu with
  | zero => intro m x1 o h hr hk; cases h
  | succ fu ih =>
    intro m x1 o h hr hk
    rw [FL_AT_firstEmpty_2] at h
    refine q_ev_run 4 (S' := (10, [some (.ref 0), some (.int x1)], [.int (m 39 0), .int x1], qMM m n lm)) rfl ?_
    by_cases hc1 : m 39 0 ≤ x1
    · rw [if_pos hc1] at h
      refine q_ev_brT hc1 (a := 29) (b := 13) rfl ?_
      obtain rfl := (Option.some.inj h).symm
      exact hk () rfl (some (.int x1))
    · rw [if_neg hc1] at h
      refine q_ev_brF hc1 (a := 29) (b := 13) rfl ?_
      refine q_ev_run 2 (S' := (15, [some (.ref 0), some (.int x1)], [.int x1, .ref 0], qMM m n lm)) rfl ?_
      obtain ⟨r2, hf3, h⟩ := Option.bind_eq_some_iff.mp h
      try dsimp only at h
      refine q_ev_call (S' := (18, [some (.ref 0), some (.int x1)], [], qMM m n lm)) rfl (by omega) (T_AT_meetingAt (by first | omega | decide) hf3) ?_
      refine q_ev_eq (S' := (18, [some (.ref 0), some (.int x1)], [.int r2], qMM m n lm)) rfl ?_
      by_cases hc4 : r2 = 0
      · rw [if_pos hc4] at h
        refine q_ev_brT hc4 (a := 21) (b := 23) rfl ?_
        refine q_ev_run 1 (S' := (22, [some (.ref 0), some (.int x1)], [.int x1], qMM m n lm)) rfl ?_
        obtain rfl := (Option.some.inj h).symm
        rw [hr _ rfl]
        exact q_ev_ret rfl rfl
      · rw [if_neg hc4] at h
        refine q_ev_brF hc4 (a := 21) (b := 23) rfl ?_
        refine q_ev_run 2 (S' := (2, [some (.ref 0), some (.int (x1 + 1))], [], qMM m n lm)) rfl ?_
        exact ih m (x1 + 1) _ h hr hk
noncomputable def F_AT_firstEmpty (m : (Nat → Nat → Int32)) : Option (Int32) :=
  Option.bind (FL_AT_firstEmpty_2 qFU m 0) (fun o3 => match o3 with
    | .inl v0 => some v0
    | .inr _ =>
      some ((Int32.ofInt (-9))))
theorem T_AT_firstEmpty {Ln : Nat} {xs : Nat → Int32} {n : (Nat → Nat → Int32)} {lm : Nat → Int64} {d : Nat} (hd : 2 ≤ d) {m : (Nat → Nat → Int32)} {rv : Int32} (h : F_AT_firstEmpty m = some rv) : q_Ev (qXT Ln xs) d 98 (0, [some (.ref 0), none], [], qMM m n lm) (some (.int rv), qMM m n lm) := by
  unfold F_AT_firstEmpty at h
  refine q_ev_run 2 (S' := (2, [some (.ref 0), some (.int 0)], [], qMM m n lm)) rfl ?_
  obtain ⟨o3, hl2, h⟩ := Option.bind_eq_some_iff.mp h
  rcases o3 with v0 | _
  · have h_z0 := Option.some.inj h
    subst h_z0
    exact TL_AT_firstEmpty_2 (by first | omega | decide) _ m 0 _ hl2 (fun _ hh => by cases hh; rfl) (fun _ hh => by cases hh)
  · refine TL_AT_firstEmpty_2 (by first | omega | decide) _ m 0 _ hl2 (fun _ hh => by cases hh) (fun _ hh w1 => ?_)
    cases hh
    try dsimp only at h
    refine q_ev_run 1 (S' := (31, [some (.ref 0), w1], [.int (Int32.ofInt (-9))], qMM m n lm)) rfl ?_
    have h_z0 := Option.some.inj h
    subst h_z0
    exact q_ev_ret rfl rfl
noncomputable def F_In_bitCount (a0 : Int32) : Option (Int32) :=
  some (((((((((a0 - ((a0.toUInt32 >>> ((1 : Int32).toUInt32 &&& Int32.toUInt32 31)).toInt32 &&& 1431655765)) &&& 858993459) + (((a0 - ((a0.toUInt32 >>> ((1 : Int32).toUInt32 &&& Int32.toUInt32 31)).toInt32 &&& 1431655765)).toUInt32 >>> ((2 : Int32).toUInt32 &&& Int32.toUInt32 31)).toInt32 &&& 858993459)) + ((((a0 - ((a0.toUInt32 >>> ((1 : Int32).toUInt32 &&& Int32.toUInt32 31)).toInt32 &&& 1431655765)) &&& 858993459) + (((a0 - ((a0.toUInt32 >>> ((1 : Int32).toUInt32 &&& Int32.toUInt32 31)).toInt32 &&& 1431655765)).toUInt32 >>> ((2 : Int32).toUInt32 &&& Int32.toUInt32 31)).toInt32 &&& 858993459)).toUInt32 >>> ((4 : Int32).toUInt32 &&& Int32.toUInt32 31)).toInt32) &&& 252645135) + ((((((a0 - ((a0.toUInt32 >>> ((1 : Int32).toUInt32 &&& Int32.toUInt32 31)).toInt32 &&& 1431655765)) &&& 858993459) + (((a0 - ((a0.toUInt32 >>> ((1 : Int32).toUInt32 &&& Int32.toUInt32 31)).toInt32 &&& 1431655765)).toUInt32 >>> ((2 : Int32).toUInt32 &&& Int32.toUInt32 31)).toInt32 &&& 858993459)) + ((((a0 - ((a0.toUInt32 >>> ((1 : Int32).toUInt32 &&& Int32.toUInt32 31)).toInt32 &&& 1431655765)) &&& 858993459) + (((a0 - ((a0.toUInt32 >>> ((1 : Int32).toUInt32 &&& Int32.toUInt32 31)).toInt32 &&& 1431655765)).toUInt32 >>> ((2 : Int32).toUInt32 &&& Int32.toUInt32 31)).toInt32 &&& 858993459)).toUInt32 >>> ((4 : Int32).toUInt32 &&& Int32.toUInt32 31)).toInt32) &&& 252645135).toUInt32 >>> ((8 : Int32).toUInt32 &&& Int32.toUInt32 31)).toInt32) + (((((((a0 - ((a0.toUInt32 >>> ((1 : Int32).toUInt32 &&& Int32.toUInt32 31)).toInt32 &&& 1431655765)) &&& 858993459) + (((a0 - ((a0.toUInt32 >>> ((1 : Int32).toUInt32 &&& Int32.toUInt32 31)).toInt32 &&& 1431655765)).toUInt32 >>> ((2 : Int32).toUInt32 &&& Int32.toUInt32 31)).toInt32 &&& 858993459)) + ((((a0 - ((a0.toUInt32 >>> ((1 : Int32).toUInt32 &&& Int32.toUInt32 31)).toInt32 &&& 1431655765)) &&& 858993459) + (((a0 - ((a0.toUInt32 >>> ((1 : Int32).toUInt32 &&& Int32.toUInt32 31)).toInt32 &&& 1431655765)).toUInt32 >>> ((2 : Int32).toUInt32 &&& Int32.toUInt32 31)).toInt32 &&& 858993459)).toUInt32 >>> ((4 : Int32).toUInt32 &&& Int32.toUInt32 31)).toInt32) &&& 252645135) + ((((((a0 - ((a0.toUInt32 >>> ((1 : Int32).toUInt32 &&& Int32.toUInt32 31)).toInt32 &&& 1431655765)) &&& 858993459) + (((a0 - ((a0.toUInt32 >>> ((1 : Int32).toUInt32 &&& Int32.toUInt32 31)).toInt32 &&& 1431655765)).toUInt32 >>> ((2 : Int32).toUInt32 &&& Int32.toUInt32 31)).toInt32 &&& 858993459)) + ((((a0 - ((a0.toUInt32 >>> ((1 : Int32).toUInt32 &&& Int32.toUInt32 31)).toInt32 &&& 1431655765)) &&& 858993459) + (((a0 - ((a0.toUInt32 >>> ((1 : Int32).toUInt32 &&& Int32.toUInt32 31)).toInt32 &&& 1431655765)).toUInt32 >>> ((2 : Int32).toUInt32 &&& Int32.toUInt32 31)).toInt32 &&& 858993459)).toUInt32 >>> ((4 : Int32).toUInt32 &&& Int32.toUInt32 31)).toInt32) &&& 252645135).toUInt32 >>> ((8 : Int32).toUInt32 &&& Int32.toUInt32 31)).toInt32).toUInt32 >>> ((16 : Int32).toUInt32 &&& Int32.toUInt32 31)).toInt32) &&& 63))
theorem T_In_bitCount {Ln : Nat} {xs : Nat → Int32} {n : (Nat → Nat → Int32)} {m : (Nat → Nat → Int32)} {lm : Nat → Int64} {d : Nat} (hd : 0 ≤ d) {a0 : Int32} {rv : Int32} (h : F_In_bitCount a0 = some rv) : q_Ev (qXT Ln xs) d 169 (0, [some (.int a0)], [], qMM m n lm) (some (.int rv), qMM m n lm) := by
  unfold F_In_bitCount at h
  refine q_ev_run 41 (S' := (52, [some (.int (((((((a0 - ((a0.toUInt32 >>> ((1 : Int32).toUInt32 &&& Int32.toUInt32 31)).toInt32 &&& 1431655765)) &&& 858993459) + (((a0 - ((a0.toUInt32 >>> ((1 : Int32).toUInt32 &&& Int32.toUInt32 31)).toInt32 &&& 1431655765)).toUInt32 >>> ((2 : Int32).toUInt32 &&& Int32.toUInt32 31)).toInt32 &&& 858993459)) + ((((a0 - ((a0.toUInt32 >>> ((1 : Int32).toUInt32 &&& Int32.toUInt32 31)).toInt32 &&& 1431655765)) &&& 858993459) + (((a0 - ((a0.toUInt32 >>> ((1 : Int32).toUInt32 &&& Int32.toUInt32 31)).toInt32 &&& 1431655765)).toUInt32 >>> ((2 : Int32).toUInt32 &&& Int32.toUInt32 31)).toInt32 &&& 858993459)).toUInt32 >>> ((4 : Int32).toUInt32 &&& Int32.toUInt32 31)).toInt32) &&& 252645135) + ((((((a0 - ((a0.toUInt32 >>> ((1 : Int32).toUInt32 &&& Int32.toUInt32 31)).toInt32 &&& 1431655765)) &&& 858993459) + (((a0 - ((a0.toUInt32 >>> ((1 : Int32).toUInt32 &&& Int32.toUInt32 31)).toInt32 &&& 1431655765)).toUInt32 >>> ((2 : Int32).toUInt32 &&& Int32.toUInt32 31)).toInt32 &&& 858993459)) + ((((a0 - ((a0.toUInt32 >>> ((1 : Int32).toUInt32 &&& Int32.toUInt32 31)).toInt32 &&& 1431655765)) &&& 858993459) + (((a0 - ((a0.toUInt32 >>> ((1 : Int32).toUInt32 &&& Int32.toUInt32 31)).toInt32 &&& 1431655765)).toUInt32 >>> ((2 : Int32).toUInt32 &&& Int32.toUInt32 31)).toInt32 &&& 858993459)).toUInt32 >>> ((4 : Int32).toUInt32 &&& Int32.toUInt32 31)).toInt32) &&& 252645135).toUInt32 >>> ((8 : Int32).toUInt32 &&& Int32.toUInt32 31)).toInt32) + (((((((a0 - ((a0.toUInt32 >>> ((1 : Int32).toUInt32 &&& Int32.toUInt32 31)).toInt32 &&& 1431655765)) &&& 858993459) + (((a0 - ((a0.toUInt32 >>> ((1 : Int32).toUInt32 &&& Int32.toUInt32 31)).toInt32 &&& 1431655765)).toUInt32 >>> ((2 : Int32).toUInt32 &&& Int32.toUInt32 31)).toInt32 &&& 858993459)) + ((((a0 - ((a0.toUInt32 >>> ((1 : Int32).toUInt32 &&& Int32.toUInt32 31)).toInt32 &&& 1431655765)) &&& 858993459) + (((a0 - ((a0.toUInt32 >>> ((1 : Int32).toUInt32 &&& Int32.toUInt32 31)).toInt32 &&& 1431655765)).toUInt32 >>> ((2 : Int32).toUInt32 &&& Int32.toUInt32 31)).toInt32 &&& 858993459)).toUInt32 >>> ((4 : Int32).toUInt32 &&& Int32.toUInt32 31)).toInt32) &&& 252645135) + ((((((a0 - ((a0.toUInt32 >>> ((1 : Int32).toUInt32 &&& Int32.toUInt32 31)).toInt32 &&& 1431655765)) &&& 858993459) + (((a0 - ((a0.toUInt32 >>> ((1 : Int32).toUInt32 &&& Int32.toUInt32 31)).toInt32 &&& 1431655765)).toUInt32 >>> ((2 : Int32).toUInt32 &&& Int32.toUInt32 31)).toInt32 &&& 858993459)) + ((((a0 - ((a0.toUInt32 >>> ((1 : Int32).toUInt32 &&& Int32.toUInt32 31)).toInt32 &&& 1431655765)) &&& 858993459) + (((a0 - ((a0.toUInt32 >>> ((1 : Int32).toUInt32 &&& Int32.toUInt32 31)).toInt32 &&& 1431655765)).toUInt32 >>> ((2 : Int32).toUInt32 &&& Int32.toUInt32 31)).toInt32 &&& 858993459)).toUInt32 >>> ((4 : Int32).toUInt32 &&& Int32.toUInt32 31)).toInt32) &&& 252645135).toUInt32 >>> ((8 : Int32).toUInt32 &&& Int32.toUInt32 31)).toInt32).toUInt32 >>> ((16 : Int32).toUInt32 &&& Int32.toUInt32 31)).toInt32))], [.int ((((((((a0 - ((a0.toUInt32 >>> ((1 : Int32).toUInt32 &&& Int32.toUInt32 31)).toInt32 &&& 1431655765)) &&& 858993459) + (((a0 - ((a0.toUInt32 >>> ((1 : Int32).toUInt32 &&& Int32.toUInt32 31)).toInt32 &&& 1431655765)).toUInt32 >>> ((2 : Int32).toUInt32 &&& Int32.toUInt32 31)).toInt32 &&& 858993459)) + ((((a0 - ((a0.toUInt32 >>> ((1 : Int32).toUInt32 &&& Int32.toUInt32 31)).toInt32 &&& 1431655765)) &&& 858993459) + (((a0 - ((a0.toUInt32 >>> ((1 : Int32).toUInt32 &&& Int32.toUInt32 31)).toInt32 &&& 1431655765)).toUInt32 >>> ((2 : Int32).toUInt32 &&& Int32.toUInt32 31)).toInt32 &&& 858993459)).toUInt32 >>> ((4 : Int32).toUInt32 &&& Int32.toUInt32 31)).toInt32) &&& 252645135) + ((((((a0 - ((a0.toUInt32 >>> ((1 : Int32).toUInt32 &&& Int32.toUInt32 31)).toInt32 &&& 1431655765)) &&& 858993459) + (((a0 - ((a0.toUInt32 >>> ((1 : Int32).toUInt32 &&& Int32.toUInt32 31)).toInt32 &&& 1431655765)).toUInt32 >>> ((2 : Int32).toUInt32 &&& Int32.toUInt32 31)).toInt32 &&& 858993459)) + ((((a0 - ((a0.toUInt32 >>> ((1 : Int32).toUInt32 &&& Int32.toUInt32 31)).toInt32 &&& 1431655765)) &&& 858993459) + (((a0 - ((a0.toUInt32 >>> ((1 : Int32).toUInt32 &&& Int32.toUInt32 31)).toInt32 &&& 1431655765)).toUInt32 >>> ((2 : Int32).toUInt32 &&& Int32.toUInt32 31)).toInt32 &&& 858993459)).toUInt32 >>> ((4 : Int32).toUInt32 &&& Int32.toUInt32 31)).toInt32) &&& 252645135).toUInt32 >>> ((8 : Int32).toUInt32 &&& Int32.toUInt32 31)).toInt32) + (((((((a0 - ((a0.toUInt32 >>> ((1 : Int32).toUInt32 &&& Int32.toUInt32 31)).toInt32 &&& 1431655765)) &&& 858993459) + (((a0 - ((a0.toUInt32 >>> ((1 : Int32).toUInt32 &&& Int32.toUInt32 31)).toInt32 &&& 1431655765)).toUInt32 >>> ((2 : Int32).toUInt32 &&& Int32.toUInt32 31)).toInt32 &&& 858993459)) + ((((a0 - ((a0.toUInt32 >>> ((1 : Int32).toUInt32 &&& Int32.toUInt32 31)).toInt32 &&& 1431655765)) &&& 858993459) + (((a0 - ((a0.toUInt32 >>> ((1 : Int32).toUInt32 &&& Int32.toUInt32 31)).toInt32 &&& 1431655765)).toUInt32 >>> ((2 : Int32).toUInt32 &&& Int32.toUInt32 31)).toInt32 &&& 858993459)).toUInt32 >>> ((4 : Int32).toUInt32 &&& Int32.toUInt32 31)).toInt32) &&& 252645135) + ((((((a0 - ((a0.toUInt32 >>> ((1 : Int32).toUInt32 &&& Int32.toUInt32 31)).toInt32 &&& 1431655765)) &&& 858993459) + (((a0 - ((a0.toUInt32 >>> ((1 : Int32).toUInt32 &&& Int32.toUInt32 31)).toInt32 &&& 1431655765)).toUInt32 >>> ((2 : Int32).toUInt32 &&& Int32.toUInt32 31)).toInt32 &&& 858993459)) + ((((a0 - ((a0.toUInt32 >>> ((1 : Int32).toUInt32 &&& Int32.toUInt32 31)).toInt32 &&& 1431655765)) &&& 858993459) + (((a0 - ((a0.toUInt32 >>> ((1 : Int32).toUInt32 &&& Int32.toUInt32 31)).toInt32 &&& 1431655765)).toUInt32 >>> ((2 : Int32).toUInt32 &&& Int32.toUInt32 31)).toInt32 &&& 858993459)).toUInt32 >>> ((4 : Int32).toUInt32 &&& Int32.toUInt32 31)).toInt32) &&& 252645135).toUInt32 >>> ((8 : Int32).toUInt32 &&& Int32.toUInt32 31)).toInt32).toUInt32 >>> ((16 : Int32).toUInt32 &&& Int32.toUInt32 31)).toInt32) &&& 63)], qMM m n lm)) rfl ?_
  have h_z0 := Option.some.inj h
  subst h_z0
  exact q_ev_ret rfl rfl
noncomputable def FL_AT_firstDouble_2 : Nat → (Nat → Nat → Int32) → Int32 → Option ((Int32) ⊕ (Unit))
  | 0, _, _ => none
  | fu + 1, m, x1 =>
    if m 39 0 ≤ x1 then
      some (.inr ())
    else
      Option.bind (F_AT_inViewAt m x1) (fun r2 =>
        Option.bind (F_In_bitCount r2) (fun r4 =>
          if r4 < 2 then
            FL_AT_firstDouble_2 fu m (x1 + 1)
          else
            some (.inl (x1))))
theorem TL_AT_firstDouble_2 {Ln : Nat} {xs : Nat → Int32} {n : (Nat → Nat → Int32)} {lm : Nat → Int64} {d : Nat} (hd : 2 ≤ d) {r : Option Value × qM} : ∀ (fu : Nat) (m : (Nat → Nat → Int32)) (x1 : Int32)  (o : (Int32) ⊕ (Unit)), FL_AT_firstDouble_2 fu m x1 = some o → (∀ (rv : Int32), o = .inl rv → r = (some (.int rv), qMM m n lm)) → (∀ (_ : Unit), o = .inr () → ∀ (u1 : Option Value), q_Ev (qXT Ln xs) d 99 (33, [some (.ref 0), u1], [], qMM m n lm) r) → q_Ev (qXT Ln xs) d 99 (2, [some (.ref 0), some (.int x1)], [], qMM m n lm) r := by
  intro fu
  induction fu with
  | zero => intro m x1 o h hr hk; cases h
  | succ fu ih =>
    intro m x1 o h hr hk
    rw [FL_AT_firstDouble_2] at h
    refine q_ev_run 4 (S' := (10, [some (.ref 0), some (.int x1)], [.int (m 39 0), .int x1], qMM m n lm)) rfl ?_
    by_cases hc1 : m 39 0 ≤ x1
    · rw [if_pos hc1] at h
      refine q_ev_brT hc1 (a := 33) (b := 13) rfl ?_
      obtain rfl := (Option.some.inj h).symm
      exact hk () rfl (some (.int x1))
    · rw [if_neg hc1] at h
      refine q_ev_brF hc1 (a := 33) (b := 13) rfl ?_
      refine q_ev_run 2 (S' := (15, [some (.ref 0), some (.int x1)], [.int x1, .ref 0], qMM m n lm)) rfl ?_
      obtain ⟨r2, hf3, h⟩ := Option.bind_eq_some_iff.mp h
      try dsimp only at h
      refine q_ev_call (S' := (18, [some (.ref 0), some (.int x1)], [], qMM m n lm)) rfl (by omega) (T_AT_inViewAt (by first | omega | decide) hf3) ?_
      refine q_ev_eq (S' := (18, [some (.ref 0), some (.int x1)], [.int r2], qMM m n lm)) rfl ?_
      obtain ⟨r4, hf5, h⟩ := Option.bind_eq_some_iff.mp h
      try dsimp only at h
      refine q_ev_call (S' := (21, [some (.ref 0), some (.int x1)], [], qMM m n lm)) rfl (by omega) (T_In_bitCount (by first | omega | decide) hf5) ?_
      refine q_ev_eq (S' := (21, [some (.ref 0), some (.int x1)], [.int r4], qMM m n lm)) rfl ?_
      refine q_ev_run 1 (S' := (22, [some (.ref 0), some (.int x1)], [.int 2, .int r4], qMM m n lm)) rfl ?_
      by_cases hc6 : r4 < 2
      · rw [if_pos hc6] at h
        refine q_ev_brT hc6 (a := 27) (b := 25) rfl ?_
        refine q_ev_run 2 (S' := (2, [some (.ref 0), some (.int (x1 + 1))], [], qMM m n lm)) rfl ?_
        exact ih m (x1 + 1) _ h hr hk
      · rw [if_neg hc6] at h
        refine q_ev_brF hc6 (a := 27) (b := 25) rfl ?_
        refine q_ev_run 1 (S' := (26, [some (.ref 0), some (.int x1)], [.int x1], qMM m n lm)) rfl ?_
        obtain rfl := (Option.some.inj h).symm
        rw [hr _ rfl]
        exact q_ev_ret rfl rfl
noncomputable def F_AT_firstDouble (m : (Nat → Nat → Int32)) : Option (Int32) :=
  Option.bind (FL_AT_firstDouble_2 qFU m 0) (fun o3 => match o3 with
    | .inl v0 => some v0
    | .inr _ =>
      some ((Int32.ofInt (-9))))
theorem T_AT_firstDouble {Ln : Nat} {xs : Nat → Int32} {n : (Nat → Nat → Int32)} {lm : Nat → Int64} {d : Nat} (hd : 2 ≤ d) {m : (Nat → Nat → Int32)} {rv : Int32} (h : F_AT_firstDouble m = some rv) : q_Ev (qXT Ln xs) d 99 (0, [some (.ref 0), none], [], qMM m n lm) (some (.int rv), qMM m n lm) := by
  unfold F_AT_firstDouble at h
  refine q_ev_run 2 (S' := (2, [some (.ref 0), some (.int 0)], [], qMM m n lm)) rfl ?_
  obtain ⟨o3, hl2, h⟩ := Option.bind_eq_some_iff.mp h
  rcases o3 with v0 | _
  · have h_z0 := Option.some.inj h
    subst h_z0
    exact TL_AT_firstDouble_2 (by first | omega | decide) _ m 0 _ hl2 (fun _ hh => by cases hh; rfl) (fun _ hh => by cases hh)
  · refine TL_AT_firstDouble_2 (by first | omega | decide) _ m 0 _ hl2 (fun _ hh => by cases hh) (fun _ hh w1 => ?_)
    cases hh
    try dsimp only at h
    refine q_ev_run 1 (S' := (35, [some (.ref 0), w1], [.int (Int32.ofInt (-9))], qMM m n lm)) rfl ?_
    have h_z0 := Option.some.inj h
    subst h_z0
    exact q_ev_ret rfl rfl
noncomputable def FL_No_sittersAnywhere_15_4 : Nat → (Nat → Nat → Int32) → Int32 → Int32 → Option (Int32)
  | 0, _, _, _ => none
  | fu + 1, m, x1, x2 =>
    if m 15 1 ≤ x2 then
      some (x1)
    else
      cond (q_in x2 12) (FL_No_sittersAnywhere_15_4 fu m (x1 ||| ((1 : Int32) <<< (m 16 x2.toNatClampNeg &&& 31))) (x2 + 1)) none
theorem TL_No_sittersAnywhere_15_4 {Ln : Nat} {xs : Nat → Int32} {n : (Nat → Nat → Int32)} {lm : Nat → Int64} {d : Nat} (hd : 0 ≤ d) {r : Option Value × qM} : ∀ (fu : Nat) (m : (Nat → Nat → Int32)) (x1 : Int32) (x2 : Int32)  (y1 : Int32), FL_No_sittersAnywhere_15_4 fu m x1 x2 = some y1 → (∀ (u2 : Option Value), q_Ev (qXT Ln xs) d 33 (29, [some (.ref 17), some (.int y1), u2], [], qMM m n lm) r) → q_Ev (qXT Ln xs) d 33 (4, [some (.ref 17), some (.int x1), some (.int x2)], [], qMM m n lm) r := by
  intro fu
  induction fu with
  | zero => intro m x1 x2 y1 h hk; cases h
  | succ fu ih =>
    intro m x1 x2 y1 h hk
    rw [FL_No_sittersAnywhere_15_4] at h
    refine q_ev_run 3 (S' := (9, [some (.ref 17), some (.int x1), some (.int x2)], [.int (m 15 1), .int x2], qMM m n lm)) rfl ?_
    by_cases hc1 : m 15 1 ≤ x2
    · rw [if_pos hc1] at h
      refine q_ev_brT hc1 (a := 29) (b := 12) rfl ?_
      have h_z0 := Option.some.inj h
      subst h_z0
      exact hk (some (.int x2))
    · rw [if_neg hc1] at h
      refine q_ev_brF hc1 (a := 29) (b := 12) rfl ?_
      refine q_ev_run 5 (S' := (19, [some (.ref 17), some (.int x1), some (.int x2)], [.int x2, .ref 18, .int 1, .int x1], qMM m n lm)) rfl ?_
      obtain ⟨hb2, h⟩ := q_cd h
      refine q_ev_chk (b := q_in x2 12) hb2 (S' := (20, [some (.ref 17), some (.int x1), some (.int x2)], [.int (m 16 x2.toNatClampNeg), .int 1, .int x1], qMM m n lm)) rfl ?_
      refine q_ev_run 5 (S' := (4, [some (.ref 17), some (.int (x1 ||| ((1 : Int32) <<< (m 16 x2.toNatClampNeg &&& 31)))), some (.int (x2 + 1))], [], qMM m n lm)) rfl ?_
      exact ih m (x1 ||| ((1 : Int32) <<< (m 16 x2.toNatClampNeg &&& 31))) (x2 + 1) _ h hk
noncomputable def F_No_sittersAnywhere_15 (m : (Nat → Nat → Int32)) : Option (Int32) :=
  Option.bind (FL_No_sittersAnywhere_15_4 qFU m 0 0) (fun y1 =>
    some (y1))
theorem T_No_sittersAnywhere_15 {Ln : Nat} {xs : Nat → Int32} {n : (Nat → Nat → Int32)} {lm : Nat → Int64} {d : Nat} (hd : 0 ≤ d) {m : (Nat → Nat → Int32)} {rv : Int32} (h : F_No_sittersAnywhere_15 m = some rv) : q_Ev (qXT Ln xs) d 33 (0, [some (.ref 17), none, none], [], qMM m n lm) (some (.int rv), qMM m n lm) := by
  unfold F_No_sittersAnywhere_15 at h
  refine q_ev_run 4 (S' := (4, [some (.ref 17), some (.int 0), some (.int 0)], [], qMM m n lm)) rfl ?_
  obtain ⟨y1, hl3, h⟩ := Option.bind_eq_some_iff.mp h
  try dsimp only at h
  refine TL_No_sittersAnywhere_15_4 (by first | omega | decide) _ m 0 0 _ hl3 (fun w2 => ?_)
  refine q_ev_run 1 (S' := (30, [some (.ref 17), some (.int y1), w2], [.int y1], qMM m n lm)) rfl ?_
  have h_z0 := Option.some.inj h
  subst h_z0
  exact q_ev_ret rfl rfl
noncomputable def FL_AT_sittingInVain_10 : Nat → (Nat → Nat → Int32) → Int32 → Int32 → Option (Int32)
  | 0, _, _, _ => none
  | fu + 1, m, x1, x2 =>
    if m 39 0 ≤ x2 then
      some (x1)
    else
      Option.bind (F_AT_meetingAt m x2) (fun r2 =>
        FL_AT_sittingInVain_10 fu m (x1 &&& (r2 ^^^ (Int32.ofInt (-1)))) (x2 + 1))
theorem TL_AT_sittingInVain_10 {Ln : Nat} {xs : Nat → Int32} {n : (Nat → Nat → Int32)} {lm : Nat → Int64} {d : Nat} (hd : 2 ≤ d) {r : Option Value × qM} : ∀ (fu : Nat) (m : (Nat → Nat → Int32)) (x1 : Int32) (x2 : Int32)  (y1 : Int32), FL_AT_sittingInVain_10 fu m x1 x2 = some y1 → (∀ (u2 : Option Value), q_Ev (qXT Ln xs) d 100 (37, [some (.ref 0), some (.int y1), u2], [], qMM m n lm) r) → q_Ev (qXT Ln xs) d 100 (10, [some (.ref 0), some (.int x1), some (.int x2)], [], qMM m n lm) r := by
  intro fu
  induction fu with
  | zero => intro m x1 x2 y1 h hk; cases h
  | succ fu ih =>
    intro m x1 x2 y1 h hk
    rw [FL_AT_sittingInVain_10] at h
    refine q_ev_run 4 (S' := (18, [some (.ref 0), some (.int x1), some (.int x2)], [.int (m 39 0), .int x2], qMM m n lm)) rfl ?_
    by_cases hc1 : m 39 0 ≤ x2
    · rw [if_pos hc1] at h
      refine q_ev_brT hc1 (a := 37) (b := 21) rfl ?_
      have h_z0 := Option.some.inj h
      subst h_z0
      exact hk (some (.int x2))
    · rw [if_neg hc1] at h
      refine q_ev_brF hc1 (a := 37) (b := 21) rfl ?_
      refine q_ev_run 3 (S' := (24, [some (.ref 0), some (.int x1), some (.int x2)], [.int x2, .ref 0, .int x1], qMM m n lm)) rfl ?_
      obtain ⟨r2, hf3, h⟩ := Option.bind_eq_some_iff.mp h
      try dsimp only at h
      refine q_ev_call (S' := (27, [some (.ref 0), some (.int x1), some (.int x2)], [.int x1], qMM m n lm)) rfl (by omega) (T_AT_meetingAt (by first | omega | decide) hf3) ?_
      refine q_ev_eq (S' := (27, [some (.ref 0), some (.int x1), some (.int x2)], [.int r2, .int x1], qMM m n lm)) rfl ?_
      refine q_ev_run 6 (S' := (10, [some (.ref 0), some (.int (x1 &&& (r2 ^^^ (Int32.ofInt (-1))))), some (.int (x2 + 1))], [], qMM m n lm)) rfl ?_
      exact ih m (x1 &&& (r2 ^^^ (Int32.ofInt (-1)))) (x2 + 1) _ h hk
noncomputable def F_AT_sittingInVain (m : (Nat → Nat → Int32)) : Option (Int32) :=
  Option.bind (F_No_sittersAnywhere_15 m) (fun r1 =>
    Option.bind (FL_AT_sittingInVain_10 qFU m r1 0) (fun y3 =>
      some (y3)))
theorem T_AT_sittingInVain {Ln : Nat} {xs : Nat → Int32} {n : (Nat → Nat → Int32)} {lm : Nat → Int64} {d : Nat} (hd : 2 ≤ d) {m : (Nat → Nat → Int32)} {rv : Int32} (h : F_AT_sittingInVain m = some rv) : q_Ev (qXT Ln xs) d 100 (0, [some (.ref 0), none, none], [], qMM m n lm) (some (.int rv), qMM m n lm) := by
  unfold F_AT_sittingInVain at h
  refine q_ev_run 2 (S' := (4, [some (.ref 0), none, none], [.ref 17], qMM m n lm)) rfl ?_
  obtain ⟨r1, hf2, h⟩ := Option.bind_eq_some_iff.mp h
  try dsimp only at h
  refine q_ev_call (S' := (7, [some (.ref 0), none, none], [], qMM m n lm)) rfl (by omega) (T_No_sittersAnywhere_15 (by first | omega | decide) hf2) ?_
  refine q_ev_eq (S' := (7, [some (.ref 0), none, none], [.int r1], qMM m n lm)) rfl ?_
  refine q_ev_run 3 (S' := (10, [some (.ref 0), some (.int r1), some (.int 0)], [], qMM m n lm)) rfl ?_
  obtain ⟨y3, hl5, h⟩ := Option.bind_eq_some_iff.mp h
  try dsimp only at h
  refine TL_AT_sittingInVain_10 (by first | omega | decide) _ m r1 0 _ hl5 (fun w4 => ?_)
  refine q_ev_run 1 (S' := (38, [some (.ref 0), some (.int y3), w4], [.int y3], qMM m n lm)) rfl ?_
  have h_z0 := Option.some.inj h
  subst h_z0
  exact q_ev_ret rfl rfl
noncomputable def F_AT_race (m : (Nat → Nat → Int32)) (a1 : Int32) : Option (Int32) :=
  if a1 = 0 then
    Option.bind (F_AT_firstEmpty m) (fun r1 =>
      some (r1))
  else
  if a1 = 1 then
    Option.bind (F_AT_firstDouble m) (fun r4 =>
      some (r4))
  else
  if a1 = 2 then
    Option.bind (F_AT_sittingInVain m) (fun r7 =>
      some (r7))
  else
  if a1 = 3 then
    Option.bind (F_Ru_comesLast_39 m) (fun r10 =>
      some (r10))
  else
  if a1 = 4 then
    some (m 36 0)
  else
    some ((Int32.ofInt (-1)))
theorem T_AT_race {Ln : Nat} {xs : Nat → Int32} {n : (Nat → Nat → Int32)} {lm : Nat → Int64} {d : Nat} (hd : 3 ≤ d) {m : (Nat → Nat → Int32)} {a1 : Int32} {rv : Int32} (h : F_AT_race m a1 = some rv) : q_Ev (qXT Ln xs) d 80 (0, [some (.ref 0), some (.int a1)], [], qMM m n lm) (some (.int rv), qMM m n lm) := by
  unfold F_AT_race at h
  refine q_ev_run 1 (S' := (1, [some (.ref 0), some (.int a1)], [.int a1], qMM m n lm)) rfl ?_
  by_cases hc3 : a1 = 0
  · rw [if_pos hc3] at h
    refine q_ev_sw (v := 36) (a := 36) (show q_sw a1 67 0 [36, 41, 46, 51, 59] = 36 by rw [hc3]; rfl) rfl rfl ?_
    refine q_ev_run 1 (S' := (37, [some (.ref 0), some (.int a1)], [.ref 0], qMM m n lm)) rfl ?_
    obtain ⟨r1, hf2, h⟩ := Option.bind_eq_some_iff.mp h
    try dsimp only at h
    refine q_ev_call (S' := (40, [some (.ref 0), some (.int a1)], [], qMM m n lm)) rfl (by omega) (T_AT_firstEmpty (by first | omega | decide) hf2) ?_
    refine q_ev_eq (S' := (40, [some (.ref 0), some (.int a1)], [.int r1], qMM m n lm)) rfl ?_
    have h_z0 := Option.some.inj h
    subst h_z0
    exact q_ev_ret rfl rfl
  rw [if_neg hc3] at h
  by_cases hc6 : a1 = 1
  · rw [if_pos hc6] at h
    refine q_ev_sw (v := 41) (a := 41) (show q_sw a1 67 0 [36, 41, 46, 51, 59] = 41 by rw [hc6]; rfl) rfl rfl ?_
    refine q_ev_run 1 (S' := (42, [some (.ref 0), some (.int a1)], [.ref 0], qMM m n lm)) rfl ?_
    obtain ⟨r4, hf5, h⟩ := Option.bind_eq_some_iff.mp h
    try dsimp only at h
    refine q_ev_call (S' := (45, [some (.ref 0), some (.int a1)], [], qMM m n lm)) rfl (by omega) (T_AT_firstDouble (by first | omega | decide) hf5) ?_
    refine q_ev_eq (S' := (45, [some (.ref 0), some (.int a1)], [.int r4], qMM m n lm)) rfl ?_
    have h_z0 := Option.some.inj h
    subst h_z0
    exact q_ev_ret rfl rfl
  rw [if_neg hc6] at h
  by_cases hc9 : a1 = 2
  · rw [if_pos hc9] at h
    refine q_ev_sw (v := 46) (a := 46) (show q_sw a1 67 0 [36, 41, 46, 51, 59] = 46 by rw [hc9]; rfl) rfl rfl ?_
    refine q_ev_run 1 (S' := (47, [some (.ref 0), some (.int a1)], [.ref 0], qMM m n lm)) rfl ?_
    obtain ⟨r7, hf8, h⟩ := Option.bind_eq_some_iff.mp h
    try dsimp only at h
    refine q_ev_call (S' := (50, [some (.ref 0), some (.int a1)], [], qMM m n lm)) rfl (by omega) (T_AT_sittingInVain (by first | omega | decide) hf8) ?_
    refine q_ev_eq (S' := (50, [some (.ref 0), some (.int a1)], [.int r7], qMM m n lm)) rfl ?_
    have h_z0 := Option.some.inj h
    subst h_z0
    exact q_ev_ret rfl rfl
  rw [if_neg hc9] at h
  by_cases hc12 : a1 = 3
  · rw [if_pos hc12] at h
    refine q_ev_sw (v := 51) (a := 51) (show q_sw a1 67 0 [36, 41, 46, 51, 59] = 51 by rw [hc12]; rfl) rfl rfl ?_
    refine q_ev_run 2 (S' := (55, [some (.ref 0), some (.int a1)], [.ref 41], qMM m n lm)) rfl ?_
    obtain ⟨r10, hf11, h⟩ := Option.bind_eq_some_iff.mp h
    try dsimp only at h
    refine q_ev_call (S' := (58, [some (.ref 0), some (.int a1)], [], qMM m n lm)) rfl (by omega) (T_Ru_comesLast_39 (by first | omega | decide) hf11) ?_
    refine q_ev_eq (S' := (58, [some (.ref 0), some (.int a1)], [.int r10], qMM m n lm)) rfl ?_
    have h_z0 := Option.some.inj h
    subst h_z0
    exact q_ev_ret rfl rfl
  rw [if_neg hc12] at h
  by_cases hc13 : a1 = 4
  · rw [if_pos hc13] at h
    refine q_ev_sw (v := 59) (a := 59) (show q_sw a1 67 0 [36, 41, 46, 51, 59] = 59 by rw [hc13]; rfl) rfl rfl ?_
    refine q_ev_run 3 (S' := (66, [some (.ref 0), some (.int a1)], [.int (m 36 0)], qMM m n lm)) rfl ?_
    have h_z0 := Option.some.inj h
    subst h_z0
    exact q_ev_ret rfl rfl
  rw [if_neg hc13] at h
  refine q_ev_sw (v := 67) (a := 67) (show q_sw a1 67 0 [36, 41, 46, 51, 59] = 67 from q_sw_nd (by show a1 ∉ ([0, 1, 2, 3, 4] : List Int32); simp [hc3, hc6, hc9, hc12, hc13])) rfl rfl ?_
  refine q_ev_run 1 (S' := (68, [some (.ref 0), some (.int a1)], [.int (Int32.ofInt (-1))], qMM m n lm)) rfl ?_
  have h_z0 := Option.some.inj h
  subst h_z0
  exact q_ev_ret rfl rfl
noncomputable def FL_Mo_ones_4 : Nat → Int32 → Int32 → Int32 → Option (Int32)
  | 0, _, _, _ => none
  | fu + 1, x0, x1, x2 =>
    if 8 ≤ x2 then
      some (x1)
    else
      FL_Mo_ones_4 fu x0 (x1 + ((x0 >>> (x2 &&& 31)) &&& 1)) (x2 + 1)
theorem TL_Mo_ones_4 {Ln : Nat} {xs : Nat → Int32} {n : (Nat → Nat → Int32)} {m : (Nat → Nat → Int32)} {lm : Nat → Int64} {d : Nat} (hd : 0 ≤ d) {r : Option Value × qM} : ∀ (fu : Nat) (x0 : Int32) (x1 : Int32) (x2 : Int32)  (y1 : Int32), FL_Mo_ones_4 fu x0 x1 x2 = some y1 → (∀ (u2 : Option Value), q_Ev (qXT Ln xs) d 143 (24, [some (.int x0), some (.int y1), u2], [], qMM m n lm) r) → q_Ev (qXT Ln xs) d 143 (4, [some (.int x0), some (.int x1), some (.int x2)], [], qMM m n lm) r := by
  intro fu
  induction fu with
  | zero => intro x0 x1 x2 y1 h hk; cases h
  | succ fu ih =>
    intro x0 x1 x2 y1 h hk
    rw [FL_Mo_ones_4] at h
    refine q_ev_run 2 (S' := (7, [some (.int x0), some (.int x1), some (.int x2)], [.int 8, .int x2], qMM m n lm)) rfl ?_
    by_cases hc1 : 8 ≤ x2
    · rw [if_pos hc1] at h
      refine q_ev_brT hc1 (a := 24) (b := 10) rfl ?_
      have h_z0 := Option.some.inj h
      subst h_z0
      exact hk (some (.int x2))
    · rw [if_neg hc1] at h
      refine q_ev_brF hc1 (a := 24) (b := 10) rfl ?_
      refine q_ev_run 10 (S' := (4, [some (.int x0), some (.int (x1 + ((x0 >>> (x2 &&& 31)) &&& 1))), some (.int (x2 + 1))], [], qMM m n lm)) rfl ?_
      exact ih x0 (x1 + ((x0 >>> (x2 &&& 31)) &&& 1)) (x2 + 1) _ h hk
noncomputable def F_Mo_ones (a0 : Int32) : Option (Int32) :=
  Option.bind (FL_Mo_ones_4 qFU a0 0 0) (fun y1 =>
    some (y1))
theorem T_Mo_ones {Ln : Nat} {xs : Nat → Int32} {n : (Nat → Nat → Int32)} {m : (Nat → Nat → Int32)} {lm : Nat → Int64} {d : Nat} (hd : 0 ≤ d) {a0 : Int32} {rv : Int32} (h : F_Mo_ones a0 = some rv) : q_Ev (qXT Ln xs) d 143 (0, [some (.int a0), none, none], [], qMM m n lm) (some (.int rv), qMM m n lm) := by
  unfold F_Mo_ones at h
  refine q_ev_run 4 (S' := (4, [some (.int a0), some (.int 0), some (.int 0)], [], qMM m n lm)) rfl ?_
  obtain ⟨y1, hl3, h⟩ := Option.bind_eq_some_iff.mp h
  try dsimp only at h
  refine TL_Mo_ones_4 (by first | omega | decide) _ a0 0 0 _ hl3 (fun w2 => ?_)
  refine q_ev_run 1 (S' := (25, [some (.int a0), some (.int y1), w2], [.int y1], qMM m n lm)) rfl ?_
  have h_z0 := Option.some.inj h
  subst h_z0
  exact q_ev_ret rfl rfl
