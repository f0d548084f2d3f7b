noncomputable def F_No_addSits_15 (m : (Nat → Nat → Int32)) (a1 : Int32) (a2 : Int32) (a3 : Int32) (a4 : Int32) : Option ((Nat → Nat → Int32)) :=
  if m 15 1 < 12 then
    cond (q_in (m 15 1) 12) (cond (q_in (m 15 1) 12) (cond (q_in (m 15 1) 12) (cond (q_in (m 15 1) 12) (some ((q_w (q_w (q_w (q_w (q_w m 16 (m 15 1).toNatClampNeg a1) 17 (m 15 1).toNatClampNeg a2) 18 (m 15 1).toNatClampNeg a3) 19 (m 15 1).toNatClampNeg a4) 15 1 (m 15 1 + 1)))) none) none) none) none
  else
    some (m)
theorem T_No_addSits_15 {Ln : Nat} {xs : Nat → Int32} {n : (Nat → Nat → Int32)} {lm : Nat → Int64} {d : Nat} (hd : 0 ≤ d) {m : (Nat → Nat → Int32)} {a1 : Int32} {a2 : Int32} {a3 : Int32} {a4 : Int32} {m1 : (Nat → Nat → Int32)} (h : F_No_addSits_15 m a1 a2 a3 a4 = some m1) : q_Ev (qXT Ln xs) d 29 (0, [some (.ref 17), some (.int a1), some (.int a2), some (.int a3), some (.int a4)], [], qMM m n lm) (none, qMM m1 n lm) := by
  unfold F_No_addSits_15 at h
  refine q_ev_run 3 (S' := (6, [some (.ref 17), some (.int a1), some (.int a2), some (.int a3), some (.int a4)], [.int 12, .int (m 15 1)], qMM m n lm)) rfl ?_
  by_cases hc1 : m 15 1 < 12
  · rw [if_pos hc1] at h
    refine q_ev_brT hc1 (a := 10) (b := 9) rfl ?_
    refine q_ev_run 5 (S' := (19, [some (.ref 17), some (.int a1), some (.int a2), some (.int a3), some (.int a4)], [.int a1, .int (m 15 1), .ref 18], qMM m n lm)) rfl ?_
    obtain ⟨hb2, h⟩ := q_cd h
    refine q_ev_chk (b := q_in (m 15 1) 12) hb2 (S' := (20, [some (.ref 17), some (.int a1), some (.int a2), some (.int a3), some (.int a4)], [], qMM (q_w m 16 (m 15 1).toNatClampNeg a1) n lm)) rfl ?_
    refine q_ev_run 5 (S' := (29, [some (.ref 17), some (.int a1), some (.int a2), some (.int a3), some (.int a4)], [.int a2, .int (m 15 1), .ref 19], qMM (q_w m 16 (m 15 1).toNatClampNeg a1) n lm)) rfl ?_
    obtain ⟨hb3, h⟩ := q_cd h
    refine q_ev_chk (b := q_in (m 15 1) 12) hb3 (S' := (30, [some (.ref 17), some (.int a1), some (.int a2), some (.int a3), some (.int a4)], [], qMM (q_w (q_w m 16 (m 15 1).toNatClampNeg a1) 17 (m 15 1).toNatClampNeg a2) n lm)) rfl ?_
    refine q_ev_run 5 (S' := (39, [some (.ref 17), some (.int a1), some (.int a2), some (.int a3), some (.int a4)], [.int a3, .int (m 15 1), .ref 20], qMM (q_w (q_w m 16 (m 15 1).toNatClampNeg a1) 17 (m 15 1).toNatClampNeg a2) n lm)) rfl ?_
    obtain ⟨hb4, h⟩ := q_cd h
    refine q_ev_chk (b := q_in (m 15 1) 12) hb4 (S' := (40, [some (.ref 17), some (.int a1), some (.int a2), some (.int a3), some (.int a4)], [], qMM (q_w (q_w (q_w m 16 (m 15 1).toNatClampNeg a1) 17 (m 15 1).toNatClampNeg a2) 18 (m 15 1).toNatClampNeg a3) n lm)) rfl ?_
    refine q_ev_run 5 (S' := (50, [some (.ref 17), some (.int a1), some (.int a2), some (.int a3), some (.int a4)], [.int a4, .int (m 15 1), .ref 21], qMM (q_w (q_w (q_w m 16 (m 15 1).toNatClampNeg a1) 17 (m 15 1).toNatClampNeg a2) 18 (m 15 1).toNatClampNeg a3) n lm)) rfl ?_
    obtain ⟨hb5, h⟩ := q_cd h
    refine q_ev_chk (b := q_in (m 15 1) 12) hb5 (S' := (51, [some (.ref 17), some (.int a1), some (.int a2), some (.int a3), some (.int a4)], [], qMM (q_w (q_w (q_w (q_w m 16 (m 15 1).toNatClampNeg a1) 17 (m 15 1).toNatClampNeg a2) 18 (m 15 1).toNatClampNeg a3) 19 (m 15 1).toNatClampNeg a4) n lm)) rfl ?_
    refine q_ev_run 6 (S' := (61, [some (.ref 17), some (.int a1), some (.int a2), some (.int a3), some (.int a4)], [], qMM (q_w (q_w (q_w (q_w (q_w m 16 (m 15 1).toNatClampNeg a1) 17 (m 15 1).toNatClampNeg a2) 18 (m 15 1).toNatClampNeg a3) 19 (m 15 1).toNatClampNeg a4) 15 1 (m 15 1 + 1)) n lm)) rfl ?_
    have h_z0 := Option.some.inj h
    subst h_z0
    exact q_ev_ret rfl rfl
  · rw [if_neg hc1] at h
    refine q_ev_brF hc1 (a := 10) (b := 9) rfl ?_
    have h_z0 := Option.some.inj h
    subst h_z0
    exact q_ev_ret rfl rfl
noncomputable def F_Hi_note_36 (m : (Nat → Nat → Int32)) (a1 : Int32) (a2 : Int32) : Option ((Nat → Nat → Int32)) :=
  if m 36 0 < 12 then
    cond (q_in (m 36 0) 12) (cond (q_in (m 36 0) 12) (some ((q_w (q_w (q_w m 37 (m 36 0).toNatClampNeg a1) 38 (m 36 0).toNatClampNeg a2) 36 0 (m 36 0 + 1)))) none) none
  else
    some ((q_w (q_w (q_w (q_w (q_cw (q_cw m 37 37 1 0 11) 38 38 1 0 11) 36 0 11) 37 11 a1) 38 11 a2) 36 0 12))
theorem T_Hi_note_36 {Ln : Nat} {xs : Nat → Int32} {n : (Nat → Nat → Int32)} {lm : Nat → Int64} {d : Nat} (hd : 0 ≤ d) {m : (Nat → Nat → Int32)} {a1 : Int32} {a2 : Int32} {m1 : (Nat → Nat → Int32)} (h : F_Hi_note_36 m a1 a2 = some m1) : q_Ev (qXT Ln xs) d 10 (0, [some (.ref 38), some (.int a1), some (.int a2)], [], qMM m n lm) (none, qMM m1 n lm) := by
  unfold F_Hi_note_36 at h
  refine q_ev_run 3 (S' := (6, [some (.ref 38), some (.int a1), some (.int a2)], [.int 12, .int (m 36 0)], qMM m n lm)) rfl ?_
  by_cases hc1 : m 36 0 < 12
  · rw [if_pos hc1] at h
    refine q_ev_brT hc1 (a := 45) (b := 9) rfl ?_
    refine q_ev_run 5 (S' := (54, [some (.ref 38), some (.int a1), some (.int a2)], [.int a1, .int (m 36 0), .ref 39], qMM m n lm)) rfl ?_
    obtain ⟨hb2, h⟩ := q_cd h
    refine q_ev_chk (b := q_in (m 36 0) 12) hb2 (S' := (55, [some (.ref 38), some (.int a1), some (.int a2)], [], qMM (q_w m 37 (m 36 0).toNatClampNeg a1) n lm)) rfl ?_
    refine q_ev_run 5 (S' := (64, [some (.ref 38), some (.int a1), some (.int a2)], [.int a2, .int (m 36 0), .ref 40], qMM (q_w m 37 (m 36 0).toNatClampNeg a1) n lm)) rfl ?_
    obtain ⟨hb3, h⟩ := q_cd h
    refine q_ev_chk (b := q_in (m 36 0) 12) hb3 (S' := (65, [some (.ref 38), some (.int a1), some (.int a2)], [], qMM (q_w (q_w m 37 (m 36 0).toNatClampNeg a1) 38 (m 36 0).toNatClampNeg a2) n lm)) rfl ?_
    refine q_ev_run 6 (S' := (75, [some (.ref 38), some (.int a1), some (.int a2)], [], qMM (q_w (q_w (q_w m 37 (m 36 0).toNatClampNeg a1) 38 (m 36 0).toNatClampNeg a2) 36 0 (m 36 0 + 1)) n lm)) rfl ?_
    have h_z0 := Option.some.inj h
    subst h_z0
    exact q_ev_ret rfl rfl
  · rw [if_neg hc1] at h
    refine q_ev_brF hc1 (a := 45) (b := 9) rfl ?_
    refine q_ev_run 37 (S' := (75, [some (.ref 38), some (.int a1), some (.int a2)], [], qMM (q_w (q_w (q_w (q_w (q_cw (q_cw m 37 37 1 0 11) 38 38 1 0 11) 36 0 11) 37 11 a1) 38 11 a2) 36 0 12) n lm)) rfl ?_
    have h_z0 := Option.some.inj h
    subst h_z0
    exact q_ev_ret rfl rfl
noncomputable def F_Hi_noteSits_36 (m : (Nat → Nat → Int32)) : Option ((Nat → Nat → Int32)) :=
  Option.bind (F_Hi_note_36 m (Int32.ofInt (-1)) 0) (fun m1 =>
    some (m1))
theorem T_Hi_noteSits_36 {Ln : Nat} {xs : Nat → Int32} {n : (Nat → Nat → Int32)} {lm : Nat → Int64} {d : Nat} (hd : 1 ≤ d) {m : (Nat → Nat → Int32)} {m1 : (Nat → Nat → Int32)} (h : F_Hi_noteSits_36 m = some m1) : q_Ev (qXT Ln xs) d 8 (0, [some (.ref 38)], [], qMM m n lm) (none, qMM m1 n lm) := by
  unfold F_Hi_noteSits_36 at h
  refine q_ev_run 3 (S' := (3, [some (.ref 38)], [.int 0, .int (Int32.ofInt (-1)), .ref 38], qMM m n lm)) rfl ?_
  obtain ⟨m1, hf2, h⟩ := Option.bind_eq_some_iff.mp h
  try dsimp only at h
  refine q_ev_call (S' := (6, [some (.ref 38)], [], qMM m n lm)) rfl (by omega) (T_Hi_note_36 (by first | omega | decide) hf2) ?_
  refine q_ev_eq (S' := (6, [some (.ref 38)], [], qMM m1 n lm)) rfl ?_
  have h_z0 := Option.some.inj h
  subst h_z0
  exact q_ev_ret rfl rfl
noncomputable def F_AT_sits (m : (Nat → Nat → Int32)) (a1 : Int32) (a2 : Int32) (a3 : Int32) (a4 : Int32) : Option (Int32 × (Nat → Nat → Int32)) :=
  Option.bind (F_La_hasHedgehog_9 m a1) (fun r1 =>
    if r1 = 0 then
      some ((Int32.ofInt (-1)), m)
    else
      Option.bind (F_La_hasPlace_9 m a2) (fun r4 =>
        if r4 = 0 then
          some ((Int32.ofInt (-1)), m)
        else
          if a3 < 0 then
            some ((Int32.ofInt (-1)), m)
          else
            if a4 < a3 then
              some ((Int32.ofInt (-1)), m)
            else
              if a4 ≤ 999 then
                Option.bind (F_AT_couldSit m a1 a2 a3 a4) (fun r10 =>
                  if r10 = 0 then
                    some ((Int32.ofInt (-2)), m)
                  else
                    if m 15 1 < 12 then
                      Option.bind (F_No_addSits_15 m a1 a2 a3 a4) (fun m14 =>
                        Option.bind (F_Hi_noteSits_36 m14) (fun m16 =>
                          some (m16 15 1, m16)))
                    else
                      some ((Int32.ofInt (-3)), m))
              else
                some ((Int32.ofInt (-1)), m)))
theorem T_AT_sits {Ln : Nat} {xs : Nat → Int32} {n : (Nat → Nat → Int32)} {lm : Nat → Int64} {d : Nat} (hd : 3 ≤ d) {m : (Nat → Nat → Int32)} {a1 : Int32} {a2 : Int32} {a3 : Int32} {a4 : Int32} {rv : Int32} {m1 : (Nat → Nat → Int32)} (h : F_AT_sits m a1 a2 a3 a4 = some (rv, m1)) : q_Ev (qXT Ln xs) d 76 (0, [some (.ref 0), some (.int a1), some (.int a2), some (.int a3), some (.int a4)], [], qMM m n lm) (some (.int rv), qMM m1 n lm) := by
  unfold F_AT_sits at h
  refine q_ev_run 3 (S' := (5, [some (.ref 0), some (.int a1), some (.int a2), some (.int a3), some (.int a4)], [.int a1, .ref 11], qMM m n lm)) rfl ?_
  obtain ⟨r1, hf2, h⟩ := Option.bind_eq_some_iff.mp h
  try dsimp only at h
  refine q_ev_call (S' := (8, [some (.ref 0), some (.int a1), some (.int a2), some (.int a3), some (.int a4)], [], qMM m n lm)) rfl (by omega) (T_La_hasHedgehog_9 (by first | omega | decide) hf2) ?_
  refine q_ev_eq (S' := (8, [some (.ref 0), some (.int a1), some (.int a2), some (.int a3), some (.int a4)], [.int r1], qMM m n lm)) rfl ?_
  by_cases hc3 : r1 = 0
  · rw [if_pos hc3] at h
    refine q_ev_brT hc3 (a := 40) (b := 11) rfl ?_
    refine q_ev_run 1 (S' := (41, [some (.ref 0), some (.int a1), some (.int a2), some (.int a3), some (.int a4)], [.int (Int32.ofInt (-1))], qMM m n lm)) rfl ?_
    have h_z0 := Option.some.inj h
    obtain ⟨h_0, h_z1⟩ := Prod.mk.inj h_z0
    subst h_0
    subst h_z1
    exact q_ev_ret rfl rfl
  · rw [if_neg hc3] at h
    refine q_ev_brF hc3 (a := 40) (b := 11) rfl ?_
    refine q_ev_run 3 (S' := (16, [some (.ref 0), some (.int a1), some (.int a2), some (.int a3), some (.int a4)], [.int a2, .ref 11], qMM m n lm)) rfl ?_
    obtain ⟨r4, hf5, h⟩ := Option.bind_eq_some_iff.mp h
    try dsimp only at h
    refine q_ev_call (S' := (19, [some (.ref 0), some (.int a1), some (.int a2), some (.int a3), some (.int a4)], [], qMM m n lm)) rfl (by omega) (T_La_hasPlace_9 (by first | omega | decide) hf5) ?_
    refine q_ev_eq (S' := (19, [some (.ref 0), some (.int a1), some (.int a2), some (.int a3), some (.int a4)], [.int r4], qMM m n lm)) rfl ?_
    by_cases hc6 : r4 = 0
    · rw [if_pos hc6] at h
      refine q_ev_brT hc6 (a := 40) (b := 22) rfl ?_
      refine q_ev_run 1 (S' := (41, [some (.ref 0), some (.int a1), some (.int a2), some (.int a3), some (.int a4)], [.int (Int32.ofInt (-1))], qMM m n lm)) rfl ?_
      have h_z0 := Option.some.inj h
      obtain ⟨h_0, h_z1⟩ := Prod.mk.inj h_z0
      subst h_0
      subst h_z1
      exact q_ev_ret rfl rfl
    · rw [if_neg hc6] at h
      refine q_ev_brF hc6 (a := 40) (b := 22) rfl ?_
      refine q_ev_run 1 (S' := (23, [some (.ref 0), some (.int a1), some (.int a2), some (.int a3), some (.int a4)], [.int a3], qMM m n lm)) rfl ?_
      by_cases hc7 : a3 < 0
      · rw [if_pos hc7] at h
        refine q_ev_brT hc7 (a := 40) (b := 26) rfl ?_
        refine q_ev_run 1 (S' := (41, [some (.ref 0), some (.int a1), some (.int a2), some (.int a3), some (.int a4)], [.int (Int32.ofInt (-1))], qMM m n lm)) rfl ?_
        have h_z0 := Option.some.inj h
        obtain ⟨h_0, h_z1⟩ := Prod.mk.inj h_z0
        subst h_0
        subst h_z1
        exact q_ev_ret rfl rfl
      · rw [if_neg hc7] at h
        refine q_ev_brF hc7 (a := 40) (b := 26) rfl ?_
        refine q_ev_run 2 (S' := (29, [some (.ref 0), some (.int a1), some (.int a2), some (.int a3), some (.int a4)], [.int a3, .int a4], qMM m n lm)) rfl ?_
        by_cases hc8 : a4 < a3
        · rw [if_pos hc8] at h
          refine q_ev_brT hc8 (a := 40) (b := 32) rfl ?_
          refine q_ev_run 1 (S' := (41, [some (.ref 0), some (.int a1), some (.int a2), some (.int a3), some (.int a4)], [.int (Int32.ofInt (-1))], qMM m n lm)) rfl ?_
          have h_z0 := Option.some.inj h
          obtain ⟨h_0, h_z1⟩ := Prod.mk.inj h_z0
          subst h_0
          subst h_z1
          exact q_ev_ret rfl rfl
        · rw [if_neg hc8] at h
          refine q_ev_brF hc8 (a := 40) (b := 32) rfl ?_
          refine q_ev_run 2 (S' := (37, [some (.ref 0), some (.int a1), some (.int a2), some (.int a3), some (.int a4)], [.int 999, .int a4], qMM m n lm)) rfl ?_
          by_cases hc9 : a4 ≤ 999
          · rw [if_pos hc9] at h
            refine q_ev_brT hc9 (a := 42) (b := 40) rfl ?_
            refine q_ev_run 5 (S' := (48, [some (.ref 0), some (.int a1), some (.int a2), some (.int a3), some (.int a4)], [.int a4, .int a3, .int a2, .int a1, .ref 0], qMM m n lm)) rfl ?_
            obtain ⟨r10, hf11, h⟩ := Option.bind_eq_some_iff.mp h
            try dsimp only at h
            refine q_ev_call (S' := (51, [some (.ref 0), some (.int a1), some (.int a2), some (.int a3), some (.int a4)], [], qMM m n lm)) rfl (by omega) (T_AT_couldSit (by first | omega | decide) hf11) ?_
            refine q_ev_eq (S' := (51, [some (.ref 0), some (.int a1), some (.int a2), some (.int a3), some (.int a4)], [.int r10], qMM m n lm)) rfl ?_
            by_cases hc12 : r10 = 0
            · rw [if_pos hc12] at h
              refine q_ev_brT hc12 (a := 54) (b := 57) rfl ?_
              refine q_ev_run 1 (S' := (56, [some (.ref 0), some (.int a1), some (.int a2), some (.int a3), some (.int a4)], [.int (Int32.ofInt (-2))], qMM m n lm)) rfl ?_
              have h_z0 := Option.some.inj h
              obtain ⟨h_0, h_z1⟩ := Prod.mk.inj h_z0
              subst h_0
              subst h_z1
              exact q_ev_ret rfl rfl
            · rw [if_neg hc12] at h
              refine q_ev_brF hc12 (a := 54) (b := 57) rfl ?_
              refine q_ev_run 4 (S' := (66, [some (.ref 0), some (.int a1), some (.int a2), some (.int a3), some (.int a4)], [.int 12, .int (m 15 1)], qMM m n lm)) rfl ?_
              by_cases hc13 : m 15 1 < 12
              · rw [if_pos hc13] at h
                refine q_ev_brT hc13 (a := 72) (b := 69) rfl ?_
                refine q_ev_run 6 (S' := (81, [some (.ref 0), some (.int a1), some (.int a2), some (.int a3), some (.int a4)], [.int a4, .int a3, .int a2, .int a1, .ref 17], qMM m n lm)) rfl ?_
                obtain ⟨m14, hf15, h⟩ := Option.bind_eq_some_iff.mp h
                try dsimp only at h
                refine q_ev_call (S' := (84, [some (.ref 0), some (.int a1), some (.int a2), some (.int a3), some (.int a4)], [], qMM m n lm)) rfl (by omega) (T_No_addSits_15 (by first | omega | decide) hf15) ?_
                refine q_ev_eq (S' := (84, [some (.ref 0), some (.int a1), some (.int a2), some (.int a3), some (.int a4)], [], qMM m14 n lm)) rfl ?_
                refine q_ev_run 2 (S' := (88, [some (.ref 0), some (.int a1), some (.int a2), some (.int a3), some (.int a4)], [.ref 38], qMM m14 n lm)) rfl ?_
                obtain ⟨m16, hf17, h⟩ := Option.bind_eq_some_iff.mp h
                try dsimp only at h
                refine q_ev_call (S' := (91, [some (.ref 0), some (.int a1), some (.int a2), some (.int a3), some (.int a4)], [], qMM m14 n lm)) rfl (by omega) (T_Hi_noteSits_36 (by first | omega | decide) hf17) ?_
                refine q_ev_eq (S' := (91, [some (.ref 0), some (.int a1), some (.int a2), some (.int a3), some (.int a4)], [], qMM m16 n lm)) rfl ?_
                refine q_ev_run 3 (S' := (98, [some (.ref 0), some (.int a1), some (.int a2), some (.int a3), some (.int a4)], [.int (m16 15 1)], qMM m16 n lm)) rfl ?_
                have h_z0 := Option.some.inj h
                obtain ⟨h_0, h_z1⟩ := Prod.mk.inj h_z0
                subst h_0
                subst h_z1
                exact q_ev_ret rfl rfl
              · rw [if_neg hc13] at h
                refine q_ev_brF hc13 (a := 72) (b := 69) rfl ?_
                refine q_ev_run 1 (S' := (71, [some (.ref 0), some (.int a1), some (.int a2), some (.int a3), some (.int a4)], [.int (Int32.ofInt (-3))], qMM m n lm)) rfl ?_
                have h_z0 := Option.some.inj h
                obtain ⟨h_0, h_z1⟩ := Prod.mk.inj h_z0
                subst h_0
                subst h_z1
                exact q_ev_ret rfl rfl
          · rw [if_neg hc9] at h
            refine q_ev_brF hc9 (a := 42) (b := 40) rfl ?_
            refine q_ev_run 1 (S' := (41, [some (.ref 0), some (.int a1), some (.int a2), some (.int a3), some (.int a4)], [.int (Int32.ofInt (-1))], qMM m n lm)) rfl ?_
            have h_z0 := Option.some.inj h
            obtain ⟨h_0, h_z1⟩ := Prod.mk.inj h_z0
            subst h_0
            subst h_z1
            exact q_ev_ret rfl rfl
noncomputable def F_Mo_areOne (m : (Nat → Nat → Int32)) (a1 : Int32) (a2 : Int32) (a3 : Int32) (a4 : Int32) (a5 : Int32) (a6 : Int32) : Option (Int32) :=
  if a6 < a2 then
    Option.bind (F_Mo_wayOf m a1 a4) (fun r2 =>
      if r2 = (Int32.ofInt (-9)) then
        some (0)
      else
        if a2 ≤ a6 then
          if (a5 - a3) < r2 then
            some (0)
          else
            some (1)
        else
          if (a2 - a6) < r2 then
            some (0)
          else
            some (1))
  else
    if a3 < a5 then
      Option.bind (F_Mo_wayOf m a1 a4) (fun r9 =>
        if r9 = (Int32.ofInt (-9)) then
          some (0)
        else
          if a2 ≤ a6 then
            if (a5 - a3) < r9 then
              some (0)
            else
              some (1)
          else
            if (a2 - a6) < r9 then
              some (0)
            else
              some (1))
    else
      if a1 = a4 then
        some (1)
      else
        some (0)
theorem T_Mo_areOne {Ln : Nat} {xs : Nat → Int32} {n : (Nat → Nat → Int32)} {lm : Nat → Int64} {d : Nat} (hd : 1 ≤ d) {m : (Nat → Nat → Int32)} {a1 : Int32} {a2 : Int32} {a3 : Int32} {a4 : Int32} {a5 : Int32} {a6 : Int32} {rv : Int32} (h : F_Mo_areOne m a1 a2 a3 a4 a5 a6 = some rv) : q_Ev (qXT Ln xs) d 138 (0, [some (.ref 58), some (.int a1), some (.int a2), some (.int a3), some (.int a4), some (.int a5), some (.int a6), none], [], qMM n m lm) (some (.int rv), qMM n m lm) := by
  unfold F_Mo_areOne at h
  refine q_ev_run 2 (S' := (3, [some (.ref 58), some (.int a1), some (.int a2), some (.int a3), some (.int a4), some (.int a5), some (.int a6), none], [.int a6, .int a2], qMM n m lm)) rfl ?_
  by_cases hc1 : a6 < a2
  · rw [if_pos hc1] at h
    refine q_ev_brT hc1 (a := 24) (b := 6) rfl ?_
    refine q_ev_run 3 (S' := (28, [some (.ref 58), some (.int a1), some (.int a2), some (.int a3), some (.int a4), some (.int a5), some (.int a6), none], [.int a4, .int a1, .ref 58], qMM n m lm)) rfl ?_
    obtain ⟨r2, hf3, h⟩ := Option.bind_eq_some_iff.mp h
    try dsimp only at h
    refine q_ev_call (S' := (31, [some (.ref 58), some (.int a1), some (.int a2), some (.int a3), some (.int a4), some (.int a5), some (.int a6), none], [], qMM n m lm)) rfl (by omega) (T_Mo_wayOf (by first | omega | decide) hf3) ?_
    refine q_ev_eq (S' := (31, [some (.ref 58), some (.int a1), some (.int a2), some (.int a3), some (.int a4), some (.int a5), some (.int a6), none], [.int r2], qMM n m lm)) rfl ?_
    refine q_ev_run 3 (S' := (37, [some (.ref 58), some (.int a1), some (.int a2), some (.int a3), some (.int a4), some (.int a5), some (.int a6), some (.int r2)], [.int (Int32.ofInt (-9)), .int r2], qMM n m lm)) rfl ?_
    by_cases hc4 : r2 = (Int32.ofInt (-9))
    · rw [if_pos hc4] at h
      refine q_ev_brT hc4 (a := 66) (b := 40) rfl ?_
      refine q_ev_run 1 (S' := (67, [some (.ref 58), some (.int a1), some (.int a2), some (.int a3), some (.int a4), some (.int a5), some (.int a6), some (.int r2)], [.int 0], qMM n m lm)) rfl ?_
      have h_z0 := Option.some.inj h
      subst h_z0
      exact q_ev_ret rfl rfl
    · rw [if_neg hc4] at h
      refine q_ev_brF hc4 (a := 66) (b := 40) rfl ?_
      refine q_ev_run 3 (S' := (45, [some (.ref 58), some (.int a1), some (.int a2), some (.int a3), some (.int a4), some (.int a5), some (.int a6), some (.int r2)], [.int a6, .int a2, .int r2], qMM n m lm)) rfl ?_
      by_cases hc5 : a2 ≤ a6
      · rw [if_pos hc5] at h
        refine q_ev_brT hc5 (a := 55) (b := 48) rfl ?_
        refine q_ev_run 3 (S' := (59, [some (.ref 58), some (.int a1), some (.int a2), some (.int a3), some (.int a4), some (.int a5), some (.int a6), some (.int r2)], [.int (a5 - a3), .int r2], qMM n m lm)) rfl ?_
        by_cases hc6 : (a5 - a3) < r2
        · rw [if_pos hc6] at h
          refine q_ev_brT hc6 (a := 66) (b := 62) rfl ?_
          refine q_ev_run 1 (S' := (67, [some (.ref 58), some (.int a1), some (.int a2), some (.int a3), some (.int a4), some (.int a5), some (.int a6), some (.int r2)], [.int 0], qMM n m lm)) rfl ?_
          have h_z0 := Option.some.inj h
          subst h_z0
          exact q_ev_ret rfl rfl
        · rw [if_neg hc6] at h
          refine q_ev_brF hc6 (a := 66) (b := 62) rfl ?_
          refine q_ev_run 2 (S' := (67, [some (.ref 58), some (.int a1), some (.int a2), some (.int a3), some (.int a4), some (.int a5), some (.int a6), some (.int r2)], [.int 1], qMM n m lm)) rfl ?_
          have h_z0 := Option.some.inj h
          subst h_z0
          exact q_ev_ret rfl rfl
      · rw [if_neg hc5] at h
        refine q_ev_brF hc5 (a := 55) (b := 48) rfl ?_
        refine q_ev_run 4 (S' := (59, [some (.ref 58), some (.int a1), some (.int a2), some (.int a3), some (.int a4), some (.int a5), some (.int a6), some (.int r2)], [.int (a2 - a6), .int r2], qMM n m lm)) rfl ?_
        by_cases hc7 : (a2 - a6) < r2
        · rw [if_pos hc7] at h
          refine q_ev_brT hc7 (a := 66) (b := 62) rfl ?_
          refine q_ev_run 1 (S' := (67, [some (.ref 58), some (.int a1), some (.int a2), some (.int a3), some (.int a4), some (.int a5), some (.int a6), some (.int r2)], [.int 0], qMM n m lm)) rfl ?_
          have h_z0 := Option.some.inj h
          subst h_z0
          exact q_ev_ret rfl rfl
        · rw [if_neg hc7] at h
          refine q_ev_brF hc7 (a := 66) (b := 62) rfl ?_
          refine q_ev_run 2 (S' := (67, [some (.ref 58), some (.int a1), some (.int a2), some (.int a3), some (.int a4), some (.int a5), some (.int a6), some (.int r2)], [.int 1], qMM n m lm)) rfl ?_
          have h_z0 := Option.some.inj h
          subst h_z0
          exact q_ev_ret rfl rfl
  · rw [if_neg hc1] at h
    refine q_ev_brF hc1 (a := 24) (b := 6) rfl ?_
    refine q_ev_run 2 (S' := (9, [some (.ref 58), some (.int a1), some (.int a2), some (.int a3), some (.int a4), some (.int a5), some (.int a6), none], [.int a3, .int a5], qMM n m lm)) rfl ?_
    by_cases hc8 : a3 < a5
    · rw [if_pos hc8] at h
      refine q_ev_brT hc8 (a := 24) (b := 12) rfl ?_
      refine q_ev_run 3 (S' := (28, [some (.ref 58), some (.int a1), some (.int a2), some (.int a3), some (.int a4), some (.int a5), some (.int a6), none], [.int a4, .int a1, .ref 58], qMM n m lm)) rfl ?_
      obtain ⟨r9, hf10, h⟩ := Option.bind_eq_some_iff.mp h
      try dsimp only at h
      refine q_ev_call (S' := (31, [some (.ref 58), some (.int a1), some (.int a2), some (.int a3), some (.int a4), some (.int a5), some (.int a6), none], [], qMM n m lm)) rfl (by omega) (T_Mo_wayOf (by first | omega | decide) hf10) ?_
      refine q_ev_eq (S' := (31, [some (.ref 58), some (.int a1), some (.int a2), some (.int a3), some (.int a4), some (.int a5), some (.int a6), none], [.int r9], qMM n m lm)) rfl ?_
      refine q_ev_run 3 (S' := (37, [some (.ref 58), some (.int a1), some (.int a2), some (.int a3), some (.int a4), some (.int a5), some (.int a6), some (.int r9)], [.int (Int32.ofInt (-9)), .int r9], qMM n m lm)) rfl ?_
      by_cases hc11 : r9 = (Int32.ofInt (-9))
      · rw [if_pos hc11] at h
        refine q_ev_brT hc11 (a := 66) (b := 40) rfl ?_
        refine q_ev_run 1 (S' := (67, [some (.ref 58), some (.int a1), some (.int a2), some (.int a3), some (.int a4), some (.int a5), some (.int a6), some (.int r9)], [.int 0], qMM n m lm)) rfl ?_
        have h_z0 := Option.some.inj h
        subst h_z0
        exact q_ev_ret rfl rfl
      · rw [if_neg hc11] at h
        refine q_ev_brF hc11 (a := 66) (b := 40) rfl ?_
        refine q_ev_run 3 (S' := (45, [some (.ref 58), some (.int a1), some (.int a2), some (.int a3), some (.int a4), some (.int a5), some (.int a6), some (.int r9)], [.int a6, .int a2, .int r9], qMM n m lm)) rfl ?_
        by_cases hc12 : a2 ≤ a6
        · rw [if_pos hc12] at h
          refine q_ev_brT hc12 (a := 55) (b := 48) rfl ?_
          refine q_ev_run 3 (S' := (59, [some (.ref 58), some (.int a1), some (.int a2), some (.int a3), some (.int a4), some (.int a5), some (.int a6), some (.int r9)], [.int (a5 - a3), .int r9], qMM n m lm)) rfl ?_
          by_cases hc13 : (a5 - a3) < r9
          · rw [if_pos hc13] at h
            refine q_ev_brT hc13 (a := 66) (b := 62) rfl ?_
            refine q_ev_run 1 (S' := (67, [some (.ref 58), some (.int a1), some (.int a2), some (.int a3), some (.int a4), some (.int a5), some (.int a6), some (.int r9)], [.int 0], qMM n m lm)) rfl ?_
            have h_z0 := Option.some.inj h
            subst h_z0
            exact q_ev_ret rfl rfl
          · rw [if_neg hc13] at h
            refine q_ev_brF hc13 (a := 66) (b := 62) rfl ?_
            refine q_ev_run 2 (S' := (67, [some (.ref 58), some (.int a1), some (.int a2), some (.int a3), some (.int a4), some (.int a5), some (.int a6), some (.int r9)], [.int 1], qMM n m lm)) rfl ?_
            have h_z0 := Option.some.inj h
            subst h_z0
            exact q_ev_ret rfl rfl
        · rw [if_neg hc12] at h
          refine q_ev_brF hc12 (a := 55) (b := 48) rfl ?_
          refine q_ev_run 4 (S' := (59, [some (.ref 58), some (.int a1), some (.int a2), some (.int a3), some (.int a4), some (.int a5), some (.int a6), some (.int r9)], [.int (a2 - a6), .int r9], qMM n m lm)) rfl ?_
          by_cases hc14 : (a2 - a6) < r9
          · rw [if_pos hc14] at h
            refine q_ev_brT hc14 (a := 66) (b := 62) rfl ?_
            refine q_ev_run 1 (S' := (67, [some (.ref 58), some (.int a1), some (.int a2), some (.int a3), some (.int a4), some (.int a5), some (.int a6), some (.int r9)], [.int 0], qMM n m lm)) rfl ?_
            have h_z0 := Option.some.inj h
            subst h_z0
            exact q_ev_ret rfl rfl
          · rw [if_neg hc14] at h
            refine q_ev_brF hc14 (a := 66) (b := 62) rfl ?_
            refine q_ev_run 2 (S' := (67, [some (.ref 58), some (.int a1), some (.int a2), some (.int a3), some (.int a4), some (.int a5), some (.int a6), some (.int r9)], [.int 1], qMM n m lm)) rfl ?_
            have h_z0 := Option.some.inj h
            subst h_z0
            exact q_ev_ret rfl rfl
    · rw [if_neg hc8] at h
      refine q_ev_brF hc8 (a := 24) (b := 12) rfl ?_
      refine q_ev_run 2 (S' := (15, [some (.ref 58), some (.int a1), some (.int a2), some (.int a3), some (.int a4), some (.int a5), some (.int a6), none], [.int a4, .int a1], qMM n m lm)) rfl ?_
      by_cases hc15 : a1 = a4
      · rw [if_pos hc15] at h
        refine q_ev_brT hc15 (a := 18) (b := 22) rfl ?_
        refine q_ev_run 2 (S' := (23, [some (.ref 58), some (.int a1), some (.int a2), some (.int a3), some (.int a4), some (.int a5), some (.int a6), none], [.int 1], qMM n m lm)) rfl ?_
        have h_z0 := Option.some.inj h
        subst h_z0
        exact q_ev_ret rfl rfl
      · rw [if_neg hc15] at h
        refine q_ev_brF hc15 (a := 18) (b := 22) rfl ?_
        refine q_ev_run 1 (S' := (23, [some (.ref 58), some (.int a1), some (.int a2), some (.int a3), some (.int a4), some (.int a5), some (.int a6), none], [.int 0], qMM n m lm)) rfl ?_
        have h_z0 := Option.some.inj h
        subst h_z0
        exact q_ev_ret rfl rfl
noncomputable def FL_Mo_sits_47 : Nat → (Nat → Nat → Int32) → Int32 → Int32 → Int32 → Int32 → Int32 → Int32 → Option (Int32)
  | 0, _, _, _, _, _, _, _ => none
  | fu + 1, m, x1, x2, x3, x4, x5, x6 =>
    if m 60 0 ≤ x6 then
      some (x5)
    else
      if x5 = 0 then
        FL_Mo_sits_47 fu m x1 x2 x3 x4 0 (x6 + 1)
      else
        cond (q_in (1 + x6) 65) (
          if m 60 ((1 + x6)).toNatClampNeg = x1 then
            cond (q_in (13 + x6) 65) (
              cond (q_in (25 + x6) 65) (
                cond (q_in (37 + x6) 65) (
                  Option.bind (F_Mo_areOne m x2 x3 x4 (m 60 ((13 + x6)).toNatClampNeg) (m 60 ((25 + x6)).toNatClampNeg) (m 60 ((37 + x6)).toNatClampNeg)) (fun r8 =>
                    if r8 = 0 then
                      FL_Mo_sits_47 fu m x1 x2 x3 x4 0 (x6 + 1)
                    else
                      FL_Mo_sits_47 fu m x1 x2 x3 x4 1 (x6 + 1))
                 ) none
               ) none
             ) none
          else
            FL_Mo_sits_47 fu m x1 x2 x3 x4 1 (x6 + 1)
         ) none
theorem TL_Mo_sits_47 {Ln : Nat} {xs : Nat → Int32} {n : (Nat → Nat → Int32)} {lm : Nat → Int64} {d : Nat} (hd : 2 ≤ d) {r : Option Value × qM} : ∀ (fu : Nat) (m : (Nat → Nat → Int32)) (x1 : Int32) (x2 : Int32) (x3 : Int32) (x4 : Int32) (x5 : Int32) (x6 : Int32)  (y5 : Int32), FL_Mo_sits_47 fu m x1 x2 x3 x4 x5 x6 = some y5 → (∀ (u6 : Option Value), q_Ev (qXT Ln xs) d 139 (130, [some (.ref 58), some (.int x1), some (.int x2), some (.int x3), some (.int x4), some (.int y5), u6], [], qMM n m lm) r) → q_Ev (qXT Ln xs) d 139 (47, [some (.ref 58), some (.int x1), some (.int x2), some (.int x3), some (.int x4), some (.int x5), some (.int x6)], [], qMM n m lm) r := by
  intro fu
  induction fu with
  | zero => intro m x1 x2 x3 x4 x5 x6 y5 h hk; cases h
  | succ fu ih =>
    intro m x1 x2 x3 x4 x5 x6 y5 h hk
    rw [FL_Mo_sits_47] at h
    refine q_ev_run 5 (S' := (55, [some (.ref 58), some (.int x1), some (.int x2), some (.int x3), some (.int x4), some (.int x5), some (.int x6)], [.int (m 60 0), .int x6], qMM n m lm)) rfl ?_
    by_cases hc1 : m 60 0 ≤ x6
    · rw [if_pos hc1] at h
      refine q_ev_brT hc1 (a := 130) (b := 58) rfl ?_
      have h_z0 := Option.some.inj h
      subst h_z0
      exact hk (some (.int x6))
    · rw [if_neg hc1] at h
      refine q_ev_brF hc1 (a := 130) (b := 58) rfl ?_
      refine q_ev_run 1 (S' := (60, [some (.ref 58), some (.int x1), some (.int x2), some (.int x3), some (.int x4), some (.int x5), some (.int x6)], [.int x5], qMM n m lm)) rfl ?_
      by_cases hc2 : x5 = 0
      · rw [if_pos hc2] at h
        refine q_ev_brT hc2 (a := 121) (b := 63) rfl ?_
        refine q_ev_run 4 (S' := (47, [some (.ref 58), some (.int x1), some (.int x2), some (.int x3), some (.int x4), some (.int 0), some (.int (x6 + 1))], [], qMM n m lm)) rfl ?_
        exact ih m x1 x2 x3 x4 0 (x6 + 1) _ h hk
      · rw [if_neg hc2] at h
        refine q_ev_brF hc2 (a := 121) (b := 63) rfl ?_
        refine q_ev_run 5 (S' := (71, [some (.ref 58), some (.int x1), some (.int x2), some (.int x3), some (.int x4), some (.int x5), some (.int x6)], [.int (1 + x6), .ref 62], qMM n m lm)) rfl ?_
        obtain ⟨hb3, h⟩ := q_cd h
        refine q_ev_chk (b := q_in (1 + x6) 65) hb3 (S' := (72, [some (.ref 58), some (.int x1), some (.int x2), some (.int x3), some (.int x4), some (.int x5), some (.int x6)], [.int (m 60 ((1 + x6)).toNatClampNeg)], qMM n m lm)) rfl ?_
        refine q_ev_run 1 (S' := (73, [some (.ref 58), some (.int x1), some (.int x2), some (.int x3), some (.int x4), some (.int x5), some (.int x6)], [.int x1, .int (m 60 ((1 + x6)).toNatClampNeg)], qMM n m lm)) rfl ?_
        by_cases hc4 : m 60 ((1 + x6)).toNatClampNeg = x1
        · rw [if_pos hc4] at h
          refine q_ev_brT hc4 (a := 76) (b := 117) rfl ?_
          refine q_ev_run 9 (S' := (90, [some (.ref 58), some (.int x1), some (.int x2), some (.int x3), some (.int x4), some (.int x5), some (.int x6)], [.int (13 + x6), .ref 62, .int x4, .int x3, .int x2, .ref 58], qMM n m lm)) rfl ?_
          obtain ⟨hb5, h⟩ := q_cd h
          refine q_ev_chk (b := q_in (13 + x6) 65) hb5 (S' := (91, [some (.ref 58), some (.int x1), some (.int x2), some (.int x3), some (.int x4), some (.int x5), some (.int x6)], [.int (m 60 ((13 + x6)).toNatClampNeg), .int x4, .int x3, .int x2, .ref 58], qMM n m lm)) rfl ?_
          refine q_ev_run 5 (S' := (100, [some (.ref 58), some (.int x1), some (.int x2), some (.int x3), some (.int x4), some (.int x5), some (.int x6)], [.int (25 + x6), .ref 62, .int (m 60 ((13 + x6)).toNatClampNeg), .int x4, .int x3, .int x2, .ref 58], qMM n m lm)) rfl ?_
          obtain ⟨hb6, h⟩ := q_cd h
          refine q_ev_chk (b := q_in (25 + x6) 65) hb6 (S' := (101, [some (.ref 58), some (.int x1), some (.int x2), some (.int x3), some (.int x4), some (.int x5), some (.int x6)], [.int (m 60 ((25 + x6)).toNatClampNeg), .int (m 60 ((13 + x6)).toNatClampNeg), .int x4, .int x3, .int x2, .ref 58], qMM n m lm)) rfl ?_
          refine q_ev_run 5 (S' := (110, [some (.ref 58), some (.int x1), some (.int x2), some (.int x3), some (.int x4), some (.int x5), some (.int x6)], [.int (37 + x6), .ref 62, .int (m 60 ((25 + x6)).toNatClampNeg), .int (m 60 ((13 + x6)).toNatClampNeg), .int x4, .int x3, .int x2, .ref 58], qMM n m lm)) rfl ?_
          obtain ⟨hb7, h⟩ := q_cd h
          refine q_ev_chk (b := q_in (37 + x6) 65) hb7 (S' := (111, [some (.ref 58), some (.int x1), some (.int x2), some (.int x3), some (.int x4), some (.int x5), some (.int x6)], [.int (m 60 ((37 + x6)).toNatClampNeg), .int (m 60 ((25 + x6)).toNatClampNeg), .int (m 60 ((13 + x6)).toNatClampNeg), .int x4, .int x3, .int x2, .ref 58], qMM n m lm)) rfl ?_
          obtain ⟨r8, hf9, h⟩ := Option.bind_eq_some_iff.mp h
          try dsimp only at h
          refine q_ev_call (S' := (114, [some (.ref 58), some (.int x1), some (.int x2), some (.int x3), some (.int x4), some (.int x5), some (.int x6)], [], qMM n m lm)) rfl (by omega) (T_Mo_areOne (by first | omega | decide) hf9) ?_
          refine q_ev_eq (S' := (114, [some (.ref 58), some (.int x1), some (.int x2), some (.int x3), some (.int x4), some (.int x5), some (.int x6)], [.int r8], qMM n m lm)) rfl ?_
          by_cases hc10 : r8 = 0
          · rw [if_pos hc10] at h
            refine q_ev_brT hc10 (a := 121) (b := 117) rfl ?_
            refine q_ev_run 4 (S' := (47, [some (.ref 58), some (.int x1), some (.int x2), some (.int x3), some (.int x4), some (.int 0), some (.int (x6 + 1))], [], qMM n m lm)) rfl ?_
            exact ih m x1 x2 x3 x4 0 (x6 + 1) _ h hk
          · rw [if_neg hc10] at h
            refine q_ev_brF hc10 (a := 121) (b := 117) rfl ?_
            refine q_ev_run 5 (S' := (47, [some (.ref 58), some (.int x1), some (.int x2), some (.int x3), some (.int x4), some (.int 1), some (.int (x6 + 1))], [], qMM n m lm)) rfl ?_
            exact ih m x1 x2 x3 x4 1 (x6 + 1) _ h hk
        · rw [if_neg hc4] at h
          refine q_ev_brF hc4 (a := 76) (b := 117) rfl ?_
          refine q_ev_run 5 (S' := (47, [some (.ref 58), some (.int x1), some (.int x2), some (.int x3), some (.int x4), some (.int 1), some (.int (x6 + 1))], [], qMM n m lm)) rfl ?_
          exact ih m x1 x2 x3 x4 1 (x6 + 1) _ h hk
noncomputable def FL_Mo_keeps_11 : Nat → (Nat → Nat → Int32) → Int32 → Option ((Nat → Nat → Int32))
  | 0, _, _ => none
  | fu + 1, m, x1 =>
    if 627 ≤ x1 then
      some (m)
    else
      cond (q_in (x1 + 57) 780) (cond (q_in x1 780) (FL_Mo_keeps_11 fu (q_w m 61 x1.toNatClampNeg (m 61 ((x1 + 57)).toNatClampNeg)) (x1 + 1)) none) none
theorem TL_Mo_keeps_11 {Ln : Nat} {xs : Nat → Int32} {n : (Nat → Nat → Int32)} {lm : Nat → Int64} {d : Nat} (hd : 0 ≤ d) {r : Option Value × qM} : ∀ (fu : Nat) (m : (Nat → Nat → Int32)) (x1 : Int32)  (m1 : (Nat → Nat → Int32)), FL_Mo_keeps_11 fu m x1 = some m1 → (∀ (u1 : Option Value), q_Ev (qXT Ln xs) d 137 (39, [some (.ref 58), u1], [], qMM n m1 lm) r) → q_Ev (qXT Ln xs) d 137 (11, [some (.ref 58), some (.int x1)], [], qMM n m lm) r := by
  intro fu
  induction fu with
  | zero => intro m x1 m1 h hk; cases h
  | succ fu ih =>
    intro m x1 m1 h hk
    rw [FL_Mo_keeps_11] at h
    refine q_ev_run 2 (S' := (15, [some (.ref 58), some (.int x1)], [.int 627, .int x1], qMM n m lm)) rfl ?_
    by_cases hc1 : 627 ≤ x1
    · rw [if_pos hc1] at h
      refine q_ev_brT hc1 (a := 39) (b := 18) rfl ?_
      have h_z0 := Option.some.inj h
      subst h_z0
      exact hk (some (.int x1))
    · rw [if_neg hc1] at h
      refine q_ev_brF hc1 (a := 39) (b := 18) rfl ?_
      refine q_ev_run 8 (S' := (31, [some (.ref 58), some (.int x1)], [.int (x1 + 57), .ref 63, .int x1, .ref 63], qMM n m lm)) rfl ?_
      obtain ⟨hb2, h⟩ := q_cd h
      refine q_ev_chk (b := q_in (x1 + 57) 780) hb2 (S' := (32, [some (.ref 58), some (.int x1)], [.int (m 61 ((x1 + 57)).toNatClampNeg), .int x1, .ref 63], qMM n m lm)) rfl ?_
      obtain ⟨hb3, h⟩ := q_cd h
      refine q_ev_chk (b := q_in x1 780) hb3 (S' := (33, [some (.ref 58), some (.int x1)], [], qMM n (q_w m 61 x1.toNatClampNeg (m 61 ((x1 + 57)).toNatClampNeg)) lm)) rfl ?_
      refine q_ev_run 2 (S' := (11, [some (.ref 58), some (.int (x1 + 1))], [], qMM n (q_w m 61 x1.toNatClampNeg (m 61 ((x1 + 57)).toNatClampNeg)) lm)) rfl ?_
      exact ih (q_w m 61 x1.toNatClampNeg (m 61 ((x1 + 57)).toNatClampNeg)) (x1 + 1) _ h hk
noncomputable def FL_Mo_keeps_51 : Nat → (Nat → Nat → Int32) → Int32 → Option ((Nat → Nat → Int32))
  | 0, _, _ => none
  | fu + 1, m, x1 =>
    if 57 ≤ x1 then
      some (m)
    else
      cond (q_in x1 65) (cond (q_in ((57 * m 56 7) + x1) 780) (FL_Mo_keeps_51 fu (q_w m 61 (((57 * m 56 7) + x1)).toNatClampNeg (m 60 x1.toNatClampNeg)) (x1 + 1)) none) none
theorem TL_Mo_keeps_51 {Ln : Nat} {xs : Nat → Int32} {n : (Nat → Nat → Int32)} {lm : Nat → Int64} {d : Nat} (hd : 0 ≤ d) {r : Option Value × qM} : ∀ (fu : Nat) (m : (Nat → Nat → Int32)) (x1 : Int32)  (m1 : (Nat → Nat → Int32)), FL_Mo_keeps_51 fu m x1 = some m1 → (∀ (u1 : Option Value), q_Ev (qXT Ln xs) d 137 (83, [some (.ref 58), u1], [], qMM n m1 lm) r) → q_Ev (qXT Ln xs) d 137 (51, [some (.ref 58), some (.int x1)], [], qMM n m lm) r := by
  intro fu
  induction fu with
  | zero => intro m x1 m1 h hk; cases h
  | succ fu ih =>
    intro m x1 m1 h hk
    rw [FL_Mo_keeps_51] at h
    refine q_ev_run 2 (S' := (54, [some (.ref 58), some (.int x1)], [.int 57, .int x1], qMM n m lm)) rfl ?_
    by_cases hc1 : 57 ≤ x1
    · rw [if_pos hc1] at h
      refine q_ev_brT hc1 (a := 83) (b := 57) rfl ?_
      have h_z0 := Option.some.inj h
      subst h_z0
      exact hk (some (.int x1))
    · rw [if_neg hc1] at h
      refine q_ev_brF hc1 (a := 83) (b := 57) rfl ?_
      refine q_ev_run 11 (S' := (75, [some (.ref 58), some (.int x1)], [.int x1, .ref 62, .int ((57 * m 56 7) + x1), .ref 63], qMM n m lm)) rfl ?_
      obtain ⟨hb2, h⟩ := q_cd h
      refine q_ev_chk (b := q_in x1 65) hb2 (S' := (76, [some (.ref 58), some (.int x1)], [.int (m 60 x1.toNatClampNeg), .int ((57 * m 56 7) + x1), .ref 63], qMM n m lm)) rfl ?_
      obtain ⟨hb3, h⟩ := q_cd h
      refine q_ev_chk (b := q_in ((57 * m 56 7) + x1) 780) hb3 (S' := (77, [some (.ref 58), some (.int x1)], [], qMM n (q_w m 61 (((57 * m 56 7) + x1)).toNatClampNeg (m 60 x1.toNatClampNeg)) lm)) rfl ?_
      refine q_ev_run 2 (S' := (51, [some (.ref 58), some (.int (x1 + 1))], [], qMM n (q_w m 61 (((57 * m 56 7) + x1)).toNatClampNeg (m 60 x1.toNatClampNeg)) lm)) rfl ?_
      exact ih (q_w m 61 (((57 * m 56 7) + x1)).toNatClampNeg (m 60 x1.toNatClampNeg)) (x1 + 1) _ h hk
noncomputable def F_Mo_keeps (m : (Nat → Nat → Int32)) : Option ((Nat → Nat → Int32)) :=
  if m 56 7 = 12 then
    Option.bind (FL_Mo_keeps_11 qFU m 0) (fun m3 =>
      Option.bind (FL_Mo_keeps_51 qFU (q_w m3 56 7 (m3 56 7 - 1)) 0) (fun m6 =>
        some ((q_w m6 56 7 (m6 56 7 + 1)))))
  else
    Option.bind (FL_Mo_keeps_51 qFU m 0) (fun m9 =>
      some ((q_w m9 56 7 (m9 56 7 + 1))))
theorem T_Mo_keeps {Ln : Nat} {xs : Nat → Int32} {n : (Nat → Nat → Int32)} {lm : Nat → Int64} {d : Nat} (hd : 0 ≤ d) {m : (Nat → Nat → Int32)} {m1 : (Nat → Nat → Int32)} (h : F_Mo_keeps m = some m1) : q_Ev (qXT Ln xs) d 137 (0, [some (.ref 58), none], [], qMM n m lm) (none, qMM n m1 lm) := by
  unfold F_Mo_keeps at h
  refine q_ev_run 3 (S' := (6, [some (.ref 58), none], [.int 12, .int (m 56 7)], qMM n m lm)) rfl ?_
  by_cases hc1 : m 56 7 = 12
  · rw [if_pos hc1] at h
    refine q_ev_brT hc1 (a := 9) (b := 49) rfl ?_
    refine q_ev_run 2 (S' := (11, [some (.ref 58), some (.int 0)], [], qMM n m lm)) rfl ?_
    obtain ⟨m3, hl4, h⟩ := Option.bind_eq_some_iff.mp h
    try dsimp only at h
    refine TL_Mo_keeps_11 (by first | omega | decide) _ m 0 _ hl4 (fun w2 => ?_)
    refine q_ev_run 8 (S' := (51, [some (.ref 58), some (.int 0)], [], qMM n (q_w m3 56 7 (m3 56 7 - 1)) lm)) rfl ?_
    obtain ⟨m6, hl7, h⟩ := Option.bind_eq_some_iff.mp h
    try dsimp only at h
    refine TL_Mo_keeps_51 (by first | omega | decide) _ (q_w m3 56 7 (m3 56 7 - 1)) 0 _ hl7 (fun w5 => ?_)
    refine q_ev_run 6 (S' := (93, [some (.ref 58), w5], [], qMM n (q_w m6 56 7 (m6 56 7 + 1)) lm)) rfl ?_
    have h_z0 := Option.some.inj h
    subst h_z0
    exact q_ev_ret rfl rfl
  · rw [if_neg hc1] at h
    refine q_ev_brF hc1 (a := 9) (b := 49) rfl ?_
    refine q_ev_run 2 (S' := (51, [some (.ref 58), some (.int 0)], [], qMM n m lm)) rfl ?_
    obtain ⟨m9, hl10, h⟩ := Option.bind_eq_some_iff.mp h
    try dsimp only at h
    refine TL_Mo_keeps_51 (by first | omega | decide) _ m 0 _ hl10 (fun w8 => ?_)
    refine q_ev_run 6 (S' := (93, [some (.ref 58), w8], [], qMM n (q_w m9 56 7 (m9 56 7 + 1)) lm)) rfl ?_
    have h_z0 := Option.some.inj h
    subst h_z0
    exact q_ev_ret rfl rfl
noncomputable def F_Mo_sits (m : (Nat → Nat → Int32)) (a1 : Int32) (a2 : Int32) (a3 : Int32) (a4 : Int32) : Option (Int32 × (Nat → Nat → Int32)) :=
  Option.bind (F_Mo_isHog m a1) (fun r1 =>
    if r1 = 0 then
      some ((Int32.ofInt (-1)), m)
    else
      Option.bind (F_Mo_isPlace m a2) (fun r4 =>
        if r4 = 0 then
          some ((Int32.ofInt (-1)), m)
        else
          Option.bind (F_Mo_in a3 0 999) (fun r7 =>
            if r7 = 0 then
              some ((Int32.ofInt (-1)), m)
            else
              Option.bind (F_Mo_in a4 a3 999) (fun r10 =>
                if r10 = 0 then
                  some ((Int32.ofInt (-1)), m)
                else
                  Option.bind (FL_Mo_sits_47 qFU m a1 a2 a3 a4 1 0) (fun y13 =>
                    if y13 = 0 then
                      some ((Int32.ofInt (-2)), m)
                    else
                      if m 60 0 = 12 then
                        some ((Int32.ofInt (-3)), m)
                      else
                        Option.bind (F_Mo_keeps m) (fun m18 =>
                          cond (q_in (1 + m18 60 0) 65) (cond (q_in ((1 + m18 60 0) + 12) 65) (cond (q_in ((1 + m18 60 0) + 24) 65) (cond (q_in ((1 + m18 60 0) + 36) 65) (some (((q_w (q_w (q_w (q_w m18 60 ((1 + m18 60 0)).toNatClampNeg a1) 60 (((1 + m18 60 0) + 12)).toNatClampNeg a2) 60 (((1 + m18 60 0) + 24)).toNatClampNeg a3) 60 (((1 + m18 60 0) + 36)).toNatClampNeg a4) 60 0 + 1), (q_w (q_w (q_w (q_w (q_w m18 60 ((1 + m18 60 0)).toNatClampNeg a1) 60 (((1 + m18 60 0) + 12)).toNatClampNeg a2) 60 (((1 + m18 60 0) + 24)).toNatClampNeg a3) 60 (((1 + m18 60 0) + 36)).toNatClampNeg a4) 60 0 ((q_w (q_w (q_w (q_w m18 60 ((1 + m18 60 0)).toNatClampNeg a1) 60 (((1 + m18 60 0) + 12)).toNatClampNeg a2) 60 (((1 + m18 60 0) + 24)).toNatClampNeg a3) 60 (((1 + m18 60 0) + 36)).toNatClampNeg a4) 60 0 + 1)))) none) none) none) none))))))
theorem T_Mo_sits {Ln : Nat} {xs : Nat → Int32} {n : (Nat → Nat → Int32)} {lm : Nat → Int64} {d : Nat} (hd : 2 ≤ d) {m : (Nat → Nat → Int32)} {a1 : Int32} {a2 : Int32} {a3 : Int32} {a4 : Int32} {rv : Int32} {m1 : (Nat → Nat → Int32)} (h : F_Mo_sits m a1 a2 a3 a4 = some (rv, m1)) : q_Ev (qXT Ln xs) d 139 (0, [some (.ref 58), some (.int a1), some (.int a2), some (.int a3), some (.int a4), none, none], [], qMM n m lm) (some (.int rv), qMM n m1 lm) := by
  unfold F_Mo_sits at h
  refine q_ev_run 2 (S' := (2, [some (.ref 58), some (.int a1), some (.int a2), some (.int a3), some (.int a4), none, none], [.int a1, .ref 58], qMM n m lm)) rfl ?_
  obtain ⟨r1, hf2, h⟩ := Option.bind_eq_some_iff.mp h
  try dsimp only at h
  refine q_ev_call (S' := (5, [some (.ref 58), some (.int a1), some (.int a2), some (.int a3), some (.int a4), none, none], [], qMM n m lm)) rfl (by omega) (T_Mo_isHog (by first | omega | decide) hf2) ?_
  refine q_ev_eq (S' := (5, [some (.ref 58), some (.int a1), some (.int a2), some (.int a3), some (.int a4), none, none], [.int r1], qMM n m lm)) rfl ?_
  by_cases hc3 : r1 = 0
  · rw [if_pos hc3] at h
    refine q_ev_brT hc3 (a := 39) (b := 8) rfl ?_
    refine q_ev_run 1 (S' := (40, [some (.ref 58), some (.int a1), some (.int a2), some (.int a3), some (.int a4), none, none], [.int (Int32.ofInt (-1))], qMM n m lm)) rfl ?_
    have h_z0 := Option.some.inj h
    obtain ⟨h_0, h_z1⟩ := Prod.mk.inj h_z0
    subst h_0
    subst h_z1
    exact q_ev_ret rfl rfl
  · rw [if_neg hc3] at h
    refine q_ev_brF hc3 (a := 39) (b := 8) rfl ?_
    refine q_ev_run 2 (S' := (10, [some (.ref 58), some (.int a1), some (.int a2), some (.int a3), some (.int a4), none, none], [.int a2, .ref 58], qMM n m lm)) rfl ?_
    obtain ⟨r4, hf5, h⟩ := Option.bind_eq_some_iff.mp h
    try dsimp only at h
    refine q_ev_call (S' := (13, [some (.ref 58), some (.int a1), some (.int a2), some (.int a3), some (.int a4), none, none], [], qMM n m lm)) rfl (by omega) (T_Mo_isPlace (by first | omega | decide) hf5) ?_
    refine q_ev_eq (S' := (13, [some (.ref 58), some (.int a1), some (.int a2), some (.int a3), some (.int a4), none, none], [.int r4], qMM n m lm)) rfl ?_
    by_cases hc6 : r4 = 0
    · rw [if_pos hc6] at h
      refine q_ev_brT hc6 (a := 39) (b := 16) rfl ?_
      refine q_ev_run 1 (S' := (40, [some (.ref 58), some (.int a1), some (.int a2), some (.int a3), some (.int a4), none, none], [.int (Int32.ofInt (-1))], qMM n m lm)) rfl ?_
      have h_z0 := Option.some.inj h
      obtain ⟨h_0, h_z1⟩ := Prod.mk.inj h_z0
      subst h_0
      subst h_z1
      exact q_ev_ret rfl rfl
    · rw [if_neg hc6] at h
      refine q_ev_brF hc6 (a := 39) (b := 16) rfl ?_
      refine q_ev_run 3 (S' := (21, [some (.ref 58), some (.int a1), some (.int a2), some (.int a3), some (.int a4), none, none], [.int 999, .int 0, .int a3], qMM n m lm)) rfl ?_
      obtain ⟨r7, hf8, h⟩ := Option.bind_eq_some_iff.mp h
      try dsimp only at h
      refine q_ev_call (S' := (24, [some (.ref 58), some (.int a1), some (.int a2), some (.int a3), some (.int a4), none, none], [], qMM n m lm)) rfl (by omega) (T_Mo_in (by first | omega | decide) hf8) ?_
      refine q_ev_eq (S' := (24, [some (.ref 58), some (.int a1), some (.int a2), some (.int a3), some (.int a4), none, none], [.int r7], qMM n m lm)) rfl ?_
      by_cases hc9 : r7 = 0
      · rw [if_pos hc9] at h
        refine q_ev_brT hc9 (a := 39) (b := 27) rfl ?_
        refine q_ev_run 1 (S' := (40, [some (.ref 58), some (.int a1), some (.int a2), some (.int a3), some (.int a4), none, none], [.int (Int32.ofInt (-1))], qMM n m lm)) rfl ?_
        have h_z0 := Option.some.inj h
        obtain ⟨h_0, h_z1⟩ := Prod.mk.inj h_z0
        subst h_0
        subst h_z1
        exact q_ev_ret rfl rfl
      · rw [if_neg hc9] at h
        refine q_ev_brF hc9 (a := 39) (b := 27) rfl ?_
        refine q_ev_run 3 (S' := (33, [some (.ref 58), some (.int a1), some (.int a2), some (.int a3), some (.int a4), none, none], [.int 999, .int a3, .int a4], qMM n m lm)) rfl ?_
        obtain ⟨r10, hf11, h⟩ := Option.bind_eq_some_iff.mp h
        try dsimp only at h
        refine q_ev_call (S' := (36, [some (.ref 58), some (.int a1), some (.int a2), some (.int a3), some (.int a4), none, none], [], qMM n m lm)) rfl (by omega) (T_Mo_in (by first | omega | decide) hf11) ?_
        refine q_ev_eq (S' := (36, [some (.ref 58), some (.int a1), some (.int a2), some (.int a3), some (.int a4), none, none], [.int r10], qMM n m lm)) rfl ?_
        by_cases hc12 : r10 = 0
        · rw [if_pos hc12] at h
          refine q_ev_brT hc12 (a := 39) (b := 41) rfl ?_
          refine q_ev_run 1 (S' := (40, [some (.ref 58), some (.int a1), some (.int a2), some (.int a3), some (.int a4), none, none], [.int (Int32.ofInt (-1))], qMM n m lm)) rfl ?_
          have h_z0 := Option.some.inj h
          obtain ⟨h_0, h_z1⟩ := Prod.mk.inj h_z0
          subst h_0
          subst h_z1
          exact q_ev_ret rfl rfl
        · rw [if_neg hc12] at h
          refine q_ev_brF hc12 (a := 39) (b := 41) rfl ?_
          refine q_ev_run 4 (S' := (47, [some (.ref 58), some (.int a1), some (.int a2), some (.int a3), some (.int a4), some (.int 1), some (.int 0)], [], qMM n m lm)) rfl ?_
          obtain ⟨y13, hl15, h⟩ := Option.bind_eq_some_iff.mp h
          try dsimp only at h
          refine TL_Mo_sits_47 (by first | omega | decide) _ m a1 a2 a3 a4 1 0 _ hl15 (fun w14 => ?_)
          refine q_ev_run 1 (S' := (132, [some (.ref 58), some (.int a1), some (.int a2), some (.int a3), some (.int a4), some (.int y13), w14], [.int y13], qMM n m lm)) rfl ?_
          by_cases hc16 : y13 = 0
          · rw [if_pos hc16] at h
            refine q_ev_brT hc16 (a := 135) (b := 138) rfl ?_
            refine q_ev_run 1 (S' := (137, [some (.ref 58), some (.int a1), some (.int a2), some (.int a3), some (.int a4), some (.int y13), w14], [.int (Int32.ofInt (-2))], qMM n m lm)) rfl ?_
            have h_z0 := Option.some.inj h
            obtain ⟨h_0, h_z1⟩ := Prod.mk.inj h_z0
            subst h_0
            subst h_z1
            exact q_ev_ret rfl rfl
          · rw [if_neg hc16] at h
            refine q_ev_brF hc16 (a := 135) (b := 138) rfl ?_
            refine q_ev_run 5 (S' := (146, [some (.ref 58), some (.int a1), some (.int a2), some (.int a3), some (.int a4), some (.int y13), w14], [.int 12, .int (m 60 0)], qMM n m lm)) rfl ?_
            by_cases hc17 : m 60 0 = 12
            · rw [if_pos hc17] at h
              refine q_ev_brT hc17 (a := 149) (b := 152) rfl ?_
              refine q_ev_run 1 (S' := (151, [some (.ref 58), some (.int a1), some (.int a2), some (.int a3), some (.int a4), some (.int y13), w14], [.int (Int32.ofInt (-3))], qMM n m lm)) rfl ?_
              have h_z0 := Option.some.inj h
              obtain ⟨h_0, h_z1⟩ := Prod.mk.inj h_z0
              subst h_0
              subst h_z1
              exact q_ev_ret rfl rfl
            · rw [if_neg hc17] at h
              refine q_ev_brF hc17 (a := 149) (b := 152) rfl ?_
              refine q_ev_run 1 (S' := (153, [some (.ref 58), some (.int a1), some (.int a2), some (.int a3), some (.int a4), some (.int y13), w14], [.ref 58], qMM n m lm)) rfl ?_
              obtain ⟨m18, hf19, h⟩ := Option.bind_eq_some_iff.mp h
              try dsimp only at h
              refine q_ev_call (S' := (156, [some (.ref 58), some (.int a1), some (.int a2), some (.int a3), some (.int a4), some (.int y13), w14], [], qMM n m lm)) rfl (by omega) (T_Mo_keeps (by first | omega | decide) hf19) ?_
              refine q_ev_eq (S' := (156, [some (.ref 58), some (.int a1), some (.int a2), some (.int a3), some (.int a4), some (.int y13), w14], [], qMM n m18 lm)) rfl ?_
              refine q_ev_run 11 (S' := (173, [some (.ref 58), some (.int a1), some (.int a2), some (.int a3), some (.int a4), some (.int y13), some (.int (1 + m18 60 0))], [.int a1, .int (1 + m18 60 0), .ref 62], qMM n m18 lm)) rfl ?_
              obtain ⟨hb20, h⟩ := q_cd h
              refine q_ev_chk (b := q_in (1 + m18 60 0) 65) hb20 (S' := (174, [some (.ref 58), some (.int a1), some (.int a2), some (.int a3), some (.int a4), some (.int y13), some (.int (1 + m18 60 0))], [], qMM n (q_w m18 60 ((1 + m18 60 0)).toNatClampNeg a1) lm)) rfl ?_
              refine q_ev_run 6 (S' := (184, [some (.ref 58), some (.int a1), some (.int a2), some (.int a3), some (.int a4), some (.int y13), some (.int (1 + m18 60 0))], [.int a2, .int ((1 + m18 60 0) + 12), .ref 62], qMM n (q_w m18 60 ((1 + m18 60 0)).toNatClampNeg a1) lm)) rfl ?_
              obtain ⟨hb21, h⟩ := q_cd h
              refine q_ev_chk (b := q_in ((1 + m18 60 0) + 12) 65) hb21 (S' := (185, [some (.ref 58), some (.int a1), some (.int a2), some (.int a3), some (.int a4), some (.int y13), some (.int (1 + m18 60 0))], [], qMM n (q_w (q_w m18 60 ((1 + m18 60 0)).toNatClampNeg a1) 60 (((1 + m18 60 0) + 12)).toNatClampNeg a2) lm)) rfl ?_
              refine q_ev_run 6 (S' := (195, [some (.ref 58), some (.int a1), some (.int a2), some (.int a3), some (.int a4), some (.int y13), some (.int (1 + m18 60 0))], [.int a3, .int ((1 + m18 60 0) + 24), .ref 62], qMM n (q_w (q_w m18 60 ((1 + m18 60 0)).toNatClampNeg a1) 60 (((1 + m18 60 0) + 12)).toNatClampNeg a2) lm)) rfl ?_
              obtain ⟨hb22, h⟩ := q_cd h
              refine q_ev_chk (b := q_in ((1 + m18 60 0) + 24) 65) hb22 (S' := (196, [some (.ref 58), some (.int a1), some (.int a2), some (.int a3), some (.int a4), some (.int y13), some (.int (1 + m18 60 0))], [], qMM n (q_w (q_w (q_w m18 60 ((1 + m18 60 0)).toNatClampNeg a1) 60 (((1 + m18 60 0) + 12)).toNatClampNeg a2) 60 (((1 + m18 60 0) + 24)).toNatClampNeg a3) lm)) rfl ?_
              refine q_ev_run 6 (S' := (207, [some (.ref 58), some (.int a1), some (.int a2), some (.int a3), some (.int a4), some (.int y13), some (.int (1 + m18 60 0))], [.int a4, .int ((1 + m18 60 0) + 36), .ref 62], qMM n (q_w (q_w (q_w m18 60 ((1 + m18 60 0)).toNatClampNeg a1) 60 (((1 + m18 60 0) + 12)).toNatClampNeg a2) 60 (((1 + m18 60 0) + 24)).toNatClampNeg a3) lm)) rfl ?_
              obtain ⟨hb23, h⟩ := q_cd h
              refine q_ev_chk (b := q_in ((1 + m18 60 0) + 36) 65) hb23 (S' := (208, [some (.ref 58), some (.int a1), some (.int a2), some (.int a3), some (.int a4), some (.int y13), some (.int (1 + m18 60 0))], [], qMM n (q_w (q_w (q_w (q_w m18 60 ((1 + m18 60 0)).toNatClampNeg a1) 60 (((1 + m18 60 0) + 12)).toNatClampNeg a2) 60 (((1 + m18 60 0) + 24)).toNatClampNeg a3) 60 (((1 + m18 60 0) + 36)).toNatClampNeg a4) lm)) rfl ?_
              refine q_ev_run 12 (S' := (224, [some (.ref 58), some (.int a1), some (.int a2), some (.int a3), some (.int a4), some (.int y13), some (.int (1 + m18 60 0))], [.int ((q_w (q_w (q_w (q_w m18 60 ((1 + m18 60 0)).toNatClampNeg a1) 60 (((1 + m18 60 0) + 12)).toNatClampNeg a2) 60 (((1 + m18 60 0) + 24)).toNatClampNeg a3) 60 (((1 + m18 60 0) + 36)).toNatClampNeg a4) 60 0 + 1)], qMM n (q_w (q_w (q_w (q_w (q_w m18 60 ((1 + m18 60 0)).toNatClampNeg a1) 60 (((1 + m18 60 0) + 12)).toNatClampNeg a2) 60 (((1 + m18 60 0) + 24)).toNatClampNeg a3) 60 (((1 + m18 60 0) + 36)).toNatClampNeg a4) 60 0 ((q_w (q_w (q_w (q_w m18 60 ((1 + m18 60 0)).toNatClampNeg a1) 60 (((1 + m18 60 0) + 12)).toNatClampNeg a2) 60 (((1 + m18 60 0) + 24)).toNatClampNeg a3) 60 (((1 + m18 60 0) + 36)).toNatClampNeg a4) 60 0 + 1)) lm)) rfl ?_
              have h_z0 := Option.some.inj h
              obtain ⟨h_0, h_z1⟩ := Prod.mk.inj h_z0
              subst h_0
              subst h_z1
              exact q_ev_ret rfl rfl
noncomputable def F_Hi_noteWait_36 (m : (Nat → Nat → Int32)) (a1 : Int32) (a2 : Int32) : Option ((Nat → Nat → Int32)) :=
  Option.bind (F_Hi_note_36 m a1 a2) (fun m1 =>
    some (m1))
theorem T_Hi_noteWait_36 {Ln : Nat} {xs : Nat → Int32} {n : (Nat → Nat → Int32)} {lm : Nat → Int64} {d : Nat} (hd : 1 ≤ d) {m : (Nat → Nat → Int32)} {a1 : Int32} {a2 : Int32} {m1 : (Nat → Nat → Int32)} (h : F_Hi_noteWait_36 m a1 a2 = some m1) : q_Ev (qXT Ln xs) d 9 (0, [some (.ref 38), some (.int a1), some (.int a2)], [], qMM m n lm) (none, qMM m1 n lm) := by
  unfold F_Hi_noteWait_36 at h
  refine q_ev_run 3 (S' := (3, [some (.ref 38), some (.int a1), some (.int a2)], [.int a2, .int a1, .ref 38], qMM m n lm)) rfl ?_
  obtain ⟨m1, hf2, h⟩ := Option.bind_eq_some_iff.mp h
  try dsimp only at h
  refine q_ev_call (S' := (6, [some (.ref 38), some (.int a1), some (.int a2)], [], qMM m n lm)) rfl (by omega) (T_Hi_note_36 (by first | omega | decide) hf2) ?_
  refine q_ev_eq (S' := (6, [some (.ref 38), some (.int a1), some (.int a2)], [], qMM m1 n lm)) rfl ?_
  have h_z0 := Option.some.inj h
  subst h_z0
  exact q_ev_ret rfl rfl
noncomputable def F_Ru_comesLast_39 (m : (Nat → Nat → Int32)) : Option (Int32) :=
  if m 39 0 ≤ 0 then
    some ((Int32.ofInt (-9)))
  else
    cond (q_in (m 39 0 - 1) 8) (some (m 41 ((m 39 0 - 1)).toNatClampNeg)) none
theorem T_Ru_comesLast_39 {Ln : Nat} {xs : Nat → Int32} {n : (Nat → Nat → Int32)} {lm : Nat → Int64} {d : Nat} (hd : 0 ≤ d) {m : (Nat → Nat → Int32)} {rv : Int32} (h : F_Ru_comesLast_39 m = some rv) : q_Ev (qXT Ln xs) d 55 (0, [some (.ref 41)], [], qMM m n lm) (some (.int rv), qMM m n lm) := by
  unfold F_Ru_comesLast_39 at h
  refine q_ev_run 2 (S' := (4, [some (.ref 41)], [.int (m 39 0)], qMM m n lm)) rfl ?_
  by_cases hc1 : m 39 0 ≤ 0
  · rw [if_pos hc1] at h
    refine q_ev_brT hc1 (a := 21) (b := 7) rfl ?_
    refine q_ev_run 1 (S' := (23, [some (.ref 41)], [.int (Int32.ofInt (-9))], qMM m n lm)) rfl ?_
    have h_z0 := Option.some.inj h
    subst h_z0
    exact q_ev_ret rfl rfl
  · rw [if_neg hc1] at h
    refine q_ev_brF hc1 (a := 21) (b := 7) rfl ?_
    refine q_ev_run 6 (S' := (17, [some (.ref 41)], [.int (m 39 0 - 1), .ref 43], qMM m n lm)) rfl ?_
    obtain ⟨hb2, h⟩ := q_cd h
    refine q_ev_chk (b := q_in (m 39 0 - 1) 8) hb2 (S' := (18, [some (.ref 41)], [.int (m 41 ((m 39 0 - 1)).toNatClampNeg)], qMM m n lm)) rfl ?_
    refine q_ev_run 1 (S' := (23, [some (.ref 41)], [.int (m 41 ((m 39 0 - 1)).toNatClampNeg)], qMM m n lm)) rfl ?_
    have h_z0 := Option.some.inj h
    subst h_z0
    exact q_ev_ret rfl rfl
