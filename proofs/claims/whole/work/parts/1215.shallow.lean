noncomputable def F_Mo_ask (m : (Nat → Nat → Int32)) (a1 : Int32) : Option (Int32) :=
  Option.bind (F_Mo_in a1 0 (((1 : Int32) <<< (m 58 1 &&& 31)) - 1)) (fun r1 =>
    if r1 = 0 then
      some ((Int32.ofInt (-1)))
    else
      Option.bind (FL_Mo_ask_26 qFU m a1 (Int32.ofInt (-9)) 15) (fun y4 =>
        some (y4)))
theorem T_Mo_ask {Ln : Nat} {xs : Nat → Int32} {n : (Nat → Nat → Int32)} {lm : Nat → Int64} {d : Nat} (hd : 1 ≤ d) {m : (Nat → Nat → Int32)} {a1 : Int32} {rv : Int32} (h : F_Mo_ask m a1 = some rv) : q_Ev (qXT Ln xs) d 162 (0, [some (.ref 58), some (.int a1), none, none, none, none, none, none, none], [], qMM n m lm) (some (.int rv), qMM n m lm) := by
  unfold F_Mo_ask at h
  refine q_ev_run 10 (S' := (12, [some (.ref 58), some (.int a1), none, none, none, none, none, none, none], [.int (((1 : Int32) <<< (m 58 1 &&& 31)) - 1), .int 0, .int a1], qMM n m lm)) rfl ?_
  obtain ⟨r1, hf2, h⟩ := Option.bind_eq_some_iff.mp h
  try dsimp only at h
  refine q_ev_call (S' := (15, [some (.ref 58), some (.int a1), none, none, none, none, none, none, none], [], qMM n m lm)) rfl (by omega) (T_Mo_in (by first | omega | decide) hf2) ?_
  refine q_ev_eq (S' := (15, [some (.ref 58), some (.int a1), none, none, none, none, none, none, none], [.int r1], qMM n m lm)) rfl ?_
  by_cases hc3 : r1 = 0
  · rw [if_pos hc3] at h
    refine q_ev_brT hc3 (a := 18) (b := 20) rfl ?_
    refine q_ev_run 1 (S' := (19, [some (.ref 58), some (.int a1), none, none, none, none, none, none, none], [.int (Int32.ofInt (-1))], qMM n m lm)) rfl ?_
    have h_z0 := Option.some.inj h
    subst h_z0
    exact q_ev_ret rfl rfl
  · rw [if_neg hc3] at h
    refine q_ev_brF hc3 (a := 18) (b := 20) rfl ?_
    refine q_ev_run 4 (S' := (26, [some (.ref 58), some (.int a1), some (.int (Int32.ofInt (-9))), some (.int 15), none, none, none, none, none], [], qMM n m lm)) rfl ?_
    obtain ⟨y4, hl11, h⟩ := Option.bind_eq_some_iff.mp h
    try dsimp only at h
    refine TL_Mo_ask_26 (by first | omega | decide) _ m a1 (Int32.ofInt (-9)) 15 (none) (none) (none) (none) (none) _ hl11 (fun w5 w6 w7 w8 w9 w10 => ?_)
    refine q_ev_run 1 (S' := (173, [some (.ref 58), some (.int a1), some (.int y4), w5, w6, w7, w8, w9, w10], [.int y4], qMM n m lm)) rfl ?_
    have h_z0 := Option.some.inj h
    subst h_z0
    exact q_ev_ret rfl rfl
noncomputable def FL_AT_greatestShared_2 : Nat → Int32 → Int32 → Int32 → Option ((Int32) ⊕ (Unit))
  | 0, _, _, _ => none
  | fu + 1, x0, x1, x2 =>
    if x2 ≤ 1 then
      some (.inr ())
    else
      if x2 = 0 then none else (
        if (x0 - x0 / x2 * x2) = 0 then
          if x2 = 0 then none else (
            if (x1 - x1 / x2 * x2) = 0 then
              some (.inl (x2))
            else
              FL_AT_greatestShared_2 fu x0 x1 (x2 + (Int32.ofInt (-1)))
           )
        else
          FL_AT_greatestShared_2 fu x0 x1 (x2 + (Int32.ofInt (-1)))
       )
theorem TL_AT_greatestShared_2 {Ln : Nat} {xs : Nat → Int32} {n : (Nat → Nat → Int32)} {m : (Nat → Nat → Int32)} {lm : Nat → Int64} {d : Nat} (hd : 0 ≤ d) {r : Option Value × qM} : ∀ (fu : Nat) (x0 : Int32) (x1 : Int32) (x2 : Int32)  (o : (Int32) ⊕ (Unit)), FL_AT_greatestShared_2 fu x0 x1 x2 = some o → (∀ (rv : Int32), o = .inl rv → r = (some (.int rv), qMM m n lm)) → (∀ (_ : Unit), o = .inr () → ∀ (u2 : Option Value), q_Ev (qXT Ln xs) d 102 (27, [some (.int x0), some (.int x1), u2], [], qMM m n lm) r) → q_Ev (qXT Ln xs) d 102 (2, [some (.int x0), some (.int x1), some (.int x2)], [], qMM m n lm) r := by
  intro fu
  induction fu with
  | zero => intro x0 x1 x2 o h hr hk; cases h
  | succ fu ih =>
    intro x0 x1 x2 o h hr hk
    rw [FL_AT_greatestShared_2] at h
    refine q_ev_run 2 (S' := (4, [some (.int x0), some (.int x1), some (.int x2)], [.int 1, .int x2], qMM m n lm)) rfl ?_
    by_cases hc1 : x2 ≤ 1
    · rw [if_pos hc1] at h
      refine q_ev_brT hc1 (a := 27) (b := 7) rfl ?_
      obtain rfl := (Option.some.inj h).symm
      exact hk () rfl (some (.int x2))
    · rw [if_neg hc1] at h
      refine q_ev_brF hc1 (a := 27) (b := 7) rfl ?_
      refine q_ev_run 2 (S' := (9, [some (.int x0), some (.int x1), some (.int x2)], [.int x2, .int x0], qMM m n lm)) rfl ?_
      by_cases hz2 : x2 = 0
      · rw [if_pos hz2] at h; cases h
      rw [if_neg hz2] at h
      refine q_ev_nz hz2 (S' := (10, [some (.int x0), some (.int x1), some (.int x2)], [.int (x0 - x0 / x2 * x2)], qMM m n lm)) rfl ?_
      by_cases hc3 : (x0 - x0 / x2 * x2) = 0
      · rw [if_pos hc3] at h
        refine q_ev_brT hc3 (a := 13) (b := 21) rfl ?_
        refine q_ev_run 2 (S' := (15, [some (.int x0), some (.int x1), some (.int x2)], [.int x2, .int x1], qMM m n lm)) rfl ?_
        by_cases hz4 : x2 = 0
        · rw [if_pos hz4] at h; cases h
        rw [if_neg hz4] at h
        refine q_ev_nz hz4 (S' := (16, [some (.int x0), some (.int x1), some (.int x2)], [.int (x1 - x1 / x2 * x2)], qMM m n lm)) rfl ?_
        by_cases hc5 : (x1 - x1 / x2 * x2) = 0
        · rw [if_pos hc5] at h
          refine q_ev_brT hc5 (a := 19) (b := 21) rfl ?_
          refine q_ev_run 1 (S' := (20, [some (.int x0), some (.int x1), some (.int x2)], [.int x2], qMM m n lm)) rfl ?_
          obtain rfl := (Option.some.inj h).symm
          rw [hr _ rfl]
          exact q_ev_ret rfl rfl
        · rw [if_neg hc5] at h
          refine q_ev_brF hc5 (a := 19) (b := 21) rfl ?_
          refine q_ev_run 2 (S' := (2, [some (.int x0), some (.int x1), some (.int (x2 + (Int32.ofInt (-1))))], [], qMM m n lm)) rfl ?_
          exact ih x0 x1 (x2 + (Int32.ofInt (-1))) _ h hr hk
      · rw [if_neg hc3] at h
        refine q_ev_brF hc3 (a := 13) (b := 21) rfl ?_
        refine q_ev_run 2 (S' := (2, [some (.int x0), some (.int x1), some (.int (x2 + (Int32.ofInt (-1))))], [], qMM m n lm)) rfl ?_
        exact ih x0 x1 (x2 + (Int32.ofInt (-1))) _ h hr hk
noncomputable def F_AT_greatestShared (a0 : Int32) (a1 : Int32) : Option (Int32) :=
  Option.bind (FL_AT_greatestShared_2 qFU a0 a1 a1) (fun o3 => match o3 with
    | .inl v0 => some v0
    | .inr _ =>
      some (1))
theorem T_AT_greatestShared {Ln : Nat} {xs : Nat → Int32} {n : (Nat → Nat → Int32)} {m : (Nat → Nat → Int32)} {lm : Nat → Int64} {d : Nat} (hd : 0 ≤ d) {a0 : Int32} {a1 : Int32} {rv : Int32} (h : F_AT_greatestShared a0 a1 = some rv) : q_Ev (qXT Ln xs) d 102 (0, [some (.int a0), some (.int a1), none], [], qMM m n lm) (some (.int rv), qMM m n lm) := by
  unfold F_AT_greatestShared at h
  refine q_ev_run 2 (S' := (2, [some (.int a0), some (.int a1), some (.int a1)], [], qMM m n lm)) rfl ?_
  obtain ⟨o3, hl2, h⟩ := Option.bind_eq_some_iff.mp h
  rcases o3 with v0 | _
  · have h_z0 := Option.some.inj h
    subst h_z0
    exact TL_AT_greatestShared_2 (by first | omega | decide) _ a0 a1 a1 _ hl2 (fun _ hh => by cases hh; rfl) (fun _ hh => by cases hh)
  · refine TL_AT_greatestShared_2 (by first | omega | decide) _ a0 a1 a1 _ hl2 (fun _ hh => by cases hh) (fun _ hh w1 => ?_)
    cases hh
    try dsimp only at h
    refine q_ev_run 1 (S' := (28, [some (.int a0), some (.int a1), w1], [.int 1], qMM m n lm)) rfl ?_
    have h_z0 := Option.some.inj h
    subst h_z0
    exact q_ev_ret rfl rfl
noncomputable def FL_AT_bet_69 : Nat → (Nat → Nat → Int32) → Int32 → Int32 → Int32 → Int32 → Int64 → Int32 → Option (Int64 × Int32)
  | 0, _, _, _, _, _, _, _ => none
  | fu + 1, m, x1, x2, x3, x4, x5, x7 =>
    if m 39 0 ≤ x7 then
      some (x5, x7)
    else
      FL_AT_bet_69 fu m x1 x2 x3 x4 (x5 * x4.toInt64) (x7 + 1)
set_option maxRecDepth 20000 in
theorem TL_AT_bet_69 {Ln : Nat} {xs : Nat → Int32} {n : (Nat → Nat → Int32)} {lm : Nat → Int64} {d : Nat} (hd : 0 ≤ d) {r : Option Value × qM} : ∀ (fu : Nat) (m : (Nat → Nat → Int32)) (x1 : Int32) (x2 : Int32) (x3 : Int32) (x4 : Int32) (x5 : Int64) (x7 : Int32)  (y5 : Int64) (y7 : Int32), FL_AT_bet_69 fu m x1 x2 x3 x4 x5 x7 = some (y5, y7) → (q_Ev (qXT Ln xs) d 89 (95, [some (.ref 0), some (.int x1), some (.int x2), some (.int x3), some (.int x4), some (.long y5), none, some (.int y7)], [], qMM m n lm) r) → q_Ev (qXT Ln xs) d 89 (69, [some (.ref 0), some (.int x1), some (.int x2), some (.int x3), some (.int x4), some (.long x5), none, some (.int x7)], [], qMM m n lm) r := by
  intro fu
  induction fu with
  | zero => intro m x1 x2 x3 x4 x5 x7 y5 y7 h hk; cases h
  | succ fu ih =>
    intro m x1 x2 x3 x4 x5 x7 y5 y7 h hk
    rw [FL_AT_bet_69] at h
    refine q_ev_run 4 (S' := (78, [some (.ref 0), some (.int x1), some (.int x2), some (.int x3), some (.int x4), some (.long x5), none, some (.int x7)], [.int (m 39 0), .int x7], qMM m n lm)) rfl ?_
    by_cases hc1 : m 39 0 ≤ x7
    · rw [if_pos hc1] at h
      refine q_ev_brT hc1 (a := 95) (b := 81) rfl ?_
      have h_z0 := Option.some.inj h
      obtain ⟨h_0, h_z1⟩ := Prod.mk.inj h_z0
      subst h_0
      subst h_z1
      exact hk 
    · rw [if_neg hc1] at h
      refine q_ev_brF hc1 (a := 95) (b := 81) rfl ?_
      refine q_ev_run 7 (S' := (69, [some (.ref 0), some (.int x1), some (.int x2), some (.int x3), some (.int x4), some (.long (x5 * x4.toInt64)), none, some (.int (x7 + 1))], [], qMM m n lm)) rfl ?_
      exact ih m x1 x2 x3 x4 (x5 * x4.toInt64) (x7 + 1) _ _ h hk
noncomputable def F_AT_bet (m : (Nat → Nat → Int32)) (a1 : Int32) (a2 : Int32) : Option (Int64) :=
  if a1 < 0 then
    some ((Int64.ofInt (-1)))
  else
    if 10 < a1 then
      some ((Int64.ofInt (-1)))
    else
      if a2 < 0 then
        some ((Int64.ofInt (-1)))
      else
        if a2 ≤ 1 then
          if m 39 0 = 0 then
            some (a2.toInt64)
          else
            Option.bind (F_AT_greatestShared (10 - a1) 10) (fun r6 =>
              if a2 = 0 then
                if r6 = 0 then none else (
                  Option.bind (FL_AT_bet_69 qFU m a1 a2 r6 ((10 - a1) / r6) 1 1) (fun (y10, y11) =>
                    some (y10))
                 )
              else
                if r6 = 0 then none else (
                  Option.bind (FL_AT_bet_69 qFU m a1 a2 r6 (10 / r6) 1 1) (fun (y14, y15) =>
                    some (y14))
                 ))
        else
          some ((Int64.ofInt (-1)))
set_option maxRecDepth 20000 in
theorem T_AT_bet {Ln : Nat} {xs : Nat → Int32} {n : (Nat → Nat → Int32)} {lm : Nat → Int64} {d : Nat} (hd : 1 ≤ d) {m : (Nat → Nat → Int32)} {a1 : Int32} {a2 : Int32} {rv : Int64} (h : F_AT_bet m a1 a2 = some rv) : q_Ev (qXT Ln xs) d 89 (0, [some (.ref 0), some (.int a1), some (.int a2), none, none, none, none, none], [], qMM m n lm) (some (.long rv), qMM m n lm) := by
  unfold F_AT_bet at h
  refine q_ev_run 1 (S' := (1, [some (.ref 0), some (.int a1), some (.int a2), none, none, none, none, none], [.int a1], qMM m n lm)) rfl ?_
  by_cases hc1 : a1 < 0
  · rw [if_pos hc1] at h
    refine q_ev_brT hc1 (a := 19) (b := 4) rfl ?_
    refine q_ev_run 1 (S' := (22, [some (.ref 0), some (.int a1), some (.int a2), none, none, none, none, none], [.long (Int64.ofInt (-1))], qMM m n lm)) rfl ?_
    have h_z0 := Option.some.inj h
    subst h_z0
    exact q_ev_ret rfl rfl
  · rw [if_neg hc1] at h
    refine q_ev_brF hc1 (a := 19) (b := 4) rfl ?_
    refine q_ev_run 2 (S' := (7, [some (.ref 0), some (.int a1), some (.int a2), none, none, none, none, none], [.int 10, .int a1], qMM m n lm)) rfl ?_
    by_cases hc2 : 10 < a1
    · rw [if_pos hc2] at h
      refine q_ev_brT hc2 (a := 19) (b := 10) rfl ?_
      refine q_ev_run 1 (S' := (22, [some (.ref 0), some (.int a1), some (.int a2), none, none, none, none, none], [.long (Int64.ofInt (-1))], qMM m n lm)) rfl ?_
      have h_z0 := Option.some.inj h
      subst h_z0
      exact q_ev_ret rfl rfl
    · rw [if_neg hc2] at h
      refine q_ev_brF hc2 (a := 19) (b := 10) rfl ?_
      refine q_ev_run 1 (S' := (11, [some (.ref 0), some (.int a1), some (.int a2), none, none, none, none, none], [.int a2], qMM m n lm)) rfl ?_
      by_cases hc3 : a2 < 0
      · rw [if_pos hc3] at h
        refine q_ev_brT hc3 (a := 19) (b := 14) rfl ?_
        refine q_ev_run 1 (S' := (22, [some (.ref 0), some (.int a1), some (.int a2), none, none, none, none, none], [.long (Int64.ofInt (-1))], qMM m n lm)) rfl ?_
        have h_z0 := Option.some.inj h
        subst h_z0
        exact q_ev_ret rfl rfl
      · rw [if_neg hc3] at h
        refine q_ev_brF hc3 (a := 19) (b := 14) rfl ?_
        refine q_ev_run 2 (S' := (16, [some (.ref 0), some (.int a1), some (.int a2), none, none, none, none, none], [.int 1, .int a2], qMM m n lm)) rfl ?_
        by_cases hc4 : a2 ≤ 1
        · rw [if_pos hc4] at h
          refine q_ev_brT hc4 (a := 23) (b := 19) rfl ?_
          refine q_ev_run 3 (S' := (30, [some (.ref 0), some (.int a1), some (.int a2), none, none, none, none, none], [.int (m 39 0)], qMM m n lm)) rfl ?_
          by_cases hc5 : m 39 0 = 0
          · rw [if_pos hc5] at h
            refine q_ev_brT hc5 (a := 33) (b := 36) rfl ?_
            refine q_ev_run 2 (S' := (35, [some (.ref 0), some (.int a1), some (.int a2), none, none, none, none, none], [.long a2.toInt64], qMM m n lm)) rfl ?_
            have h_z0 := Option.some.inj h
            subst h_z0
            exact q_ev_ret rfl rfl
          · rw [if_neg hc5] at h
            refine q_ev_brF hc5 (a := 33) (b := 36) rfl ?_
            refine q_ev_run 4 (S' := (42, [some (.ref 0), some (.int a1), some (.int a2), none, none, none, none, none], [.int 10, .int (10 - a1)], qMM m n lm)) rfl ?_
            obtain ⟨r6, hf7, h⟩ := Option.bind_eq_some_iff.mp h
            try dsimp only at h
            refine q_ev_call (S' := (45, [some (.ref 0), some (.int a1), some (.int a2), none, none, none, none, none], [], qMM m n lm)) rfl (by omega) (T_AT_greatestShared (by first | omega | decide) hf7) ?_
            refine q_ev_eq (S' := (45, [some (.ref 0), some (.int a1), some (.int a2), none, none, none, none, none], [.int r6], qMM m n lm)) rfl ?_
            refine q_ev_run 2 (S' := (47, [some (.ref 0), some (.int a1), some (.int a2), some (.int r6), none, none, none, none], [.int a2], qMM m n lm)) rfl ?_
            by_cases hc8 : a2 = 0
            · rw [if_pos hc8] at h
              refine q_ev_brT hc8 (a := 50) (b := 57) rfl ?_
              refine q_ev_run 5 (S' := (60, [some (.ref 0), some (.int a1), some (.int a2), some (.int r6), none, none, none, none], [.int r6, .int (10 - a1)], qMM m n lm)) rfl ?_
              by_cases hz9 : r6 = 0
              · rw [if_pos hz9] at h; cases h
              rw [if_neg hz9] at h
              refine q_ev_nz hz9 (S' := (61, [some (.ref 0), some (.int a1), some (.int a2), some (.int r6), none, none, none, none], [.int ((10 - a1) / r6)], qMM m n lm)) rfl ?_
              refine q_ev_run 5 (S' := (69, [some (.ref 0), some (.int a1), some (.int a2), some (.int r6), some (.int ((10 - a1) / r6)), some (.long 1), none, some (.int 1)], [], qMM m n lm)) rfl ?_
              obtain ⟨⟨y10, y11⟩, hl12, h⟩ := Option.bind_eq_some_iff.mp h
              try dsimp only at h
              refine TL_AT_bet_69 (by first | omega | decide) _ m a1 a2 r6 ((10 - a1) / r6) 1 1 _ _ hl12 ?_
              refine q_ev_run 1 (S' := (97, [some (.ref 0), some (.int a1), some (.int a2), some (.int r6), some (.int ((10 - a1) / r6)), some (.long y10), none, some (.int y11)], [.long y10], qMM m n lm)) rfl ?_
              have h_z0 := Option.some.inj h
              subst h_z0
              exact q_ev_ret rfl rfl
            · rw [if_neg hc8] at h
              refine q_ev_brF hc8 (a := 50) (b := 57) rfl ?_
              refine q_ev_run 2 (S' := (60, [some (.ref 0), some (.int a1), some (.int a2), some (.int r6), none, none, none, none], [.int r6, .int 10], qMM m n lm)) rfl ?_
              by_cases hz13 : r6 = 0
              · rw [if_pos hz13] at h; cases h
              rw [if_neg hz13] at h
              refine q_ev_nz hz13 (S' := (61, [some (.ref 0), some (.int a1), some (.int a2), some (.int r6), none, none, none, none], [.int (10 / r6)], qMM m n lm)) rfl ?_
              refine q_ev_run 5 (S' := (69, [some (.ref 0), some (.int a1), some (.int a2), some (.int r6), some (.int (10 / r6)), some (.long 1), none, some (.int 1)], [], qMM m n lm)) rfl ?_
              obtain ⟨⟨y14, y15⟩, hl16, h⟩ := Option.bind_eq_some_iff.mp h
              try dsimp only at h
              refine TL_AT_bet_69 (by first | omega | decide) _ m a1 a2 r6 (10 / r6) 1 1 _ _ hl16 ?_
              refine q_ev_run 1 (S' := (97, [some (.ref 0), some (.int a1), some (.int a2), some (.int r6), some (.int (10 / r6)), some (.long y14), none, some (.int y15)], [.long y14], qMM m n lm)) rfl ?_
              have h_z0 := Option.some.inj h
              subst h_z0
              exact q_ev_ret rfl rfl
        · rw [if_neg hc4] at h
          refine q_ev_brF hc4 (a := 23) (b := 19) rfl ?_
          refine q_ev_run 1 (S' := (22, [some (.ref 0), some (.int a1), some (.int a2), none, none, none, none, none], [.long (Int64.ofInt (-1))], qMM m n lm)) rfl ?_
          have h_z0 := Option.some.inj h
          subst h_z0
          exact q_ev_ret rfl rfl
noncomputable def FL_Mo_bet_44 : Nat → (Nat → Nat → Int32) → Int32 → Int32 → Int64 → Int64 → Int32 → Option (Int64 × Int64 × Int32)
  | 0, _, _, _, _, _, _ => none
  | fu + 1, m, x1, x2, x3, x5, x7 =>
    if m 58 2 ≤ x7 then
      some (x3, x5, x7)
    else
      FL_Mo_bet_44 fu m x1 x2 (x3 * (10 - x1).toInt64) (x5 * 10) (x7 + 1)
set_option maxRecDepth 20000 in
theorem TL_Mo_bet_44 {Ln : Nat} {xs : Nat → Int32} {n : (Nat → Nat → Int32)} {lm : Nat → Int64} {d : Nat} (hd : 0 ≤ d) {r : Option Value × qM} : ∀ (fu : Nat) (m : (Nat → Nat → Int32)) (x1 : Int32) (x2 : Int32) (x3 : Int64) (x5 : Int64) (x7 : Int32)  (y3 : Int64) (y5 : Int64) (y7 : Int32), FL_Mo_bet_44 fu m x1 x2 x3 x5 x7 = some (y3, y5, y7) → (q_Ev (qXT Ln xs) d 163 (77, [some (.ref 58), some (.int x1), some (.int x2), some (.long y3), none, some (.long y5), none, some (.int y7), none, none, none, none, none], [], qMM n m lm) r) → q_Ev (qXT Ln xs) d 163 (44, [some (.ref 58), some (.int x1), some (.int x2), some (.long x3), none, some (.long x5), none, some (.int x7), none, none, none, none, none], [], qMM n m lm) r := by
  intro fu
  induction fu with
  | zero => intro m x1 x2 x3 x5 x7 y3 y5 y7 h hk; cases h
  | succ fu ih =>
    intro m x1 x2 x3 x5 x7 y3 y5 y7 h hk
    rw [FL_Mo_bet_44] at h
    refine q_ev_run 5 (S' := (52, [some (.ref 58), some (.int x1), some (.int x2), some (.long x3), none, some (.long x5), none, some (.int x7), none, none, none, none, none], [.int (m 58 2), .int x7], qMM n m lm)) rfl ?_
    by_cases hc1 : m 58 2 ≤ x7
    · rw [if_pos hc1] at h
      refine q_ev_brT hc1 (a := 77) (b := 55) rfl ?_
      have h_z0 := Option.some.inj h
      obtain ⟨h_0, h_z1⟩ := Prod.mk.inj h_z0
      obtain ⟨h_1, h_z2⟩ := Prod.mk.inj h_z1
      subst h_0
      subst h_1
      subst h_z2
      exact hk 
    · rw [if_neg hc1] at h
      refine q_ev_brF hc1 (a := 77) (b := 55) rfl ?_
      refine q_ev_run 13 (S' := (44, [some (.ref 58), some (.int x1), some (.int x2), some (.long (x3 * (10 - x1).toInt64)), none, some (.long (x5 * 10)), none, some (.int (x7 + 1)), none, none, none, none, none], [], qMM n m lm)) rfl ?_
      exact ih m x1 x2 (x3 * (10 - x1).toInt64) (x5 * 10) (x7 + 1) _ _ _ h hk
noncomputable def FL_Mo_bet_84 : Nat → (Nat → Nat → Int32) → Int32 → Int32 → Int64 → Int64 → Int64 → Int64 → Option (Int64 × Int64)
  | 0, _, _, _, _, _, _, _ => none
  | fu + 1, m, x1, x2, x3, x5, x7, x9 =>
    if (lg_cmp x9 0) = 0 then
      some (x7, x9)
    else
      if x9 = 0 then none else (
        FL_Mo_bet_84 fu m x1 x2 x3 x5 x9 (x7 - x7 / x9 * x9)
       )
set_option maxRecDepth 20000 in
theorem TL_Mo_bet_84 {Ln : Nat} {xs : Nat → Int32} {n : (Nat → Nat → Int32)} {lm : Nat → Int64} {d : Nat} (hd : 0 ≤ d) {r : Option Value × qM} : ∀ (fu : Nat) (m : (Nat → Nat → Int32)) (x1 : Int32) (x2 : Int32) (x3 : Int64) (x5 : Int64) (x7 : Int64) (x9 : Int64) (w11 : Option Value) (y7 : Int64) (y9 : Int64), FL_Mo_bet_84 fu m x1 x2 x3 x5 x7 x9 = some (y7, y9) → (∀ (u11 : Option Value), q_Ev (qXT Ln xs) d 163 (109, [some (.ref 58), some (.int x1), some (.int x2), some (.long x3), none, some (.long x5), none, some (.long y7), none, some (.long y9), none, u11, none], [], qMM n m lm) r) → q_Ev (qXT Ln xs) d 163 (84, [some (.ref 58), some (.int x1), some (.int x2), some (.long x3), none, some (.long x5), none, some (.long x7), none, some (.long x9), none, w11, none], [], qMM n m lm) r := by
  intro fu
  induction fu with
  | zero => intro m x1 x2 x3 x5 x7 x9 w11 y7 y9 h hk; cases h
  | succ fu ih =>
    intro m x1 x2 x3 x5 x7 x9 w11 y7 y9 h hk
    rw [FL_Mo_bet_84] at h
    refine q_ev_run 3 (S' := (88, [some (.ref 58), some (.int x1), some (.int x2), some (.long x3), none, some (.long x5), none, some (.long x7), none, some (.long x9), none, w11, none], [.int (lg_cmp x9 0)], qMM n m lm)) rfl ?_
    by_cases hc1 : (lg_cmp x9 0) = 0
    · rw [if_pos hc1] at h
      refine q_ev_brT hc1 (a := 109) (b := 91) rfl ?_
      have h_z0 := Option.some.inj h
      obtain ⟨h_0, h_z1⟩ := Prod.mk.inj h_z0
      subst h_0
      subst h_z1
      exact hk (w11)
    · rw [if_neg hc1] at h
      refine q_ev_brF hc1 (a := 109) (b := 91) rfl ?_
      refine q_ev_run 2 (S' := (95, [some (.ref 58), some (.int x1), some (.int x2), some (.long x3), none, some (.long x5), none, some (.long x7), none, some (.long x9), none, w11, none], [.long x9, .long x7], qMM n m lm)) rfl ?_
      by_cases hz2 : x9 = 0
      · rw [if_pos hz2] at h; cases h
      rw [if_neg hz2] at h
      refine q_ev_nz hz2 (S' := (96, [some (.ref 58), some (.int x1), some (.int x2), some (.long x3), none, some (.long x5), none, some (.long x7), none, some (.long x9), none, w11, none], [.long (x7 - x7 / x9 * x9)], qMM n m lm)) rfl ?_
      refine q_ev_run 6 (S' := (84, [some (.ref 58), some (.int x1), some (.int x2), some (.long x3), none, some (.long x5), none, some (.long x9), none, some (.long (x7 - x7 / x9 * x9)), none, some (.long (x7 - x7 / x9 * x9)), none], [], qMM n m lm)) rfl ?_
      exact ih m x1 x2 x3 x5 x9 (x7 - x7 / x9 * x9) (some (.long (x7 - x7 / x9 * x9))) _ _ h hk
noncomputable def F_Mo_bet (m : (Nat → Nat → Int32)) (a1 : Int32) (a2 : Int32) : Option (Int64) :=
  Option.bind (F_Mo_in a1 0 10) (fun r1 =>
    if r1 = 0 then
      some ((Int64.ofInt (-1)))
    else
      Option.bind (F_Mo_in a2 0 1) (fun r4 =>
        if r4 = 0 then
          some ((Int64.ofInt (-1)))
        else
          if m 58 2 = 0 then
            Option.bind (FL_Mo_bet_44 qFU m a1 a2 0 1 1) (fun (y8, y9, y10) =>
              Option.bind (FL_Mo_bet_84 qFU m a1 a2 y8 y9 y8 y9) (fun (y12, y13) =>
                if a2 = 0 then
                  if y12 = 0 then none else (
                    some ((y8 / y12))
                   )
                else
                  if y12 = 0 then none else (
                    some ((y9 / y12))
                   )))
          else
            Option.bind (FL_Mo_bet_44 qFU m a1 a2 1 1 1) (fun (y19, y20, y21) =>
              Option.bind (FL_Mo_bet_84 qFU m a1 a2 y19 y20 y19 y20) (fun (y23, y24) =>
                if a2 = 0 then
                  if y23 = 0 then none else (
                    some ((y19 / y23))
                   )
                else
                  if y23 = 0 then none else (
                    some ((y20 / y23))
                   )))))
set_option maxRecDepth 20000 in
theorem T_Mo_bet {Ln : Nat} {xs : Nat → Int32} {n : (Nat → Nat → Int32)} {lm : Nat → Int64} {d : Nat} (hd : 1 ≤ d) {m : (Nat → Nat → Int32)} {a1 : Int32} {a2 : Int32} {rv : Int64} (h : F_Mo_bet m a1 a2 = some rv) : q_Ev (qXT Ln xs) d 163 (0, [some (.ref 58), some (.int a1), some (.int a2), none, none, none, none, none, none, none, none, none, none], [], qMM n m lm) (some (.long rv), qMM n m lm) := by
  unfold F_Mo_bet at h
  refine q_ev_run 3 (S' := (4, [some (.ref 58), some (.int a1), some (.int a2), none, none, none, none, none, none, none, none, none, none], [.int 10, .int 0, .int a1], qMM n m lm)) rfl ?_
  obtain ⟨r1, hf2, h⟩ := Option.bind_eq_some_iff.mp h
  try dsimp only at h
  refine q_ev_call (S' := (7, [some (.ref 58), some (.int a1), some (.int a2), none, none, none, none, none, none, none, none, none, none], [], qMM n m lm)) rfl (by omega) (T_Mo_in (by first | omega | decide) hf2) ?_
  refine q_ev_eq (S' := (7, [some (.ref 58), some (.int a1), some (.int a2), none, none, none, none, none, none, none, none, none, none], [.int r1], qMM n m lm)) rfl ?_
  by_cases hc3 : r1 = 0
  · rw [if_pos hc3] at h
    refine q_ev_brT hc3 (a := 19) (b := 10) rfl ?_
    refine q_ev_run 1 (S' := (22, [some (.ref 58), some (.int a1), some (.int a2), none, none, none, none, none, none, none, none, none, none], [.long (Int64.ofInt (-1))], qMM n m lm)) rfl ?_
    have h_z0 := Option.some.inj h
    subst h_z0
    exact q_ev_ret rfl rfl
  · rw [if_neg hc3] at h
    refine q_ev_brF hc3 (a := 19) (b := 10) rfl ?_
    refine q_ev_run 3 (S' := (13, [some (.ref 58), some (.int a1), some (.int a2), none, none, none, none, none, none, none, none, none, none], [.int 1, .int 0, .int a2], qMM n m lm)) rfl ?_
    obtain ⟨r4, hf5, h⟩ := Option.bind_eq_some_iff.mp h
    try dsimp only at h
    refine q_ev_call (S' := (16, [some (.ref 58), some (.int a1), some (.int a2), none, none, none, none, none, none, none, none, none, none], [], qMM n m lm)) rfl (by omega) (T_Mo_in (by first | omega | decide) hf5) ?_
    refine q_ev_eq (S' := (16, [some (.ref 58), some (.int a1), some (.int a2), none, none, none, none, none, none, none, none, none, none], [.int r4], qMM n m lm)) rfl ?_
    by_cases hc6 : r4 = 0
    · rw [if_pos hc6] at h
      refine q_ev_brT hc6 (a := 19) (b := 23) rfl ?_
      refine q_ev_run 1 (S' := (22, [some (.ref 58), some (.int a1), some (.int a2), none, none, none, none, none, none, none, none, none, none], [.long (Int64.ofInt (-1))], qMM n m lm)) rfl ?_
      have h_z0 := Option.some.inj h
      subst h_z0
      exact q_ev_ret rfl rfl
    · rw [if_neg hc6] at h
      refine q_ev_brF hc6 (a := 19) (b := 23) rfl ?_
      refine q_ev_run 4 (S' := (29, [some (.ref 58), some (.int a1), some (.int a2), none, none, none, none, none, none, none, none, none, none], [.int (m 58 2)], qMM n m lm)) rfl ?_
      by_cases hc7 : m 58 2 = 0
      · rw [if_pos hc7] at h
        refine q_ev_brT hc7 (a := 32) (b := 36) rfl ?_
        refine q_ev_run 7 (S' := (44, [some (.ref 58), some (.int a1), some (.int a2), some (.long 0), none, some (.long 1), none, some (.int 1), none, none, none, none, none], [], qMM n m lm)) rfl ?_
        obtain ⟨⟨y8, y9, y10⟩, hl11, h⟩ := Option.bind_eq_some_iff.mp h
        try dsimp only at h
        refine TL_Mo_bet_44 (by first | omega | decide) _ m a1 a2 0 1 1 _ _ _ hl11 ?_
        refine q_ev_run 4 (S' := (84, [some (.ref 58), some (.int a1), some (.int a2), some (.long y8), none, some (.long y9), none, some (.long y8), none, some (.long y9), none, none, none], [], qMM n m lm)) rfl ?_
        obtain ⟨⟨y12, y13⟩, hl15, h⟩ := Option.bind_eq_some_iff.mp h
        try dsimp only at h
        refine TL_Mo_bet_84 (by first | omega | decide) _ m a1 a2 y8 y9 y8 y9 (none) _ _ hl15 (fun w14 => ?_)
        refine q_ev_run 1 (S' := (110, [some (.ref 58), some (.int a1), some (.int a2), some (.long y8), none, some (.long y9), none, some (.long y12), none, some (.long y13), none, w14, none], [.int a2], qMM n m lm)) rfl ?_
        by_cases hc16 : a2 = 0
        · rw [if_pos hc16] at h
          refine q_ev_brT hc16 (a := 113) (b := 120) rfl ?_
          refine q_ev_run 2 (S' := (116, [some (.ref 58), some (.int a1), some (.int a2), some (.long y8), none, some (.long y9), none, some (.long y12), none, some (.long y13), none, w14, none], [.long y12, .long y8], qMM n m lm)) rfl ?_
          by_cases hz17 : y12 = 0
          · rw [if_pos hz17] at h; cases h
          rw [if_neg hz17] at h
          refine q_ev_nz hz17 (S' := (117, [some (.ref 58), some (.int a1), some (.int a2), some (.long y8), none, some (.long y9), none, some (.long y12), none, some (.long y13), none, w14, none], [.long (y8 / y12)], qMM n m lm)) rfl ?_
          refine q_ev_run 1 (S' := (125, [some (.ref 58), some (.int a1), some (.int a2), some (.long y8), none, some (.long y9), none, some (.long y12), none, some (.long y13), none, w14, none], [.long (y8 / y12)], qMM n m lm)) rfl ?_
          have h_z0 := Option.some.inj h
          subst h_z0
          exact q_ev_ret rfl rfl
        · rw [if_neg hc16] at h
          refine q_ev_brF hc16 (a := 113) (b := 120) rfl ?_
          refine q_ev_run 2 (S' := (124, [some (.ref 58), some (.int a1), some (.int a2), some (.long y8), none, some (.long y9), none, some (.long y12), none, some (.long y13), none, w14, none], [.long y12, .long y9], qMM n m lm)) rfl ?_
          by_cases hz18 : y12 = 0
          · rw [if_pos hz18] at h; cases h
          rw [if_neg hz18] at h
          refine q_ev_nz hz18 (S' := (125, [some (.ref 58), some (.int a1), some (.int a2), some (.long y8), none, some (.long y9), none, some (.long y12), none, some (.long y13), none, w14, none], [.long (y9 / y12)], qMM n m lm)) rfl ?_
          have h_z0 := Option.some.inj h
          subst h_z0
          exact q_ev_ret rfl rfl
      · rw [if_neg hc7] at h
        refine q_ev_brF hc7 (a := 32) (b := 36) rfl ?_
        refine q_ev_run 6 (S' := (44, [some (.ref 58), some (.int a1), some (.int a2), some (.long 1), none, some (.long 1), none, some (.int 1), none, none, none, none, none], [], qMM n m lm)) rfl ?_
        obtain ⟨⟨y19, y20, y21⟩, hl22, h⟩ := Option.bind_eq_some_iff.mp h
        try dsimp only at h
        refine TL_Mo_bet_44 (by first | omega | decide) _ m a1 a2 1 1 1 _ _ _ hl22 ?_
        refine q_ev_run 4 (S' := (84, [some (.ref 58), some (.int a1), some (.int a2), some (.long y19), none, some (.long y20), none, some (.long y19), none, some (.long y20), none, none, none], [], qMM n m lm)) rfl ?_
        obtain ⟨⟨y23, y24⟩, hl26, h⟩ := Option.bind_eq_some_iff.mp h
        try dsimp only at h
        refine TL_Mo_bet_84 (by first | omega | decide) _ m a1 a2 y19 y20 y19 y20 (none) _ _ hl26 (fun w25 => ?_)
        refine q_ev_run 1 (S' := (110, [some (.ref 58), some (.int a1), some (.int a2), some (.long y19), none, some (.long y20), none, some (.long y23), none, some (.long y24), none, w25, none], [.int a2], qMM n m lm)) rfl ?_
        by_cases hc27 : a2 = 0
        · rw [if_pos hc27] at h
          refine q_ev_brT hc27 (a := 113) (b := 120) rfl ?_
          refine q_ev_run 2 (S' := (116, [some (.ref 58), some (.int a1), some (.int a2), some (.long y19), none, some (.long y20), none, some (.long y23), none, some (.long y24), none, w25, none], [.long y23, .long y19], qMM n m lm)) rfl ?_
          by_cases hz28 : y23 = 0
          · rw [if_pos hz28] at h; cases h
          rw [if_neg hz28] at h
          refine q_ev_nz hz28 (S' := (117, [some (.ref 58), some (.int a1), some (.int a2), some (.long y19), none, some (.long y20), none, some (.long y23), none, some (.long y24), none, w25, none], [.long (y19 / y23)], qMM n m lm)) rfl ?_
          refine q_ev_run 1 (S' := (125, [some (.ref 58), some (.int a1), some (.int a2), some (.long y19), none, some (.long y20), none, some (.long y23), none, some (.long y24), none, w25, none], [.long (y19 / y23)], qMM n m lm)) rfl ?_
          have h_z0 := Option.some.inj h
          subst h_z0
          exact q_ev_ret rfl rfl
        · rw [if_neg hc27] at h
          refine q_ev_brF hc27 (a := 113) (b := 120) rfl ?_
          refine q_ev_run 2 (S' := (124, [some (.ref 58), some (.int a1), some (.int a2), some (.long y19), none, some (.long y20), none, some (.long y23), none, some (.long y24), none, w25, none], [.long y23, .long y20], qMM n m lm)) rfl ?_
          by_cases hz29 : y23 = 0
          · rw [if_pos hz29] at h; cases h
          rw [if_neg hz29] at h
          refine q_ev_nz hz29 (S' := (125, [some (.ref 58), some (.int a1), some (.int a2), some (.long y19), none, some (.long y20), none, some (.long y23), none, some (.long y24), none, w25, none], [.long (y20 / y23)], qMM n m lm)) rfl ?_
          have h_z0 := Option.some.inj h
          subst h_z0
          exact q_ev_ret rfl rfl
noncomputable def FL_No_sitsOf_15_4 : Nat → (Nat → Nat → Int32) → Int32 → Int32 → Int32 → Option (Int32)
  | 0, _, _, _, _ => none
  | fu + 1, m, x1, x2, x3 =>
    if m 15 1 ≤ x3 then
      some (x2)
    else
      cond (q_in x3 12) (
        if m 16 x3.toNatClampNeg = x1 then
          FL_No_sitsOf_15_4 fu m x1 (x2 + 1) (x3 + 1)
        else
          FL_No_sitsOf_15_4 fu m x1 x2 (x3 + 1)
       ) none
theorem TL_No_sitsOf_15_4 {Ln : Nat} {xs : Nat → Int32} {n : (Nat → Nat → Int32)} {lm : Nat → Int64} {d : Nat} (hd : 0 ≤ d) {r : Option Value × qM} : ∀ (fu : Nat) (m : (Nat → Nat → Int32)) (x1 : Int32) (x2 : Int32) (x3 : Int32)  (y2 : Int32), FL_No_sitsOf_15_4 fu m x1 x2 x3 = some y2 → (∀ (u3 : Option Value), q_Ev (qXT Ln xs) d 34 (31, [some (.ref 17), some (.int x1), some (.int y2), u3], [], qMM m n lm) r) → q_Ev (qXT Ln xs) d 34 (4, [some (.ref 17), some (.int x1), some (.int x2), some (.int x3)], [], qMM m n lm) r := by
  intro fu
  induction fu with
  | zero => intro m x1 x2 x3 y2 h hk; cases h
  | succ fu ih =>
    intro m x1 x2 x3 y2 h hk
    rw [FL_No_sitsOf_15_4] at h
    refine q_ev_run 3 (S' := (9, [some (.ref 17), some (.int x1), some (.int x2), some (.int x3)], [.int (m 15 1), .int x3], qMM m n lm)) rfl ?_
    by_cases hc1 : m 15 1 ≤ x3
    · rw [if_pos hc1] at h
      refine q_ev_brT hc1 (a := 31) (b := 12) rfl ?_
      have h_z0 := Option.some.inj h
      subst h_z0
      exact hk (some (.int x3))
    · rw [if_neg hc1] at h
      refine q_ev_brF hc1 (a := 31) (b := 12) rfl ?_
      refine q_ev_run 3 (S' := (17, [some (.ref 17), some (.int x1), some (.int x2), some (.int x3)], [.int x3, .ref 18], qMM m n lm)) rfl ?_
      obtain ⟨hb2, h⟩ := q_cd h
      refine q_ev_chk (b := q_in x3 12) hb2 (S' := (18, [some (.ref 17), some (.int x1), some (.int x2), some (.int x3)], [.int (m 16 x3.toNatClampNeg)], qMM m n lm)) rfl ?_
      refine q_ev_run 1 (S' := (19, [some (.ref 17), some (.int x1), some (.int x2), some (.int x3)], [.int x1, .int (m 16 x3.toNatClampNeg)], qMM m n lm)) rfl ?_
      by_cases hc3 : m 16 x3.toNatClampNeg = x1
      · rw [if_pos hc3] at h
        refine q_ev_brT hc3 (a := 22) (b := 25) rfl ?_
        refine q_ev_run 3 (S' := (4, [some (.ref 17), some (.int x1), some (.int (x2 + 1)), some (.int (x3 + 1))], [], qMM m n lm)) rfl ?_
        exact ih m x1 (x2 + 1) (x3 + 1) _ h hk
      · rw [if_neg hc3] at h
        refine q_ev_brF hc3 (a := 22) (b := 25) rfl ?_
        refine q_ev_run 2 (S' := (4, [some (.ref 17), some (.int x1), some (.int x2), some (.int (x3 + 1))], [], qMM m n lm)) rfl ?_
        exact ih m x1 x2 (x3 + 1) _ h hk
noncomputable def F_No_sitsOf_15 (m : (Nat → Nat → Int32)) (a1 : Int32) : Option (Int32) :=
  Option.bind (FL_No_sitsOf_15_4 qFU m a1 0 0) (fun y1 =>
    some (y1))
theorem T_No_sitsOf_15 {Ln : Nat} {xs : Nat → Int32} {n : (Nat → Nat → Int32)} {lm : Nat → Int64} {d : Nat} (hd : 0 ≤ d) {m : (Nat → Nat → Int32)} {a1 : Int32} {rv : Int32} (h : F_No_sitsOf_15 m a1 = some rv) : q_Ev (qXT Ln xs) d 34 (0, [some (.ref 17), some (.int a1), none, none], [], qMM m n lm) (some (.int rv), qMM m n lm) := by
  unfold F_No_sitsOf_15 at h
  refine q_ev_run 4 (S' := (4, [some (.ref 17), some (.int a1), some (.int 0), some (.int 0)], [], qMM m n lm)) rfl ?_
  obtain ⟨y1, hl3, h⟩ := Option.bind_eq_some_iff.mp h
  try dsimp only at h
  refine TL_No_sitsOf_15_4 (by first | omega | decide) _ m a1 0 0 _ hl3 (fun w2 => ?_)
  refine q_ev_run 1 (S' := (32, [some (.ref 17), some (.int a1), some (.int y1), w2], [.int y1], qMM m n lm)) rfl ?_
  have h_z0 := Option.some.inj h
  subst h_z0
  exact q_ev_ret rfl rfl
noncomputable def FL_La_othersMarkedAs_9_4 : Nat → (Nat → Nat → Int32) → Int32 → Int32 → Int32 → Option (Int32)
  | 0, _, _, _, _ => none
  | fu + 1, m, x1, x2, x3 =>
    if m 9 1 ≤ x3 then
      some (x2)
    else
      if x3 = x1 then
        FL_La_othersMarkedAs_9_4 fu m x1 x2 (x3 + 1)
      else
        cond (q_in x3 5) (
          cond (q_in x1 5) (
            if m 13 x3.toNatClampNeg = m 13 x1.toNatClampNeg then
              FL_La_othersMarkedAs_9_4 fu m x1 (x2 + 1) (x3 + 1)
            else
              FL_La_othersMarkedAs_9_4 fu m x1 x2 (x3 + 1)
           ) none
         ) none
theorem TL_La_othersMarkedAs_9_4 {Ln : Nat} {xs : Nat → Int32} {n : (Nat → Nat → Int32)} {lm : Nat → Int64} {d : Nat} (hd : 0 ≤ d) {r : Option Value × qM} : ∀ (fu : Nat) (m : (Nat → Nat → Int32)) (x1 : Int32) (x2 : Int32) (x3 : Int32)  (y2 : Int32), FL_La_othersMarkedAs_9_4 fu m x1 x2 x3 = some y2 → (∀ (u3 : Option Value), q_Ev (qXT Ln xs) d 23 (41, [some (.ref 11), some (.int x1), some (.int y2), u3], [], qMM m n lm) r) → q_Ev (qXT Ln xs) d 23 (4, [some (.ref 11), some (.int x1), some (.int x2), some (.int x3)], [], qMM m n lm) r := by
  intro fu
  induction fu with
  | zero => intro m x1 x2 x3 y2 h hk; cases h
  | succ fu ih =>
    intro m x1 x2 x3 y2 h hk
    rw [FL_La_othersMarkedAs_9_4] at h
    refine q_ev_run 3 (S' := (9, [some (.ref 11), some (.int x1), some (.int x2), some (.int x3)], [.int (m 9 1), .int x3], qMM m n lm)) rfl ?_
    by_cases hc1 : m 9 1 ≤ x3
    · rw [if_pos hc1] at h
      refine q_ev_brT hc1 (a := 41) (b := 12) rfl ?_
      have h_z0 := Option.some.inj h
      subst h_z0
      exact hk (some (.int x3))
    · rw [if_neg hc1] at h
      refine q_ev_brF hc1 (a := 41) (b := 12) rfl ?_
      refine q_ev_run 2 (S' := (14, [some (.ref 11), some (.int x1), some (.int x2), some (.int x3)], [.int x1, .int x3], qMM m n lm)) rfl ?_
      by_cases hc2 : x3 = x1
      · rw [if_pos hc2] at h
        refine q_ev_brT hc2 (a := 35) (b := 17) rfl ?_
        refine q_ev_run 2 (S' := (4, [some (.ref 11), some (.int x1), some (.int x2), some (.int (x3 + 1))], [], qMM m n lm)) rfl ?_
        exact ih m x1 x2 (x3 + 1) _ h hk
      · rw [if_neg hc2] at h
        refine q_ev_brF hc2 (a := 35) (b := 17) rfl ?_
        refine q_ev_run 3 (S' := (22, [some (.ref 11), some (.int x1), some (.int x2), some (.int x3)], [.int x3, .ref 15], qMM m n lm)) rfl ?_
        obtain ⟨hb3, h⟩ := q_cd h
        refine q_ev_chk (b := q_in x3 5) hb3 (S' := (23, [some (.ref 11), some (.int x1), some (.int x2), some (.int x3)], [.int (m 13 x3.toNatClampNeg)], qMM m n lm)) rfl ?_
        refine q_ev_run 3 (S' := (28, [some (.ref 11), some (.int x1), some (.int x2), some (.int x3)], [.int x1, .ref 15, .int (m 13 x3.toNatClampNeg)], qMM m n lm)) rfl ?_
        obtain ⟨hb4, h⟩ := q_cd h
        refine q_ev_chk (b := q_in x1 5) hb4 (S' := (29, [some (.ref 11), some (.int x1), some (.int x2), some (.int x3)], [.int (m 13 x1.toNatClampNeg), .int (m 13 x3.toNatClampNeg)], qMM m n lm)) rfl ?_
        by_cases hc5 : m 13 x3.toNatClampNeg = m 13 x1.toNatClampNeg
        · rw [if_pos hc5] at h
          refine q_ev_brT hc5 (a := 32) (b := 35) rfl ?_
          refine q_ev_run 3 (S' := (4, [some (.ref 11), some (.int x1), some (.int (x2 + 1)), some (.int (x3 + 1))], [], qMM m n lm)) rfl ?_
          exact ih m x1 (x2 + 1) (x3 + 1) _ h hk
        · rw [if_neg hc5] at h
          refine q_ev_brF hc5 (a := 32) (b := 35) rfl ?_
          refine q_ev_run 2 (S' := (4, [some (.ref 11), some (.int x1), some (.int x2), some (.int (x3 + 1))], [], qMM m n lm)) rfl ?_
          exact ih m x1 x2 (x3 + 1) _ h hk
noncomputable def F_La_othersMarkedAs_9 (m : (Nat → Nat → Int32)) (a1 : Int32) : Option (Int32) :=
  Option.bind (FL_La_othersMarkedAs_9_4 qFU m a1 0 0) (fun y1 =>
    some (y1))
theorem T_La_othersMarkedAs_9 {Ln : Nat} {xs : Nat → Int32} {n : (Nat → Nat → Int32)} {lm : Nat → Int64} {d : Nat} (hd : 0 ≤ d) {m : (Nat → Nat → Int32)} {a1 : Int32} {rv : Int32} (h : F_La_othersMarkedAs_9 m a1 = some rv) : q_Ev (qXT Ln xs) d 23 (0, [some (.ref 11), some (.int a1), none, none], [], qMM m n lm) (some (.int rv), qMM m n lm) := by
  unfold F_La_othersMarkedAs_9 at h
  refine q_ev_run 4 (S' := (4, [some (.ref 11), some (.int a1), some (.int 0), some (.int 0)], [], qMM m n lm)) rfl ?_
  obtain ⟨y1, hl3, h⟩ := Option.bind_eq_some_iff.mp h
  try dsimp only at h
  refine TL_La_othersMarkedAs_9_4 (by first | omega | decide) _ m a1 0 0 _ hl3 (fun w2 => ?_)
  refine q_ev_run 1 (S' := (42, [some (.ref 11), some (.int a1), some (.int y1), w2], [.int y1], qMM m n lm)) rfl ?_
  have h_z0 := Option.some.inj h
  subst h_z0
  exact q_ev_ret rfl rfl
noncomputable def F_AT_rateAs : Nat → (Nat → Nat → Int32) → (Nat → Int64) → Int32 → Int32 → Int32 → Option (Int32 × (Nat → Int64))
  | 0, _, _, _, _, _ => none
  | dn + 1, m, lm, a1, a2, a3 =>
    if a1 < 0 then
      some (0, lm)
    else
      if 6 ≤ a1 then
        some (0, lm)
      else
        if a3 < 6 then
          cond (q_in a1 6 && Nat.ble 6 1000000) (
            cond (q_in a1 6 && Nat.ble 6 1000000) (
              Option.bind (F_AT_rateAs dn m (va_up lm 0 (lm 0 + (q_tr a1.toNatClampNeg).toInt64)) (q_ab a1.toNatClampNeg) a2 (a3 + 1)) (fun (r6, lm7) =>
                if a1 = 1 then
                  Option.bind (F_No_sitsOf_15 m a2) (fun r9 =>
                    some ((r6 + r9), lm7))
                else
                if a1 = 2 then
                  Option.bind (F_La_othersMarkedAs_9 m a2) (fun r12 =>
                    some ((r6 - r12), lm7))
                else
                if a1 = 3 then
                  some ((2 * r6), lm7)
                else
                if a1 = 4 then
                  some ((r6 + a2), lm7)
                else
                if a1 = 5 then
                  some ((r6 + m 39 0), lm7)
                else
                  cond (q_in a2 5) (
                    Option.bind (F_In_bitCount (m 13 a2.toNatClampNeg)) (fun r19 =>
                      some (r19, lm7))
                   ) none)
             ) none
           ) none
        else
          some (0, lm)
set_option maxRecDepth 20000 in
theorem T_AT_rateAs_r {Ln : Nat} {xs : Nat → Int32} {n : (Nat → Nat → Int32)} : ∀ (dn : Nat) {d : Nat}, dn + 1 ≤ d → ∀ (m : (Nat → Nat → Int32)) (lm : (Nat → Int64)) (a1 : Int32) (a2 : Int32) (a3 : Int32) (rv : Int32) (lm1 : (Nat → Int64)), F_AT_rateAs dn m lm a1 a2 a3 = some (rv, lm1) → q_Ev (qXT Ln xs) d 103 (0, [some (.ref 0), some (.int a1), some (.int a2), some (.int a3), none], [], qMM m n lm) (some (.int rv), qMM m n lm1) := by
  intro dn
  induction dn with
  | zero => intro d hd m lm a1 a2 a3 rv lm1 h; cases h
  | succ dn ihd =>
    intro d hd m lm a1 a2 a3 rv lm1 h
    have hrec0 : ∀ (m : (Nat → Nat → Int32)) (lm : (Nat → Int64)) (a1 : Int32) (a2 : Int32) (a3 : Int32) (rv : Int32) (lm1 : (Nat → Int64)), F_AT_rateAs dn m lm a1 a2 a3 = some (rv, lm1) → q_Ev (qXT Ln xs) (d - 1) 103 (0, [some (.ref 0), some (.int a1), some (.int a2), some (.int a3), none], [], qMM m n lm) (some (.int rv), qMM m n lm1) := fun m lm a1 a2 a3 rv lm1 hh => ihd (by omega) m lm a1 a2 a3 rv lm1 hh
    rw [F_AT_rateAs] at h
    refine q_ev_run 1 (S' := (1, [some (.ref 0), some (.int a1), some (.int a2), some (.int a3), none], [.int a1], qMM m n lm)) rfl ?_
    by_cases hc1 : a1 < 0
    · rw [if_pos hc1] at h
      refine q_ev_brT hc1 (a := 16) (b := 4) rfl ?_
      refine q_ev_run 1 (S' := (17, [some (.ref 0), some (.int a1), some (.int a2), some (.int a3), none], [.int 0], qMM m n lm)) rfl ?_
      have h_z0 := Option.some.inj h
      obtain ⟨h_0, h_z1⟩ := Prod.mk.inj h_z0
      subst h_0
      subst h_z1
      exact q_ev_ret rfl rfl
    · rw [if_neg hc1] at h
      refine q_ev_brF hc1 (a := 16) (b := 4) rfl ?_
      refine q_ev_run 2 (S' := (7, [some (.ref 0), some (.int a1), some (.int a2), some (.int a3), none], [.int 6, .int a1], qMM m n lm)) rfl ?_
      by_cases hc2 : 6 ≤ a1
      · rw [if_pos hc2] at h
        refine q_ev_brT hc2 (a := 16) (b := 10) rfl ?_
        refine q_ev_run 1 (S' := (17, [some (.ref 0), some (.int a1), some (.int a2), some (.int a3), none], [.int 0], qMM m n lm)) rfl ?_
        have h_z0 := Option.some.inj h
        obtain ⟨h_0, h_z1⟩ := Prod.mk.inj h_z0
        subst h_0
        subst h_z1
        exact q_ev_ret rfl rfl
      · rw [if_neg hc2] at h
        refine q_ev_brF hc2 (a := 16) (b := 10) rfl ?_
        refine q_ev_run 2 (S' := (13, [some (.ref 0), some (.int a1), some (.int a2), some (.int a3), none], [.int 6, .int a3], qMM m n lm)) rfl ?_
        by_cases hc3 : a3 < 6
        · rw [if_pos hc3] at h
          refine q_ev_brT hc3 (a := 18) (b := 16) rfl ?_
          refine q_ev_run 5 (S' := (27, [some (.ref 0), some (.int a1), some (.int a2), some (.int a3), none], [.int a1, .ref 1001, .long (lm 0), .ref 0], qMM m n lm)) rfl ?_
          obtain ⟨hb4, h⟩ := q_cd h
          refine q_ev_chk (b := q_in a1 6 && Nat.ble 6 1000000) hb4 (S' := (28, [some (.ref 0), some (.int a1), some (.int a2), some (.int a3), none], [.int (q_tr a1.toNatClampNeg), .long (lm 0), .ref 0], qMM m n lm)) rfl ?_
          refine q_ev_run 6 (S' := (38, [some (.ref 0), some (.int a1), some (.int a2), some (.int a3), none], [.int a1, .ref 1002, .ref 0], qMM m n (va_up lm 0 (lm 0 + (q_tr a1.toNatClampNeg).toInt64)))) rfl ?_
          obtain ⟨hb5, h⟩ := q_cd h
          refine q_ev_chk (b := q_in a1 6 && Nat.ble 6 1000000) hb5 (S' := (39, [some (.ref 0), some (.int a1), some (.int a2), some (.int a3), none], [.int (q_ab a1.toNatClampNeg), .ref 0], qMM m n (va_up lm 0 (lm 0 + (q_tr a1.toNatClampNeg).toInt64)))) rfl ?_
          refine q_ev_run 4 (S' := (43, [some (.ref 0), some (.int a1), some (.int a2), some (.int a3), none], [.int (a3 + 1), .int a2, .int (q_ab a1.toNatClampNeg), .ref 0], qMM m n (va_up lm 0 (lm 0 + (q_tr a1.toNatClampNeg).toInt64)))) rfl ?_
          obtain ⟨⟨r6, lm7⟩, hf8, h⟩ := Option.bind_eq_some_iff.mp h
          try dsimp only at h
          refine q_ev_call (S' := (46, [some (.ref 0), some (.int a1), some (.int a2), some (.int a3), none], [], qMM m n (va_up lm 0 (lm 0 + (q_tr a1.toNatClampNeg).toInt64)))) rfl (by omega) (hrec0 _ _ _ _ _ _ _ hf8) ?_
          refine q_ev_eq (S' := (46, [some (.ref 0), some (.int a1), some (.int a2), some (.int a3), none], [.int r6], qMM m n lm7)) rfl ?_
          refine q_ev_run 2 (S' := (49, [some (.ref 0), some (.int a1), some (.int a2), some (.int a3), some (.int r6)], [.int a1], qMM m n lm7)) rfl ?_
          by_cases hc11 : a1 = 1
          · rw [if_pos hc11] at h
            refine q_ev_sw (v := 84) (a := 84) (show q_sw a1 129 1 [84, 96, 108, 113, 118] = 84 by rw [hc11]; rfl) rfl rfl ?_
            refine q_ev_run 4 (S' := (91, [some (.ref 0), some (.int a1), some (.int a2), some (.int a3), some (.int r6)], [.int a2, .ref 17, .int r6], qMM m n lm7)) rfl ?_
            obtain ⟨r9, hf10, h⟩ := Option.bind_eq_some_iff.mp h
            try dsimp only at h
            refine q_ev_call (S' := (94, [some (.ref 0), some (.int a1), some (.int a2), some (.int a3), some (.int r6)], [.int r6], qMM m n lm7)) rfl (by omega) (T_No_sitsOf_15 (by first | omega | decide) hf10) ?_
            refine q_ev_eq (S' := (94, [some (.ref 0), some (.int a1), some (.int a2), some (.int a3), some (.int r6)], [.int r9, .int r6], qMM m n lm7)) rfl ?_
            refine q_ev_run 1 (S' := (95, [some (.ref 0), some (.int a1), some (.int a2), some (.int a3), some (.int r6)], [.int (r6 + r9)], qMM m n lm7)) rfl ?_
            have h_z0 := Option.some.inj h
            obtain ⟨h_0, h_z1⟩ := Prod.mk.inj h_z0
            subst h_0
            subst h_z1
            exact q_ev_ret rfl rfl
          rw [if_neg hc11] at h
          by_cases hc14 : a1 = 2
          · rw [if_pos hc14] at h
            refine q_ev_sw (v := 96) (a := 96) (show q_sw a1 129 1 [84, 96, 108, 113, 118] = 96 by rw [hc14]; rfl) rfl rfl ?_
            refine q_ev_run 4 (S' := (103, [some (.ref 0), some (.int a1), some (.int a2), some (.int a3), some (.int r6)], [.int a2, .ref 11, .int r6], qMM m n lm7)) rfl ?_
            obtain ⟨r12, hf13, h⟩ := Option.bind_eq_some_iff.mp h
            try dsimp only at h
            refine q_ev_call (S' := (106, [some (.ref 0), some (.int a1), some (.int a2), some (.int a3), some (.int r6)], [.int r6], qMM m n lm7)) rfl (by omega) (T_La_othersMarkedAs_9 (by first | omega | decide) hf13) ?_
            refine q_ev_eq (S' := (106, [some (.ref 0), some (.int a1), some (.int a2), some (.int a3), some (.int r6)], [.int r12, .int r6], qMM m n lm7)) rfl ?_
            refine q_ev_run 1 (S' := (107, [some (.ref 0), some (.int a1), some (.int a2), some (.int a3), some (.int r6)], [.int (r6 - r12)], qMM m n lm7)) rfl ?_
            have h_z0 := Option.some.inj h
            obtain ⟨h_0, h_z1⟩ := Prod.mk.inj h_z0
            subst h_0
            subst h_z1
            exact q_ev_ret rfl rfl
          rw [if_neg hc14] at h
          by_cases hc15 : a1 = 3
          · rw [if_pos hc15] at h
            refine q_ev_sw (v := 108) (a := 108) (show q_sw a1 129 1 [84, 96, 108, 113, 118] = 108 by rw [hc15]; rfl) rfl rfl ?_
            refine q_ev_run 3 (S' := (112, [some (.ref 0), some (.int a1), some (.int a2), some (.int a3), some (.int r6)], [.int (2 * r6)], qMM m n lm7)) rfl ?_
            have h_z0 := Option.some.inj h
            obtain ⟨h_0, h_z1⟩ := Prod.mk.inj h_z0
            subst h_0
            subst h_z1
            exact q_ev_ret rfl rfl
          rw [if_neg hc15] at h
          by_cases hc16 : a1 = 4
          · rw [if_pos hc16] at h
            refine q_ev_sw (v := 113) (a := 113) (show q_sw a1 129 1 [84, 96, 108, 113, 118] = 113 by rw [hc16]; rfl) rfl rfl ?_
            refine q_ev_run 3 (S' := (117, [some (.ref 0), some (.int a1), some (.int a2), some (.int a3), some (.int r6)], [.int (r6 + a2)], qMM m n lm7)) rfl ?_
            have h_z0 := Option.some.inj h
            obtain ⟨h_0, h_z1⟩ := Prod.mk.inj h_z0
            subst h_0
            subst h_z1
            exact q_ev_ret rfl rfl
          rw [if_neg hc16] at h
          by_cases hc17 : a1 = 5
          · rw [if_pos hc17] at h
            refine q_ev_sw (v := 118) (a := 118) (show q_sw a1 129 1 [84, 96, 108, 113, 118] = 118 by rw [hc17]; rfl) rfl rfl ?_
            refine q_ev_run 5 (S' := (128, [some (.ref 0), some (.int a1), some (.int a2), some (.int a3), some (.int r6)], [.int (r6 + m 39 0)], qMM m n lm7)) rfl ?_
            have h_z0 := Option.some.inj h
            obtain ⟨h_0, h_z1⟩ := Prod.mk.inj h_z0
            subst h_0
            subst h_z1
            exact q_ev_ret rfl rfl
          rw [if_neg hc17] at h
          refine q_ev_sw (v := 129) (a := 129) (show q_sw a1 129 1 [84, 96, 108, 113, 118] = 129 from q_sw_nd (by show a1 ∉ ([1, 2, 3, 4, 5] : List Int32); simp [hc11, hc14, hc15, hc16, hc17])) rfl rfl ?_
          refine q_ev_run 4 (S' := (137, [some (.ref 0), some (.int a1), some (.int a2), some (.int a3), some (.int r6)], [.int a2, .ref 15], qMM m n lm7)) rfl ?_
          obtain ⟨hb18, h⟩ := q_cd h
          refine q_ev_chk (b := q_in a2 5) hb18 (S' := (138, [some (.ref 0), some (.int a1), some (.int a2), some (.int a3), some (.int r6)], [.int (m 13 a2.toNatClampNeg)], qMM m n lm7)) rfl ?_
          obtain ⟨r19, hf20, h⟩ := Option.bind_eq_some_iff.mp h
          try dsimp only at h
          refine q_ev_call (S' := (141, [some (.ref 0), some (.int a1), some (.int a2), some (.int a3), some (.int r6)], [], qMM m n lm7)) rfl (by omega) (T_In_bitCount (by first | omega | decide) hf20) ?_
          refine q_ev_eq (S' := (141, [some (.ref 0), some (.int a1), some (.int a2), some (.int a3), some (.int r6)], [.int r19], qMM m n lm7)) rfl ?_
          have h_z0 := Option.some.inj h
          obtain ⟨h_0, h_z1⟩ := Prod.mk.inj h_z0
          subst h_0
          subst h_z1
          exact q_ev_ret rfl rfl
        · rw [if_neg hc3] at h
          refine q_ev_brF hc3 (a := 18) (b := 16) rfl ?_
          refine q_ev_run 1 (S' := (17, [some (.ref 0), some (.int a1), some (.int a2), some (.int a3), none], [.int 0], qMM m n lm)) rfl ?_
          have h_z0 := Option.some.inj h
          obtain ⟨h_0, h_z1⟩ := Prod.mk.inj h_z0
          subst h_0
          subst h_z1
          exact q_ev_ret rfl rfl
set_option maxRecDepth 20000 in
theorem T_AT_rateAs {Ln : Nat} {xs : Nat → Int32} {n : (Nat → Nat → Int32)} {d dn : Nat} (hd : dn + 1 ≤ d) {m : (Nat → Nat → Int32)} {lm : (Nat → Int64)} {a1 : Int32} {a2 : Int32} {a3 : Int32} {rv : Int32} {lm1 : (Nat → Int64)} (h : F_AT_rateAs dn m lm a1 a2 a3 = some (rv, lm1)) : q_Ev (qXT Ln xs) d 103 (0, [some (.ref 0), some (.int a1), some (.int a2), some (.int a3), none], [], qMM m n lm) (some (.int rv), qMM m n lm1) := T_AT_rateAs_r dn hd m lm a1 a2 a3 rv lm1 h
noncomputable def F_AT_rate (m : (Nat → Nat → Int32)) (lm : (Nat → Int64)) (a1 : Int32) (a2 : Int32) : Option (Int32 × (Nat → Int64)) :=
  if a1 < 0 then
    some ((Int32.ofInt (-1000000)), lm)
  else
    if 6 ≤ a1 then
      some ((Int32.ofInt (-1000000)), lm)
    else
      Option.bind (F_La_hasHedgehog_9 m a2) (fun r3 =>
        if r3 = 0 then
          some ((Int32.ofInt (-1000000)), lm)
        else
          Option.bind (F_AT_rateAs 20 m lm a1 a2 0) (fun (r6, lm7) =>
            some (r6, lm7)))
theorem T_AT_rate {Ln : Nat} {xs : Nat → Int32} {n : (Nat → Nat → Int32)} {d : Nat} (hd : 22 ≤ d) {m : (Nat → Nat → Int32)} {lm : (Nat → Int64)} {a1 : Int32} {a2 : Int32} {rv : Int32} {lm1 : (Nat → Int64)} (h : F_AT_rate m lm a1 a2 = some (rv, lm1)) : q_Ev (qXT Ln xs) d 90 (0, [some (.ref 0), some (.int a1), some (.int a2)], [], qMM m n lm) (some (.int rv), qMM m n lm1) := by
  unfold F_AT_rate at h
  refine q_ev_run 1 (S' := (1, [some (.ref 0), some (.int a1), some (.int a2)], [.int a1], qMM m n lm)) rfl ?_
  by_cases hc1 : a1 < 0
  · rw [if_pos hc1] at h
    refine q_ev_brT hc1 (a := 21) (b := 4) rfl ?_
    refine q_ev_run 1 (S' := (23, [some (.ref 0), some (.int a1), some (.int a2)], [.int (Int32.ofInt (-1000000))], qMM m n lm)) rfl ?_
    have h_z0 := Option.some.inj h
    obtain ⟨h_0, h_z1⟩ := Prod.mk.inj h_z0
    subst h_0
    subst h_z1
    exact q_ev_ret rfl rfl
  · rw [if_neg hc1] at h
    refine q_ev_brF hc1 (a := 21) (b := 4) rfl ?_
    refine q_ev_run 2 (S' := (7, [some (.ref 0), some (.int a1), some (.int a2)], [.int 6, .int a1], qMM m n lm)) rfl ?_
    by_cases hc2 : 6 ≤ a1
    · rw [if_pos hc2] at h
      refine q_ev_brT hc2 (a := 21) (b := 10) rfl ?_
      refine q_ev_run 1 (S' := (23, [some (.ref 0), some (.int a1), some (.int a2)], [.int (Int32.ofInt (-1000000))], qMM m n lm)) rfl ?_
      have h_z0 := Option.some.inj h
      obtain ⟨h_0, h_z1⟩ := Prod.mk.inj h_z0
      subst h_0
      subst h_z1
      exact q_ev_ret rfl rfl
    · rw [if_neg hc2] at h
      refine q_ev_brF hc2 (a := 21) (b := 10) rfl ?_
      refine q_ev_run 3 (S' := (15, [some (.ref 0), some (.int a1), some (.int a2)], [.int a2, .ref 11], qMM m n lm)) rfl ?_
      obtain ⟨r3, hf4, h⟩ := Option.bind_eq_some_iff.mp h
      try dsimp only at h
      refine q_ev_call (S' := (18, [some (.ref 0), some (.int a1), some (.int a2)], [], qMM m n lm)) rfl (by omega) (T_La_hasHedgehog_9 (by first | omega | decide) hf4) ?_
      refine q_ev_eq (S' := (18, [some (.ref 0), some (.int a1), some (.int a2)], [.int r3], qMM m n lm)) rfl ?_
      by_cases hc5 : r3 = 0
      · rw [if_pos hc5] at h
        refine q_ev_brT hc5 (a := 21) (b := 24) rfl ?_
        refine q_ev_run 1 (S' := (23, [some (.ref 0), some (.int a1), some (.int a2)], [.int (Int32.ofInt (-1000000))], qMM m n lm)) rfl ?_
        have h_z0 := Option.some.inj h
        obtain ⟨h_0, h_z1⟩ := Prod.mk.inj h_z0
        subst h_0
        subst h_z1
        exact q_ev_ret rfl rfl
      · rw [if_neg hc5] at h
        refine q_ev_brF hc5 (a := 21) (b := 24) rfl ?_
        refine q_ev_run 4 (S' := (28, [some (.ref 0), some (.int a1), some (.int a2)], [.int 0, .int a2, .int a1, .ref 0], qMM m n lm)) rfl ?_
        obtain ⟨⟨r6, lm7⟩, hf8, h⟩ := Option.bind_eq_some_iff.mp h
        try dsimp only at h
        refine q_ev_call (S' := (31, [some (.ref 0), some (.int a1), some (.int a2)], [], qMM m n lm)) rfl (by omega) (T_AT_rateAs (by first | omega | decide) hf8) ?_
        refine q_ev_eq (S' := (31, [some (.ref 0), some (.int a1), some (.int a2)], [.int r6], qMM m n lm7)) rfl ?_
        have h_z0 := Option.some.inj h
        obtain ⟨h_0, h_z1⟩ := Prod.mk.inj h_z0
        subst h_0
        subst h_z1
        exact q_ev_ret rfl rfl
noncomputable def FL_Mo_rate_103 : Nat → (Nat → Nat → Int32) → (Nat → Int64) → Int32 → Int32 → Int32 → Int32 → Int32 → Option (Int32)
  | 0, _, _, _, _, _, _, _ => none
  | fu + 1, m, lm, x1, x2, x3, x4, x5 =>
    if m 60 0 ≤ x5 then
      some (x4)
    else
      cond (q_in (1 + x5) 65) (
        if m 60 ((1 + x5)).toNatClampNeg = x2 then
          FL_Mo_rate_103 fu m lm x1 x2 x3 (x4 + 1) (x5 + 1)
        else
          FL_Mo_rate_103 fu m lm x1 x2 x3 (x4 + 0) (x5 + 1)
       ) none
theorem TL_Mo_rate_103 {Ln : Nat} {xs : Nat → Int32} {n : (Nat → Nat → Int32)} {d : Nat} (hd : 0 ≤ d) {r : Option Value × qM} : ∀ (fu : Nat) (m : (Nat → Nat → Int32)) (lm : (Nat → Int64)) (x1 : Int32) (x2 : Int32) (x3 : Int32) (x4 : Int32) (x5 : Int32) (w6 : Option Value) (y4 : Int32), FL_Mo_rate_103 fu m lm x1 x2 x3 x4 x5 = some y4 → (∀ (u5 u6 : Option Value), q_Ev (qXT Ln xs) d 164 (143, [some (.ref 58), some (.int x1), some (.int x2), some (.int x3), some (.int y4), u5, u6], [], qMM n m lm) r) → q_Ev (qXT Ln xs) d 164 (103, [some (.ref 58), some (.int x1), some (.int x2), some (.int x3), some (.int x4), some (.int x5), w6], [], qMM n m lm) r := by
  intro fu
  induction fu with
  | zero => intro m lm x1 x2 x3 x4 x5 w6 y4 h hk; cases h
  | succ fu ih =>
    intro m lm x1 x2 x3 x4 x5 w6 y4 h hk
    rw [FL_Mo_rate_103] at h
    refine q_ev_run 5 (S' := (111, [some (.ref 58), some (.int x1), some (.int x2), some (.int x3), some (.int x4), some (.int x5), w6], [.int (m 60 0), .int x5], qMM n m lm)) rfl ?_
    by_cases hc1 : m 60 0 ≤ x5
    · rw [if_pos hc1] at h
      refine q_ev_brT hc1 (a := 143) (b := 114) rfl ?_
      have h_z0 := Option.some.inj h
      subst h_z0
      exact hk (some (.int x5)) (w6)
    · rw [if_neg hc1] at h
      refine q_ev_brF hc1 (a := 143) (b := 114) rfl ?_
      refine q_ev_run 6 (S' := (124, [some (.ref 58), some (.int x1), some (.int x2), some (.int x3), some (.int x4), some (.int x5), w6], [.int (1 + x5), .ref 62, .int x4], qMM n m lm)) rfl ?_
      obtain ⟨hb2, h⟩ := q_cd h
      refine q_ev_chk (b := q_in (1 + x5) 65) hb2 (S' := (125, [some (.ref 58), some (.int x1), some (.int x2), some (.int x3), some (.int x4), some (.int x5), w6], [.int (m 60 ((1 + x5)).toNatClampNeg), .int x4], qMM n m lm)) rfl ?_
      refine q_ev_run 1 (S' := (126, [some (.ref 58), some (.int x1), some (.int x2), some (.int x3), some (.int x4), some (.int x5), w6], [.int x2, .int (m 60 ((1 + x5)).toNatClampNeg), .int x4], qMM n m lm)) rfl ?_
      by_cases hc3 : m 60 ((1 + x5)).toNatClampNeg = x2
      · rw [if_pos hc3] at h
        refine q_ev_brT hc3 (a := 129) (b := 133) rfl ?_
        refine q_ev_run 6 (S' := (103, [some (.ref 58), some (.int x1), some (.int x2), some (.int x3), some (.int (x4 + 1)), some (.int (x5 + 1)), w6], [], qMM n m lm)) rfl ?_
        exact ih m lm x1 x2 x3 (x4 + 1) (x5 + 1) (w6) _ h hk
      · rw [if_neg hc3] at h
        refine q_ev_brF hc3 (a := 129) (b := 133) rfl ?_
        refine q_ev_run 5 (S' := (103, [some (.ref 58), some (.int x1), some (.int x2), some (.int x3), some (.int (x4 + 0)), some (.int (x5 + 1)), w6], [], qMM n m lm)) rfl ?_
        exact ih m lm x1 x2 x3 (x4 + 0) (x5 + 1) (w6) _ h hk
