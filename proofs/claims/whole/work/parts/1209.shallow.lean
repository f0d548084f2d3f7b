noncomputable def FL_Mo_race_27 : Nat → (Nat → Nat → Int32) → Int32 → Int32 → Int32 → Int32 → Option (Int32 × Int32)
  | 0, _, _, _, _, _ => none
  | fu + 1, m, x1, x2, x3, x4 =>
    if x4 < 0 then
      some (x2, x3)
    else
      Option.bind (F_Mo_meets m x4) (fun r2 =>
        if r2 = 0 then
          Option.bind (F_Mo_sees m x4) (fun r5 =>
            Option.bind (F_Mo_ones r5) (fun r7 =>
              if r7 ≤ 1 then
                FL_Mo_race_27 fu m x1 x4 x3 (x4 + (Int32.ofInt (-1)))
              else
                FL_Mo_race_27 fu m x1 x4 x4 (x4 + (Int32.ofInt (-1)))))
        else
          Option.bind (F_Mo_sees m x4) (fun r10 =>
            Option.bind (F_Mo_ones r10) (fun r12 =>
              if r12 ≤ 1 then
                FL_Mo_race_27 fu m x1 x2 x3 (x4 + (Int32.ofInt (-1)))
              else
                FL_Mo_race_27 fu m x1 x2 x4 (x4 + (Int32.ofInt (-1))))))
theorem TL_Mo_race_27 {Ln : Nat} {xs : Nat → Int32} {n : (Nat → Nat → Int32)} {lm : Nat → Int64} {d : Nat} (hd : 3 ≤ d) {r : Option Value × qM} : ∀ (fu : Nat) (m : (Nat → Nat → Int32)) (x1 : Int32) (x2 : Int32) (x3 : Int32) (x4 : Int32)  (y2 : Int32) (y3 : Int32), FL_Mo_race_27 fu m x1 x2 x3 x4 = some (y2, y3) → (∀ (u4 : Option Value), q_Ev (qXT Ln xs) d 145 (74, [some (.ref 58), some (.int x1), some (.int y2), some (.int y3), u4], [], qMM n m lm) r) → q_Ev (qXT Ln xs) d 145 (27, [some (.ref 58), some (.int x1), some (.int x2), some (.int x3), some (.int x4)], [], qMM n m lm) r := by
  intro fu
  induction fu with
  | zero => intro m x1 x2 x3 x4 y2 y3 h hk; cases h
  | succ fu ih =>
    intro m x1 x2 x3 x4 y2 y3 h hk
    rw [FL_Mo_race_27] at h
    refine q_ev_run 1 (S' := (29, [some (.ref 58), some (.int x1), some (.int x2), some (.int x3), some (.int x4)], [.int x4], qMM n m lm)) rfl ?_
    by_cases hc1 : x4 < 0
    · rw [if_pos hc1] at h
      refine q_ev_brT hc1 (a := 74) (b := 32) rfl ?_
      have h_z0 := Option.some.inj h
      obtain ⟨h_0, h_z1⟩ := Prod.mk.inj h_z0
      subst h_0
      subst h_z1
      exact hk (some (.int x4))
    · rw [if_neg hc1] at h
      refine q_ev_brF hc1 (a := 74) (b := 32) rfl ?_
      refine q_ev_run 2 (S' := (35, [some (.ref 58), some (.int x1), some (.int x2), some (.int x3), some (.int x4)], [.int x4, .ref 58], qMM n m lm)) rfl ?_
      obtain ⟨r2, hf3, h⟩ := Option.bind_eq_some_iff.mp h
      try dsimp only at h
      refine q_ev_call (S' := (38, [some (.ref 58), some (.int x1), some (.int x2), some (.int x3), some (.int x4)], [], qMM n m lm)) rfl (by omega) (T_Mo_meets (by first | omega | decide) hf3) ?_
      refine q_ev_eq (S' := (38, [some (.ref 58), some (.int x1), some (.int x2), some (.int x3), some (.int x4)], [.int r2], qMM n m lm)) rfl ?_
      by_cases hc4 : r2 = 0
      · rw [if_pos hc4] at h
        refine q_ev_brT hc4 (a := 41) (b := 46) rfl ?_
        refine q_ev_run 5 (S' := (51, [some (.ref 58), some (.int x1), some (.int x4), some (.int x3), some (.int x4)], [.int x4, .ref 58], qMM n m lm)) rfl ?_
        obtain ⟨r5, hf6, h⟩ := Option.bind_eq_some_iff.mp h
        try dsimp only at h
        refine q_ev_call (S' := (54, [some (.ref 58), some (.int x1), some (.int x4), some (.int x3), some (.int x4)], [], qMM n m lm)) rfl (by omega) (T_Mo_sees (by first | omega | decide) hf6) ?_
        refine q_ev_eq (S' := (54, [some (.ref 58), some (.int x1), some (.int x4), some (.int x3), some (.int x4)], [.int r5], qMM n m lm)) rfl ?_
        obtain ⟨r7, hf8, h⟩ := Option.bind_eq_some_iff.mp h
        try dsimp only at h
        refine q_ev_call (S' := (57, [some (.ref 58), some (.int x1), some (.int x4), some (.int x3), some (.int x4)], [], qMM n m lm)) rfl (by omega) (T_Mo_ones (by first | omega | decide) hf8) ?_
        refine q_ev_eq (S' := (57, [some (.ref 58), some (.int x1), some (.int x4), some (.int x3), some (.int x4)], [.int r7], qMM n m lm)) rfl ?_
        refine q_ev_run 1 (S' := (58, [some (.ref 58), some (.int x1), some (.int x4), some (.int x3), some (.int x4)], [.int 1, .int r7], qMM n m lm)) rfl ?_
        by_cases hc9 : r7 ≤ 1
        · rw [if_pos hc9] at h
          refine q_ev_brT hc9 (a := 66) (b := 61) rfl ?_
          refine q_ev_run 4 (S' := (27, [some (.ref 58), some (.int x1), some (.int x4), some (.int x3), some (.int (x4 + (Int32.ofInt (-1))))], [], qMM n m lm)) rfl ?_
          exact ih m x1 x4 x3 (x4 + (Int32.ofInt (-1))) _ _ h hk
        · rw [if_neg hc9] at h
          refine q_ev_brF hc9 (a := 66) (b := 61) rfl ?_
          refine q_ev_run 5 (S' := (27, [some (.ref 58), some (.int x1), some (.int x4), some (.int x4), some (.int (x4 + (Int32.ofInt (-1))))], [], qMM n m lm)) rfl ?_
          exact ih m x1 x4 x4 (x4 + (Int32.ofInt (-1))) _ _ h hk
      · rw [if_neg hc4] at h
        refine q_ev_brF hc4 (a := 41) (b := 46) rfl ?_
        refine q_ev_run 4 (S' := (51, [some (.ref 58), some (.int x1), some (.int x2), some (.int x3), some (.int x4)], [.int x4, .ref 58], qMM n m lm)) rfl ?_
        obtain ⟨r10, hf11, h⟩ := Option.bind_eq_some_iff.mp h
        try dsimp only at h
        refine q_ev_call (S' := (54, [some (.ref 58), some (.int x1), some (.int x2), some (.int x3), some (.int x4)], [], qMM n m lm)) rfl (by omega) (T_Mo_sees (by first | omega | decide) hf11) ?_
        refine q_ev_eq (S' := (54, [some (.ref 58), some (.int x1), some (.int x2), some (.int x3), some (.int x4)], [.int r10], qMM n m lm)) rfl ?_
        obtain ⟨r12, hf13, h⟩ := Option.bind_eq_some_iff.mp h
        try dsimp only at h
        refine q_ev_call (S' := (57, [some (.ref 58), some (.int x1), some (.int x2), some (.int x3), some (.int x4)], [], qMM n m lm)) rfl (by omega) (T_Mo_ones (by first | omega | decide) hf13) ?_
        refine q_ev_eq (S' := (57, [some (.ref 58), some (.int x1), some (.int x2), some (.int x3), some (.int x4)], [.int r12], qMM n m lm)) rfl ?_
        refine q_ev_run 1 (S' := (58, [some (.ref 58), some (.int x1), some (.int x2), some (.int x3), some (.int x4)], [.int 1, .int r12], qMM n m lm)) rfl ?_
        by_cases hc14 : r12 ≤ 1
        · rw [if_pos hc14] at h
          refine q_ev_brT hc14 (a := 66) (b := 61) rfl ?_
          refine q_ev_run 4 (S' := (27, [some (.ref 58), some (.int x1), some (.int x2), some (.int x3), some (.int (x4 + (Int32.ofInt (-1))))], [], qMM n m lm)) rfl ?_
          exact ih m x1 x2 x3 (x4 + (Int32.ofInt (-1))) _ _ h hk
        · rw [if_neg hc14] at h
          refine q_ev_brF hc14 (a := 66) (b := 61) rfl ?_
          refine q_ev_run 5 (S' := (27, [some (.ref 58), some (.int x1), some (.int x2), some (.int x4), some (.int (x4 + (Int32.ofInt (-1))))], [], qMM n m lm)) rfl ?_
          exact ih m x1 x2 x4 (x4 + (Int32.ofInt (-1))) _ _ h hk
noncomputable def FL_Mo_vain_4 : Nat → (Nat → Nat → Int32) → Int32 → Int32 → Option (Int32)
  | 0, _, _, _ => none
  | fu + 1, m, x1, x2 =>
    if m 60 0 ≤ x2 then
      some (x1)
    else
      cond (q_in (1 + x2) 65) (FL_Mo_vain_4 fu m (x1 ||| ((1 : Int32) <<< (m 60 ((1 + x2)).toNatClampNeg &&& 31))) (x2 + 1)) none
theorem TL_Mo_vain_4 {Ln : Nat} {xs : Nat → Int32} {n : (Nat → Nat → Int32)} {lm : Nat → Int64} {d : Nat} (hd : 0 ≤ d) {r : Option Value × qM} : ∀ (fu : Nat) (m : (Nat → Nat → Int32)) (x1 : Int32) (x2 : Int32)  (y1 : Int32), FL_Mo_vain_4 fu m x1 x2 = some y1 → (∀ (u2 : Option Value), q_Ev (qXT Ln xs) d 144 (33, [some (.ref 58), some (.int y1), u2], [], qMM n m lm) r) → q_Ev (qXT Ln xs) d 144 (4, [some (.ref 58), some (.int x1), some (.int x2)], [], qMM n m lm) r := by
  intro fu
  induction fu with
  | zero => intro m x1 x2 y1 h hk; cases h
  | succ fu ih =>
    intro m x1 x2 y1 h hk
    rw [FL_Mo_vain_4] at h
    refine q_ev_run 5 (S' := (11, [some (.ref 58), some (.int x1), some (.int x2)], [.int (m 60 0), .int x2], qMM n m lm)) rfl ?_
    by_cases hc1 : m 60 0 ≤ x2
    · rw [if_pos hc1] at h
      refine q_ev_brT hc1 (a := 33) (b := 14) rfl ?_
      have h_z0 := Option.some.inj h
      subst h_z0
      exact hk (some (.int x2))
    · rw [if_neg hc1] at h
      refine q_ev_brF hc1 (a := 33) (b := 14) rfl ?_
      refine q_ev_run 7 (S' := (23, [some (.ref 58), some (.int x1), some (.int x2)], [.int (1 + x2), .ref 62, .int 1, .int x1], qMM n m lm)) rfl ?_
      obtain ⟨hb2, h⟩ := q_cd h
      refine q_ev_chk (b := q_in (1 + x2) 65) hb2 (S' := (24, [some (.ref 58), some (.int x1), some (.int x2)], [.int (m 60 ((1 + x2)).toNatClampNeg), .int 1, .int x1], qMM n m lm)) rfl ?_
      refine q_ev_run 5 (S' := (4, [some (.ref 58), some (.int (x1 ||| ((1 : Int32) <<< (m 60 ((1 + x2)).toNatClampNeg &&& 31)))), some (.int (x2 + 1))], [], qMM n m lm)) rfl ?_
      exact ih m (x1 ||| ((1 : Int32) <<< (m 60 ((1 + x2)).toNatClampNeg &&& 31))) (x2 + 1) _ h hk
noncomputable def FL_Mo_vain_35 : Nat → (Nat → Nat → Int32) → Int32 → Int32 → Option (Int32)
  | 0, _, _, _ => none
  | fu + 1, m, x1, x2 =>
    if m 58 2 ≤ x2 then
      some (x1)
    else
      Option.bind (F_Mo_meets m x2) (fun r2 =>
        FL_Mo_vain_35 fu m (x1 &&& (r2 ^^^ (Int32.ofInt (-1)))) (x2 + 1))
theorem TL_Mo_vain_35 {Ln : Nat} {xs : Nat → Int32} {n : (Nat → Nat → Int32)} {lm : Nat → Int64} {d : Nat} (hd : 3 ≤ d) {r : Option Value × qM} : ∀ (fu : Nat) (m : (Nat → Nat → Int32)) (x1 : Int32) (x2 : Int32)  (y1 : Int32), FL_Mo_vain_35 fu m x1 x2 = some y1 → (∀ (u2 : Option Value), q_Ev (qXT Ln xs) d 144 (61, [some (.ref 58), some (.int y1), u2], [], qMM n m lm) r) → q_Ev (qXT Ln xs) d 144 (35, [some (.ref 58), some (.int x1), some (.int x2)], [], qMM n m lm) r := by
  intro fu
  induction fu with
  | zero => intro m x1 x2 y1 h hk; cases h
  | succ fu ih =>
    intro m x1 x2 y1 h hk
    rw [FL_Mo_vain_35] at h
    refine q_ev_run 5 (S' := (42, [some (.ref 58), some (.int x1), some (.int x2)], [.int (m 58 2), .int x2], qMM n m lm)) rfl ?_
    by_cases hc1 : m 58 2 ≤ x2
    · rw [if_pos hc1] at h
      refine q_ev_brT hc1 (a := 61) (b := 45) rfl ?_
      have h_z0 := Option.some.inj h
      subst h_z0
      exact hk (some (.int x2))
    · rw [if_neg hc1] at h
      refine q_ev_brF hc1 (a := 61) (b := 45) rfl ?_
      refine q_ev_run 3 (S' := (48, [some (.ref 58), some (.int x1), some (.int x2)], [.int x2, .ref 58, .int x1], qMM n m lm)) rfl ?_
      obtain ⟨r2, hf3, h⟩ := Option.bind_eq_some_iff.mp h
      try dsimp only at h
      refine q_ev_call (S' := (51, [some (.ref 58), some (.int x1), some (.int x2)], [.int x1], qMM n m lm)) rfl (by omega) (T_Mo_meets (by first | omega | decide) hf3) ?_
      refine q_ev_eq (S' := (51, [some (.ref 58), some (.int x1), some (.int x2)], [.int r2, .int x1], qMM n m lm)) rfl ?_
      refine q_ev_run 6 (S' := (35, [some (.ref 58), some (.int (x1 &&& (r2 ^^^ (Int32.ofInt (-1))))), some (.int (x2 + 1))], [], qMM n m lm)) rfl ?_
      exact ih m (x1 &&& (r2 ^^^ (Int32.ofInt (-1)))) (x2 + 1) _ h hk
noncomputable def F_Mo_vain (m : (Nat → Nat → Int32)) : Option (Int32) :=
  Option.bind (FL_Mo_vain_4 qFU m 0 0) (fun y1 =>
    Option.bind (FL_Mo_vain_35 qFU m y1 0) (fun y4 =>
      some (y4)))
theorem T_Mo_vain {Ln : Nat} {xs : Nat → Int32} {n : (Nat → Nat → Int32)} {lm : Nat → Int64} {d : Nat} (hd : 3 ≤ d) {m : (Nat → Nat → Int32)} {rv : Int32} (h : F_Mo_vain m = some rv) : q_Ev (qXT Ln xs) d 144 (0, [some (.ref 58), none, none], [], qMM n m lm) (some (.int rv), qMM n m lm) := by
  unfold F_Mo_vain at h
  refine q_ev_run 4 (S' := (4, [some (.ref 58), some (.int 0), some (.int 0)], [], qMM n m lm)) rfl ?_
  obtain ⟨y1, hl3, h⟩ := Option.bind_eq_some_iff.mp h
  try dsimp only at h
  refine TL_Mo_vain_4 (by first | omega | decide) _ m 0 0 _ hl3 (fun w2 => ?_)
  refine q_ev_run 2 (S' := (35, [some (.ref 58), some (.int y1), some (.int 0)], [], qMM n m lm)) rfl ?_
  obtain ⟨y4, hl6, h⟩ := Option.bind_eq_some_iff.mp h
  try dsimp only at h
  refine TL_Mo_vain_35 (by first | omega | decide) _ m y1 0 _ hl6 (fun w5 => ?_)
  refine q_ev_run 1 (S' := (62, [some (.ref 58), some (.int y4), w5], [.int y4], qMM n m lm)) rfl ?_
  have h_z0 := Option.some.inj h
  subst h_z0
  exact q_ev_ret rfl rfl
noncomputable def F_Mo_race (m : (Nat → Nat → Int32)) (a1 : Int32) : Option (Int32) :=
  Option.bind (F_Mo_in a1 0 4) (fun r1 =>
    if r1 = 0 then
      some ((Int32.ofInt (-1)))
    else
      Option.bind (FL_Mo_race_27 qFU m a1 (Int32.ofInt (-9)) (Int32.ofInt (-9)) (m 58 2 - 1)) (fun (y4, y5) =>
        if a1 = 0 then
          some (y4)
        else
          if a1 = 1 then
            some (y5)
          else
            if a1 = 2 then
              Option.bind (F_Mo_vain m) (fun r11 =>
                some (r11))
            else
              if a1 = 4 then
                some (m 56 7)
              else
                if m 58 2 = 0 then
                  some ((Int32.ofInt (-9)))
                else
                  Option.bind (F_Mo_comes m (m 58 2 - 1)) (fun r15 =>
                    some (r15))))
theorem T_Mo_race {Ln : Nat} {xs : Nat → Int32} {n : (Nat → Nat → Int32)} {lm : Nat → Int64} {d : Nat} (hd : 4 ≤ d) {m : (Nat → Nat → Int32)} {a1 : Int32} {rv : Int32} (h : F_Mo_race m a1 = some rv) : q_Ev (qXT Ln xs) d 145 (0, [some (.ref 58), some (.int a1), none, none, none], [], qMM n m lm) (some (.int rv), qMM n m lm) := by
  unfold F_Mo_race at h
  refine q_ev_run 3 (S' := (3, [some (.ref 58), some (.int a1), none, none, none], [.int 4, .int 0, .int a1], qMM n m lm)) rfl ?_
  obtain ⟨r1, hf2, h⟩ := Option.bind_eq_some_iff.mp h
  try dsimp only at h
  refine q_ev_call (S' := (6, [some (.ref 58), some (.int a1), none, none, none], [], qMM n m lm)) rfl (by omega) (T_Mo_in (by first | omega | decide) hf2) ?_
  refine q_ev_eq (S' := (6, [some (.ref 58), some (.int a1), none, none, none], [.int r1], qMM n m lm)) rfl ?_
  by_cases hc3 : r1 = 0
  · rw [if_pos hc3] at h
    refine q_ev_brT hc3 (a := 9) (b := 11) rfl ?_
    refine q_ev_run 1 (S' := (10, [some (.ref 58), some (.int a1), none, none, none], [.int (Int32.ofInt (-1))], qMM n m lm)) rfl ?_
    have h_z0 := Option.some.inj h
    subst h_z0
    exact q_ev_ret rfl rfl
  · rw [if_neg hc3] at h
    refine q_ev_brF hc3 (a := 9) (b := 11) rfl ?_
    refine q_ev_run 11 (S' := (27, [some (.ref 58), some (.int a1), some (.int (Int32.ofInt (-9))), some (.int (Int32.ofInt (-9))), some (.int (m 58 2 - 1))], [], qMM n m lm)) rfl ?_
    obtain ⟨⟨y4, y5⟩, hl7, h⟩ := Option.bind_eq_some_iff.mp h
    try dsimp only at h
    refine TL_Mo_race_27 (by first | omega | decide) _ m a1 (Int32.ofInt (-9)) (Int32.ofInt (-9)) (m 58 2 - 1) _ _ hl7 (fun w6 => ?_)
    refine q_ev_run 1 (S' := (75, [some (.ref 58), some (.int a1), some (.int y4), some (.int y5), w6], [.int a1], qMM n m lm)) rfl ?_
    by_cases hc8 : a1 = 0
    · rw [if_pos hc8] at h
      refine q_ev_brT hc8 (a := 78) (b := 82) rfl ?_
      refine q_ev_run 2 (S' := (141, [some (.ref 58), some (.int a1), some (.int y4), some (.int y5), w6], [.int y4], qMM n m lm)) rfl ?_
      have h_z0 := Option.some.inj h
      subst h_z0
      exact q_ev_ret rfl rfl
    · rw [if_neg hc8] at h
      refine q_ev_brF hc8 (a := 78) (b := 82) rfl ?_
      refine q_ev_run 2 (S' := (84, [some (.ref 58), some (.int a1), some (.int y4), some (.int y5), w6], [.int 1, .int a1], qMM n m lm)) rfl ?_
      by_cases hc9 : a1 = 1
      · rw [if_pos hc9] at h
        refine q_ev_brT hc9 (a := 87) (b := 91) rfl ?_
        refine q_ev_run 2 (S' := (141, [some (.ref 58), some (.int a1), some (.int y4), some (.int y5), w6], [.int y5], qMM n m lm)) rfl ?_
        have h_z0 := Option.some.inj h
        subst h_z0
        exact q_ev_ret rfl rfl
      · rw [if_neg hc9] at h
        refine q_ev_brF hc9 (a := 87) (b := 91) rfl ?_
        refine q_ev_run 2 (S' := (93, [some (.ref 58), some (.int a1), some (.int y4), some (.int y5), w6], [.int 2, .int a1], qMM n m lm)) rfl ?_
        by_cases hc10 : a1 = 2
        · rw [if_pos hc10] at h
          refine q_ev_brT hc10 (a := 96) (b := 103) rfl ?_
          refine q_ev_run 1 (S' := (97, [some (.ref 58), some (.int a1), some (.int y4), some (.int y5), w6], [.ref 58], qMM n m lm)) rfl ?_
          obtain ⟨r11, hf12, h⟩ := Option.bind_eq_some_iff.mp h
          try dsimp only at h
          refine q_ev_call (S' := (100, [some (.ref 58), some (.int a1), some (.int y4), some (.int y5), w6], [], qMM n m lm)) rfl (by omega) (T_Mo_vain (by first | omega | decide) hf12) ?_
          refine q_ev_eq (S' := (100, [some (.ref 58), some (.int a1), some (.int y4), some (.int y5), w6], [.int r11], qMM n m lm)) rfl ?_
          refine q_ev_run 1 (S' := (141, [some (.ref 58), some (.int a1), some (.int y4), some (.int y5), w6], [.int r11], qMM n m lm)) rfl ?_
          have h_z0 := Option.some.inj h
          subst h_z0
          exact q_ev_ret rfl rfl
        · rw [if_neg hc10] at h
          refine q_ev_brF hc10 (a := 96) (b := 103) rfl ?_
          refine q_ev_run 2 (S' := (105, [some (.ref 58), some (.int a1), some (.int y4), some (.int y5), w6], [.int 4, .int a1], qMM n m lm)) rfl ?_
          by_cases hc13 : a1 = 4
          · rw [if_pos hc13] at h
            refine q_ev_brT hc13 (a := 108) (b := 115) rfl ?_
            refine q_ev_run 3 (S' := (141, [some (.ref 58), some (.int a1), some (.int y4), some (.int y5), w6], [.int (m 56 7)], qMM n m lm)) rfl ?_
            have h_z0 := Option.some.inj h
            subst h_z0
            exact q_ev_ret rfl rfl
          · rw [if_neg hc13] at h
            refine q_ev_brF hc13 (a := 108) (b := 115) rfl ?_
            refine q_ev_run 4 (S' := (121, [some (.ref 58), some (.int a1), some (.int y4), some (.int y5), w6], [.int (m 58 2)], qMM n m lm)) rfl ?_
            by_cases hc14 : m 58 2 = 0
            · rw [if_pos hc14] at h
              refine q_ev_brT hc14 (a := 124) (b := 129) rfl ?_
              refine q_ev_run 2 (S' := (141, [some (.ref 58), some (.int a1), some (.int y4), some (.int y5), w6], [.int (Int32.ofInt (-9))], qMM n m lm)) rfl ?_
              have h_z0 := Option.some.inj h
              subst h_z0
              exact q_ev_ret rfl rfl
            · rw [if_neg hc14] at h
              refine q_ev_brF hc14 (a := 124) (b := 129) rfl ?_
              refine q_ev_run 7 (S' := (138, [some (.ref 58), some (.int a1), some (.int y4), some (.int y5), w6], [.int (m 58 2 - 1), .ref 58], qMM n m lm)) rfl ?_
              obtain ⟨r15, hf16, h⟩ := Option.bind_eq_some_iff.mp h
              try dsimp only at h
              refine q_ev_call (S' := (141, [some (.ref 58), some (.int a1), some (.int y4), some (.int y5), w6], [], qMM n m lm)) rfl (by omega) (T_Mo_comes (by first | omega | decide) hf16) ?_
              refine q_ev_eq (S' := (141, [some (.ref 58), some (.int a1), some (.int y4), some (.int y5), w6], [.int r15], qMM n m lm)) rfl ?_
              have h_z0 := Option.some.inj h
              subst h_z0
              exact q_ev_ret rfl rfl
noncomputable def FL_Ru_tellFrom_39_13 (rec : (Nat → Nat → Int32) → Int32 → Int32 → Int32 → Option (Int32 × (Nat → Nat → Int32))) : Nat → (Nat → Nat → Int32) → Int32 → Int32 → Int32 → Int32 → Option ((Int32 × (Nat → Nat → Int32)) ⊕ ((Nat → Nat → Int32)))
  | 0, _, _, _, _, _ => none
  | fu + 1, m, x1, x2, x3, x4 =>
    if x2 < x4 then
      some (.inr m)
    else
      if x3 ≤ x4 then
        some (.inr m)
      else
        if 8 ≤ x4 then
          some (.inr m)
        else
          if x4 = x2 then
            cond (q_in x4 8) (
              cond (q_in x1 8) (
                cond (q_in x4 8) (
                  Option.bind (rec (q_w (q_w m 43 x1.toNatClampNeg x4) 44 x4.toNatClampNeg x1) (x1 + 1) (x2 + 1) x3) (fun (r8, m9) =>
                    if r8 = 0 then
                      cond (q_in x4 8) (FL_Ru_tellFrom_39_13 rec fu (q_w m9 44 x4.toNatClampNeg (m 44 x4.toNatClampNeg)) x1 x2 x3 (x4 + 1)) none
                    else
                      some (.inl (1, m9)))
                 ) none
               ) none
             ) none
          else
            cond (q_in x1 8) (
              cond (q_in x4 8) (
                if ((m 42 x1.toNatClampNeg >>> (m 44 x4.toNatClampNeg &&& 31)) &&& 1) = 0 then
                  FL_Ru_tellFrom_39_13 rec fu m x1 x2 x3 (x4 + 1)
                else
                  cond (q_in x4 8) (
                    cond (q_in x1 8) (
                      cond (q_in x4 8) (
                        Option.bind (rec (q_w (q_w m 43 x1.toNatClampNeg x4) 44 x4.toNatClampNeg x1) (x1 + 1) x2 x3) (fun (r19, m20) =>
                          if r19 = 0 then
                            cond (q_in x4 8) (FL_Ru_tellFrom_39_13 rec fu (q_w m20 44 x4.toNatClampNeg (m 44 x4.toNatClampNeg)) x1 x2 x3 (x4 + 1)) none
                          else
                            some (.inl (1, m20)))
                       ) none
                     ) none
                   ) none
               ) none
             ) none
theorem TL_Ru_tellFrom_39_13 {Ln : Nat} {xs : Nat → Int32} {n : (Nat → Nat → Int32)} {lm : Nat → Int64} {d : Nat} (hd : 1 ≤ d) {rec : (Nat → Nat → Int32) → Int32 → Int32 → Int32 → Option (Int32 × (Nat → Nat → Int32))} (hrec : ∀ (m : (Nat → Nat → Int32)) (a1 : Int32) (a2 : Int32) (a3 : Int32) (rv : Int32) (m1 : (Nat → Nat → Int32)), rec m a1 a2 a3 = some (rv, m1) → q_Ev (qXT Ln xs) (d - 1) 61 (0, [some (.ref 41), some (.int a1), some (.int a2), some (.int a3), none, none, none], [], qMM m n lm) (some (.int rv), qMM m1 n lm)) {r : Option Value × qM} : ∀ (fu : Nat) (m : (Nat → Nat → Int32)) (x1 : Int32) (x2 : Int32) (x3 : Int32) (x4 : Int32) (w5 : Option Value) (w6 : Option Value) (o : (Int32 × (Nat → Nat → Int32)) ⊕ ((Nat → Nat → Int32))), FL_Ru_tellFrom_39_13 rec fu m x1 x2 x3 x4 = some o → (∀ (rv : Int32) (m1 : (Nat → Nat → Int32)), o = .inl (rv, m1) → r = (some (.int rv), qMM m1 n lm)) → (∀ (m1 : (Nat → Nat → Int32)), o = .inr m1 → ∀ (u4 u5 u6 : Option Value), q_Ev (qXT Ln xs) d 61 (137, [some (.ref 41), some (.int x1), some (.int x2), some (.int x3), u4, u5, u6], [], qMM m1 n lm) r) → q_Ev (qXT Ln xs) d 61 (13, [some (.ref 41), some (.int x1), some (.int x2), some (.int x3), some (.int x4), w5, w6], [], qMM m n lm) r := by
  intro fu
  induction fu with
  | zero => intro m x1 x2 x3 x4 w5 w6 o h hr hk; cases h
  | succ fu ih =>
    intro m x1 x2 x3 x4 w5 w6 o h hr hk
    rw [FL_Ru_tellFrom_39_13] at h
    refine q_ev_run 2 (S' := (16, [some (.ref 41), some (.int x1), some (.int x2), some (.int x3), some (.int x4), w5, w6], [.int x2, .int x4], qMM m n lm)) rfl ?_
    by_cases hc1 : x2 < x4
    · rw [if_pos hc1] at h
      refine q_ev_brT hc1 (a := 137) (b := 19) rfl ?_
      obtain rfl := (Option.some.inj h).symm
      exact hk _ rfl (some (.int x4)) (w5) (w6)
    · rw [if_neg hc1] at h
      refine q_ev_brF hc1 (a := 137) (b := 19) rfl ?_
      refine q_ev_run 2 (S' := (22, [some (.ref 41), some (.int x1), some (.int x2), some (.int x3), some (.int x4), w5, w6], [.int x3, .int x4], qMM m n lm)) rfl ?_
      by_cases hc2 : x3 ≤ x4
      · rw [if_pos hc2] at h
        refine q_ev_brT hc2 (a := 137) (b := 25) rfl ?_
        obtain rfl := (Option.some.inj h).symm
        exact hk _ rfl (some (.int x4)) (w5) (w6)
      · rw [if_neg hc2] at h
        refine q_ev_brF hc2 (a := 137) (b := 25) rfl ?_
        refine q_ev_run 2 (S' := (29, [some (.ref 41), some (.int x1), some (.int x2), some (.int x3), some (.int x4), w5, w6], [.int 8, .int x4], qMM m n lm)) rfl ?_
        by_cases hc3 : 8 ≤ x4
        · rw [if_pos hc3] at h
          refine q_ev_brT hc3 (a := 137) (b := 32) rfl ?_
          obtain rfl := (Option.some.inj h).symm
          exact hk _ rfl (some (.int x4)) (w5) (w6)
        · rw [if_neg hc3] at h
          refine q_ev_brF hc3 (a := 137) (b := 32) rfl ?_
          refine q_ev_run 2 (S' := (35, [some (.ref 41), some (.int x1), some (.int x2), some (.int x3), some (.int x4), w5, w6], [.int x2, .int x4], qMM m n lm)) rfl ?_
          by_cases hc4 : x4 = x2
          · rw [if_pos hc4] at h
            refine q_ev_brT hc4 (a := 38) (b := 42) rfl ?_
            refine q_ev_run 8 (S' := (78, [some (.ref 41), some (.int x1), some (.int x2), some (.int x3), some (.int x4), some (.int 1), w6], [.int x4, .ref 46], qMM m n lm)) rfl ?_
            obtain ⟨hb5, h⟩ := q_cd h
            refine q_ev_chk (b := q_in x4 8) hb5 (S' := (79, [some (.ref 41), some (.int x1), some (.int x2), some (.int x3), some (.int x4), some (.int 1), w6], [.int (m 44 x4.toNatClampNeg)], qMM m n lm)) rfl ?_
            refine q_ev_run 5 (S' := (88, [some (.ref 41), some (.int x1), some (.int x2), some (.int x3), some (.int x4), some (.int 1), some (.int (m 44 x4.toNatClampNeg))], [.int x4, .int x1, .ref 45], qMM m n lm)) rfl ?_
            obtain ⟨hb6, h⟩ := q_cd h
            refine q_ev_chk (b := q_in x1 8) hb6 (S' := (89, [some (.ref 41), some (.int x1), some (.int x2), some (.int x3), some (.int x4), some (.int 1), some (.int (m 44 x4.toNatClampNeg))], [], qMM (q_w m 43 x1.toNatClampNeg x4) n lm)) rfl ?_
            refine q_ev_run 4 (S' := (96, [some (.ref 41), some (.int x1), some (.int x2), some (.int x3), some (.int x4), some (.int 1), some (.int (m 44 x4.toNatClampNeg))], [.int x1, .int x4, .ref 46], qMM (q_w m 43 x1.toNatClampNeg x4) n lm)) rfl ?_
            obtain ⟨hb7, h⟩ := q_cd h
            refine q_ev_chk (b := q_in x4 8) hb7 (S' := (97, [some (.ref 41), some (.int x1), some (.int x2), some (.int x3), some (.int x4), some (.int 1), some (.int (m 44 x4.toNatClampNeg))], [], qMM (q_w (q_w m 43 x1.toNatClampNeg x4) 44 x4.toNatClampNeg x1) n lm)) rfl ?_
            refine q_ev_run 11 (S' := (114, [some (.ref 41), some (.int x1), some (.int x2), some (.int x3), some (.int x4), some (.int 1), some (.int (m 44 x4.toNatClampNeg))], [.int x3, .int (x2 + 1), .int (x1 + 1), .ref 41], qMM (q_w (q_w m 43 x1.toNatClampNeg x4) 44 x4.toNatClampNeg x1) n lm)) rfl ?_
            obtain ⟨⟨r8, m9⟩, hf10, h⟩ := Option.bind_eq_some_iff.mp h
            try dsimp only at h
            refine q_ev_call (S' := (117, [some (.ref 41), some (.int x1), some (.int x2), some (.int x3), some (.int x4), some (.int 1), some (.int (m 44 x4.toNatClampNeg))], [], qMM (q_w (q_w m 43 x1.toNatClampNeg x4) 44 x4.toNatClampNeg x1) n lm)) rfl (by omega) (hrec _ _ _ _ _ _ hf10) ?_
            refine q_ev_eq (S' := (117, [some (.ref 41), some (.int x1), some (.int x2), some (.int x3), some (.int x4), some (.int 1), some (.int (m 44 x4.toNatClampNeg))], [.int r8], qMM m9 n lm)) rfl ?_
            by_cases hc11 : r8 = 0
            · rw [if_pos hc11] at h
              refine q_ev_brT hc11 (a := 122) (b := 120) rfl ?_
              refine q_ev_run 4 (S' := (130, [some (.ref 41), some (.int x1), some (.int x2), some (.int x3), some (.int x4), some (.int 1), some (.int (m 44 x4.toNatClampNeg))], [.int (m 44 x4.toNatClampNeg), .int x4, .ref 46], qMM m9 n lm)) rfl ?_
              obtain ⟨hb12, h⟩ := q_cd h
              refine q_ev_chk (b := q_in x4 8) hb12 (S' := (131, [some (.ref 41), some (.int x1), some (.int x2), some (.int x3), some (.int x4), some (.int 1), some (.int (m 44 x4.toNatClampNeg))], [], qMM (q_w m9 44 x4.toNatClampNeg (m 44 x4.toNatClampNeg)) n lm)) rfl ?_
              refine q_ev_run 2 (S' := (13, [some (.ref 41), some (.int x1), some (.int x2), some (.int x3), some (.int (x4 + 1)), some (.int 1), some (.int (m 44 x4.toNatClampNeg))], [], qMM (q_w m9 44 x4.toNatClampNeg (m 44 x4.toNatClampNeg)) n lm)) rfl ?_
              exact ih (q_w m9 44 x4.toNatClampNeg (m 44 x4.toNatClampNeg)) x1 x2 x3 (x4 + 1) (some (.int 1)) (some (.int (m 44 x4.toNatClampNeg))) _ h hr hk
            · rw [if_neg hc11] at h
              refine q_ev_brF hc11 (a := 122) (b := 120) rfl ?_
              refine q_ev_run 1 (S' := (121, [some (.ref 41), some (.int x1), some (.int x2), some (.int x3), some (.int x4), some (.int 1), some (.int (m 44 x4.toNatClampNeg))], [.int 1], qMM m9 n lm)) rfl ?_
              obtain rfl := (Option.some.inj h).symm
              rw [hr _ _ rfl]
              exact q_ev_ret rfl rfl
          · rw [if_neg hc4] at h
            refine q_ev_brF hc4 (a := 38) (b := 42) rfl ?_
            refine q_ev_run 7 (S' := (55, [some (.ref 41), some (.int x1), some (.int x2), some (.int x3), some (.int x4), some (.int 0), w6], [.int x1, .ref 44], qMM m n lm)) rfl ?_
            obtain ⟨hb13, h⟩ := q_cd h
            refine q_ev_chk (b := q_in x1 8) hb13 (S' := (56, [some (.ref 41), some (.int x1), some (.int x2), some (.int x3), some (.int x4), some (.int 0), w6], [.int (m 42 x1.toNatClampNeg)], qMM m n lm)) rfl ?_
            refine q_ev_run 3 (S' := (62, [some (.ref 41), some (.int x1), some (.int x2), some (.int x3), some (.int x4), some (.int 0), w6], [.int x4, .ref 46, .int (m 42 x1.toNatClampNeg)], qMM m n lm)) rfl ?_
            obtain ⟨hb14, h⟩ := q_cd h
            refine q_ev_chk (b := q_in x4 8) hb14 (S' := (63, [some (.ref 41), some (.int x1), some (.int x2), some (.int x3), some (.int x4), some (.int 0), w6], [.int (m 44 x4.toNatClampNeg), .int (m 42 x1.toNatClampNeg)], qMM m n lm)) rfl ?_
            refine q_ev_run 3 (S' := (66, [some (.ref 41), some (.int x1), some (.int x2), some (.int x3), some (.int x4), some (.int 0), w6], [.int ((m 42 x1.toNatClampNeg >>> (m 44 x4.toNatClampNeg &&& 31)) &&& 1)], qMM m n lm)) rfl ?_
            by_cases hc15 : ((m 42 x1.toNatClampNeg >>> (m 44 x4.toNatClampNeg &&& 31)) &&& 1) = 0
            · rw [if_pos hc15] at h
              refine q_ev_brT hc15 (a := 69) (b := 72) rfl ?_
              refine q_ev_run 3 (S' := (13, [some (.ref 41), some (.int x1), some (.int x2), some (.int x3), some (.int (x4 + 1)), some (.int 0), w6], [], qMM m n lm)) rfl ?_
              exact ih m x1 x2 x3 (x4 + 1) (some (.int 0)) (w6) _ h hr hk
            · rw [if_neg hc15] at h
              refine q_ev_brF hc15 (a := 69) (b := 72) rfl ?_
              refine q_ev_run 3 (S' := (78, [some (.ref 41), some (.int x1), some (.int x2), some (.int x3), some (.int x4), some (.int 0), w6], [.int x4, .ref 46], qMM m n lm)) rfl ?_
              obtain ⟨hb16, h⟩ := q_cd h
              refine q_ev_chk (b := q_in x4 8) hb16 (S' := (79, [some (.ref 41), some (.int x1), some (.int x2), some (.int x3), some (.int x4), some (.int 0), w6], [.int (m 44 x4.toNatClampNeg)], qMM m n lm)) rfl ?_
              refine q_ev_run 5 (S' := (88, [some (.ref 41), some (.int x1), some (.int x2), some (.int x3), some (.int x4), some (.int 0), some (.int (m 44 x4.toNatClampNeg))], [.int x4, .int x1, .ref 45], qMM m n lm)) rfl ?_
              obtain ⟨hb17, h⟩ := q_cd h
              refine q_ev_chk (b := q_in x1 8) hb17 (S' := (89, [some (.ref 41), some (.int x1), some (.int x2), some (.int x3), some (.int x4), some (.int 0), some (.int (m 44 x4.toNatClampNeg))], [], qMM (q_w m 43 x1.toNatClampNeg x4) n lm)) rfl ?_
              refine q_ev_run 4 (S' := (96, [some (.ref 41), some (.int x1), some (.int x2), some (.int x3), some (.int x4), some (.int 0), some (.int (m 44 x4.toNatClampNeg))], [.int x1, .int x4, .ref 46], qMM (q_w m 43 x1.toNatClampNeg x4) n lm)) rfl ?_
              obtain ⟨hb18, h⟩ := q_cd h
              refine q_ev_chk (b := q_in x4 8) hb18 (S' := (97, [some (.ref 41), some (.int x1), some (.int x2), some (.int x3), some (.int x4), some (.int 0), some (.int (m 44 x4.toNatClampNeg))], [], qMM (q_w (q_w m 43 x1.toNatClampNeg x4) 44 x4.toNatClampNeg x1) n lm)) rfl ?_
              refine q_ev_run 8 (S' := (114, [some (.ref 41), some (.int x1), some (.int x2), some (.int x3), some (.int x4), some (.int 0), some (.int (m 44 x4.toNatClampNeg))], [.int x3, .int x2, .int (x1 + 1), .ref 41], qMM (q_w (q_w m 43 x1.toNatClampNeg x4) 44 x4.toNatClampNeg x1) n lm)) rfl ?_
              obtain ⟨⟨r19, m20⟩, hf21, h⟩ := Option.bind_eq_some_iff.mp h
              try dsimp only at h
              refine q_ev_call (S' := (117, [some (.ref 41), some (.int x1), some (.int x2), some (.int x3), some (.int x4), some (.int 0), some (.int (m 44 x4.toNatClampNeg))], [], qMM (q_w (q_w m 43 x1.toNatClampNeg x4) 44 x4.toNatClampNeg x1) n lm)) rfl (by omega) (hrec _ _ _ _ _ _ hf21) ?_
              refine q_ev_eq (S' := (117, [some (.ref 41), some (.int x1), some (.int x2), some (.int x3), some (.int x4), some (.int 0), some (.int (m 44 x4.toNatClampNeg))], [.int r19], qMM m20 n lm)) rfl ?_
              by_cases hc22 : r19 = 0
              · rw [if_pos hc22] at h
                refine q_ev_brT hc22 (a := 122) (b := 120) rfl ?_
                refine q_ev_run 4 (S' := (130, [some (.ref 41), some (.int x1), some (.int x2), some (.int x3), some (.int x4), some (.int 0), some (.int (m 44 x4.toNatClampNeg))], [.int (m 44 x4.toNatClampNeg), .int x4, .ref 46], qMM m20 n lm)) rfl ?_
                obtain ⟨hb23, h⟩ := q_cd h
                refine q_ev_chk (b := q_in x4 8) hb23 (S' := (131, [some (.ref 41), some (.int x1), some (.int x2), some (.int x3), some (.int x4), some (.int 0), some (.int (m 44 x4.toNatClampNeg))], [], qMM (q_w m20 44 x4.toNatClampNeg (m 44 x4.toNatClampNeg)) n lm)) rfl ?_
                refine q_ev_run 2 (S' := (13, [some (.ref 41), some (.int x1), some (.int x2), some (.int x3), some (.int (x4 + 1)), some (.int 0), some (.int (m 44 x4.toNatClampNeg))], [], qMM (q_w m20 44 x4.toNatClampNeg (m 44 x4.toNatClampNeg)) n lm)) rfl ?_
                exact ih (q_w m20 44 x4.toNatClampNeg (m 44 x4.toNatClampNeg)) x1 x2 x3 (x4 + 1) (some (.int 0)) (some (.int (m 44 x4.toNatClampNeg))) _ h hr hk
              · rw [if_neg hc22] at h
                refine q_ev_brF hc22 (a := 122) (b := 120) rfl ?_
                refine q_ev_run 1 (S' := (121, [some (.ref 41), some (.int x1), some (.int x2), some (.int x3), some (.int x4), some (.int 0), some (.int (m 44 x4.toNatClampNeg))], [.int 1], qMM m20 n lm)) rfl ?_
                obtain rfl := (Option.some.inj h).symm
                rw [hr _ _ rfl]
                exact q_ev_ret rfl rfl
noncomputable def F_Ru_tellFrom_39 : Nat → (Nat → Nat → Int32) → Int32 → Int32 → Int32 → Option (Int32 × (Nat → Nat → Int32))
  | 0, _, _, _, _ => none
  | dn + 1, m, a1, a2, a3 =>
    if a1 < m 39 0 then
      Option.bind (FL_Ru_tellFrom_39_13 (F_Ru_tellFrom_39 dn) qFU m a1 a2 a3 0) (fun o7 => match o7 with
        | .inl (v0, v1) => some (v0, v1)
        | .inr m5 =>
          some (0, m5))
    else
      some (1, m)
theorem T_Ru_tellFrom_39_r {Ln : Nat} {xs : Nat → Int32} {n : (Nat → Nat → Int32)} {lm : Nat → Int64} : ∀ (dn : Nat) {d : Nat}, dn + 1 ≤ d → ∀ (m : (Nat → Nat → Int32)) (a1 : Int32) (a2 : Int32) (a3 : Int32) (rv : Int32) (m1 : (Nat → Nat → Int32)), F_Ru_tellFrom_39 dn m a1 a2 a3 = some (rv, m1) → q_Ev (qXT Ln xs) d 61 (0, [some (.ref 41), some (.int a1), some (.int a2), some (.int a3), none, none, none], [], qMM m n lm) (some (.int rv), qMM m1 n lm) := by
  intro dn
  induction dn with
  | zero => intro d hd m a1 a2 a3 rv m1 h; cases h
  | succ dn ihd =>
    intro d hd m a1 a2 a3 rv m1 h
    have hrec0 : ∀ (m : (Nat → Nat → Int32)) (a1 : Int32) (a2 : Int32) (a3 : Int32) (rv : Int32) (m1 : (Nat → Nat → Int32)), F_Ru_tellFrom_39 dn m a1 a2 a3 = some (rv, m1) → q_Ev (qXT Ln xs) (d - 1) 61 (0, [some (.ref 41), some (.int a1), some (.int a2), some (.int a3), none, none, none], [], qMM m n lm) (some (.int rv), qMM m1 n lm) := fun m a1 a2 a3 rv m1 hh => ihd (by omega) m a1 a2 a3 rv m1 hh
    rw [F_Ru_tellFrom_39] at h
    refine q_ev_run 3 (S' := (5, [some (.ref 41), some (.int a1), some (.int a2), some (.int a3), none, none, none], [.int (m 39 0), .int a1], qMM m n lm)) rfl ?_
    by_cases hc1 : a1 < m 39 0
    · rw [if_pos hc1] at h
      refine q_ev_brT hc1 (a := 10) (b := 8) rfl ?_
      refine q_ev_run 2 (S' := (13, [some (.ref 41), some (.int a1), some (.int a2), some (.int a3), some (.int 0), none, none], [], qMM m n lm)) rfl ?_
      obtain ⟨o7, hl6, h⟩ := Option.bind_eq_some_iff.mp h
      rcases o7 with ⟨v0, v1⟩ | m5
      · have h_z0 := Option.some.inj h
        obtain ⟨h_0, h_z1⟩ := Prod.mk.inj h_z0
        subst h_0
        subst h_z1
        exact TL_Ru_tellFrom_39_13 (by first | omega | decide) hrec0 _ m a1 a2 a3 0 (none) (none) _ hl6 (fun _ _ hh => by cases hh; rfl) (fun _ hh => by cases hh)
      · refine TL_Ru_tellFrom_39_13 (by first | omega | decide) hrec0 _ m a1 a2 a3 0 (none) (none) _ hl6 (fun _ _ hh => by cases hh) (fun _ hh w2 w3 w4 => ?_)
        cases hh
        try dsimp only at h
        refine q_ev_run 1 (S' := (138, [some (.ref 41), some (.int a1), some (.int a2), some (.int a3), w2, w3, w4], [.int 0], qMM m5 n lm)) rfl ?_
        have h_z0 := Option.some.inj h
        obtain ⟨h_0, h_z1⟩ := Prod.mk.inj h_z0
        subst h_0
        subst h_z1
        exact q_ev_ret rfl rfl
    · rw [if_neg hc1] at h
      refine q_ev_brF hc1 (a := 10) (b := 8) rfl ?_
      refine q_ev_run 1 (S' := (9, [some (.ref 41), some (.int a1), some (.int a2), some (.int a3), none, none, none], [.int 1], qMM m n lm)) rfl ?_
      have h_z0 := Option.some.inj h
      obtain ⟨h_0, h_z1⟩ := Prod.mk.inj h_z0
      subst h_0
      subst h_z1
      exact q_ev_ret rfl rfl
theorem T_Ru_tellFrom_39 {Ln : Nat} {xs : Nat → Int32} {n : (Nat → Nat → Int32)} {lm : Nat → Int64} {d dn : Nat} (hd : dn + 1 ≤ d) {m : (Nat → Nat → Int32)} {a1 : Int32} {a2 : Int32} {a3 : Int32} {rv : Int32} {m1 : (Nat → Nat → Int32)} (h : F_Ru_tellFrom_39 dn m a1 a2 a3 = some (rv, m1)) : q_Ev (qXT Ln xs) d 61 (0, [some (.ref 41), some (.int a1), some (.int a2), some (.int a3), none, none, none], [], qMM m n lm) (some (.int rv), qMM m1 n lm) := T_Ru_tellFrom_39_r dn hd m a1 a2 a3 rv m1 h
noncomputable def F_Ru_canBeDoneBy_39 (m : (Nat → Nat → Int32)) (a1 : Int32) : Option (Int32 × (Nat → Nat → Int32)) :=
  Option.bind (F_Ru_tellFrom_39 20 m 0 0 a1) (fun (r1, m2) =>
    cond (q_bl r1) (some (r1, m2)) none)
theorem T_Ru_canBeDoneBy_39 {Ln : Nat} {xs : Nat → Int32} {n : (Nat → Nat → Int32)} {lm : Nat → Int64} {d : Nat} (hd : 22 ≤ d) {m : (Nat → Nat → Int32)} {a1 : Int32} {rv : Int32} {m1 : (Nat → Nat → Int32)} (h : F_Ru_canBeDoneBy_39 m a1 = some (rv, m1)) : q_Ev (qXT Ln xs) d 60 (0, [some (.ref 41), some (.int a1)], [], qMM m n lm) (some (.int rv), qMM m1 n lm) := by
  unfold F_Ru_canBeDoneBy_39 at h
  refine q_ev_run 4 (S' := (4, [some (.ref 41), some (.int a1)], [.int a1, .int 0, .int 0, .ref 41], qMM m n lm)) rfl ?_
  obtain ⟨⟨r1, m2⟩, hf3, h⟩ := Option.bind_eq_some_iff.mp h
  try dsimp only at h
  refine q_ev_call (S' := (7, [some (.ref 41), some (.int a1)], [], qMM m n lm)) rfl (by omega) (T_Ru_tellFrom_39 (by first | omega | decide) hf3) ?_
  refine q_ev_eq (S' := (7, [some (.ref 41), some (.int a1)], [.int r1], qMM m2 n lm)) rfl ?_
  obtain ⟨hb4, h⟩ := q_cd h
  have h_z0 := Option.some.inj h
  obtain ⟨h_0, h_z1⟩ := Prod.mk.inj h_z0
  subst h_0
  subst h_z1
  exact q_ev_retb hb4 rfl rfl
noncomputable def F_AT_one (m : (Nat → Nat → Int32)) : Option (Int32 × (Nat → Nat → Int32)) :=
  Option.bind (F_Ru_canBeDoneBy_39 m 1) (fun (r1, m2) =>
    if r1 = 0 then
      some (0, m2)
    else
      some (1, m2))
theorem T_AT_one {Ln : Nat} {xs : Nat → Int32} {n : (Nat → Nat → Int32)} {lm : Nat → Int64} {d : Nat} (hd : 23 ≤ d) {m : (Nat → Nat → Int32)} {rv : Int32} {m1 : (Nat → Nat → Int32)} (h : F_AT_one m = some (rv, m1)) : q_Ev (qXT Ln xs) d 81 (0, [some (.ref 0)], [], qMM m n lm) (some (.int rv), qMM m1 n lm) := by
  unfold F_AT_one at h
  refine q_ev_run 3 (S' := (5, [some (.ref 0)], [.int 1, .ref 41], qMM m n lm)) rfl ?_
  obtain ⟨⟨r1, m2⟩, hf3, h⟩ := Option.bind_eq_some_iff.mp h
  try dsimp only at h
  refine q_ev_call (S' := (8, [some (.ref 0)], [], qMM m n lm)) rfl (by omega) (T_Ru_canBeDoneBy_39 (by first | omega | decide) hf3) ?_
  refine q_ev_eq (S' := (8, [some (.ref 0)], [.int r1], qMM m2 n lm)) rfl ?_
  by_cases hc4 : r1 = 0
  · rw [if_pos hc4] at h
    refine q_ev_brT hc4 (a := 15) (b := 11) rfl ?_
    refine q_ev_run 1 (S' := (16, [some (.ref 0)], [.int 0], qMM m2 n lm)) rfl ?_
    have h_z0 := Option.some.inj h
    obtain ⟨h_0, h_z1⟩ := Prod.mk.inj h_z0
    subst h_0
    subst h_z1
    exact q_ev_ret rfl rfl
  · rw [if_neg hc4] at h
    refine q_ev_brF hc4 (a := 15) (b := 11) rfl ?_
    refine q_ev_run 2 (S' := (16, [some (.ref 0)], [.int 1], qMM m2 n lm)) rfl ?_
    have h_z0 := Option.some.inj h
    obtain ⟨h_0, h_z1⟩ := Prod.mk.inj h_z0
    subst h_0
    subst h_z1
    exact q_ev_ret rfl rfl
noncomputable def FL_Mo_lays_12 : Nat → (Nat → Nat → Int32) → Int32 → Option ((Nat → Nat → Int32))
  | 0, _, _ => none
  | fu + 1, m, x1 =>
    if m 56 17 ≤ x1 then
      some (m)
    else
      cond (q_in (13 + x1) 93) (
        cond (q_in x1 8) (
          Option.bind (F_Mo_comes (q_w m 65 x1.toNatClampNeg (m 58 ((13 + x1)).toNatClampNeg)) x1) (fun r4 =>
            cond (q_in x1 8) (FL_Mo_lays_12 fu (q_w (q_w m 65 x1.toNatClampNeg (m 58 ((13 + x1)).toNatClampNeg)) 66 x1.toNatClampNeg r4) (x1 + 1)) none)
         ) none
       ) none
theorem TL_Mo_lays_12 {Ln : Nat} {xs : Nat → Int32} {n : (Nat → Nat → Int32)} {lm : Nat → Int64} {d : Nat} (hd : 1 ≤ d) {r : Option Value × qM} : ∀ (fu : Nat) (m : (Nat → Nat → Int32)) (x1 : Int32)  (m1 : (Nat → Nat → Int32)), FL_Mo_lays_12 fu m x1 = some m1 → (∀ (u1 : Option Value), q_Ev (qXT Ln xs) d 146 (52, [some (.ref 58), u1], [], qMM n m1 lm) r) → q_Ev (qXT Ln xs) d 146 (12, [some (.ref 58), some (.int x1)], [], qMM n m lm) r := by
  intro fu
  induction fu with
  | zero => intro m x1 m1 h hk; cases h
  | succ fu ih =>
    intro m x1 m1 h hk
    rw [FL_Mo_lays_12] at h
    refine q_ev_run 3 (S' := (17, [some (.ref 58), some (.int x1)], [.int (m 56 17), .int x1], qMM n m lm)) rfl ?_
    by_cases hc1 : m 56 17 ≤ x1
    · rw [if_pos hc1] at h
      refine q_ev_brT hc1 (a := 52) (b := 20) rfl ?_
      have h_z0 := Option.some.inj h
      subst h_z0
      exact hk (some (.int x1))
    · rw [if_neg hc1] at h
      refine q_ev_brF hc1 (a := 52) (b := 20) rfl ?_
      refine q_ev_run 8 (S' := (33, [some (.ref 58), some (.int x1)], [.int (13 + x1), .ref 60, .int x1, .ref 67], qMM n m lm)) rfl ?_
      obtain ⟨hb2, h⟩ := q_cd h
      refine q_ev_chk (b := q_in (13 + x1) 93) hb2 (S' := (34, [some (.ref 58), some (.int x1)], [.int (m 58 ((13 + x1)).toNatClampNeg), .int x1, .ref 67], qMM n m lm)) rfl ?_
      obtain ⟨hb3, h⟩ := q_cd h
      refine q_ev_chk (b := q_in x1 8) hb3 (S' := (35, [some (.ref 58), some (.int x1)], [], qMM n (q_w m 65 x1.toNatClampNeg (m 58 ((13 + x1)).toNatClampNeg)) lm)) rfl ?_
      refine q_ev_run 5 (S' := (42, [some (.ref 58), some (.int x1)], [.int x1, .ref 58, .int x1, .ref 68], qMM n (q_w m 65 x1.toNatClampNeg (m 58 ((13 + x1)).toNatClampNeg)) lm)) rfl ?_
      obtain ⟨r4, hf5, h⟩ := Option.bind_eq_some_iff.mp h
      try dsimp only at h
      refine q_ev_call (S' := (45, [some (.ref 58), some (.int x1)], [.int x1, .ref 68], qMM n (q_w m 65 x1.toNatClampNeg (m 58 ((13 + x1)).toNatClampNeg)) lm)) rfl (by omega) (T_Mo_comes (by first | omega | decide) hf5) ?_
      refine q_ev_eq (S' := (45, [some (.ref 58), some (.int x1)], [.int r4, .int x1, .ref 68], qMM n (q_w m 65 x1.toNatClampNeg (m 58 ((13 + x1)).toNatClampNeg)) lm)) rfl ?_
      obtain ⟨hb6, h⟩ := q_cd h
      refine q_ev_chk (b := q_in x1 8) hb6 (S' := (46, [some (.ref 58), some (.int x1)], [], qMM n (q_w (q_w m 65 x1.toNatClampNeg (m 58 ((13 + x1)).toNatClampNeg)) 66 x1.toNatClampNeg r4) lm)) rfl ?_
      refine q_ev_run 2 (S' := (12, [some (.ref 58), some (.int (x1 + 1))], [], qMM n (q_w (q_w m 65 x1.toNatClampNeg (m 58 ((13 + x1)).toNatClampNeg)) 66 x1.toNatClampNeg r4) lm)) rfl ?_
      exact ih (q_w (q_w m 65 x1.toNatClampNeg (m 58 ((13 + x1)).toNatClampNeg)) 66 x1.toNatClampNeg r4) (x1 + 1) _ h hk
noncomputable def F_Mo_lays (m : (Nat → Nat → Int32)) : Option ((Nat → Nat → Int32)) :=
  Option.bind (FL_Mo_lays_12 qFU (q_w m 56 17 (m 58 2)) 0) (fun m2 =>
    some (m2))
theorem T_Mo_lays {Ln : Nat} {xs : Nat → Int32} {n : (Nat → Nat → Int32)} {lm : Nat → Int64} {d : Nat} (hd : 1 ≤ d) {m : (Nat → Nat → Int32)} {m1 : (Nat → Nat → Int32)} (h : F_Mo_lays m = some m1) : q_Ev (qXT Ln xs) d 146 (0, [some (.ref 58), none], [], qMM n m lm) (none, qMM n m1 lm) := by
  unfold F_Mo_lays at h
  refine q_ev_run 8 (S' := (12, [some (.ref 58), some (.int 0)], [], qMM n (q_w m 56 17 (m 58 2)) lm)) rfl ?_
  obtain ⟨m2, hl3, h⟩ := Option.bind_eq_some_iff.mp h
  try dsimp only at h
  refine TL_Mo_lays_12 (by first | omega | decide) _ (q_w m 56 17 (m 58 2)) 0 _ hl3 (fun w1 => ?_)
  have h_z0 := Option.some.inj h
  subst h_z0
  exact q_ev_ret rfl rfl
noncomputable def F_Mo_canGo (m : (Nat → Nat → Int32)) (a1 : Int32) (a2 : Int32) : Option (Int32) :=
  cond (q_in a1 8) (
    cond (q_in a2 8) (
      Option.bind (F_Mo_wayOf m (m 65 a1.toNatClampNeg) (m 65 a2.toNatClampNeg)) (fun r3 =>
        if r3 = (Int32.ofInt (-9)) then
          some (0)
        else
          cond (q_in a2 8) (
            cond (q_in a1 8) (
              if (m 66 a2.toNatClampNeg - m 66 a1.toNatClampNeg) < r3 then
                some (0)
              else
                some (1)
             ) none
           ) none)
     ) none
   ) none
theorem T_Mo_canGo {Ln : Nat} {xs : Nat → Int32} {n : (Nat → Nat → Int32)} {lm : Nat → Int64} {d : Nat} (hd : 1 ≤ d) {m : (Nat → Nat → Int32)} {a1 : Int32} {a2 : Int32} {rv : Int32} (h : F_Mo_canGo m a1 a2 = some rv) : q_Ev (qXT Ln xs) d 147 (0, [some (.ref 58), some (.int a1), some (.int a2), none], [], qMM n m lm) (some (.int rv), qMM n m lm) := by
  unfold F_Mo_canGo at h
  refine q_ev_run 4 (S' := (6, [some (.ref 58), some (.int a1), some (.int a2), none], [.int a1, .ref 67, .ref 58], qMM n m lm)) rfl ?_
  obtain ⟨hb1, h⟩ := q_cd h
  refine q_ev_chk (b := q_in a1 8) hb1 (S' := (7, [some (.ref 58), some (.int a1), some (.int a2), none], [.int (m 65 a1.toNatClampNeg), .ref 58], qMM n m lm)) rfl ?_
  refine q_ev_run 3 (S' := (12, [some (.ref 58), some (.int a1), some (.int a2), none], [.int a2, .ref 67, .int (m 65 a1.toNatClampNeg), .ref 58], qMM n m lm)) rfl ?_
  obtain ⟨hb2, h⟩ := q_cd h
  refine q_ev_chk (b := q_in a2 8) hb2 (S' := (13, [some (.ref 58), some (.int a1), some (.int a2), none], [.int (m 65 a2.toNatClampNeg), .int (m 65 a1.toNatClampNeg), .ref 58], qMM n m lm)) rfl ?_
  obtain ⟨r3, hf4, h⟩ := Option.bind_eq_some_iff.mp h
  try dsimp only at h
  refine q_ev_call (S' := (16, [some (.ref 58), some (.int a1), some (.int a2), none], [], qMM n m lm)) rfl (by omega) (T_Mo_wayOf (by first | omega | decide) hf4) ?_
  refine q_ev_eq (S' := (16, [some (.ref 58), some (.int a1), some (.int a2), none], [.int r3], qMM n m lm)) rfl ?_
  refine q_ev_run 3 (S' := (20, [some (.ref 58), some (.int a1), some (.int a2), some (.int r3)], [.int (Int32.ofInt (-9)), .int r3], qMM n m lm)) rfl ?_
  by_cases hc5 : r3 = (Int32.ofInt (-9))
  · rw [if_pos hc5] at h
    refine q_ev_brT hc5 (a := 44) (b := 23) rfl ?_
    refine q_ev_run 1 (S' := (45, [some (.ref 58), some (.int a1), some (.int a2), some (.int r3)], [.int 0], qMM n m lm)) rfl ?_
    have h_z0 := Option.some.inj h
    subst h_z0
    exact q_ev_ret rfl rfl
  · rw [if_neg hc5] at h
    refine q_ev_brF hc5 (a := 44) (b := 23) rfl ?_
    refine q_ev_run 4 (S' := (29, [some (.ref 58), some (.int a1), some (.int a2), some (.int r3)], [.int a2, .ref 68, .int r3], qMM n m lm)) rfl ?_
    obtain ⟨hb6, h⟩ := q_cd h
    refine q_ev_chk (b := q_in a2 8) hb6 (S' := (30, [some (.ref 58), some (.int a1), some (.int a2), some (.int r3)], [.int (m 66 a2.toNatClampNeg), .int r3], qMM n m lm)) rfl ?_
    refine q_ev_run 3 (S' := (35, [some (.ref 58), some (.int a1), some (.int a2), some (.int r3)], [.int a1, .ref 68, .int (m 66 a2.toNatClampNeg), .int r3], qMM n m lm)) rfl ?_
    obtain ⟨hb7, h⟩ := q_cd h
    refine q_ev_chk (b := q_in a1 8) hb7 (S' := (36, [some (.ref 58), some (.int a1), some (.int a2), some (.int r3)], [.int (m 66 a1.toNatClampNeg), .int (m 66 a2.toNatClampNeg), .int r3], qMM n m lm)) rfl ?_
    refine q_ev_run 1 (S' := (37, [some (.ref 58), some (.int a1), some (.int a2), some (.int r3)], [.int (m 66 a2.toNatClampNeg - m 66 a1.toNatClampNeg), .int r3], qMM n m lm)) rfl ?_
    by_cases hc8 : (m 66 a2.toNatClampNeg - m 66 a1.toNatClampNeg) < r3
    · rw [if_pos hc8] at h
      refine q_ev_brT hc8 (a := 44) (b := 40) rfl ?_
      refine q_ev_run 1 (S' := (45, [some (.ref 58), some (.int a1), some (.int a2), some (.int r3)], [.int 0], qMM n m lm)) rfl ?_
      have h_z0 := Option.some.inj h
      subst h_z0
      exact q_ev_ret rfl rfl
    · rw [if_neg hc8] at h
      refine q_ev_brF hc8 (a := 44) (b := 40) rfl ?_
      refine q_ev_run 2 (S' := (45, [some (.ref 58), some (.int a1), some (.int a2), some (.int r3)], [.int 1], qMM n m lm)) rfl ?_
      have h_z0 := Option.some.inj h
      subst h_z0
      exact q_ev_ret rfl rfl
noncomputable def FL_Mo_one_8 : Nat → (Nat → Nat → Int32) → Int32 → Int32 → Option (Int32)
  | 0, _, _, _ => none
  | fu + 1, m, x1, x2 =>
    if m 56 17 ≤ x2 then
      some (x1)
    else
      if x1 = 0 then
        FL_Mo_one_8 fu m 0 (x2 + 1)
      else
        Option.bind (F_Mo_canGo m (x2 - 1) x2) (fun r3 =>
          if r3 = 0 then
            FL_Mo_one_8 fu m 0 (x2 + 1)
          else
            FL_Mo_one_8 fu m 1 (x2 + 1))
theorem TL_Mo_one_8 {Ln : Nat} {xs : Nat → Int32} {n : (Nat → Nat → Int32)} {lm : Nat → Int64} {d : Nat} (hd : 2 ≤ d) {r : Option Value × qM} : ∀ (fu : Nat) (m : (Nat → Nat → Int32)) (x1 : Int32) (x2 : Int32)  (y1 : Int32), FL_Mo_one_8 fu m x1 x2 = some y1 → (∀ (u2 : Option Value), q_Ev (qXT Ln xs) d 148 (43, [some (.ref 58), some (.int y1), u2], [], qMM n m lm) r) → q_Ev (qXT Ln xs) d 148 (8, [some (.ref 58), some (.int x1), some (.int x2)], [], qMM n m lm) r := by
  intro fu
  induction fu with
  | zero => intro m x1 x2 y1 h hk; cases h
  | succ fu ih =>
    intro m x1 x2 y1 h hk
    rw [FL_Mo_one_8] at h
    refine q_ev_run 3 (S' := (13, [some (.ref 58), some (.int x1), some (.int x2)], [.int (m 56 17), .int x2], qMM n m lm)) rfl ?_
    by_cases hc1 : m 56 17 ≤ x2
    · rw [if_pos hc1] at h
      refine q_ev_brT hc1 (a := 43) (b := 16) rfl ?_
      have h_z0 := Option.some.inj h
      subst h_z0
      exact hk (some (.int x2))
    · rw [if_neg hc1] at h
      refine q_ev_brF hc1 (a := 43) (b := 16) rfl ?_
      refine q_ev_run 1 (S' := (17, [some (.ref 58), some (.int x1), some (.int x2)], [.int x1], qMM n m lm)) rfl ?_
      by_cases hc2 : x1 = 0
      · rw [if_pos hc2] at h
        refine q_ev_brT hc2 (a := 35) (b := 20) rfl ?_
        refine q_ev_run 4 (S' := (8, [some (.ref 58), some (.int 0), some (.int (x2 + 1))], [], qMM n m lm)) rfl ?_
        exact ih m 0 (x2 + 1) _ h hk
      · rw [if_neg hc2] at h
        refine q_ev_brF hc2 (a := 35) (b := 20) rfl ?_
        refine q_ev_run 5 (S' := (25, [some (.ref 58), some (.int x1), some (.int x2)], [.int x2, .int (x2 - 1), .ref 58], qMM n m lm)) rfl ?_
        obtain ⟨r3, hf4, h⟩ := Option.bind_eq_some_iff.mp h
        try dsimp only at h
        refine q_ev_call (S' := (28, [some (.ref 58), some (.int x1), some (.int x2)], [], qMM n m lm)) rfl (by omega) (T_Mo_canGo (by first | omega | decide) hf4) ?_
        refine q_ev_eq (S' := (28, [some (.ref 58), some (.int x1), some (.int x2)], [.int r3], qMM n m lm)) rfl ?_
        by_cases hc5 : r3 = 0
        · rw [if_pos hc5] at h
          refine q_ev_brT hc5 (a := 35) (b := 31) rfl ?_
          refine q_ev_run 4 (S' := (8, [some (.ref 58), some (.int 0), some (.int (x2 + 1))], [], qMM n m lm)) rfl ?_
          exact ih m 0 (x2 + 1) _ h hk
        · rw [if_neg hc5] at h
          refine q_ev_brF hc5 (a := 35) (b := 31) rfl ?_
          refine q_ev_run 5 (S' := (8, [some (.ref 58), some (.int 1), some (.int (x2 + 1))], [], qMM n m lm)) rfl ?_
          exact ih m 1 (x2 + 1) _ h hk
noncomputable def F_Mo_one (m : (Nat → Nat → Int32)) : Option (Int32 × (Nat → Nat → Int32)) :=
  Option.bind (F_Mo_lays m) (fun m1 =>
    Option.bind (FL_Mo_one_8 qFU m1 1 1) (fun y3 =>
      if y3 = 0 then
        some (0, m1)
      else
        some (1, m1)))
theorem T_Mo_one {Ln : Nat} {xs : Nat → Int32} {n : (Nat → Nat → Int32)} {lm : Nat → Int64} {d : Nat} (hd : 2 ≤ d) {m : (Nat → Nat → Int32)} {rv : Int32} {m1 : (Nat → Nat → Int32)} (h : F_Mo_one m = some (rv, m1)) : q_Ev (qXT Ln xs) d 148 (0, [some (.ref 58), none, none], [], qMM n m lm) (some (.int rv), qMM n m1 lm) := by
  unfold F_Mo_one at h
  refine q_ev_run 1 (S' := (1, [some (.ref 58), none, none], [.ref 58], qMM n m lm)) rfl ?_
  obtain ⟨m1, hf2, h⟩ := Option.bind_eq_some_iff.mp h
  try dsimp only at h
  refine q_ev_call (S' := (4, [some (.ref 58), none, none], [], qMM n m lm)) rfl (by omega) (T_Mo_lays (by first | omega | decide) hf2) ?_
  refine q_ev_eq (S' := (4, [some (.ref 58), none, none], [], qMM n m1 lm)) rfl ?_
  refine q_ev_run 4 (S' := (8, [some (.ref 58), some (.int 1), some (.int 1)], [], qMM n m1 lm)) rfl ?_
  obtain ⟨y3, hl5, h⟩ := Option.bind_eq_some_iff.mp h
  try dsimp only at h
  refine TL_Mo_one_8 (by first | omega | decide) _ m1 1 1 _ hl5 (fun w4 => ?_)
  refine q_ev_run 1 (S' := (44, [some (.ref 58), some (.int y3), w4], [.int y3], qMM n m1 lm)) rfl ?_
  by_cases hc6 : y3 = 0
  · rw [if_pos hc6] at h
    refine q_ev_brT hc6 (a := 51) (b := 47) rfl ?_
    refine q_ev_run 1 (S' := (52, [some (.ref 58), some (.int y3), w4], [.int 0], qMM n m1 lm)) rfl ?_
    have h_z0 := Option.some.inj h
    obtain ⟨h_0, h_z1⟩ := Prod.mk.inj h_z0
    subst h_0
    subst h_z1
    exact q_ev_ret rfl rfl
  · rw [if_neg hc6] at h
    refine q_ev_brF hc6 (a := 51) (b := 47) rfl ?_
    refine q_ev_run 2 (S' := (52, [some (.ref 58), some (.int y3), w4], [.int 1], qMM n m1 lm)) rfl ?_
    have h_z0 := Option.some.inj h
    obtain ⟨h_0, h_z1⟩ := Prod.mk.inj h_z0
    subst h_0
    subst h_z1
    exact q_ev_ret rfl rfl
noncomputable def FL_Ru_fewest_39_2 : Nat → (Nat → Nat → Int32) → Int32 → Option ((Int32 × (Nat → Nat → Int32)) ⊕ ((Nat → Nat → Int32)))
  | 0, _, _ => none
  | fu + 1, m, x1 =>
    if m 39 0 ≤ x1 then
      some (.inr m)
    else
      Option.bind (F_Ru_canBeDoneBy_39 m x1) (fun (r2, m3) =>
        if r2 = 0 then
          FL_Ru_fewest_39_2 fu m3 (x1 + 1)
        else
          some (.inl (x1, m3)))
theorem TL_Ru_fewest_39_2 {Ln : Nat} {xs : Nat → Int32} {n : (Nat → Nat → Int32)} {lm : Nat → Int64} {d : Nat} (hd : 23 ≤ d) {r : Option Value × qM} : ∀ (fu : Nat) (m : (Nat → Nat → Int32)) (x1 : Int32)  (o : (Int32 × (Nat → Nat → Int32)) ⊕ ((Nat → Nat → Int32))), FL_Ru_fewest_39_2 fu m x1 = some o → (∀ (rv : Int32) (m1 : (Nat → Nat → Int32)), o = .inl (rv, m1) → r = (some (.int rv), qMM m1 n lm)) → (∀ (m1 : (Nat → Nat → Int32)), o = .inr m1 → ∀ (u1 : Option Value), q_Ev (qXT Ln xs) d 59 (26, [some (.ref 41), u1], [], qMM m1 n lm) r) → q_Ev (qXT Ln xs) d 59 (2, [some (.ref 41), some (.int x1)], [], qMM m n lm) r := by
  intro fu
  induction fu with
  | zero => intro m x1 o h hr hk; cases h
  | succ fu ih =>
    intro m x1 o h hr hk
    rw [FL_Ru_fewest_39_2] at h
    refine q_ev_run 3 (S' := (7, [some (.ref 41), some (.int x1)], [.int (m 39 0), .int x1], qMM m n lm)) rfl ?_
    by_cases hc1 : m 39 0 ≤ x1
    · rw [if_pos hc1] at h
      refine q_ev_brT hc1 (a := 26) (b := 10) rfl ?_
      obtain rfl := (Option.some.inj h).symm
      exact hk _ rfl (some (.int x1))
    · rw [if_neg hc1] at h
      refine q_ev_brF hc1 (a := 26) (b := 10) rfl ?_
      refine q_ev_run 2 (S' := (12, [some (.ref 41), some (.int x1)], [.int x1, .ref 41], qMM m n lm)) rfl ?_
      obtain ⟨⟨r2, m3⟩, hf4, h⟩ := Option.bind_eq_some_iff.mp h
      try dsimp only at h
      refine q_ev_call (S' := (15, [some (.ref 41), some (.int x1)], [], qMM m n lm)) rfl (by omega) (T_Ru_canBeDoneBy_39 (by first | omega | decide) hf4) ?_
      refine q_ev_eq (S' := (15, [some (.ref 41), some (.int x1)], [.int r2], qMM m3 n lm)) rfl ?_
      by_cases hc5 : r2 = 0
      · rw [if_pos hc5] at h
        refine q_ev_brT hc5 (a := 20) (b := 18) rfl ?_
        refine q_ev_run 2 (S' := (2, [some (.ref 41), some (.int (x1 + 1))], [], qMM m3 n lm)) rfl ?_
        exact ih m3 (x1 + 1) _ h hr hk
      · rw [if_neg hc5] at h
        refine q_ev_brF hc5 (a := 20) (b := 18) rfl ?_
        refine q_ev_run 1 (S' := (19, [some (.ref 41), some (.int x1)], [.int x1], qMM m3 n lm)) rfl ?_
        obtain rfl := (Option.some.inj h).symm
        rw [hr _ _ rfl]
        exact q_ev_ret rfl rfl
noncomputable def F_Ru_fewest_39 (m : (Nat → Nat → Int32)) : Option (Int32 × (Nat → Nat → Int32)) :=
  Option.bind (FL_Ru_fewest_39_2 qFU m 0) (fun o7 => match o7 with
    | .inl (v0, v1) => some (v0, v1)
    | .inr m2 =>
      Option.bind (F_Ru_canBeDoneBy_39 m2 (m2 39 0)) (fun (r4, m5) =>
        some (m5 39 0, m5)))
theorem T_Ru_fewest_39 {Ln : Nat} {xs : Nat → Int32} {n : (Nat → Nat → Int32)} {lm : Nat → Int64} {d : Nat} (hd : 23 ≤ d) {m : (Nat → Nat → Int32)} {rv : Int32} {m1 : (Nat → Nat → Int32)} (h : F_Ru_fewest_39 m = some (rv, m1)) : q_Ev (qXT Ln xs) d 59 (0, [some (.ref 41), none], [], qMM m n lm) (some (.int rv), qMM m1 n lm) := by
  unfold F_Ru_fewest_39 at h
  refine q_ev_run 2 (S' := (2, [some (.ref 41), some (.int 0)], [], qMM m n lm)) rfl ?_
  obtain ⟨o7, hl3, h⟩ := Option.bind_eq_some_iff.mp h
  rcases o7 with ⟨v0, v1⟩ | m2
  · have h_z0 := Option.some.inj h
    obtain ⟨h_0, h_z1⟩ := Prod.mk.inj h_z0
    subst h_0
    subst h_z1
    exact TL_Ru_fewest_39_2 (by first | omega | decide) _ m 0 _ hl3 (fun _ _ hh => by cases hh; rfl) (fun _ hh => by cases hh)
  · refine TL_Ru_fewest_39_2 (by first | omega | decide) _ m 0 _ hl3 (fun _ _ hh => by cases hh) (fun _ hh w1 => ?_)
    cases hh
    try dsimp only at h
    refine q_ev_run 3 (S' := (31, [some (.ref 41), w1], [.int (m2 39 0), .ref 41], qMM m2 n lm)) rfl ?_
    obtain ⟨⟨r4, m5⟩, hf6, h⟩ := Option.bind_eq_some_iff.mp h
    try dsimp only at h
    refine q_ev_call (S' := (34, [some (.ref 41), w1], [], qMM m2 n lm)) rfl (by omega) (T_Ru_canBeDoneBy_39 (by first | omega | decide) hf6) ?_
    refine q_ev_eq (S' := (34, [some (.ref 41), w1], [.int r4], qMM m5 n lm)) rfl ?_
    refine q_ev_run 3 (S' := (39, [some (.ref 41), w1], [.int (m5 39 0)], qMM m5 n lm)) rfl ?_
    have h_z0 := Option.some.inj h
    obtain ⟨h_0, h_z1⟩ := Prod.mk.inj h_z0
    subst h_0
    subst h_z1
    exact q_ev_ret rfl rfl
