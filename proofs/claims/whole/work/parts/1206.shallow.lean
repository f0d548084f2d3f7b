noncomputable def F_AT_inViewAt (m : (Nat → Nat → Int32)) (a1 : Int32) : Option (Int32) :=
  cond (q_in a1 8) (
    cond (q_in (m 40 a1.toNatClampNeg) 8) (
      cond (q_in a1 8) (
        Option.bind (F_No_sittersAt_15 m (m 12 (m 40 a1.toNatClampNeg).toNatClampNeg ||| ((1 : Int32) <<< (m 40 a1.toNatClampNeg &&& 31))) (m 41 a1.toNatClampNeg)) (fun r4 =>
          some (r4))
       ) none
     ) none
   ) none
theorem T_AT_inViewAt {Ln : Nat} {xs : Nat → Int32} {n : (Nat → Nat → Int32)} {lm : Nat → Int64} {d : Nat} (hd : 1 ≤ d) {m : (Nat → Nat → Int32)} {a1 : Int32} {rv : Int32} (h : F_AT_inViewAt m a1 = some rv) : q_Ev (qXT Ln xs) d 97 (0, [some (.ref 0), some (.int a1), none], [], qMM m n lm) (some (.int rv), qMM m n lm) := by
  unfold F_AT_inViewAt at h
  refine q_ev_run 4 (S' := (8, [some (.ref 0), some (.int a1), none], [.int a1, .ref 42], qMM m n lm)) rfl ?_
  obtain ⟨hb1, h⟩ := q_cd h
  refine q_ev_chk (b := q_in a1 8) hb1 (S' := (9, [some (.ref 0), some (.int a1), none], [.int (m 40 a1.toNatClampNeg)], qMM m n lm)) rfl ?_
  refine q_ev_run 7 (S' := (22, [some (.ref 0), some (.int a1), some (.int (m 40 a1.toNatClampNeg))], [.int (m 40 a1.toNatClampNeg), .ref 14, .ref 17], qMM m n lm)) rfl ?_
  obtain ⟨hb2, h⟩ := q_cd h
  refine q_ev_chk (b := q_in (m 40 a1.toNatClampNeg) 8) hb2 (S' := (23, [some (.ref 0), some (.int a1), some (.int (m 40 a1.toNatClampNeg))], [.int (m 12 (m 40 a1.toNatClampNeg).toNatClampNeg), .ref 17], qMM m n lm)) rfl ?_
  refine q_ev_run 8 (S' := (35, [some (.ref 0), some (.int a1), some (.int (m 40 a1.toNatClampNeg))], [.int a1, .ref 43, .int (m 12 (m 40 a1.toNatClampNeg).toNatClampNeg ||| ((1 : Int32) <<< (m 40 a1.toNatClampNeg &&& 31))), .ref 17], qMM m n lm)) rfl ?_
  obtain ⟨hb3, h⟩ := q_cd h
  refine q_ev_chk (b := q_in a1 8) hb3 (S' := (36, [some (.ref 0), some (.int a1), some (.int (m 40 a1.toNatClampNeg))], [.int (m 41 a1.toNatClampNeg), .int (m 12 (m 40 a1.toNatClampNeg).toNatClampNeg ||| ((1 : Int32) <<< (m 40 a1.toNatClampNeg &&& 31))), .ref 17], qMM m n lm)) rfl ?_
  obtain ⟨r4, hf5, h⟩ := Option.bind_eq_some_iff.mp h
  try dsimp only at h
  refine q_ev_call (S' := (39, [some (.ref 0), some (.int a1), some (.int (m 40 a1.toNatClampNeg))], [], qMM m n lm)) rfl (by omega) (T_No_sittersAt_15 (by first | omega | decide) hf5) ?_
  refine q_ev_eq (S' := (39, [some (.ref 0), some (.int a1), some (.int (m 40 a1.toNatClampNeg))], [.int r4], qMM m n lm)) rfl ?_
  have h_z0 := Option.some.inj h
  subst h_z0
  exact q_ev_ret rfl rfl
noncomputable def F_AT_point (m : (Nat → Nat → Int32)) (a1 : Int32) (a2 : Int32) : Option (Int32) :=
  Option.bind (F_Ru_hasPoint_39 m a1) (fun r1 =>
    if r1 = 0 then
      some ((Int32.ofInt (-1)))
    else
      if a2 = 0 then
        cond (q_in a1 8) (some (m 40 a1.toNatClampNeg)) none
      else
      if a2 = 1 then
        cond (q_in a1 8) (some (m 41 a1.toNatClampNeg)) none
      else
      if a2 = 2 then
        cond (q_in a1 8) (some (m 20 a1.toNatClampNeg)) none
      else
      if a2 = 3 then
        Option.bind (F_AT_meetingAt m a1) (fun r10 =>
          some (r10))
      else
      if a2 = 4 then
        Option.bind (F_AT_inViewAt m a1) (fun r13 =>
          some (r13))
      else
      if a2 = 5 then
        cond (q_in a1 8) (some (m 21 a1.toNatClampNeg)) none
      else
        some ((Int32.ofInt (-1))))
theorem T_AT_point {Ln : Nat} {xs : Nat → Int32} {n : (Nat → Nat → Int32)} {lm : Nat → Int64} {d : Nat} (hd : 2 ≤ d) {m : (Nat → Nat → Int32)} {a1 : Int32} {a2 : Int32} {rv : Int32} (h : F_AT_point m a1 a2 = some rv) : q_Ev (qXT Ln xs) d 75 (0, [some (.ref 0), some (.int a1), some (.int a2)], [], qMM m n lm) (some (.int rv), qMM m n lm) := by
  unfold F_AT_point at h
  refine q_ev_run 3 (S' := (5, [some (.ref 0), some (.int a1), some (.int a2)], [.int a1, .ref 41], qMM m n lm)) rfl ?_
  obtain ⟨r1, hf2, h⟩ := Option.bind_eq_some_iff.mp h
  try dsimp only at h
  refine q_ev_call (S' := (8, [some (.ref 0), some (.int a1), some (.int a2)], [], qMM m n lm)) rfl (by omega) (T_Ru_hasPoint_39 (by first | omega | decide) hf2) ?_
  refine q_ev_eq (S' := (8, [some (.ref 0), some (.int a1), some (.int a2)], [.int r1], qMM m n lm)) rfl ?_
  by_cases hc3 : r1 = 0
  · rw [if_pos hc3] at h
    refine q_ev_brT hc3 (a := 11) (b := 13) rfl ?_
    refine q_ev_run 1 (S' := (12, [some (.ref 0), some (.int a1), some (.int a2)], [.int (Int32.ofInt (-1))], qMM m n lm)) rfl ?_
    have h_z0 := Option.some.inj h
    subst h_z0
    exact q_ev_ret rfl rfl
  · rw [if_neg hc3] at h
    refine q_ev_brF hc3 (a := 11) (b := 13) rfl ?_
    refine q_ev_run 1 (S' := (14, [some (.ref 0), some (.int a1), some (.int a2)], [.int a2], qMM m n lm)) rfl ?_
    by_cases hc5 : a2 = 0
    · rw [if_pos hc5] at h
      refine q_ev_sw (v := 52) (a := 52) (show q_sw a2 104 0 [52, 62, 72, 82, 88, 94] = 52 by rw [hc5]; rfl) rfl rfl ?_
      refine q_ev_run 4 (S' := (60, [some (.ref 0), some (.int a1), some (.int a2)], [.int a1, .ref 42], qMM m n lm)) rfl ?_
      obtain ⟨hb4, h⟩ := q_cd h
      refine q_ev_chk (b := q_in a1 8) hb4 (S' := (61, [some (.ref 0), some (.int a1), some (.int a2)], [.int (m 40 a1.toNatClampNeg)], qMM m n lm)) rfl ?_
      have h_z0 := Option.some.inj h
      subst h_z0
      exact q_ev_ret rfl rfl
    rw [if_neg hc5] at h
    by_cases hc7 : a2 = 1
    · rw [if_pos hc7] at h
      refine q_ev_sw (v := 62) (a := 62) (show q_sw a2 104 0 [52, 62, 72, 82, 88, 94] = 62 by rw [hc7]; rfl) rfl rfl ?_
      refine q_ev_run 4 (S' := (70, [some (.ref 0), some (.int a1), some (.int a2)], [.int a1, .ref 43], qMM m n lm)) rfl ?_
      obtain ⟨hb6, h⟩ := q_cd h
      refine q_ev_chk (b := q_in a1 8) hb6 (S' := (71, [some (.ref 0), some (.int a1), some (.int a2)], [.int (m 41 a1.toNatClampNeg)], qMM m n lm)) rfl ?_
      have h_z0 := Option.some.inj h
      subst h_z0
      exact q_ev_ret rfl rfl
    rw [if_neg hc7] at h
    by_cases hc9 : a2 = 2
    · rw [if_pos hc9] at h
      refine q_ev_sw (v := 72) (a := 72) (show q_sw a2 104 0 [52, 62, 72, 82, 88, 94] = 72 by rw [hc9]; rfl) rfl rfl ?_
      refine q_ev_run 4 (S' := (80, [some (.ref 0), some (.int a1), some (.int a2)], [.int a1, .ref 22], qMM m n lm)) rfl ?_
      obtain ⟨hb8, h⟩ := q_cd h
      refine q_ev_chk (b := q_in a1 8) hb8 (S' := (81, [some (.ref 0), some (.int a1), some (.int a2)], [.int (m 20 a1.toNatClampNeg)], qMM m n lm)) rfl ?_
      have h_z0 := Option.some.inj h
      subst h_z0
      exact q_ev_ret rfl rfl
    rw [if_neg hc9] at h
    by_cases hc12 : a2 = 3
    · rw [if_pos hc12] at h
      refine q_ev_sw (v := 82) (a := 82) (show q_sw a2 104 0 [52, 62, 72, 82, 88, 94] = 82 by rw [hc12]; rfl) rfl rfl ?_
      refine q_ev_run 2 (S' := (84, [some (.ref 0), some (.int a1), some (.int a2)], [.int a1, .ref 0], qMM m n lm)) rfl ?_
      obtain ⟨r10, hf11, h⟩ := Option.bind_eq_some_iff.mp h
      try dsimp only at h
      refine q_ev_call (S' := (87, [some (.ref 0), some (.int a1), some (.int a2)], [], qMM m n lm)) rfl (by omega) (T_AT_meetingAt (by first | omega | decide) hf11) ?_
      refine q_ev_eq (S' := (87, [some (.ref 0), some (.int a1), some (.int a2)], [.int r10], qMM m n lm)) rfl ?_
      have h_z0 := Option.some.inj h
      subst h_z0
      exact q_ev_ret rfl rfl
    rw [if_neg hc12] at h
    by_cases hc15 : a2 = 4
    · rw [if_pos hc15] at h
      refine q_ev_sw (v := 88) (a := 88) (show q_sw a2 104 0 [52, 62, 72, 82, 88, 94] = 88 by rw [hc15]; rfl) rfl rfl ?_
      refine q_ev_run 2 (S' := (90, [some (.ref 0), some (.int a1), some (.int a2)], [.int a1, .ref 0], qMM m n lm)) rfl ?_
      obtain ⟨r13, hf14, h⟩ := Option.bind_eq_some_iff.mp h
      try dsimp only at h
      refine q_ev_call (S' := (93, [some (.ref 0), some (.int a1), some (.int a2)], [], qMM m n lm)) rfl (by omega) (T_AT_inViewAt (by first | omega | decide) hf14) ?_
      refine q_ev_eq (S' := (93, [some (.ref 0), some (.int a1), some (.int a2)], [.int r13], qMM m n lm)) rfl ?_
      have h_z0 := Option.some.inj h
      subst h_z0
      exact q_ev_ret rfl rfl
    rw [if_neg hc15] at h
    by_cases hc17 : a2 = 5
    · rw [if_pos hc17] at h
      refine q_ev_sw (v := 94) (a := 94) (show q_sw a2 104 0 [52, 62, 72, 82, 88, 94] = 94 by rw [hc17]; rfl) rfl rfl ?_
      refine q_ev_run 4 (S' := (102, [some (.ref 0), some (.int a1), some (.int a2)], [.int a1, .ref 23], qMM m n lm)) rfl ?_
      obtain ⟨hb16, h⟩ := q_cd h
      refine q_ev_chk (b := q_in a1 8) hb16 (S' := (103, [some (.ref 0), some (.int a1), some (.int a2)], [.int (m 21 a1.toNatClampNeg)], qMM m n lm)) rfl ?_
      have h_z0 := Option.some.inj h
      subst h_z0
      exact q_ev_ret rfl rfl
    rw [if_neg hc17] at h
    refine q_ev_sw (v := 104) (a := 104) (show q_sw a2 104 0 [52, 62, 72, 82, 88, 94] = 104 from q_sw_nd (by show a2 ∉ ([0, 1, 2, 3, 4, 5] : List Int32); simp [hc5, hc7, hc9, hc12, hc15, hc17])) rfl rfl ?_
    refine q_ev_run 1 (S' := (105, [some (.ref 0), some (.int a1), some (.int a2)], [.int (Int32.ofInt (-1))], qMM m n lm)) rfl ?_
    have h_z0 := Option.some.inj h
    subst h_z0
    exact q_ev_ret rfl rfl
noncomputable def F_Mo_isPoint (m : (Nat → Nat → Int32)) (a1 : Int32) : Option (Int32) :=
  Option.bind (F_Mo_in a1 0 (m 58 2 - 1)) (fun r1 =>
    cond (q_bl r1) (some (r1)) none)
theorem T_Mo_isPoint {Ln : Nat} {xs : Nat → Int32} {n : (Nat → Nat → Int32)} {lm : Nat → Int64} {d : Nat} (hd : 1 ≤ d) {m : (Nat → Nat → Int32)} {a1 : Int32} {rv : Int32} (h : F_Mo_isPoint m a1 = some rv) : q_Ev (qXT Ln xs) d 108 (0, [some (.ref 58), some (.int a1)], [], qMM n m lm) (some (.int rv), qMM n m lm) := by
  unfold F_Mo_isPoint at h
  refine q_ev_run 8 (S' := (10, [some (.ref 58), some (.int a1)], [.int (m 58 2 - 1), .int 0, .int a1], qMM n m lm)) rfl ?_
  obtain ⟨r1, hf2, h⟩ := Option.bind_eq_some_iff.mp h
  try dsimp only at h
  refine q_ev_call (S' := (13, [some (.ref 58), some (.int a1)], [], qMM n m lm)) rfl (by omega) (T_Mo_in (by first | omega | decide) hf2) ?_
  refine q_ev_eq (S' := (13, [some (.ref 58), some (.int a1)], [.int r1], qMM n m lm)) rfl ?_
  obtain ⟨hb3, h⟩ := q_cd h
  have h_z0 := Option.some.inj h
  subst h_z0
  exact q_ev_retb hb3 rfl rfl
noncomputable def FL_Mo_comes_4 : Nat → (Nat → Nat → Int32) → Int32 → Int32 → Int32 → Option (Int32)
  | 0, _, _, _, _ => none
  | fu + 1, m, x1, x2, x3 =>
    if x1 ≤ x3 then
      some (x2)
    else
      cond (q_in (49 + x3) 65) (cond (q_in (13 + x3) 93) (cond (q_in ((13 + x3) + 1) 93) (cond (q_in ((21 + (8 * m 58 ((13 + x3)).toNatClampNeg)) + m 58 (((13 + x3) + 1)).toNatClampNeg) 93) (FL_Mo_comes_4 fu m x1 (x2 + ((m 60 ((49 + x3)).toNatClampNeg + m 58 (((21 + (8 * m 58 ((13 + x3)).toNatClampNeg)) + m 58 (((13 + x3) + 1)).toNatClampNeg)).toNatClampNeg) + (x3 * m 58 4))) (x3 + 1)) none) none) none) none
theorem TL_Mo_comes_4 {Ln : Nat} {xs : Nat → Int32} {n : (Nat → Nat → Int32)} {lm : Nat → Int64} {d : Nat} (hd : 0 ≤ d) {r : Option Value × qM} : ∀ (fu : Nat) (m : (Nat → Nat → Int32)) (x1 : Int32) (x2 : Int32) (x3 : Int32)  (y2 : Int32), FL_Mo_comes_4 fu m x1 x2 x3 = some y2 → (∀ (u3 : Option Value), q_Ev (qXT Ln xs) d 132 (69, [some (.ref 58), some (.int x1), some (.int y2), u3], [], qMM n m lm) r) → q_Ev (qXT Ln xs) d 132 (4, [some (.ref 58), some (.int x1), some (.int x2), some (.int x3)], [], qMM n m lm) r := by
  intro fu
  induction fu with
  | zero => intro m x1 x2 x3 y2 h hk; cases h
  | succ fu ih =>
    intro m x1 x2 x3 y2 h hk
    rw [FL_Mo_comes_4] at h
    refine q_ev_run 2 (S' := (6, [some (.ref 58), some (.int x1), some (.int x2), some (.int x3)], [.int x1, .int x3], qMM n m lm)) rfl ?_
    by_cases hc1 : x1 ≤ x3
    · rw [if_pos hc1] at h
      refine q_ev_brT hc1 (a := 69) (b := 9) rfl ?_
      have h_z0 := Option.some.inj h
      subst h_z0
      exact hk (some (.int x3))
    · rw [if_neg hc1] at h
      refine q_ev_brF hc1 (a := 69) (b := 9) rfl ?_
      refine q_ev_run 6 (S' := (18, [some (.ref 58), some (.int x1), some (.int x2), some (.int x3)], [.int (49 + x3), .ref 62, .int x2], qMM n m lm)) rfl ?_
      obtain ⟨hb2, h⟩ := q_cd h
      refine q_ev_chk (b := q_in (49 + x3) 65) hb2 (S' := (19, [some (.ref 58), some (.int x1), some (.int x2), some (.int x3)], [.int (m 60 ((49 + x3)).toNatClampNeg), .int x2], qMM n m lm)) rfl ?_
      refine q_ev_run 9 (S' := (35, [some (.ref 58), some (.int x1), some (.int x2), some (.int x3)], [.int (13 + x3), .ref 60, .int 8, .int 21, .ref 60, .int (m 60 ((49 + x3)).toNatClampNeg), .int x2], qMM n m lm)) rfl ?_
      obtain ⟨hb3, h⟩ := q_cd h
      refine q_ev_chk (b := q_in (13 + x3) 93) hb3 (S' := (36, [some (.ref 58), some (.int x1), some (.int x2), some (.int x3)], [.int (m 58 ((13 + x3)).toNatClampNeg), .int 8, .int 21, .ref 60, .int (m 60 ((49 + x3)).toNatClampNeg), .int x2], qMM n m lm)) rfl ?_
      refine q_ev_run 9 (S' := (48, [some (.ref 58), some (.int x1), some (.int x2), some (.int x3)], [.int ((13 + x3) + 1), .ref 60, .int (21 + (8 * m 58 ((13 + x3)).toNatClampNeg)), .ref 60, .int (m 60 ((49 + x3)).toNatClampNeg), .int x2], qMM n m lm)) rfl ?_
      obtain ⟨hb4, h⟩ := q_cd h
      refine q_ev_chk (b := q_in ((13 + x3) + 1) 93) hb4 (S' := (49, [some (.ref 58), some (.int x1), some (.int x2), some (.int x3)], [.int (m 58 (((13 + x3) + 1)).toNatClampNeg), .int (21 + (8 * m 58 ((13 + x3)).toNatClampNeg)), .ref 60, .int (m 60 ((49 + x3)).toNatClampNeg), .int x2], qMM n m lm)) rfl ?_
      refine q_ev_run 1 (S' := (50, [some (.ref 58), some (.int x1), some (.int x2), some (.int x3)], [.int ((21 + (8 * m 58 ((13 + x3)).toNatClampNeg)) + m 58 (((13 + x3) + 1)).toNatClampNeg), .ref 60, .int (m 60 ((49 + x3)).toNatClampNeg), .int x2], qMM n m lm)) rfl ?_
      obtain ⟨hb5, h⟩ := q_cd h
      refine q_ev_chk (b := q_in ((21 + (8 * m 58 ((13 + x3)).toNatClampNeg)) + m 58 (((13 + x3) + 1)).toNatClampNeg) 93) hb5 (S' := (51, [some (.ref 58), some (.int x1), some (.int x2), some (.int x3)], [.int (m 58 (((21 + (8 * m 58 ((13 + x3)).toNatClampNeg)) + m 58 (((13 + x3) + 1)).toNatClampNeg)).toNatClampNeg), .int (m 60 ((49 + x3)).toNatClampNeg), .int x2], qMM n m lm)) rfl ?_
      refine q_ev_run 12 (S' := (4, [some (.ref 58), some (.int x1), some (.int (x2 + ((m 60 ((49 + x3)).toNatClampNeg + m 58 (((21 + (8 * m 58 ((13 + x3)).toNatClampNeg)) + m 58 (((13 + x3) + 1)).toNatClampNeg)).toNatClampNeg) + (x3 * m 58 4)))), some (.int (x3 + 1))], [], qMM n m lm)) rfl ?_
      exact ih m x1 (x2 + ((m 60 ((49 + x3)).toNatClampNeg + m 58 (((21 + (8 * m 58 ((13 + x3)).toNatClampNeg)) + m 58 (((13 + x3) + 1)).toNatClampNeg)).toNatClampNeg) + (x3 * m 58 4))) (x3 + 1) _ h hk
noncomputable def F_Mo_comes (m : (Nat → Nat → Int32)) (a1 : Int32) : Option (Int32) :=
  Option.bind (FL_Mo_comes_4 qFU m a1 0 0) (fun y1 =>
    some (y1))
theorem T_Mo_comes {Ln : Nat} {xs : Nat → Int32} {n : (Nat → Nat → Int32)} {lm : Nat → Int64} {d : Nat} (hd : 0 ≤ d) {m : (Nat → Nat → Int32)} {a1 : Int32} {rv : Int32} (h : F_Mo_comes m a1 = some rv) : q_Ev (qXT Ln xs) d 132 (0, [some (.ref 58), some (.int a1), none, none], [], qMM n m lm) (some (.int rv), qMM n m lm) := by
  unfold F_Mo_comes at h
  refine q_ev_run 4 (S' := (4, [some (.ref 58), some (.int a1), some (.int 0), some (.int 0)], [], qMM n m lm)) rfl ?_
  obtain ⟨y1, hl3, h⟩ := Option.bind_eq_some_iff.mp h
  try dsimp only at h
  refine TL_Mo_comes_4 (by first | omega | decide) _ m a1 0 0 _ hl3 (fun w2 => ?_)
  refine q_ev_run 1 (S' := (70, [some (.ref 58), some (.int a1), some (.int y1), w2], [.int y1], qMM n m lm)) rfl ?_
  have h_z0 := Option.some.inj h
  subst h_z0
  exact q_ev_ret rfl rfl
noncomputable def FL_Mo_sitting_5 : Nat → (Nat → Nat → Int32) → Int32 → Int32 → Int32 → Int32 → Option (Int32)
  | 0, _, _, _, _, _ => none
  | fu + 1, m, x1, x2, x3, x4 =>
    if m 60 0 ≤ x4 then
      some (x3)
    else
      cond (q_in (13 + x4) 65) (
        if ((x1 >>> (m 60 ((13 + x4)).toNatClampNeg &&& 31)) &&& 1) = 1 then
          cond (q_in (25 + x4) 65) (
            cond (q_in (37 + x4) 65) (
              Option.bind (F_Mo_in x2 (m 60 ((25 + x4)).toNatClampNeg) (m 60 ((37 + x4)).toNatClampNeg)) (fun r6 =>
                if r6 = 0 then
                  FL_Mo_sitting_5 fu m x1 x2 (x3 ||| 0) (x4 + 1)
                else
                  cond (q_in (1 + x4) 65) (FL_Mo_sitting_5 fu m x1 x2 (x3 ||| ((1 : Int32) <<< (m 60 ((1 + x4)).toNatClampNeg &&& 31))) (x4 + 1)) none)
             ) none
           ) none
        else
          FL_Mo_sitting_5 fu m x1 x2 (x3 ||| 0) (x4 + 1)
       ) none
theorem TL_Mo_sitting_5 {Ln : Nat} {xs : Nat → Int32} {n : (Nat → Nat → Int32)} {lm : Nat → Int64} {d : Nat} (hd : 1 ≤ d) {r : Option Value × qM} : ∀ (fu : Nat) (m : (Nat → Nat → Int32)) (x1 : Int32) (x2 : Int32) (x3 : Int32) (x4 : Int32) (w5 : Option Value) (y3 : Int32), FL_Mo_sitting_5 fu m x1 x2 x3 x4 = some y3 → (∀ (u4 u5 : Option Value), q_Ev (qXT Ln xs) d 133 (97, [some (.ref 58), some (.int x1), some (.int x2), some (.int y3), u4, u5], [], qMM n m lm) r) → q_Ev (qXT Ln xs) d 133 (5, [some (.ref 58), some (.int x1), some (.int x2), some (.int x3), some (.int x4), w5], [], qMM n m lm) r := by
  intro fu
  induction fu with
  | zero => intro m x1 x2 x3 x4 w5 y3 h hk; cases h
  | succ fu ih =>
    intro m x1 x2 x3 x4 w5 y3 h hk
    rw [FL_Mo_sitting_5] at h
    refine q_ev_run 5 (S' := (13, [some (.ref 58), some (.int x1), some (.int x2), some (.int x3), some (.int x4), w5], [.int (m 60 0), .int x4], qMM n m lm)) rfl ?_
    by_cases hc1 : m 60 0 ≤ x4
    · rw [if_pos hc1] at h
      refine q_ev_brT hc1 (a := 97) (b := 16) rfl ?_
      have h_z0 := Option.some.inj h
      subst h_z0
      exact hk (some (.int x4)) (w5)
    · rw [if_neg hc1] at h
      refine q_ev_brF hc1 (a := 97) (b := 16) rfl ?_
      refine q_ev_run 6 (S' := (26, [some (.ref 58), some (.int x1), some (.int x2), some (.int x3), some (.int x4), w5], [.int (13 + x4), .ref 62, .int x1], qMM n m lm)) rfl ?_
      obtain ⟨hb2, h⟩ := q_cd h
      refine q_ev_chk (b := q_in (13 + x4) 65) hb2 (S' := (27, [some (.ref 58), some (.int x1), some (.int x2), some (.int x3), some (.int x4), w5], [.int (m 60 ((13 + x4)).toNatClampNeg), .int x1], qMM n m lm)) rfl ?_
      refine q_ev_run 4 (S' := (31, [some (.ref 58), some (.int x1), some (.int x2), some (.int x3), some (.int x4), w5], [.int 1, .int ((x1 >>> (m 60 ((13 + x4)).toNatClampNeg &&& 31)) &&& 1)], qMM n m lm)) rfl ?_
      by_cases hc3 : ((x1 >>> (m 60 ((13 + x4)).toNatClampNeg &&& 31)) &&& 1) = 1
      · rw [if_pos hc3] at h
        refine q_ev_brT hc3 (a := 34) (b := 65) rfl ?_
        refine q_ev_run 6 (S' := (44, [some (.ref 58), some (.int x1), some (.int x2), some (.int x3), some (.int x4), w5], [.int (25 + x4), .ref 62, .int x2], qMM n m lm)) rfl ?_
        obtain ⟨hb4, h⟩ := q_cd h
        refine q_ev_chk (b := q_in (25 + x4) 65) hb4 (S' := (45, [some (.ref 58), some (.int x1), some (.int x2), some (.int x3), some (.int x4), w5], [.int (m 60 ((25 + x4)).toNatClampNeg), .int x2], qMM n m lm)) rfl ?_
        refine q_ev_run 5 (S' := (54, [some (.ref 58), some (.int x1), some (.int x2), some (.int x3), some (.int x4), w5], [.int (37 + x4), .ref 62, .int (m 60 ((25 + x4)).toNatClampNeg), .int x2], qMM n m lm)) rfl ?_
        obtain ⟨hb5, h⟩ := q_cd h
        refine q_ev_chk (b := q_in (37 + x4) 65) hb5 (S' := (55, [some (.ref 58), some (.int x1), some (.int x2), some (.int x3), some (.int x4), w5], [.int (m 60 ((37 + x4)).toNatClampNeg), .int (m 60 ((25 + x4)).toNatClampNeg), .int x2], qMM n m lm)) rfl ?_
        obtain ⟨r6, hf7, h⟩ := Option.bind_eq_some_iff.mp h
        try dsimp only at h
        refine q_ev_call (S' := (58, [some (.ref 58), some (.int x1), some (.int x2), some (.int x3), some (.int x4), w5], [], qMM n m lm)) rfl (by omega) (T_Mo_in (by first | omega | decide) hf7) ?_
        refine q_ev_eq (S' := (58, [some (.ref 58), some (.int x1), some (.int x2), some (.int x3), some (.int x4), w5], [.int r6], qMM n m lm)) rfl ?_
        by_cases hc8 : r6 = 0
        · rw [if_pos hc8] at h
          refine q_ev_brT hc8 (a := 65) (b := 61) rfl ?_
          refine q_ev_run 10 (S' := (5, [some (.ref 58), some (.int x1), some (.int x2), some (.int (x3 ||| 0)), some (.int (x4 + 1)), some (.int 0)], [], qMM n m lm)) rfl ?_
          exact ih m x1 x2 (x3 ||| 0) (x4 + 1) (some (.int 0)) _ h hk
        · rw [if_neg hc8] at h
          refine q_ev_brF hc8 (a := 65) (b := 61) rfl ?_
          refine q_ev_run 12 (S' := (83, [some (.ref 58), some (.int x1), some (.int x2), some (.int x3), some (.int x4), some (.int 1)], [.int (1 + x4), .ref 62, .int 1, .int x3], qMM n m lm)) rfl ?_
          obtain ⟨hb9, h⟩ := q_cd h
          refine q_ev_chk (b := q_in (1 + x4) 65) hb9 (S' := (84, [some (.ref 58), some (.int x1), some (.int x2), some (.int x3), some (.int x4), some (.int 1)], [.int (m 60 ((1 + x4)).toNatClampNeg), .int 1, .int x3], qMM n m lm)) rfl ?_
          refine q_ev_run 6 (S' := (5, [some (.ref 58), some (.int x1), some (.int x2), some (.int (x3 ||| ((1 : Int32) <<< (m 60 ((1 + x4)).toNatClampNeg &&& 31)))), some (.int (x4 + 1)), some (.int 1)], [], qMM n m lm)) rfl ?_
          exact ih m x1 x2 (x3 ||| ((1 : Int32) <<< (m 60 ((1 + x4)).toNatClampNeg &&& 31))) (x4 + 1) (some (.int 1)) _ h hk
      · rw [if_neg hc3] at h
        refine q_ev_brF hc3 (a := 34) (b := 65) rfl ?_
        refine q_ev_run 10 (S' := (5, [some (.ref 58), some (.int x1), some (.int x2), some (.int (x3 ||| 0)), some (.int (x4 + 1)), some (.int 0)], [], qMM n m lm)) rfl ?_
        exact ih m x1 x2 (x3 ||| 0) (x4 + 1) (some (.int 0)) _ h hk
noncomputable def F_Mo_sitting (m : (Nat → Nat → Int32)) (a1 : Int32) (a2 : Int32) : Option (Int32) :=
  Option.bind (FL_Mo_sitting_5 qFU m a1 a2 0 0) (fun y1 =>
    some (y1))
theorem T_Mo_sitting {Ln : Nat} {xs : Nat → Int32} {n : (Nat → Nat → Int32)} {lm : Nat → Int64} {d : Nat} (hd : 1 ≤ d) {m : (Nat → Nat → Int32)} {a1 : Int32} {a2 : Int32} {rv : Int32} (h : F_Mo_sitting m a1 a2 = some rv) : q_Ev (qXT Ln xs) d 133 (0, [some (.ref 58), some (.int a1), some (.int a2), none, none, none], [], qMM n m lm) (some (.int rv), qMM n m lm) := by
  unfold F_Mo_sitting at h
  refine q_ev_run 4 (S' := (5, [some (.ref 58), some (.int a1), some (.int a2), some (.int 0), some (.int 0), none], [], qMM n m lm)) rfl ?_
  obtain ⟨y1, hl4, h⟩ := Option.bind_eq_some_iff.mp h
  try dsimp only at h
  refine TL_Mo_sitting_5 (by first | omega | decide) _ m a1 a2 0 0 (none) _ hl4 (fun w2 w3 => ?_)
  refine q_ev_run 1 (S' := (98, [some (.ref 58), some (.int a1), some (.int a2), some (.int y1), w2, w3], [.int y1], qMM n m lm)) rfl ?_
  have h_z0 := Option.some.inj h
  subst h_z0
  exact q_ev_ret rfl rfl
noncomputable def F_Mo_meets (m : (Nat → Nat → Int32)) (a1 : Int32) : Option (Int32) :=
  cond (q_in (13 + a1) 93) (
    Option.bind (F_Mo_comes m a1) (fun r2 =>
      Option.bind (F_Mo_sitting m ((1 : Int32) <<< (m 58 ((13 + a1)).toNatClampNeg &&& 31)) r2) (fun r4 =>
        some (r4)))
   ) none
theorem T_Mo_meets {Ln : Nat} {xs : Nat → Int32} {n : (Nat → Nat → Int32)} {lm : Nat → Int64} {d : Nat} (hd : 2 ≤ d) {m : (Nat → Nat → Int32)} {a1 : Int32} {rv : Int32} (h : F_Mo_meets m a1 = some rv) : q_Ev (qXT Ln xs) d 134 (0, [some (.ref 58), some (.int a1)], [], qMM n m lm) (some (.int rv), qMM n m lm) := by
  unfold F_Mo_meets at h
  refine q_ev_run 7 (S' := (10, [some (.ref 58), some (.int a1)], [.int (13 + a1), .ref 60, .int 1, .ref 58], qMM n m lm)) rfl ?_
  obtain ⟨hb1, h⟩ := q_cd h
  refine q_ev_chk (b := q_in (13 + a1) 93) hb1 (S' := (11, [some (.ref 58), some (.int a1)], [.int (m 58 ((13 + a1)).toNatClampNeg), .int 1, .ref 58], qMM n m lm)) rfl ?_
  refine q_ev_run 3 (S' := (14, [some (.ref 58), some (.int a1)], [.int a1, .ref 58, .int ((1 : Int32) <<< (m 58 ((13 + a1)).toNatClampNeg &&& 31)), .ref 58], qMM n m lm)) rfl ?_
  obtain ⟨r2, hf3, h⟩ := Option.bind_eq_some_iff.mp h
  try dsimp only at h
  refine q_ev_call (S' := (17, [some (.ref 58), some (.int a1)], [.int ((1 : Int32) <<< (m 58 ((13 + a1)).toNatClampNeg &&& 31)), .ref 58], qMM n m lm)) rfl (by omega) (T_Mo_comes (by first | omega | decide) hf3) ?_
  refine q_ev_eq (S' := (17, [some (.ref 58), some (.int a1)], [.int r2, .int ((1 : Int32) <<< (m 58 ((13 + a1)).toNatClampNeg &&& 31)), .ref 58], qMM n m lm)) rfl ?_
  obtain ⟨r4, hf5, h⟩ := Option.bind_eq_some_iff.mp h
  try dsimp only at h
  refine q_ev_call (S' := (20, [some (.ref 58), some (.int a1)], [], qMM n m lm)) rfl (by omega) (T_Mo_sitting (by first | omega | decide) hf5) ?_
  refine q_ev_eq (S' := (20, [some (.ref 58), some (.int a1)], [.int r4], qMM n m lm)) rfl ?_
  have h_z0 := Option.some.inj h
  subst h_z0
  exact q_ev_ret rfl rfl
noncomputable def F_Mo_sees (m : (Nat → Nat → Int32)) (a1 : Int32) : Option (Int32) :=
  cond (q_in (13 + a1) 93) (
    cond (q_in (85 + m 58 ((13 + a1)).toNatClampNeg) 93) (
      Option.bind (F_Mo_comes m a1) (fun r3 =>
        Option.bind (F_Mo_sitting m (((1 : Int32) <<< (m 58 ((13 + a1)).toNatClampNeg &&& 31)) ||| m 58 ((85 + m 58 ((13 + a1)).toNatClampNeg)).toNatClampNeg) r3) (fun r5 =>
          some (r5)))
     ) none
   ) none
theorem T_Mo_sees {Ln : Nat} {xs : Nat → Int32} {n : (Nat → Nat → Int32)} {lm : Nat → Int64} {d : Nat} (hd : 2 ≤ d) {m : (Nat → Nat → Int32)} {a1 : Int32} {rv : Int32} (h : F_Mo_sees m a1 = some rv) : q_Ev (qXT Ln xs) d 135 (0, [some (.ref 58), some (.int a1), none], [], qMM n m lm) (some (.int rv), qMM n m lm) := by
  unfold F_Mo_sees at h
  refine q_ev_run 5 (S' := (8, [some (.ref 58), some (.int a1), none], [.int (13 + a1), .ref 60], qMM n m lm)) rfl ?_
  obtain ⟨hb1, h⟩ := q_cd h
  refine q_ev_chk (b := q_in (13 + a1) 93) hb1 (S' := (9, [some (.ref 58), some (.int a1), none], [.int (m 58 ((13 + a1)).toNatClampNeg)], qMM n m lm)) rfl ?_
  refine q_ev_run 10 (S' := (22, [some (.ref 58), some (.int a1), some (.int (m 58 ((13 + a1)).toNatClampNeg))], [.int (85 + m 58 ((13 + a1)).toNatClampNeg), .ref 60, .int ((1 : Int32) <<< (m 58 ((13 + a1)).toNatClampNeg &&& 31)), .ref 58], qMM n m lm)) rfl ?_
  obtain ⟨hb2, h⟩ := q_cd h
  refine q_ev_chk (b := q_in (85 + m 58 ((13 + a1)).toNatClampNeg) 93) hb2 (S' := (23, [some (.ref 58), some (.int a1), some (.int (m 58 ((13 + a1)).toNatClampNeg))], [.int (m 58 ((85 + m 58 ((13 + a1)).toNatClampNeg)).toNatClampNeg), .int ((1 : Int32) <<< (m 58 ((13 + a1)).toNatClampNeg &&& 31)), .ref 58], qMM n m lm)) rfl ?_
  refine q_ev_run 3 (S' := (26, [some (.ref 58), some (.int a1), some (.int (m 58 ((13 + a1)).toNatClampNeg))], [.int a1, .ref 58, .int (((1 : Int32) <<< (m 58 ((13 + a1)).toNatClampNeg &&& 31)) ||| m 58 ((85 + m 58 ((13 + a1)).toNatClampNeg)).toNatClampNeg), .ref 58], qMM n m lm)) rfl ?_
  obtain ⟨r3, hf4, h⟩ := Option.bind_eq_some_iff.mp h
  try dsimp only at h
  refine q_ev_call (S' := (29, [some (.ref 58), some (.int a1), some (.int (m 58 ((13 + a1)).toNatClampNeg))], [.int (((1 : Int32) <<< (m 58 ((13 + a1)).toNatClampNeg &&& 31)) ||| m 58 ((85 + m 58 ((13 + a1)).toNatClampNeg)).toNatClampNeg), .ref 58], qMM n m lm)) rfl (by omega) (T_Mo_comes (by first | omega | decide) hf4) ?_
  refine q_ev_eq (S' := (29, [some (.ref 58), some (.int a1), some (.int (m 58 ((13 + a1)).toNatClampNeg))], [.int r3, .int (((1 : Int32) <<< (m 58 ((13 + a1)).toNatClampNeg &&& 31)) ||| m 58 ((85 + m 58 ((13 + a1)).toNatClampNeg)).toNatClampNeg), .ref 58], qMM n m lm)) rfl ?_
  obtain ⟨r5, hf6, h⟩ := Option.bind_eq_some_iff.mp h
  try dsimp only at h
  refine q_ev_call (S' := (32, [some (.ref 58), some (.int a1), some (.int (m 58 ((13 + a1)).toNatClampNeg))], [], qMM n m lm)) rfl (by omega) (T_Mo_sitting (by first | omega | decide) hf6) ?_
  refine q_ev_eq (S' := (32, [some (.ref 58), some (.int a1), some (.int (m 58 ((13 + a1)).toNatClampNeg))], [.int r5], qMM n m lm)) rfl ?_
  have h_z0 := Option.some.inj h
  subst h_z0
  exact q_ev_ret rfl rfl
noncomputable def F_Mo_point (m : (Nat → Nat → Int32)) (a1 : Int32) (a2 : Int32) : Option (Int32) :=
  Option.bind (F_Mo_isPoint m a1) (fun r1 =>
    if r1 = 0 then
      some ((Int32.ofInt (-1)))
    else
      Option.bind (F_Mo_in a2 0 5) (fun r4 =>
        if r4 = 0 then
          some ((Int32.ofInt (-1)))
        else
          if a2 = 0 then
            cond (q_in (13 + a1) 93) (some (m 58 ((13 + a1)).toNatClampNeg)) none
          else
            if a2 = 1 then
              Option.bind (F_Mo_comes m a1) (fun r10 =>
                some (r10))
            else
              if a2 = 2 then
                cond (q_in (49 + a1) 65) (some (m 60 ((49 + a1)).toNatClampNeg)) none
              else
                if a2 = 3 then
                  Option.bind (F_Mo_meets m a1) (fun r15 =>
                    some (r15))
                else
                  if a2 = 4 then
                    Option.bind (F_Mo_sees m a1) (fun r18 =>
                      some (r18))
                  else
                    cond (q_in (57 + a1) 65) (some (m 60 ((57 + a1)).toNatClampNeg)) none))
theorem T_Mo_point {Ln : Nat} {xs : Nat → Int32} {n : (Nat → Nat → Int32)} {lm : Nat → Int64} {d : Nat} (hd : 3 ≤ d) {m : (Nat → Nat → Int32)} {a1 : Int32} {a2 : Int32} {rv : Int32} (h : F_Mo_point m a1 a2 = some rv) : q_Ev (qXT Ln xs) d 136 (0, [some (.ref 58), some (.int a1), some (.int a2)], [], qMM n m lm) (some (.int rv), qMM n m lm) := by
  unfold F_Mo_point at h
  refine q_ev_run 2 (S' := (2, [some (.ref 58), some (.int a1), some (.int a2)], [.int a1, .ref 58], qMM n m lm)) rfl ?_
  obtain ⟨r1, hf2, h⟩ := Option.bind_eq_some_iff.mp h
  try dsimp only at h
  refine q_ev_call (S' := (5, [some (.ref 58), some (.int a1), some (.int a2)], [], qMM n m lm)) rfl (by omega) (T_Mo_isPoint (by first | omega | decide) hf2) ?_
  refine q_ev_eq (S' := (5, [some (.ref 58), some (.int a1), some (.int a2)], [.int r1], qMM n m lm)) rfl ?_
  by_cases hc3 : r1 = 0
  · rw [if_pos hc3] at h
    refine q_ev_brT hc3 (a := 17) (b := 8) rfl ?_
    refine q_ev_run 1 (S' := (18, [some (.ref 58), some (.int a1), some (.int a2)], [.int (Int32.ofInt (-1))], qMM n m lm)) rfl ?_
    have h_z0 := Option.some.inj h
    subst h_z0
    exact q_ev_ret rfl rfl
  · rw [if_neg hc3] at h
    refine q_ev_brF hc3 (a := 17) (b := 8) rfl ?_
    refine q_ev_run 3 (S' := (11, [some (.ref 58), some (.int a1), some (.int a2)], [.int 5, .int 0, .int a2], qMM n m lm)) rfl ?_
    obtain ⟨r4, hf5, h⟩ := Option.bind_eq_some_iff.mp h
    try dsimp only at h
    refine q_ev_call (S' := (14, [some (.ref 58), some (.int a1), some (.int a2)], [], qMM n m lm)) rfl (by omega) (T_Mo_in (by first | omega | decide) hf5) ?_
    refine q_ev_eq (S' := (14, [some (.ref 58), some (.int a1), some (.int a2)], [.int r4], qMM n m lm)) rfl ?_
    by_cases hc6 : r4 = 0
    · rw [if_pos hc6] at h
      refine q_ev_brT hc6 (a := 17) (b := 19) rfl ?_
      refine q_ev_run 1 (S' := (18, [some (.ref 58), some (.int a1), some (.int a2)], [.int (Int32.ofInt (-1))], qMM n m lm)) rfl ?_
      have h_z0 := Option.some.inj h
      subst h_z0
      exact q_ev_ret rfl rfl
    · rw [if_neg hc6] at h
      refine q_ev_brF hc6 (a := 17) (b := 19) rfl ?_
      refine q_ev_run 1 (S' := (20, [some (.ref 58), some (.int a1), some (.int a2)], [.int a2], qMM n m lm)) rfl ?_
      by_cases hc7 : a2 = 0
      · rw [if_pos hc7] at h
        refine q_ev_brT hc7 (a := 23) (b := 35) rfl ?_
        refine q_ev_run 5 (S' := (31, [some (.ref 58), some (.int a1), some (.int a2)], [.int (13 + a1), .ref 60], qMM n m lm)) rfl ?_
        obtain ⟨hb8, h⟩ := q_cd h
        refine q_ev_chk (b := q_in (13 + a1) 93) hb8 (S' := (32, [some (.ref 58), some (.int a1), some (.int a2)], [.int (m 58 ((13 + a1)).toNatClampNeg)], qMM n m lm)) rfl ?_
        refine q_ev_run 1 (S' := (100, [some (.ref 58), some (.int a1), some (.int a2)], [.int (m 58 ((13 + a1)).toNatClampNeg)], qMM n m lm)) rfl ?_
        have h_z0 := Option.some.inj h
        subst h_z0
        exact q_ev_ret rfl rfl
      · rw [if_neg hc7] at h
        refine q_ev_brF hc7 (a := 23) (b := 35) rfl ?_
        refine q_ev_run 2 (S' := (37, [some (.ref 58), some (.int a1), some (.int a2)], [.int 1, .int a2], qMM n m lm)) rfl ?_
        by_cases hc9 : a2 = 1
        · rw [if_pos hc9] at h
          refine q_ev_brT hc9 (a := 40) (b := 48) rfl ?_
          refine q_ev_run 2 (S' := (42, [some (.ref 58), some (.int a1), some (.int a2)], [.int a1, .ref 58], qMM n m lm)) rfl ?_
          obtain ⟨r10, hf11, h⟩ := Option.bind_eq_some_iff.mp h
          try dsimp only at h
          refine q_ev_call (S' := (45, [some (.ref 58), some (.int a1), some (.int a2)], [], qMM n m lm)) rfl (by omega) (T_Mo_comes (by first | omega | decide) hf11) ?_
          refine q_ev_eq (S' := (45, [some (.ref 58), some (.int a1), some (.int a2)], [.int r10], qMM n m lm)) rfl ?_
          refine q_ev_run 1 (S' := (100, [some (.ref 58), some (.int a1), some (.int a2)], [.int r10], qMM n m lm)) rfl ?_
          have h_z0 := Option.some.inj h
          subst h_z0
          exact q_ev_ret rfl rfl
        · rw [if_neg hc9] at h
          refine q_ev_brF hc9 (a := 40) (b := 48) rfl ?_
          refine q_ev_run 2 (S' := (50, [some (.ref 58), some (.int a1), some (.int a2)], [.int 2, .int a2], qMM n m lm)) rfl ?_
          by_cases hc12 : a2 = 2
          · rw [if_pos hc12] at h
            refine q_ev_brT hc12 (a := 53) (b := 65) rfl ?_
            refine q_ev_run 5 (S' := (61, [some (.ref 58), some (.int a1), some (.int a2)], [.int (49 + a1), .ref 62], qMM n m lm)) rfl ?_
            obtain ⟨hb13, h⟩ := q_cd h
            refine q_ev_chk (b := q_in (49 + a1) 65) hb13 (S' := (62, [some (.ref 58), some (.int a1), some (.int a2)], [.int (m 60 ((49 + a1)).toNatClampNeg)], qMM n m lm)) rfl ?_
            refine q_ev_run 1 (S' := (100, [some (.ref 58), some (.int a1), some (.int a2)], [.int (m 60 ((49 + a1)).toNatClampNeg)], qMM n m lm)) rfl ?_
            have h_z0 := Option.some.inj h
            subst h_z0
            exact q_ev_ret rfl rfl
          · rw [if_neg hc12] at h
            refine q_ev_brF hc12 (a := 53) (b := 65) rfl ?_
            refine q_ev_run 2 (S' := (67, [some (.ref 58), some (.int a1), some (.int a2)], [.int 3, .int a2], qMM n m lm)) rfl ?_
            by_cases hc14 : a2 = 3
            · rw [if_pos hc14] at h
              refine q_ev_brT hc14 (a := 70) (b := 78) rfl ?_
              refine q_ev_run 2 (S' := (72, [some (.ref 58), some (.int a1), some (.int a2)], [.int a1, .ref 58], qMM n m lm)) rfl ?_
              obtain ⟨r15, hf16, h⟩ := Option.bind_eq_some_iff.mp h
              try dsimp only at h
              refine q_ev_call (S' := (75, [some (.ref 58), some (.int a1), some (.int a2)], [], qMM n m lm)) rfl (by omega) (T_Mo_meets (by first | omega | decide) hf16) ?_
              refine q_ev_eq (S' := (75, [some (.ref 58), some (.int a1), some (.int a2)], [.int r15], qMM n m lm)) rfl ?_
              refine q_ev_run 1 (S' := (100, [some (.ref 58), some (.int a1), some (.int a2)], [.int r15], qMM n m lm)) rfl ?_
              have h_z0 := Option.some.inj h
              subst h_z0
              exact q_ev_ret rfl rfl
            · rw [if_neg hc14] at h
              refine q_ev_brF hc14 (a := 70) (b := 78) rfl ?_
              refine q_ev_run 2 (S' := (80, [some (.ref 58), some (.int a1), some (.int a2)], [.int 4, .int a2], qMM n m lm)) rfl ?_
              by_cases hc17 : a2 = 4
              · rw [if_pos hc17] at h
                refine q_ev_brT hc17 (a := 83) (b := 91) rfl ?_
                refine q_ev_run 2 (S' := (85, [some (.ref 58), some (.int a1), some (.int a2)], [.int a1, .ref 58], qMM n m lm)) rfl ?_
                obtain ⟨r18, hf19, h⟩ := Option.bind_eq_some_iff.mp h
                try dsimp only at h
                refine q_ev_call (S' := (88, [some (.ref 58), some (.int a1), some (.int a2)], [], qMM n m lm)) rfl (by omega) (T_Mo_sees (by first | omega | decide) hf19) ?_
                refine q_ev_eq (S' := (88, [some (.ref 58), some (.int a1), some (.int a2)], [.int r18], qMM n m lm)) rfl ?_
                refine q_ev_run 1 (S' := (100, [some (.ref 58), some (.int a1), some (.int a2)], [.int r18], qMM n m lm)) rfl ?_
                have h_z0 := Option.some.inj h
                subst h_z0
                exact q_ev_ret rfl rfl
              · rw [if_neg hc17] at h
                refine q_ev_brF hc17 (a := 83) (b := 91) rfl ?_
                refine q_ev_run 5 (S' := (99, [some (.ref 58), some (.int a1), some (.int a2)], [.int (57 + a1), .ref 62], qMM n m lm)) rfl ?_
                obtain ⟨hb20, h⟩ := q_cd h
                refine q_ev_chk (b := q_in (57 + a1) 65) hb20 (S' := (100, [some (.ref 58), some (.int a1), some (.int a2)], [.int (m 60 ((57 + a1)).toNatClampNeg)], qMM n m lm)) rfl ?_
                have h_z0 := Option.some.inj h
                subst h_z0
                exact q_ev_ret rfl rfl
noncomputable def F_No_agrees_15 (m : (Nat → Nat → Int32)) (a1 : Int32) (a2 : Int32) (a3 : Int32) (a4 : Int32) : Option (Int32) :=
  cond (q_in a1 12) (
    if m 19 a1.toNatClampNeg < a3 then
      cond (q_in a1 12) (
        if a3 ≤ m 19 a1.toNatClampNeg then
          cond (q_in a1 12) (
            if a2 = (Int32.ofInt (-9)) then
              some (0)
            else
              if (m 18 a1.toNatClampNeg - a4) < a2 then
                some (0)
              else
                some (1)
           ) none
        else
          cond (q_in a1 12) (
            if a2 = (Int32.ofInt (-9)) then
              some (0)
            else
              if (a3 - m 19 a1.toNatClampNeg) < a2 then
                some (0)
              else
                some (1)
           ) none
       ) none
    else
      cond (q_in a1 12) (
        if a4 < m 18 a1.toNatClampNeg then
          cond (q_in a1 12) (
            if a3 ≤ m 19 a1.toNatClampNeg then
              cond (q_in a1 12) (
                if a2 = (Int32.ofInt (-9)) then
                  some (0)
                else
                  if (m 18 a1.toNatClampNeg - a4) < a2 then
                    some (0)
                  else
                    some (1)
               ) none
            else
              cond (q_in a1 12) (
                if a2 = (Int32.ofInt (-9)) then
                  some (0)
                else
                  if (a3 - m 19 a1.toNatClampNeg) < a2 then
                    some (0)
                  else
                    some (1)
               ) none
           ) none
        else
          if a2 = 0 then
            some (1)
          else
            some (0)
       ) none
   ) none
theorem T_No_agrees_15 {Ln : Nat} {xs : Nat → Int32} {n : (Nat → Nat → Int32)} {lm : Nat → Int64} {d : Nat} (hd : 0 ≤ d) {m : (Nat → Nat → Int32)} {a1 : Int32} {a2 : Int32} {a3 : Int32} {a4 : Int32} {rv : Int32} (h : F_No_agrees_15 m a1 a2 a3 a4 = some rv) : q_Ev (qXT Ln xs) d 31 (0, [some (.ref 17), some (.int a1), some (.int a2), some (.int a3), some (.int a4), none, none], [], qMM m n lm) (some (.int rv), qMM m n lm) := by
  unfold F_No_agrees_15 at h
  refine q_ev_run 4 (S' := (6, [some (.ref 17), some (.int a1), some (.int a2), some (.int a3), some (.int a4), none, none], [.int a1, .ref 21, .int a3], qMM m n lm)) rfl ?_
  obtain ⟨hb1, h⟩ := q_cd h
  refine q_ev_chk (b := q_in a1 12) hb1 (S' := (7, [some (.ref 17), some (.int a1), some (.int a2), some (.int a3), some (.int a4), none, none], [.int (m 19 a1.toNatClampNeg), .int a3], qMM m n lm)) rfl ?_
  by_cases hc2 : m 19 a1.toNatClampNeg < a3
  · rw [if_pos hc2] at h
    refine q_ev_brT hc2 (a := 25) (b := 10) rfl ?_
    refine q_ev_run 8 (S' := (49, [some (.ref 17), some (.int a1), some (.int a2), some (.int a3), some (.int a4), some (.int 0), none], [.int a1, .ref 21, .int a3], qMM m n lm)) rfl ?_
    obtain ⟨hb3, h⟩ := q_cd h
    refine q_ev_chk (b := q_in a1 12) hb3 (S' := (50, [some (.ref 17), some (.int a1), some (.int a2), some (.int a3), some (.int a4), some (.int 0), none], [.int (m 19 a1.toNatClampNeg), .int a3], qMM m n lm)) rfl ?_
    by_cases hc4 : a3 ≤ m 19 a1.toNatClampNeg
    · rw [if_pos hc4] at h
      refine q_ev_brT hc4 (a := 64) (b := 53) rfl ?_
      refine q_ev_run 3 (S' := (69, [some (.ref 17), some (.int a1), some (.int a2), some (.int a3), some (.int a4), some (.int 0), none], [.int a1, .ref 20], qMM m n lm)) rfl ?_
      obtain ⟨hb5, h⟩ := q_cd h
      refine q_ev_chk (b := q_in a1 12) hb5 (S' := (70, [some (.ref 17), some (.int a1), some (.int a2), some (.int a3), some (.int a4), some (.int 0), none], [.int (m 18 a1.toNatClampNeg)], qMM m n lm)) rfl ?_
      refine q_ev_run 5 (S' := (78, [some (.ref 17), some (.int a1), some (.int a2), some (.int a3), some (.int a4), some (.int 0), some (.int (m 18 a1.toNatClampNeg - a4))], [.int (Int32.ofInt (-9)), .int a2], qMM m n lm)) rfl ?_
      by_cases hc6 : a2 = (Int32.ofInt (-9))
      · rw [if_pos hc6] at h
        refine q_ev_brT hc6 (a := 91) (b := 81) rfl ?_
        refine q_ev_run 1 (S' := (92, [some (.ref 17), some (.int a1), some (.int a2), some (.int a3), some (.int a4), some (.int 0), some (.int (m 18 a1.toNatClampNeg - a4))], [.int 0], qMM m n lm)) rfl ?_
        have h_z0 := Option.some.inj h
        subst h_z0
        exact q_ev_ret rfl rfl
      · rw [if_neg hc6] at h
        refine q_ev_brF hc6 (a := 91) (b := 81) rfl ?_
        refine q_ev_run 2 (S' := (84, [some (.ref 17), some (.int a1), some (.int a2), some (.int a3), some (.int a4), some (.int 0), some (.int (m 18 a1.toNatClampNeg - a4))], [.int (m 18 a1.toNatClampNeg - a4), .int a2], qMM m n lm)) rfl ?_
        by_cases hc7 : (m 18 a1.toNatClampNeg - a4) < a2
        · rw [if_pos hc7] at h
          refine q_ev_brT hc7 (a := 91) (b := 87) rfl ?_
          refine q_ev_run 1 (S' := (92, [some (.ref 17), some (.int a1), some (.int a2), some (.int a3), some (.int a4), some (.int 0), some (.int (m 18 a1.toNatClampNeg - a4))], [.int 0], qMM m n lm)) rfl ?_
          have h_z0 := Option.some.inj h
          subst h_z0
          exact q_ev_ret rfl rfl
        · rw [if_neg hc7] at h
          refine q_ev_brF hc7 (a := 91) (b := 87) rfl ?_
          refine q_ev_run 2 (S' := (92, [some (.ref 17), some (.int a1), some (.int a2), some (.int a3), some (.int a4), some (.int 0), some (.int (m 18 a1.toNatClampNeg - a4))], [.int 1], qMM m n lm)) rfl ?_
          have h_z0 := Option.some.inj h
          subst h_z0
          exact q_ev_ret rfl rfl
    · rw [if_neg hc4] at h
      refine q_ev_brF hc4 (a := 64) (b := 53) rfl ?_
      refine q_ev_run 4 (S' := (59, [some (.ref 17), some (.int a1), some (.int a2), some (.int a3), some (.int a4), some (.int 0), none], [.int a1, .ref 21, .int a3], qMM m n lm)) rfl ?_
      obtain ⟨hb8, h⟩ := q_cd h
      refine q_ev_chk (b := q_in a1 12) hb8 (S' := (60, [some (.ref 17), some (.int a1), some (.int a2), some (.int a3), some (.int a4), some (.int 0), none], [.int (m 19 a1.toNatClampNeg), .int a3], qMM m n lm)) rfl ?_
      refine q_ev_run 5 (S' := (78, [some (.ref 17), some (.int a1), some (.int a2), some (.int a3), some (.int a4), some (.int 0), some (.int (a3 - m 19 a1.toNatClampNeg))], [.int (Int32.ofInt (-9)), .int a2], qMM m n lm)) rfl ?_
      by_cases hc9 : a2 = (Int32.ofInt (-9))
      · rw [if_pos hc9] at h
        refine q_ev_brT hc9 (a := 91) (b := 81) rfl ?_
        refine q_ev_run 1 (S' := (92, [some (.ref 17), some (.int a1), some (.int a2), some (.int a3), some (.int a4), some (.int 0), some (.int (a3 - m 19 a1.toNatClampNeg))], [.int 0], qMM m n lm)) rfl ?_
        have h_z0 := Option.some.inj h
        subst h_z0
        exact q_ev_ret rfl rfl
      · rw [if_neg hc9] at h
        refine q_ev_brF hc9 (a := 91) (b := 81) rfl ?_
        refine q_ev_run 2 (S' := (84, [some (.ref 17), some (.int a1), some (.int a2), some (.int a3), some (.int a4), some (.int 0), some (.int (a3 - m 19 a1.toNatClampNeg))], [.int (a3 - m 19 a1.toNatClampNeg), .int a2], qMM m n lm)) rfl ?_
        by_cases hc10 : (a3 - m 19 a1.toNatClampNeg) < a2
        · rw [if_pos hc10] at h
          refine q_ev_brT hc10 (a := 91) (b := 87) rfl ?_
          refine q_ev_run 1 (S' := (92, [some (.ref 17), some (.int a1), some (.int a2), some (.int a3), some (.int a4), some (.int 0), some (.int (a3 - m 19 a1.toNatClampNeg))], [.int 0], qMM m n lm)) rfl ?_
          have h_z0 := Option.some.inj h
          subst h_z0
          exact q_ev_ret rfl rfl
        · rw [if_neg hc10] at h
          refine q_ev_brF hc10 (a := 91) (b := 87) rfl ?_
          refine q_ev_run 2 (S' := (92, [some (.ref 17), some (.int a1), some (.int a2), some (.int a3), some (.int a4), some (.int 0), some (.int (a3 - m 19 a1.toNatClampNeg))], [.int 1], qMM m n lm)) rfl ?_
          have h_z0 := Option.some.inj h
          subst h_z0
          exact q_ev_ret rfl rfl
  · rw [if_neg hc2] at h
    refine q_ev_brF hc2 (a := 25) (b := 10) rfl ?_
    refine q_ev_run 3 (S' := (15, [some (.ref 17), some (.int a1), some (.int a2), some (.int a3), some (.int a4), none, none], [.int a1, .ref 20], qMM m n lm)) rfl ?_
    obtain ⟨hb11, h⟩ := q_cd h
    refine q_ev_chk (b := q_in a1 12) hb11 (S' := (16, [some (.ref 17), some (.int a1), some (.int a2), some (.int a3), some (.int a4), none, none], [.int (m 18 a1.toNatClampNeg)], qMM m n lm)) rfl ?_
    refine q_ev_run 1 (S' := (18, [some (.ref 17), some (.int a1), some (.int a2), some (.int a3), some (.int a4), none, none], [.int a4, .int (m 18 a1.toNatClampNeg)], qMM m n lm)) rfl ?_
    by_cases hc12 : a4 < m 18 a1.toNatClampNeg
    · rw [if_pos hc12] at h
      refine q_ev_brT hc12 (a := 25) (b := 21) rfl ?_
      refine q_ev_run 8 (S' := (49, [some (.ref 17), some (.int a1), some (.int a2), some (.int a3), some (.int a4), some (.int 0), none], [.int a1, .ref 21, .int a3], qMM m n lm)) rfl ?_
      obtain ⟨hb13, h⟩ := q_cd h
      refine q_ev_chk (b := q_in a1 12) hb13 (S' := (50, [some (.ref 17), some (.int a1), some (.int a2), some (.int a3), some (.int a4), some (.int 0), none], [.int (m 19 a1.toNatClampNeg), .int a3], qMM m n lm)) rfl ?_
      by_cases hc14 : a3 ≤ m 19 a1.toNatClampNeg
      · rw [if_pos hc14] at h
        refine q_ev_brT hc14 (a := 64) (b := 53) rfl ?_
        refine q_ev_run 3 (S' := (69, [some (.ref 17), some (.int a1), some (.int a2), some (.int a3), some (.int a4), some (.int 0), none], [.int a1, .ref 20], qMM m n lm)) rfl ?_
        obtain ⟨hb15, h⟩ := q_cd h
        refine q_ev_chk (b := q_in a1 12) hb15 (S' := (70, [some (.ref 17), some (.int a1), some (.int a2), some (.int a3), some (.int a4), some (.int 0), none], [.int (m 18 a1.toNatClampNeg)], qMM m n lm)) rfl ?_
        refine q_ev_run 5 (S' := (78, [some (.ref 17), some (.int a1), some (.int a2), some (.int a3), some (.int a4), some (.int 0), some (.int (m 18 a1.toNatClampNeg - a4))], [.int (Int32.ofInt (-9)), .int a2], qMM m n lm)) rfl ?_
        by_cases hc16 : a2 = (Int32.ofInt (-9))
        · rw [if_pos hc16] at h
          refine q_ev_brT hc16 (a := 91) (b := 81) rfl ?_
          refine q_ev_run 1 (S' := (92, [some (.ref 17), some (.int a1), some (.int a2), some (.int a3), some (.int a4), some (.int 0), some (.int (m 18 a1.toNatClampNeg - a4))], [.int 0], qMM m n lm)) rfl ?_
          have h_z0 := Option.some.inj h
          subst h_z0
          exact q_ev_ret rfl rfl
        · rw [if_neg hc16] at h
          refine q_ev_brF hc16 (a := 91) (b := 81) rfl ?_
          refine q_ev_run 2 (S' := (84, [some (.ref 17), some (.int a1), some (.int a2), some (.int a3), some (.int a4), some (.int 0), some (.int (m 18 a1.toNatClampNeg - a4))], [.int (m 18 a1.toNatClampNeg - a4), .int a2], qMM m n lm)) rfl ?_
          by_cases hc17 : (m 18 a1.toNatClampNeg - a4) < a2
          · rw [if_pos hc17] at h
            refine q_ev_brT hc17 (a := 91) (b := 87) rfl ?_
            refine q_ev_run 1 (S' := (92, [some (.ref 17), some (.int a1), some (.int a2), some (.int a3), some (.int a4), some (.int 0), some (.int (m 18 a1.toNatClampNeg - a4))], [.int 0], qMM m n lm)) rfl ?_
            have h_z0 := Option.some.inj h
            subst h_z0
            exact q_ev_ret rfl rfl
          · rw [if_neg hc17] at h
            refine q_ev_brF hc17 (a := 91) (b := 87) rfl ?_
            refine q_ev_run 2 (S' := (92, [some (.ref 17), some (.int a1), some (.int a2), some (.int a3), some (.int a4), some (.int 0), some (.int (m 18 a1.toNatClampNeg - a4))], [.int 1], qMM m n lm)) rfl ?_
            have h_z0 := Option.some.inj h
            subst h_z0
            exact q_ev_ret rfl rfl
      · rw [if_neg hc14] at h
        refine q_ev_brF hc14 (a := 64) (b := 53) rfl ?_
        refine q_ev_run 4 (S' := (59, [some (.ref 17), some (.int a1), some (.int a2), some (.int a3), some (.int a4), some (.int 0), none], [.int a1, .ref 21, .int a3], qMM m n lm)) rfl ?_
        obtain ⟨hb18, h⟩ := q_cd h
        refine q_ev_chk (b := q_in a1 12) hb18 (S' := (60, [some (.ref 17), some (.int a1), some (.int a2), some (.int a3), some (.int a4), some (.int 0), none], [.int (m 19 a1.toNatClampNeg), .int a3], qMM m n lm)) rfl ?_
        refine q_ev_run 5 (S' := (78, [some (.ref 17), some (.int a1), some (.int a2), some (.int a3), some (.int a4), some (.int 0), some (.int (a3 - m 19 a1.toNatClampNeg))], [.int (Int32.ofInt (-9)), .int a2], qMM m n lm)) rfl ?_
        by_cases hc19 : a2 = (Int32.ofInt (-9))
        · rw [if_pos hc19] at h
          refine q_ev_brT hc19 (a := 91) (b := 81) rfl ?_
          refine q_ev_run 1 (S' := (92, [some (.ref 17), some (.int a1), some (.int a2), some (.int a3), some (.int a4), some (.int 0), some (.int (a3 - m 19 a1.toNatClampNeg))], [.int 0], qMM m n lm)) rfl ?_
          have h_z0 := Option.some.inj h
          subst h_z0
          exact q_ev_ret rfl rfl
        · rw [if_neg hc19] at h
          refine q_ev_brF hc19 (a := 91) (b := 81) rfl ?_
          refine q_ev_run 2 (S' := (84, [some (.ref 17), some (.int a1), some (.int a2), some (.int a3), some (.int a4), some (.int 0), some (.int (a3 - m 19 a1.toNatClampNeg))], [.int (a3 - m 19 a1.toNatClampNeg), .int a2], qMM m n lm)) rfl ?_
          by_cases hc20 : (a3 - m 19 a1.toNatClampNeg) < a2
          · rw [if_pos hc20] at h
            refine q_ev_brT hc20 (a := 91) (b := 87) rfl ?_
            refine q_ev_run 1 (S' := (92, [some (.ref 17), some (.int a1), some (.int a2), some (.int a3), some (.int a4), some (.int 0), some (.int (a3 - m 19 a1.toNatClampNeg))], [.int 0], qMM m n lm)) rfl ?_
            have h_z0 := Option.some.inj h
            subst h_z0
            exact q_ev_ret rfl rfl
          · rw [if_neg hc20] at h
            refine q_ev_brF hc20 (a := 91) (b := 87) rfl ?_
            refine q_ev_run 2 (S' := (92, [some (.ref 17), some (.int a1), some (.int a2), some (.int a3), some (.int a4), some (.int 0), some (.int (a3 - m 19 a1.toNatClampNeg))], [.int 1], qMM m n lm)) rfl ?_
            have h_z0 := Option.some.inj h
            subst h_z0
            exact q_ev_ret rfl rfl
    · rw [if_neg hc12] at h
      refine q_ev_brF hc12 (a := 25) (b := 21) rfl ?_
      refine q_ev_run 6 (S' := (34, [some (.ref 17), some (.int a1), some (.int a2), some (.int a3), some (.int a4), some (.int 1), none], [.int a2], qMM m n lm)) rfl ?_
      by_cases hc21 : a2 = 0
      · rw [if_pos hc21] at h
        refine q_ev_brT hc21 (a := 37) (b := 41) rfl ?_
        refine q_ev_run 2 (S' := (42, [some (.ref 17), some (.int a1), some (.int a2), some (.int a3), some (.int a4), some (.int 1), none], [.int 1], qMM m n lm)) rfl ?_
        have h_z0 := Option.some.inj h
        subst h_z0
        exact q_ev_ret rfl rfl
      · rw [if_neg hc21] at h
        refine q_ev_brF hc21 (a := 37) (b := 41) rfl ?_
        refine q_ev_run 1 (S' := (42, [some (.ref 17), some (.int a1), some (.int a2), some (.int a3), some (.int a4), some (.int 1), none], [.int 0], qMM m n lm)) rfl ?_
        have h_z0 := Option.some.inj h
        subst h_z0
        exact q_ev_ret rfl rfl
noncomputable def FL_AT_couldSit_3 : Nat → (Nat → Nat → Int32) → Int32 → Int32 → Int32 → Int32 → Int32 → Option ((Int32) ⊕ (Unit))
  | 0, _, _, _, _, _, _ => none
  | fu + 1, m, x1, x2, x3, x4, x5 =>
    if m 15 1 ≤ x5 then
      some (.inr ())
    else
      cond (q_in x5 12) (
        if m 16 x5.toNatClampNeg = x1 then
          cond (q_in x5 12) (
            Option.bind (F_La_wayBetween_9 m (m 17 x5.toNatClampNeg) x2) (fun r5 =>
              Option.bind (F_No_agrees_15 m x5 r5 x3 x4) (fun r7 =>
                if r7 = 0 then
                  some (.inl (0))
                else
                  FL_AT_couldSit_3 fu m x1 x2 x3 x4 (x5 + 1)))
           ) none
        else
          FL_AT_couldSit_3 fu m x1 x2 x3 x4 (x5 + 1)
       ) none
theorem TL_AT_couldSit_3 {Ln : Nat} {xs : Nat → Int32} {n : (Nat → Nat → Int32)} {lm : Nat → Int64} {d : Nat} (hd : 2 ≤ d) {r : Option Value × qM} : ∀ (fu : Nat) (m : (Nat → Nat → Int32)) (x1 : Int32) (x2 : Int32) (x3 : Int32) (x4 : Int32) (x5 : Int32)  (o : (Int32) ⊕ (Unit)), FL_AT_couldSit_3 fu m x1 x2 x3 x4 x5 = some o → (∀ (rv : Int32), o = .inl rv → r = (some (.int rv), qMM m n lm)) → (∀ (_ : Unit), o = .inr () → ∀ (u5 : Option Value), q_Ev (qXT Ln xs) d 101 (70, [some (.ref 0), some (.int x1), some (.int x2), some (.int x3), some (.int x4), u5], [], qMM m n lm) r) → q_Ev (qXT Ln xs) d 101 (3, [some (.ref 0), some (.int x1), some (.int x2), some (.int x3), some (.int x4), some (.int x5)], [], qMM m n lm) r := by
  intro fu
  induction fu with
  | zero => intro m x1 x2 x3 x4 x5 o h hr hk; cases h
  | succ fu ih =>
    intro m x1 x2 x3 x4 x5 o h hr hk
    rw [FL_AT_couldSit_3] at h
    refine q_ev_run 4 (S' := (12, [some (.ref 0), some (.int x1), some (.int x2), some (.int x3), some (.int x4), some (.int x5)], [.int (m 15 1), .int x5], qMM m n lm)) rfl ?_
    by_cases hc1 : m 15 1 ≤ x5
    · rw [if_pos hc1] at h
      refine q_ev_brT hc1 (a := 70) (b := 15) rfl ?_
      obtain rfl := (Option.some.inj h).symm
      exact hk () rfl (some (.int x5))
    · rw [if_neg hc1] at h
      refine q_ev_brF hc1 (a := 70) (b := 15) rfl ?_
      refine q_ev_run 4 (S' := (24, [some (.ref 0), some (.int x1), some (.int x2), some (.int x3), some (.int x4), some (.int x5)], [.int x5, .ref 18], qMM m n lm)) rfl ?_
      obtain ⟨hb2, h⟩ := q_cd h
      refine q_ev_chk (b := q_in x5 12) hb2 (S' := (25, [some (.ref 0), some (.int x1), some (.int x2), some (.int x3), some (.int x4), some (.int x5)], [.int (m 16 x5.toNatClampNeg)], qMM m n lm)) rfl ?_
      refine q_ev_run 1 (S' := (26, [some (.ref 0), some (.int x1), some (.int x2), some (.int x3), some (.int x4), some (.int x5)], [.int x1, .int (m 16 x5.toNatClampNeg)], qMM m n lm)) rfl ?_
      by_cases hc3 : m 16 x5.toNatClampNeg = x1
      · rw [if_pos hc3] at h
        refine q_ev_brT hc3 (a := 29) (b := 64) rfl ?_
        refine q_ev_run 9 (S' := (48, [some (.ref 0), some (.int x1), some (.int x2), some (.int x3), some (.int x4), some (.int x5)], [.int x5, .ref 19, .ref 11, .int x5, .ref 17], qMM m n lm)) rfl ?_
        obtain ⟨hb4, h⟩ := q_cd h
        refine q_ev_chk (b := q_in x5 12) hb4 (S' := (49, [some (.ref 0), some (.int x1), some (.int x2), some (.int x3), some (.int x4), some (.int x5)], [.int (m 17 x5.toNatClampNeg), .ref 11, .int x5, .ref 17], qMM m n lm)) rfl ?_
        refine q_ev_run 1 (S' := (50, [some (.ref 0), some (.int x1), some (.int x2), some (.int x3), some (.int x4), some (.int x5)], [.int x2, .int (m 17 x5.toNatClampNeg), .ref 11, .int x5, .ref 17], qMM m n lm)) rfl ?_
        obtain ⟨r5, hf6, h⟩ := Option.bind_eq_some_iff.mp h
        try dsimp only at h
        refine q_ev_call (S' := (53, [some (.ref 0), some (.int x1), some (.int x2), some (.int x3), some (.int x4), some (.int x5)], [.int x5, .ref 17], qMM m n lm)) rfl (by omega) (T_La_wayBetween_9 (by first | omega | decide) hf6) ?_
        refine q_ev_eq (S' := (53, [some (.ref 0), some (.int x1), some (.int x2), some (.int x3), some (.int x4), some (.int x5)], [.int r5, .int x5, .ref 17], qMM m n lm)) rfl ?_
        refine q_ev_run 2 (S' := (56, [some (.ref 0), some (.int x1), some (.int x2), some (.int x3), some (.int x4), some (.int x5)], [.int x4, .int x3, .int r5, .int x5, .ref 17], qMM m n lm)) rfl ?_
        obtain ⟨r7, hf8, h⟩ := Option.bind_eq_some_iff.mp h
        try dsimp only at h
        refine q_ev_call (S' := (59, [some (.ref 0), some (.int x1), some (.int x2), some (.int x3), some (.int x4), some (.int x5)], [], qMM m n lm)) rfl (by omega) (T_No_agrees_15 (by first | omega | decide) hf8) ?_
        refine q_ev_eq (S' := (59, [some (.ref 0), some (.int x1), some (.int x2), some (.int x3), some (.int x4), some (.int x5)], [.int r7], qMM m n lm)) rfl ?_
        by_cases hc9 : r7 = 0
        · rw [if_pos hc9] at h
          refine q_ev_brT hc9 (a := 62) (b := 64) rfl ?_
          refine q_ev_run 1 (S' := (63, [some (.ref 0), some (.int x1), some (.int x2), some (.int x3), some (.int x4), some (.int x5)], [.int 0], qMM m n lm)) rfl ?_
          obtain rfl := (Option.some.inj h).symm
          rw [hr _ rfl]
          exact q_ev_ret rfl rfl
        · rw [if_neg hc9] at h
          refine q_ev_brF hc9 (a := 62) (b := 64) rfl ?_
          refine q_ev_run 2 (S' := (3, [some (.ref 0), some (.int x1), some (.int x2), some (.int x3), some (.int x4), some (.int (x5 + 1))], [], qMM m n lm)) rfl ?_
          exact ih m x1 x2 x3 x4 (x5 + 1) _ h hr hk
      · rw [if_neg hc3] at h
        refine q_ev_brF hc3 (a := 29) (b := 64) rfl ?_
        refine q_ev_run 2 (S' := (3, [some (.ref 0), some (.int x1), some (.int x2), some (.int x3), some (.int x4), some (.int (x5 + 1))], [], qMM m n lm)) rfl ?_
        exact ih m x1 x2 x3 x4 (x5 + 1) _ h hr hk
noncomputable def F_AT_couldSit (m : (Nat → Nat → Int32)) (a1 : Int32) (a2 : Int32) (a3 : Int32) (a4 : Int32) : Option (Int32) :=
  Option.bind (FL_AT_couldSit_3 qFU m a1 a2 a3 a4 0) (fun o3 => match o3 with
    | .inl v0 => some v0
    | .inr _ =>
      some (1))
theorem T_AT_couldSit {Ln : Nat} {xs : Nat → Int32} {n : (Nat → Nat → Int32)} {lm : Nat → Int64} {d : Nat} (hd : 2 ≤ d) {m : (Nat → Nat → Int32)} {a1 : Int32} {a2 : Int32} {a3 : Int32} {a4 : Int32} {rv : Int32} (h : F_AT_couldSit m a1 a2 a3 a4 = some rv) : q_Ev (qXT Ln xs) d 101 (0, [some (.ref 0), some (.int a1), some (.int a2), some (.int a3), some (.int a4), none], [], qMM m n lm) (some (.int rv), qMM m n lm) := by
  unfold F_AT_couldSit at h
  refine q_ev_run 2 (S' := (3, [some (.ref 0), some (.int a1), some (.int a2), some (.int a3), some (.int a4), some (.int 0)], [], qMM m n lm)) rfl ?_
  obtain ⟨o3, hl2, h⟩ := Option.bind_eq_some_iff.mp h
  rcases o3 with v0 | _
  · have h_z0 := Option.some.inj h
    subst h_z0
    exact TL_AT_couldSit_3 (by first | omega | decide) _ m a1 a2 a3 a4 0 _ hl2 (fun _ hh => by cases hh; rfl) (fun _ hh => by cases hh)
  · refine TL_AT_couldSit_3 (by first | omega | decide) _ m a1 a2 a3 a4 0 _ hl2 (fun _ hh => by cases hh) (fun _ hh w1 => ?_)
    cases hh
    try dsimp only at h
    refine q_ev_run 1 (S' := (71, [some (.ref 0), some (.int a1), some (.int a2), some (.int a3), some (.int a4), w1], [.int 1], qMM m n lm)) rfl ?_
    have h_z0 := Option.some.inj h
    subst h_z0
    exact q_ev_ret rfl rfl
