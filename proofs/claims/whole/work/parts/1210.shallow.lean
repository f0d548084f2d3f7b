noncomputable def F_AT_needed (m : (Nat → Nat → Int32)) (a1 : Int32) : Option (Int32 × (Nat → Nat → Int32)) :=
  if a1 = (Int32.ofInt (-1)) then
    Option.bind (F_Ru_fewest_39 m) (fun (r2, m3) =>
      some (r2, m3))
  else
    Option.bind (F_Ru_hasPoint_39 m a1) (fun r5 =>
      if r5 = 0 then
        some ((Int32.ofInt (-1)), m)
      else
        Option.bind (F_Ru_fewest_39 m) (fun (r8, m9) =>
          cond (q_in a1 8) (some (m9 43 a1.toNatClampNeg, m9)) none))
theorem T_AT_needed {Ln : Nat} {xs : Nat → Int32} {n : (Nat → Nat → Int32)} {lm : Nat → Int64} {d : Nat} (hd : 24 ≤ d) {m : (Nat → Nat → Int32)} {a1 : Int32} {rv : Int32} {m1 : (Nat → Nat → Int32)} (h : F_AT_needed m a1 = some (rv, m1)) : q_Ev (qXT Ln xs) d 82 (0, [some (.ref 0), some (.int a1)], [], qMM m n lm) (some (.int rv), qMM m1 n lm) := by
  unfold F_AT_needed at h
  refine q_ev_run 2 (S' := (2, [some (.ref 0), some (.int a1)], [.int (Int32.ofInt (-1)), .int a1], qMM m n lm)) rfl ?_
  by_cases hc1 : a1 = (Int32.ofInt (-1))
  · rw [if_pos hc1] at h
    refine q_ev_brT hc1 (a := 5) (b := 13) rfl ?_
    refine q_ev_run 2 (S' := (9, [some (.ref 0), some (.int a1)], [.ref 41], qMM m n lm)) rfl ?_
    obtain ⟨⟨r2, m3⟩, hf4, h⟩ := Option.bind_eq_some_iff.mp h
    try dsimp only at h
    refine q_ev_call (S' := (12, [some (.ref 0), some (.int a1)], [], qMM m n lm)) rfl (by omega) (T_Ru_fewest_39 (by first | omega | decide) hf4) ?_
    refine q_ev_eq (S' := (12, [some (.ref 0), some (.int a1)], [.int r2], qMM m3 n lm)) rfl ?_
    have h_z0 := Option.some.inj h
    obtain ⟨h_0, h_z1⟩ := Prod.mk.inj h_z0
    subst h_0
    subst h_z1
    exact q_ev_ret rfl rfl
  · rw [if_neg hc1] at h
    refine q_ev_brF hc1 (a := 5) (b := 13) rfl ?_
    refine q_ev_run 3 (S' := (18, [some (.ref 0), some (.int a1)], [.int a1, .ref 41], qMM m n lm)) rfl ?_
    obtain ⟨r5, hf6, h⟩ := Option.bind_eq_some_iff.mp h
    try dsimp only at h
    refine q_ev_call (S' := (21, [some (.ref 0), some (.int a1)], [], qMM m n lm)) rfl (by omega) (T_Ru_hasPoint_39 (by first | omega | decide) hf6) ?_
    refine q_ev_eq (S' := (21, [some (.ref 0), some (.int a1)], [.int r5], qMM m n lm)) rfl ?_
    by_cases hc7 : r5 = 0
    · rw [if_pos hc7] at h
      refine q_ev_brT hc7 (a := 24) (b := 26) rfl ?_
      refine q_ev_run 1 (S' := (25, [some (.ref 0), some (.int a1)], [.int (Int32.ofInt (-1))], qMM m n lm)) rfl ?_
      have h_z0 := Option.some.inj h
      obtain ⟨h_0, h_z1⟩ := Prod.mk.inj h_z0
      subst h_0
      subst h_z1
      exact q_ev_ret rfl rfl
    · rw [if_neg hc7] at h
      refine q_ev_brF hc7 (a := 24) (b := 26) rfl ?_
      refine q_ev_run 2 (S' := (30, [some (.ref 0), some (.int a1)], [.ref 41], qMM m n lm)) rfl ?_
      obtain ⟨⟨r8, m9⟩, hf10, h⟩ := Option.bind_eq_some_iff.mp h
      try dsimp only at h
      refine q_ev_call (S' := (33, [some (.ref 0), some (.int a1)], [], qMM m n lm)) rfl (by omega) (T_Ru_fewest_39 (by first | omega | decide) hf10) ?_
      refine q_ev_eq (S' := (33, [some (.ref 0), some (.int a1)], [.int r8], qMM m9 n lm)) rfl ?_
      refine q_ev_run 5 (S' := (42, [some (.ref 0), some (.int a1)], [.int a1, .ref 45], qMM m9 n lm)) rfl ?_
      obtain ⟨hb11, h⟩ := q_cd h
      refine q_ev_chk (b := q_in a1 8) hb11 (S' := (43, [some (.ref 0), some (.int a1)], [.int (m9 43 a1.toNatClampNeg)], qMM m9 n lm)) rfl ?_
      have h_z0 := Option.some.inj h
      obtain ⟨h_0, h_z1⟩ := Prod.mk.inj h_z0
      subst h_0
      subst h_z1
      exact q_ev_ret rfl rfl
noncomputable def FL_Mo_finds_2 : Nat → (Nat → Nat → Int32) → Int32 → Int32 → Option ((Nat → Nat → Int32))
  | 0, _, _, _ => none
  | fu + 1, m, x1, x2 =>
    if 8 ≤ x2 then
      some (m)
    else
      cond (q_in x2 8) (FL_Mo_finds_2 fu (q_w m 67 x2.toNatClampNeg (Int32.ofInt (-1))) x1 (x2 + 1)) none
theorem TL_Mo_finds_2 {Ln : Nat} {xs : Nat → Int32} {n : (Nat → Nat → Int32)} {lm : Nat → Int64} {d : Nat} (hd : 0 ≤ d) {r : Option Value × qM} : ∀ (fu : Nat) (m : (Nat → Nat → Int32)) (x1 : Int32) (x2 : Int32)  (m1 : (Nat → Nat → Int32)), FL_Mo_finds_2 fu m x1 x2 = some m1 → (∀ (u2 : Option Value), q_Ev (qXT Ln xs) d 149 (21, [some (.ref 58), some (.int x1), u2], [], qMM n m1 lm) r) → q_Ev (qXT Ln xs) d 149 (2, [some (.ref 58), some (.int x1), some (.int x2)], [], qMM n m lm) r := by
  intro fu
  induction fu with
  | zero => intro m x1 x2 m1 h hk; cases h
  | succ fu ih =>
    intro m x1 x2 m1 h hk
    rw [FL_Mo_finds_2] at h
    refine q_ev_run 2 (S' := (5, [some (.ref 58), some (.int x1), some (.int x2)], [.int 8, .int x2], qMM n m lm)) rfl ?_
    by_cases hc1 : 8 ≤ x2
    · rw [if_pos hc1] at h
      refine q_ev_brT hc1 (a := 21) (b := 8) rfl ?_
      have h_z0 := Option.some.inj h
      subst h_z0
      exact hk (some (.int x2))
    · rw [if_neg hc1] at h
      refine q_ev_brF hc1 (a := 21) (b := 8) rfl ?_
      refine q_ev_run 4 (S' := (14, [some (.ref 58), some (.int x1), some (.int x2)], [.int (Int32.ofInt (-1)), .int x2, .ref 69], qMM n m lm)) rfl ?_
      obtain ⟨hb2, h⟩ := q_cd h
      refine q_ev_chk (b := q_in x2 8) hb2 (S' := (15, [some (.ref 58), some (.int x1), some (.int x2)], [], qMM n (q_w m 67 x2.toNatClampNeg (Int32.ofInt (-1))) lm)) rfl ?_
      refine q_ev_run 2 (S' := (2, [some (.ref 58), some (.int x1), some (.int (x2 + 1))], [], qMM n (q_w m 67 x2.toNatClampNeg (Int32.ofInt (-1))) lm)) rfl ?_
      exact ih (q_w m 67 x2.toNatClampNeg (Int32.ofInt (-1))) x1 (x2 + 1) _ h hk
noncomputable def FL_Mo_fitsAt_8 : Nat → (Nat → Nat → Int32) → Int32 → Int32 → Int32 → Int32 → Option (Int32 × Int32)
  | 0, _, _, _, _, _ => none
  | fu + 1, m, x1, x2, x3, x4 =>
    if x1 ≤ x4 then
      some (x2, x3)
    else
      cond (q_in x4 8) (
        if m 67 x4.toNatClampNeg < x2 then
          cond (q_in x4 8) (
            cond (q_in x1 8) (
              if m 67 x4.toNatClampNeg = m 67 x1.toNatClampNeg then
                FL_Mo_fitsAt_8 fu m x1 x2 x4 (x4 + 1)
              else
                FL_Mo_fitsAt_8 fu m x1 x2 x3 (x4 + 1)
             ) none
           ) none
        else
          cond (q_in x4 8) (
            cond (q_in x4 8) (
              cond (q_in x1 8) (
                if m 67 x4.toNatClampNeg = m 67 x1.toNatClampNeg then
                  FL_Mo_fitsAt_8 fu m x1 (m 67 x4.toNatClampNeg + 1) x4 (x4 + 1)
                else
                  FL_Mo_fitsAt_8 fu m x1 (m 67 x4.toNatClampNeg + 1) x3 (x4 + 1)
               ) none
             ) none
           ) none
       ) none
theorem TL_Mo_fitsAt_8 {Ln : Nat} {xs : Nat → Int32} {n : (Nat → Nat → Int32)} {lm : Nat → Int64} {d : Nat} (hd : 0 ≤ d) {r : Option Value × qM} : ∀ (fu : Nat) (m : (Nat → Nat → Int32)) (x1 : Int32) (x2 : Int32) (x3 : Int32) (x4 : Int32)  (y2 : Int32) (y3 : Int32), FL_Mo_fitsAt_8 fu m x1 x2 x3 x4 = some (y2, y3) → (∀ (u4 : Option Value), q_Ev (qXT Ln xs) d 150 (68, [some (.ref 58), some (.int x1), some (.int y2), some (.int y3), u4], [], qMM n m lm) r) → q_Ev (qXT Ln xs) d 150 (8, [some (.ref 58), some (.int x1), some (.int x2), some (.int x3), some (.int x4)], [], qMM n m lm) r := by
  intro fu
  induction fu with
  | zero => intro m x1 x2 x3 x4 y2 y3 h hk; cases h
  | succ fu ih =>
    intro m x1 x2 x3 x4 y2 y3 h hk
    rw [FL_Mo_fitsAt_8] at h
    refine q_ev_run 2 (S' := (11, [some (.ref 58), some (.int x1), some (.int x2), some (.int x3), some (.int x4)], [.int x1, .int x4], qMM n m lm)) rfl ?_
    by_cases hc1 : x1 ≤ x4
    · rw [if_pos hc1] at h
      refine q_ev_brT hc1 (a := 68) (b := 14) rfl ?_
      have h_z0 := Option.some.inj h
      obtain ⟨h_0, h_z1⟩ := Prod.mk.inj h_z0
      subst h_0
      subst h_z1
      exact hk (some (.int x4))
    · rw [if_neg hc1] at h
      refine q_ev_brF hc1 (a := 68) (b := 14) rfl ?_
      refine q_ev_run 3 (S' := (20, [some (.ref 58), some (.int x1), some (.int x2), some (.int x3), some (.int x4)], [.int x4, .ref 69], qMM n m lm)) rfl ?_
      obtain ⟨hb2, h⟩ := q_cd h
      refine q_ev_chk (b := q_in x4 8) hb2 (S' := (21, [some (.ref 58), some (.int x1), some (.int x2), some (.int x3), some (.int x4)], [.int (m 67 x4.toNatClampNeg)], qMM n m lm)) rfl ?_
      refine q_ev_run 1 (S' := (22, [some (.ref 58), some (.int x1), some (.int x2), some (.int x3), some (.int x4)], [.int x2, .int (m 67 x4.toNatClampNeg)], qMM n m lm)) rfl ?_
      by_cases hc3 : m 67 x4.toNatClampNeg < x2
      · rw [if_pos hc3] at h
        refine q_ev_brT hc3 (a := 37) (b := 25) rfl ?_
        refine q_ev_run 5 (S' := (45, [some (.ref 58), some (.int x1), some (.int x2), some (.int x3), some (.int x4)], [.int x4, .ref 69], qMM n m lm)) rfl ?_
        obtain ⟨hb4, h⟩ := q_cd h
        refine q_ev_chk (b := q_in x4 8) hb4 (S' := (46, [some (.ref 58), some (.int x1), some (.int x2), some (.int x3), some (.int x4)], [.int (m 67 x4.toNatClampNeg)], qMM n m lm)) rfl ?_
        refine q_ev_run 3 (S' := (51, [some (.ref 58), some (.int x1), some (.int x2), some (.int x3), some (.int x4)], [.int x1, .ref 69, .int (m 67 x4.toNatClampNeg)], qMM n m lm)) rfl ?_
        obtain ⟨hb5, h⟩ := q_cd h
        refine q_ev_chk (b := q_in x1 8) hb5 (S' := (52, [some (.ref 58), some (.int x1), some (.int x2), some (.int x3), some (.int x4)], [.int (m 67 x1.toNatClampNeg), .int (m 67 x4.toNatClampNeg)], qMM n m lm)) rfl ?_
        by_cases hc6 : m 67 x4.toNatClampNeg = m 67 x1.toNatClampNeg
        · rw [if_pos hc6] at h
          refine q_ev_brT hc6 (a := 55) (b := 60) rfl ?_
          refine q_ev_run 5 (S' := (8, [some (.ref 58), some (.int x1), some (.int x2), some (.int x4), some (.int (x4 + 1))], [], qMM n m lm)) rfl ?_
          exact ih m x1 x2 x4 (x4 + 1) _ _ h hk
        · rw [if_neg hc6] at h
          refine q_ev_brF hc6 (a := 55) (b := 60) rfl ?_
          refine q_ev_run 4 (S' := (8, [some (.ref 58), some (.int x1), some (.int x2), some (.int x3), some (.int (x4 + 1))], [], qMM n m lm)) rfl ?_
          exact ih m x1 x2 x3 (x4 + 1) _ _ h hk
      · rw [if_neg hc3] at h
        refine q_ev_brF hc3 (a := 37) (b := 25) rfl ?_
        refine q_ev_run 3 (S' := (31, [some (.ref 58), some (.int x1), some (.int x2), some (.int x3), some (.int x4)], [.int x4, .ref 69], qMM n m lm)) rfl ?_
        obtain ⟨hb7, h⟩ := q_cd h
        refine q_ev_chk (b := q_in x4 8) hb7 (S' := (32, [some (.ref 58), some (.int x1), some (.int x2), some (.int x3), some (.int x4)], [.int (m 67 x4.toNatClampNeg)], qMM n m lm)) rfl ?_
        refine q_ev_run 7 (S' := (45, [some (.ref 58), some (.int x1), some (.int (m 67 x4.toNatClampNeg + 1)), some (.int x3), some (.int x4)], [.int x4, .ref 69], qMM n m lm)) rfl ?_
        obtain ⟨hb8, h⟩ := q_cd h
        refine q_ev_chk (b := q_in x4 8) hb8 (S' := (46, [some (.ref 58), some (.int x1), some (.int (m 67 x4.toNatClampNeg + 1)), some (.int x3), some (.int x4)], [.int (m 67 x4.toNatClampNeg)], qMM n m lm)) rfl ?_
        refine q_ev_run 3 (S' := (51, [some (.ref 58), some (.int x1), some (.int (m 67 x4.toNatClampNeg + 1)), some (.int x3), some (.int x4)], [.int x1, .ref 69, .int (m 67 x4.toNatClampNeg)], qMM n m lm)) rfl ?_
        obtain ⟨hb9, h⟩ := q_cd h
        refine q_ev_chk (b := q_in x1 8) hb9 (S' := (52, [some (.ref 58), some (.int x1), some (.int (m 67 x4.toNatClampNeg + 1)), some (.int x3), some (.int x4)], [.int (m 67 x1.toNatClampNeg), .int (m 67 x4.toNatClampNeg)], qMM n m lm)) rfl ?_
        by_cases hc10 : m 67 x4.toNatClampNeg = m 67 x1.toNatClampNeg
        · rw [if_pos hc10] at h
          refine q_ev_brT hc10 (a := 55) (b := 60) rfl ?_
          refine q_ev_run 5 (S' := (8, [some (.ref 58), some (.int x1), some (.int (m 67 x4.toNatClampNeg + 1)), some (.int x4), some (.int (x4 + 1))], [], qMM n m lm)) rfl ?_
          exact ih m x1 (m 67 x4.toNatClampNeg + 1) x4 (x4 + 1) _ _ h hk
        · rw [if_neg hc10] at h
          refine q_ev_brF hc10 (a := 55) (b := 60) rfl ?_
          refine q_ev_run 4 (S' := (8, [some (.ref 58), some (.int x1), some (.int (m 67 x4.toNatClampNeg + 1)), some (.int x3), some (.int (x4 + 1))], [], qMM n m lm)) rfl ?_
          exact ih m x1 (m 67 x4.toNatClampNeg + 1) x3 (x4 + 1) _ _ h hk
noncomputable def F_Mo_fitsAt (m : (Nat → Nat → Int32)) (a1 : Int32) : Option (Int32) :=
  Option.bind (FL_Mo_fitsAt_8 qFU m a1 0 (Int32.ofInt (-9)) 0) (fun (y1, y2) =>
    cond (q_in a1 8) (
      if y1 < m 67 a1.toNatClampNeg then
        some (0)
      else
        if y2 = (Int32.ofInt (-9)) then
          some (1)
        else
          Option.bind (F_Mo_canGo m y2 a1) (fun r8 =>
            if r8 = 0 then
              some (0)
            else
              some (1))
     ) none)
theorem T_Mo_fitsAt {Ln : Nat} {xs : Nat → Int32} {n : (Nat → Nat → Int32)} {lm : Nat → Int64} {d : Nat} (hd : 2 ≤ d) {m : (Nat → Nat → Int32)} {a1 : Int32} {rv : Int32} (h : F_Mo_fitsAt m a1 = some rv) : q_Ev (qXT Ln xs) d 150 (0, [some (.ref 58), some (.int a1), none, none, none], [], qMM n m lm) (some (.int rv), qMM n m lm) := by
  unfold F_Mo_fitsAt at h
  refine q_ev_run 6 (S' := (8, [some (.ref 58), some (.int a1), some (.int 0), some (.int (Int32.ofInt (-9))), some (.int 0)], [], qMM n m lm)) rfl ?_
  obtain ⟨⟨y1, y2⟩, hl4, h⟩ := Option.bind_eq_some_iff.mp h
  try dsimp only at h
  refine TL_Mo_fitsAt_8 (by first | omega | decide) _ m a1 0 (Int32.ofInt (-9)) 0 _ _ hl4 (fun w3 => ?_)
  refine q_ev_run 3 (S' := (73, [some (.ref 58), some (.int a1), some (.int y1), some (.int y2), w3], [.int a1, .ref 69], qMM n m lm)) rfl ?_
  obtain ⟨hb5, h⟩ := q_cd h
  refine q_ev_chk (b := q_in a1 8) hb5 (S' := (74, [some (.ref 58), some (.int a1), some (.int y1), some (.int y2), w3], [.int (m 67 a1.toNatClampNeg)], qMM n m lm)) rfl ?_
  refine q_ev_run 1 (S' := (75, [some (.ref 58), some (.int a1), some (.int y1), some (.int y2), w3], [.int y1, .int (m 67 a1.toNatClampNeg)], qMM n m lm)) rfl ?_
  by_cases hc6 : y1 < m 67 a1.toNatClampNeg
  · rw [if_pos hc6] at h
    refine q_ev_brT hc6 (a := 97) (b := 78) rfl ?_
    refine q_ev_run 1 (S' := (98, [some (.ref 58), some (.int a1), some (.int y1), some (.int y2), w3], [.int 0], qMM n m lm)) rfl ?_
    have h_z0 := Option.some.inj h
    subst h_z0
    exact q_ev_ret rfl rfl
  · rw [if_neg hc6] at h
    refine q_ev_brF hc6 (a := 97) (b := 78) rfl ?_
    refine q_ev_run 2 (S' := (81, [some (.ref 58), some (.int a1), some (.int y1), some (.int y2), w3], [.int (Int32.ofInt (-9)), .int y2], qMM n m lm)) rfl ?_
    by_cases hc7 : y2 = (Int32.ofInt (-9))
    · rw [if_pos hc7] at h
      refine q_ev_brT hc7 (a := 93) (b := 84) rfl ?_
      refine q_ev_run 2 (S' := (98, [some (.ref 58), some (.int a1), some (.int y1), some (.int y2), w3], [.int 1], qMM n m lm)) rfl ?_
      have h_z0 := Option.some.inj h
      subst h_z0
      exact q_ev_ret rfl rfl
    · rw [if_neg hc7] at h
      refine q_ev_brF hc7 (a := 93) (b := 84) rfl ?_
      refine q_ev_run 3 (S' := (87, [some (.ref 58), some (.int a1), some (.int y1), some (.int y2), w3], [.int a1, .int y2, .ref 58], qMM n m lm)) rfl ?_
      obtain ⟨r8, hf9, h⟩ := Option.bind_eq_some_iff.mp h
      try dsimp only at h
      refine q_ev_call (S' := (90, [some (.ref 58), some (.int a1), some (.int y1), some (.int y2), w3], [], qMM n m lm)) rfl (by omega) (T_Mo_canGo (by first | omega | decide) hf9) ?_
      refine q_ev_eq (S' := (90, [some (.ref 58), some (.int a1), some (.int y1), some (.int y2), w3], [.int r8], qMM n m lm)) rfl ?_
      by_cases hc10 : r8 = 0
      · rw [if_pos hc10] at h
        refine q_ev_brT hc10 (a := 97) (b := 93) rfl ?_
        refine q_ev_run 1 (S' := (98, [some (.ref 58), some (.int a1), some (.int y1), some (.int y2), w3], [.int 0], qMM n m lm)) rfl ?_
        have h_z0 := Option.some.inj h
        subst h_z0
        exact q_ev_ret rfl rfl
      · rw [if_neg hc10] at h
        refine q_ev_brF hc10 (a := 97) (b := 93) rfl ?_
        refine q_ev_run 2 (S' := (98, [some (.ref 58), some (.int a1), some (.int y1), some (.int y2), w3], [.int 1], qMM n m lm)) rfl ?_
        have h_z0 := Option.some.inj h
        subst h_z0
        exact q_ev_ret rfl rfl
noncomputable def FL_Mo_finds_45 : Nat → (Nat → Nat → Int32) → Int32 → Int32 → Option ((Nat → Nat → Int32))
  | 0, _, _, _ => none
  | fu + 1, m, x1, x2 =>
    cond (q_in x2 8) (
      if x1 ≤ m 67 x2.toNatClampNeg then
        some (m)
      else
        Option.bind (F_Mo_fitsAt m x2) (fun r3 =>
          if r3 = 0 then
            cond (q_in x2 8) (cond (q_in x2 8) (FL_Mo_finds_45 fu (q_w m 67 x2.toNatClampNeg (m 67 x2.toNatClampNeg + 1)) x1 x2) none) none
          else
            some (m))
     ) none
theorem TL_Mo_finds_45 {Ln : Nat} {xs : Nat → Int32} {n : (Nat → Nat → Int32)} {lm : Nat → Int64} {d : Nat} (hd : 3 ≤ d) {r : Option Value × qM} : ∀ (fu : Nat) (m : (Nat → Nat → Int32)) (x1 : Int32) (x2 : Int32)  (m1 : (Nat → Nat → Int32)), FL_Mo_finds_45 fu m x1 x2 = some m1 → (q_Ev (qXT Ln xs) d 149 (76, [some (.ref 58), some (.int x1), some (.int x2)], [], qMM n m1 lm) r) → q_Ev (qXT Ln xs) d 149 (45, [some (.ref 58), some (.int x1), some (.int x2)], [], qMM n m lm) r := by
  intro fu
  induction fu with
  | zero => intro m x1 x2 m1 h hk; cases h
  | succ fu ih =>
    intro m x1 x2 m1 h hk
    rw [FL_Mo_finds_45] at h
    refine q_ev_run 3 (S' := (50, [some (.ref 58), some (.int x1), some (.int x2)], [.int x2, .ref 69], qMM n m lm)) rfl ?_
    obtain ⟨hb1, h⟩ := q_cd h
    refine q_ev_chk (b := q_in x2 8) hb1 (S' := (51, [some (.ref 58), some (.int x1), some (.int x2)], [.int (m 67 x2.toNatClampNeg)], qMM n m lm)) rfl ?_
    refine q_ev_run 1 (S' := (52, [some (.ref 58), some (.int x1), some (.int x2)], [.int x1, .int (m 67 x2.toNatClampNeg)], qMM n m lm)) rfl ?_
    by_cases hc2 : x1 ≤ m 67 x2.toNatClampNeg
    · rw [if_pos hc2] at h
      refine q_ev_brT hc2 (a := 76) (b := 55) rfl ?_
      have h_z0 := Option.some.inj h
      subst h_z0
      exact hk 
    · rw [if_neg hc2] at h
      refine q_ev_brF hc2 (a := 76) (b := 55) rfl ?_
      refine q_ev_run 2 (S' := (57, [some (.ref 58), some (.int x1), some (.int x2)], [.int x2, .ref 58], qMM n m lm)) rfl ?_
      obtain ⟨r3, hf4, h⟩ := Option.bind_eq_some_iff.mp h
      try dsimp only at h
      refine q_ev_call (S' := (60, [some (.ref 58), some (.int x1), some (.int x2)], [], qMM n m lm)) rfl (by omega) (T_Mo_fitsAt (by first | omega | decide) hf4) ?_
      refine q_ev_eq (S' := (60, [some (.ref 58), some (.int x1), some (.int x2)], [.int r3], qMM n m lm)) rfl ?_
      by_cases hc5 : r3 = 0
      · rw [if_pos hc5] at h
        refine q_ev_brT hc5 (a := 63) (b := 76) rfl ?_
        refine q_ev_run 4 (S' := (69, [some (.ref 58), some (.int x1), some (.int x2)], [.int x2, .ref 69, .int x2, .ref 69], qMM n m lm)) rfl ?_
        obtain ⟨hb6, h⟩ := q_cd h
        refine q_ev_chk (b := q_in x2 8) hb6 (S' := (70, [some (.ref 58), some (.int x1), some (.int x2)], [.int (m 67 x2.toNatClampNeg), .int x2, .ref 69], qMM n m lm)) rfl ?_
        refine q_ev_run 2 (S' := (72, [some (.ref 58), some (.int x1), some (.int x2)], [.int (m 67 x2.toNatClampNeg + 1), .int x2, .ref 69], qMM n m lm)) rfl ?_
        obtain ⟨hb7, h⟩ := q_cd h
        refine q_ev_chk (b := q_in x2 8) hb7 (S' := (73, [some (.ref 58), some (.int x1), some (.int x2)], [], qMM n (q_w m 67 x2.toNatClampNeg (m 67 x2.toNatClampNeg + 1)) lm)) rfl ?_
        refine q_ev_run 1 (S' := (45, [some (.ref 58), some (.int x1), some (.int x2)], [], qMM n (q_w m 67 x2.toNatClampNeg (m 67 x2.toNatClampNeg + 1)) lm)) rfl ?_
        exact ih (q_w m 67 x2.toNatClampNeg (m 67 x2.toNatClampNeg + 1)) x1 x2 _ h hk
      · rw [if_neg hc5] at h
        refine q_ev_brF hc5 (a := 63) (b := 76) rfl ?_
        have h_z0 := Option.some.inj h
        subst h_z0
        exact hk 
noncomputable def FL_Mo_finds_23 : Nat → (Nat → Nat → Int32) → Int32 → Int32 → Option (Int32 × (Nat → Nat → Int32))
  | 0, _, _, _ => none
  | fu + 1, m, x1, x2 =>
    if x2 < 0 then
      some (x2, m)
    else
      if m 56 17 ≤ x2 then
        some (x2, m)
      else
        cond (q_in x2 8) (
          cond (q_in x2 8) (
            Option.bind (FL_Mo_finds_45 qFU (q_w m 67 x2.toNatClampNeg (m 67 x2.toNatClampNeg + 1)) x1 x2) (fun m5 =>
              cond (q_in x2 8) (
                if x1 ≤ m5 67 x2.toNatClampNeg then
                  cond (q_in x2 8) (FL_Mo_finds_23 fu (q_w m5 67 x2.toNatClampNeg (Int32.ofInt (-1))) x1 (x2 + (Int32.ofInt (-1)))) none
                else
                  FL_Mo_finds_23 fu m5 x1 (x2 + 1)
               ) none)
           ) none
         ) none
theorem TL_Mo_finds_23 {Ln : Nat} {xs : Nat → Int32} {n : (Nat → Nat → Int32)} {lm : Nat → Int64} {d : Nat} (hd : 3 ≤ d) {r : Option Value × qM} : ∀ (fu : Nat) (m : (Nat → Nat → Int32)) (x1 : Int32) (x2 : Int32)  (y2 : Int32) (m1 : (Nat → Nat → Int32)), FL_Mo_finds_23 fu m x1 x2 = some (y2, m1) → (q_Ev (qXT Ln xs) d 149 (105, [some (.ref 58), some (.int x1), some (.int y2)], [], qMM n m1 lm) r) → q_Ev (qXT Ln xs) d 149 (23, [some (.ref 58), some (.int x1), some (.int x2)], [], qMM n m lm) r := by
  intro fu
  induction fu with
  | zero => intro m x1 x2 y2 m1 h hk; cases h
  | succ fu ih =>
    intro m x1 x2 y2 m1 h hk
    rw [FL_Mo_finds_23] at h
    refine q_ev_run 1 (S' := (24, [some (.ref 58), some (.int x1), some (.int x2)], [.int x2], qMM n m lm)) rfl ?_
    by_cases hc1 : x2 < 0
    · rw [if_pos hc1] at h
      refine q_ev_brT hc1 (a := 105) (b := 27) rfl ?_
      have h_z0 := Option.some.inj h
      obtain ⟨h_0, h_z1⟩ := Prod.mk.inj h_z0
      subst h_0
      subst h_z1
      exact hk 
    · rw [if_neg hc1] at h
      refine q_ev_brF hc1 (a := 105) (b := 27) rfl ?_
      refine q_ev_run 3 (S' := (32, [some (.ref 58), some (.int x1), some (.int x2)], [.int (m 56 17), .int x2], qMM n m lm)) rfl ?_
      by_cases hc2 : m 56 17 ≤ x2
      · rw [if_pos hc2] at h
        refine q_ev_brT hc2 (a := 105) (b := 35) rfl ?_
        have h_z0 := Option.some.inj h
        obtain ⟨h_0, h_z1⟩ := Prod.mk.inj h_z0
        subst h_0
        subst h_z1
        exact hk 
      · rw [if_neg hc2] at h
        refine q_ev_brF hc2 (a := 105) (b := 35) rfl ?_
        refine q_ev_run 4 (S' := (41, [some (.ref 58), some (.int x1), some (.int x2)], [.int x2, .ref 69, .int x2, .ref 69], qMM n m lm)) rfl ?_
        obtain ⟨hb3, h⟩ := q_cd h
        refine q_ev_chk (b := q_in x2 8) hb3 (S' := (42, [some (.ref 58), some (.int x1), some (.int x2)], [.int (m 67 x2.toNatClampNeg), .int x2, .ref 69], qMM n m lm)) rfl ?_
        refine q_ev_run 2 (S' := (44, [some (.ref 58), some (.int x1), some (.int x2)], [.int (m 67 x2.toNatClampNeg + 1), .int x2, .ref 69], qMM n m lm)) rfl ?_
        obtain ⟨hb4, h⟩ := q_cd h
        refine q_ev_chk (b := q_in x2 8) hb4 (S' := (45, [some (.ref 58), some (.int x1), some (.int x2)], [], qMM n (q_w m 67 x2.toNatClampNeg (m 67 x2.toNatClampNeg + 1)) lm)) rfl ?_
        obtain ⟨m5, hl6, h⟩ := Option.bind_eq_some_iff.mp h
        try dsimp only at h
        refine TL_Mo_finds_45 (by first | omega | decide) _ (q_w m 67 x2.toNatClampNeg (m 67 x2.toNatClampNeg + 1)) x1 x2 _ hl6 ?_
        refine q_ev_run 3 (S' := (81, [some (.ref 58), some (.int x1), some (.int x2)], [.int x2, .ref 69], qMM n m5 lm)) rfl ?_
        obtain ⟨hb7, h⟩ := q_cd h
        refine q_ev_chk (b := q_in x2 8) hb7 (S' := (82, [some (.ref 58), some (.int x1), some (.int x2)], [.int (m5 67 x2.toNatClampNeg)], qMM n m5 lm)) rfl ?_
        refine q_ev_run 1 (S' := (83, [some (.ref 58), some (.int x1), some (.int x2)], [.int x1, .int (m5 67 x2.toNatClampNeg)], qMM n m5 lm)) rfl ?_
        by_cases hc8 : x1 ≤ m5 67 x2.toNatClampNeg
        · rw [if_pos hc8] at h
          refine q_ev_brT hc8 (a := 92) (b := 86) rfl ?_
          refine q_ev_run 4 (S' := (98, [some (.ref 58), some (.int x1), some (.int x2)], [.int (Int32.ofInt (-1)), .int x2, .ref 69], qMM n m5 lm)) rfl ?_
          obtain ⟨hb9, h⟩ := q_cd h
          refine q_ev_chk (b := q_in x2 8) hb9 (S' := (99, [some (.ref 58), some (.int x1), some (.int x2)], [], qMM n (q_w m5 67 x2.toNatClampNeg (Int32.ofInt (-1))) lm)) rfl ?_
          refine q_ev_run 2 (S' := (23, [some (.ref 58), some (.int x1), some (.int (x2 + (Int32.ofInt (-1))))], [], qMM n (q_w m5 67 x2.toNatClampNeg (Int32.ofInt (-1))) lm)) rfl ?_
          exact ih (q_w m5 67 x2.toNatClampNeg (Int32.ofInt (-1))) x1 (x2 + (Int32.ofInt (-1))) _ _ h hk
        · rw [if_neg hc8] at h
          refine q_ev_brF hc8 (a := 92) (b := 86) rfl ?_
          refine q_ev_run 2 (S' := (23, [some (.ref 58), some (.int x1), some (.int (x2 + 1))], [], qMM n m5 lm)) rfl ?_
          exact ih m5 x1 (x2 + 1) _ _ h hk
noncomputable def F_Mo_finds (m : (Nat → Nat → Int32)) (a1 : Int32) : Option (Int32 × (Nat → Nat → Int32)) :=
  Option.bind (FL_Mo_finds_2 qFU m a1 0) (fun m2 =>
    Option.bind (FL_Mo_finds_23 qFU m2 a1 0) (fun (y4, m5) =>
      if y4 = m5 56 17 then
        some (1, m5)
      else
        some (0, m5)))
theorem T_Mo_finds {Ln : Nat} {xs : Nat → Int32} {n : (Nat → Nat → Int32)} {lm : Nat → Int64} {d : Nat} (hd : 3 ≤ d) {m : (Nat → Nat → Int32)} {a1 : Int32} {rv : Int32} {m1 : (Nat → Nat → Int32)} (h : F_Mo_finds m a1 = some (rv, m1)) : q_Ev (qXT Ln xs) d 149 (0, [some (.ref 58), some (.int a1), none], [], qMM n m lm) (some (.int rv), qMM n m1 lm) := by
  unfold F_Mo_finds at h
  refine q_ev_run 2 (S' := (2, [some (.ref 58), some (.int a1), some (.int 0)], [], qMM n m lm)) rfl ?_
  obtain ⟨m2, hl3, h⟩ := Option.bind_eq_some_iff.mp h
  try dsimp only at h
  refine TL_Mo_finds_2 (by first | omega | decide) _ m a1 0 _ hl3 (fun w1 => ?_)
  refine q_ev_run 2 (S' := (23, [some (.ref 58), some (.int a1), some (.int 0)], [], qMM n m2 lm)) rfl ?_
  obtain ⟨⟨y4, m5⟩, hl6, h⟩ := Option.bind_eq_some_iff.mp h
  try dsimp only at h
  refine TL_Mo_finds_23 (by first | omega | decide) _ m2 a1 0 _ _ hl6 ?_
  refine q_ev_run 3 (S' := (110, [some (.ref 58), some (.int a1), some (.int y4)], [.int (m5 56 17), .int y4], qMM n m5 lm)) rfl ?_
  by_cases hc7 : y4 = m5 56 17
  · rw [if_pos hc7] at h
    refine q_ev_brT hc7 (a := 113) (b := 117) rfl ?_
    refine q_ev_run 2 (S' := (118, [some (.ref 58), some (.int a1), some (.int y4)], [.int 1], qMM n m5 lm)) rfl ?_
    have h_z0 := Option.some.inj h
    obtain ⟨h_0, h_z1⟩ := Prod.mk.inj h_z0
    subst h_0
    subst h_z1
    exact q_ev_ret rfl rfl
  · rw [if_neg hc7] at h
    refine q_ev_brF hc7 (a := 113) (b := 117) rfl ?_
    refine q_ev_run 1 (S' := (118, [some (.ref 58), some (.int a1), some (.int y4)], [.int 0], qMM n m5 lm)) rfl ?_
    have h_z0 := Option.some.inj h
    obtain ⟨h_0, h_z1⟩ := Prod.mk.inj h_z0
    subst h_0
    subst h_z1
    exact q_ev_ret rfl rfl
noncomputable def FL_Mo_fewest_13 : Nat → (Nat → Nat → Int32) → Int32 → Option (Int32 × (Nat → Nat → Int32))
  | 0, _, _ => none
  | fu + 1, m, x1 =>
    Option.bind (F_Mo_finds m x1) (fun (r1, m2) =>
      if r1 = 0 then
        FL_Mo_fewest_13 fu m2 (x1 + 1)
      else
        some (x1, m2))
theorem TL_Mo_fewest_13 {Ln : Nat} {xs : Nat → Int32} {n : (Nat → Nat → Int32)} {lm : Nat → Int64} {d : Nat} (hd : 4 ≤ d) {r : Option Value × qM} : ∀ (fu : Nat) (m : (Nat → Nat → Int32)) (x1 : Int32)  (y1 : Int32) (m1 : (Nat → Nat → Int32)), FL_Mo_fewest_13 fu m x1 = some (y1, m1) → (q_Ev (qXT Ln xs) d 151 (27, [some (.ref 58), some (.int y1)], [], qMM n m1 lm) r) → q_Ev (qXT Ln xs) d 151 (13, [some (.ref 58), some (.int x1)], [], qMM n m lm) r := by
  intro fu
  induction fu with
  | zero => intro m x1 y1 m1 h hk; cases h
  | succ fu ih =>
    intro m x1 y1 m1 h hk
    rw [FL_Mo_fewest_13] at h
    refine q_ev_run 2 (S' := (15, [some (.ref 58), some (.int x1)], [.int x1, .ref 58], qMM n m lm)) rfl ?_
    obtain ⟨⟨r1, m2⟩, hf3, h⟩ := Option.bind_eq_some_iff.mp h
    try dsimp only at h
    refine q_ev_call (S' := (18, [some (.ref 58), some (.int x1)], [], qMM n m lm)) rfl (by omega) (T_Mo_finds (by first | omega | decide) hf3) ?_
    refine q_ev_eq (S' := (18, [some (.ref 58), some (.int x1)], [.int r1], qMM n m2 lm)) rfl ?_
    by_cases hc4 : r1 = 0
    · rw [if_pos hc4] at h
      refine q_ev_brT hc4 (a := 21) (b := 27) rfl ?_
      refine q_ev_run 2 (S' := (13, [some (.ref 58), some (.int (x1 + 1))], [], qMM n m2 lm)) rfl ?_
      exact ih m2 (x1 + 1) _ _ h hk
    · rw [if_neg hc4] at h
      refine q_ev_brF hc4 (a := 21) (b := 27) rfl ?_
      have h_z0 := Option.some.inj h
      obtain ⟨h_0, h_z1⟩ := Prod.mk.inj h_z0
      subst h_0
      subst h_z1
      exact hk 
noncomputable def F_Mo_fewest (m : (Nat → Nat → Int32)) : Option (Int32 × (Nat → Nat → Int32)) :=
  if m 56 17 = 0 then
    Option.bind (FL_Mo_fewest_13 qFU m 0) (fun (y2, m3) =>
      some (y2, m3))
  else
    Option.bind (FL_Mo_fewest_13 qFU m 1) (fun (y5, m6) =>
      some (y5, m6))
theorem T_Mo_fewest {Ln : Nat} {xs : Nat → Int32} {n : (Nat → Nat → Int32)} {lm : Nat → Int64} {d : Nat} (hd : 4 ≤ d) {m : (Nat → Nat → Int32)} {rv : Int32} {m1 : (Nat → Nat → Int32)} (h : F_Mo_fewest m = some (rv, m1)) : q_Ev (qXT Ln xs) d 151 (0, [some (.ref 58), none], [], qMM n m lm) (some (.int rv), qMM n m1 lm) := by
  unfold F_Mo_fewest at h
  refine q_ev_run 2 (S' := (4, [some (.ref 58), none], [.int (m 56 17)], qMM n m lm)) rfl ?_
  by_cases hc1 : m 56 17 = 0
  · rw [if_pos hc1] at h
    refine q_ev_brT hc1 (a := 7) (b := 11) rfl ?_
    refine q_ev_run 3 (S' := (13, [some (.ref 58), some (.int 0)], [], qMM n m lm)) rfl ?_
    obtain ⟨⟨y2, m3⟩, hl4, h⟩ := Option.bind_eq_some_iff.mp h
    try dsimp only at h
    refine TL_Mo_fewest_13 (by first | omega | decide) _ m 0 _ _ hl4 ?_
    refine q_ev_run 1 (S' := (28, [some (.ref 58), some (.int y2)], [.int y2], qMM n m3 lm)) rfl ?_
    have h_z0 := Option.some.inj h
    obtain ⟨h_0, h_z1⟩ := Prod.mk.inj h_z0
    subst h_0
    subst h_z1
    exact q_ev_ret rfl rfl
  · rw [if_neg hc1] at h
    refine q_ev_brF hc1 (a := 7) (b := 11) rfl ?_
    refine q_ev_run 2 (S' := (13, [some (.ref 58), some (.int 1)], [], qMM n m lm)) rfl ?_
    obtain ⟨⟨y5, m6⟩, hl7, h⟩ := Option.bind_eq_some_iff.mp h
    try dsimp only at h
    refine TL_Mo_fewest_13 (by first | omega | decide) _ m 1 _ _ hl7 ?_
    refine q_ev_run 1 (S' := (28, [some (.ref 58), some (.int y5)], [.int y5], qMM n m6 lm)) rfl ?_
    have h_z0 := Option.some.inj h
    obtain ⟨h_0, h_z1⟩ := Prod.mk.inj h_z0
    subst h_0
    subst h_z1
    exact q_ev_ret rfl rfl
noncomputable def F_Mo_needed (m : (Nat → Nat → Int32)) (a1 : Int32) : Option (Int32 × (Nat → Nat → Int32)) :=
  if a1 = (Int32.ofInt (-1)) then
    Option.bind (F_Mo_lays m) (fun m2 =>
      Option.bind (F_Mo_fewest m2) (fun (r4, m5) =>
        if a1 = (Int32.ofInt (-1)) then
          some (r4, m5)
        else
          cond (q_in a1 8) (some (m5 67 a1.toNatClampNeg, m5)) none))
  else
    Option.bind (F_Mo_isPoint m a1) (fun r9 =>
      if r9 = 0 then
        some ((Int32.ofInt (-1)), m)
      else
        Option.bind (F_Mo_lays m) (fun m12 =>
          Option.bind (F_Mo_fewest m12) (fun (r14, m15) =>
            if a1 = (Int32.ofInt (-1)) then
              some (r14, m15)
            else
              cond (q_in a1 8) (some (m15 67 a1.toNatClampNeg, m15)) none)))
theorem T_Mo_needed {Ln : Nat} {xs : Nat → Int32} {n : (Nat → Nat → Int32)} {lm : Nat → Int64} {d : Nat} (hd : 5 ≤ d) {m : (Nat → Nat → Int32)} {a1 : Int32} {rv : Int32} {m1 : (Nat → Nat → Int32)} (h : F_Mo_needed m a1 = some (rv, m1)) : q_Ev (qXT Ln xs) d 152 (0, [some (.ref 58), some (.int a1), none], [], qMM n m lm) (some (.int rv), qMM n m1 lm) := by
  unfold F_Mo_needed at h
  refine q_ev_run 2 (S' := (2, [some (.ref 58), some (.int a1), none], [.int (Int32.ofInt (-1)), .int a1], qMM n m lm)) rfl ?_
  by_cases hc1 : a1 = (Int32.ofInt (-1))
  · rw [if_pos hc1] at h
    refine q_ev_brT hc1 (a := 15) (b := 5) rfl ?_
    refine q_ev_run 1 (S' := (16, [some (.ref 58), some (.int a1), none], [.ref 58], qMM n m lm)) rfl ?_
    obtain ⟨m2, hf3, h⟩ := Option.bind_eq_some_iff.mp h
    try dsimp only at h
    refine q_ev_call (S' := (19, [some (.ref 58), some (.int a1), none], [], qMM n m lm)) rfl (by omega) (T_Mo_lays (by first | omega | decide) hf3) ?_
    refine q_ev_eq (S' := (19, [some (.ref 58), some (.int a1), none], [], qMM n m2 lm)) rfl ?_
    refine q_ev_run 1 (S' := (20, [some (.ref 58), some (.int a1), none], [.ref 58], qMM n m2 lm)) rfl ?_
    obtain ⟨⟨r4, m5⟩, hf6, h⟩ := Option.bind_eq_some_iff.mp h
    try dsimp only at h
    refine q_ev_call (S' := (23, [some (.ref 58), some (.int a1), none], [], qMM n m2 lm)) rfl (by omega) (T_Mo_fewest (by first | omega | decide) hf6) ?_
    refine q_ev_eq (S' := (23, [some (.ref 58), some (.int a1), none], [.int r4], qMM n m5 lm)) rfl ?_
    refine q_ev_run 3 (S' := (26, [some (.ref 58), some (.int a1), some (.int r4)], [.int (Int32.ofInt (-1)), .int a1], qMM n m5 lm)) rfl ?_
    by_cases hc7 : a1 = (Int32.ofInt (-1))
    · rw [if_pos hc7] at h
      refine q_ev_brT hc7 (a := 29) (b := 33) rfl ?_
      refine q_ev_run 2 (S' := (39, [some (.ref 58), some (.int a1), some (.int r4)], [.int r4], qMM n m5 lm)) rfl ?_
      have h_z0 := Option.some.inj h
      obtain ⟨h_0, h_z1⟩ := Prod.mk.inj h_z0
      subst h_0
      subst h_z1
      exact q_ev_ret rfl rfl
    · rw [if_neg hc7] at h
      refine q_ev_brF hc7 (a := 29) (b := 33) rfl ?_
      refine q_ev_run 3 (S' := (38, [some (.ref 58), some (.int a1), some (.int r4)], [.int a1, .ref 69], qMM n m5 lm)) rfl ?_
      obtain ⟨hb8, h⟩ := q_cd h
      refine q_ev_chk (b := q_in a1 8) hb8 (S' := (39, [some (.ref 58), some (.int a1), some (.int r4)], [.int (m5 67 a1.toNatClampNeg)], qMM n m5 lm)) rfl ?_
      have h_z0 := Option.some.inj h
      obtain ⟨h_0, h_z1⟩ := Prod.mk.inj h_z0
      subst h_0
      subst h_z1
      exact q_ev_ret rfl rfl
  · rw [if_neg hc1] at h
    refine q_ev_brF hc1 (a := 15) (b := 5) rfl ?_
    refine q_ev_run 2 (S' := (7, [some (.ref 58), some (.int a1), none], [.int a1, .ref 58], qMM n m lm)) rfl ?_
    obtain ⟨r9, hf10, h⟩ := Option.bind_eq_some_iff.mp h
    try dsimp only at h
    refine q_ev_call (S' := (10, [some (.ref 58), some (.int a1), none], [], qMM n m lm)) rfl (by omega) (T_Mo_isPoint (by first | omega | decide) hf10) ?_
    refine q_ev_eq (S' := (10, [some (.ref 58), some (.int a1), none], [.int r9], qMM n m lm)) rfl ?_
    by_cases hc11 : r9 = 0
    · rw [if_pos hc11] at h
      refine q_ev_brT hc11 (a := 13) (b := 15) rfl ?_
      refine q_ev_run 1 (S' := (14, [some (.ref 58), some (.int a1), none], [.int (Int32.ofInt (-1))], qMM n m lm)) rfl ?_
      have h_z0 := Option.some.inj h
      obtain ⟨h_0, h_z1⟩ := Prod.mk.inj h_z0
      subst h_0
      subst h_z1
      exact q_ev_ret rfl rfl
    · rw [if_neg hc11] at h
      refine q_ev_brF hc11 (a := 13) (b := 15) rfl ?_
      refine q_ev_run 1 (S' := (16, [some (.ref 58), some (.int a1), none], [.ref 58], qMM n m lm)) rfl ?_
      obtain ⟨m12, hf13, h⟩ := Option.bind_eq_some_iff.mp h
      try dsimp only at h
      refine q_ev_call (S' := (19, [some (.ref 58), some (.int a1), none], [], qMM n m lm)) rfl (by omega) (T_Mo_lays (by first | omega | decide) hf13) ?_
      refine q_ev_eq (S' := (19, [some (.ref 58), some (.int a1), none], [], qMM n m12 lm)) rfl ?_
      refine q_ev_run 1 (S' := (20, [some (.ref 58), some (.int a1), none], [.ref 58], qMM n m12 lm)) rfl ?_
      obtain ⟨⟨r14, m15⟩, hf16, h⟩ := Option.bind_eq_some_iff.mp h
      try dsimp only at h
      refine q_ev_call (S' := (23, [some (.ref 58), some (.int a1), none], [], qMM n m12 lm)) rfl (by omega) (T_Mo_fewest (by first | omega | decide) hf16) ?_
      refine q_ev_eq (S' := (23, [some (.ref 58), some (.int a1), none], [.int r14], qMM n m15 lm)) rfl ?_
      refine q_ev_run 3 (S' := (26, [some (.ref 58), some (.int a1), some (.int r14)], [.int (Int32.ofInt (-1)), .int a1], qMM n m15 lm)) rfl ?_
      by_cases hc17 : a1 = (Int32.ofInt (-1))
      · rw [if_pos hc17] at h
        refine q_ev_brT hc17 (a := 29) (b := 33) rfl ?_
        refine q_ev_run 2 (S' := (39, [some (.ref 58), some (.int a1), some (.int r14)], [.int r14], qMM n m15 lm)) rfl ?_
        have h_z0 := Option.some.inj h
        obtain ⟨h_0, h_z1⟩ := Prod.mk.inj h_z0
        subst h_0
        subst h_z1
        exact q_ev_ret rfl rfl
      · rw [if_neg hc17] at h
        refine q_ev_brF hc17 (a := 29) (b := 33) rfl ?_
        refine q_ev_run 3 (S' := (38, [some (.ref 58), some (.int a1), some (.int r14)], [.int a1, .ref 69], qMM n m15 lm)) rfl ?_
        obtain ⟨hb18, h⟩ := q_cd h
        refine q_ev_chk (b := q_in a1 8) hb18 (S' := (39, [some (.ref 58), some (.int a1), some (.int r14)], [.int (m15 67 a1.toNatClampNeg)], qMM n m15 lm)) rfl ?_
        have h_z0 := Option.some.inj h
        obtain ⟨h_0, h_z1⟩ := Prod.mk.inj h_z0
        subst h_0
        subst h_z1
        exact q_ev_ret rfl rfl
noncomputable def FL_Ru_stepTo_46_9_78 : Nat → (Nat → Nat → Int32) → Int32 → Int32 → Int32 → Int32 → Option (Int32)
  | 0, _, _, _, _, _ => none
  | fu + 1, m, x2, x4, x5, x6 =>
    if m 46 0 ≤ x6 then
      some (x5)
    else
      cond (q_in x6 8) (
        Option.bind (F_La_wayBetween_9 m (m 47 x6.toNatClampNeg) x2) (fun r3 =>
          if r3 = (Int32.ofInt (-9)) then
            FL_Ru_stepTo_46_9_78 fu m x2 x4 x5 (x6 + 1)
          else
            cond (q_in x6 8) (
              if (x4 - m 48 x6.toNatClampNeg) < r3 then
                FL_Ru_stepTo_46_9_78 fu m x2 x4 x5 (x6 + 1)
              else
                FL_Ru_stepTo_46_9_78 fu m x2 x4 (x5 ||| ((1 : Int32) <<< (x6 &&& 31))) (x6 + 1)
             ) none)
       ) none
theorem TL_Ru_stepTo_46_9_78 {Ln : Nat} {xs : Nat → Int32} {n : (Nat → Nat → Int32)} {lm : Nat → Int64} {d : Nat} (hd : 2 ≤ d) {r : Option Value × qM} : ∀ (fu : Nat) (m : (Nat → Nat → Int32)) (x2 : Int32) (x4 : Int32) (x5 : Int32) (x6 : Int32) (w3 : Option Value) (w7 : Option Value) (y5 : Int32), FL_Ru_stepTo_46_9_78 fu m x2 x4 x5 x6 = some y5 → (∀ (u3 u6 u7 : Option Value), q_Ev (qXT Ln xs) d 57 (138, [some (.ref 48), some (.ref 11), some (.int x2), u3, some (.int x4), some (.int y5), u6, u7], [], qMM m n lm) r) → q_Ev (qXT Ln xs) d 57 (78, [some (.ref 48), some (.ref 11), some (.int x2), w3, some (.int x4), some (.int x5), some (.int x6), w7], [], qMM m n lm) r := by
  intro fu
  induction fu with
  | zero => intro m x2 x4 x5 x6 w3 w7 y5 h hk; cases h
  | succ fu ih =>
    intro m x2 x4 x5 x6 w3 w7 y5 h hk
    rw [FL_Ru_stepTo_46_9_78] at h
    refine q_ev_run 3 (S' := (84, [some (.ref 48), some (.ref 11), some (.int x2), w3, some (.int x4), some (.int x5), some (.int x6), w7], [.int (m 46 0), .int x6], qMM m n lm)) rfl ?_
    by_cases hc1 : m 46 0 ≤ x6
    · rw [if_pos hc1] at h
      refine q_ev_brT hc1 (a := 138) (b := 87) rfl ?_
      have h_z0 := Option.some.inj h
      subst h_z0
      exact hk (w3) (some (.int x6)) (w7)
    · rw [if_neg hc1] at h
      refine q_ev_brF hc1 (a := 138) (b := 87) rfl ?_
      refine q_ev_run 4 (S' := (94, [some (.ref 48), some (.ref 11), some (.int x2), w3, some (.int x4), some (.int x5), some (.int x6), w7], [.int x6, .ref 49, .ref 11], qMM m n lm)) rfl ?_
      obtain ⟨hb2, h⟩ := q_cd h
      refine q_ev_chk (b := q_in x6 8) hb2 (S' := (95, [some (.ref 48), some (.ref 11), some (.int x2), w3, some (.int x4), some (.int x5), some (.int x6), w7], [.int (m 47 x6.toNatClampNeg), .ref 11], qMM m n lm)) rfl ?_
      refine q_ev_run 1 (S' := (96, [some (.ref 48), some (.ref 11), some (.int x2), w3, some (.int x4), some (.int x5), some (.int x6), w7], [.int x2, .int (m 47 x6.toNatClampNeg), .ref 11], qMM m n lm)) rfl ?_
      obtain ⟨r3, hf4, h⟩ := Option.bind_eq_some_iff.mp h
      try dsimp only at h
      refine q_ev_call (S' := (99, [some (.ref 48), some (.ref 11), some (.int x2), w3, some (.int x4), some (.int x5), some (.int x6), w7], [], qMM m n lm)) rfl (by omega) (T_La_wayBetween_9 (by first | omega | decide) hf4) ?_
      refine q_ev_eq (S' := (99, [some (.ref 48), some (.ref 11), some (.int x2), w3, some (.int x4), some (.int x5), some (.int x6), w7], [.int r3], qMM m n lm)) rfl ?_
      refine q_ev_run 3 (S' := (105, [some (.ref 48), some (.ref 11), some (.int x2), w3, some (.int x4), some (.int x5), some (.int x6), some (.int r3)], [.int (Int32.ofInt (-9)), .int r3], qMM m n lm)) rfl ?_
      by_cases hc5 : r3 = (Int32.ofInt (-9))
      · rw [if_pos hc5] at h
        refine q_ev_brT hc5 (a := 132) (b := 108) rfl ?_
        refine q_ev_run 2 (S' := (78, [some (.ref 48), some (.ref 11), some (.int x2), w3, some (.int x4), some (.int x5), some (.int (x6 + 1)), some (.int r3)], [], qMM m n lm)) rfl ?_
        exact ih m x2 x4 x5 (x6 + 1) (w3) (some (.int r3)) _ h hk
      · rw [if_neg hc5] at h
        refine q_ev_brF hc5 (a := 132) (b := 108) rfl ?_
        refine q_ev_run 5 (S' := (118, [some (.ref 48), some (.ref 11), some (.int x2), w3, some (.int x4), some (.int x5), some (.int x6), some (.int r3)], [.int x6, .ref 50, .int x4, .int r3], qMM m n lm)) rfl ?_
        obtain ⟨hb6, h⟩ := q_cd h
        refine q_ev_chk (b := q_in x6 8) hb6 (S' := (119, [some (.ref 48), some (.ref 11), some (.int x2), w3, some (.int x4), some (.int x5), some (.int x6), some (.int r3)], [.int (m 48 x6.toNatClampNeg), .int x4, .int r3], qMM m n lm)) rfl ?_
        refine q_ev_run 1 (S' := (120, [some (.ref 48), some (.ref 11), some (.int x2), w3, some (.int x4), some (.int x5), some (.int x6), some (.int r3)], [.int (x4 - m 48 x6.toNatClampNeg), .int r3], qMM m n lm)) rfl ?_
        by_cases hc7 : (x4 - m 48 x6.toNatClampNeg) < r3
        · rw [if_pos hc7] at h
          refine q_ev_brT hc7 (a := 132) (b := 123) rfl ?_
          refine q_ev_run 2 (S' := (78, [some (.ref 48), some (.ref 11), some (.int x2), w3, some (.int x4), some (.int x5), some (.int (x6 + 1)), some (.int r3)], [], qMM m n lm)) rfl ?_
          exact ih m x2 x4 x5 (x6 + 1) (w3) (some (.int r3)) _ h hk
        · rw [if_neg hc7] at h
          refine q_ev_brF hc7 (a := 132) (b := 123) rfl ?_
          refine q_ev_run 8 (S' := (78, [some (.ref 48), some (.ref 11), some (.int x2), w3, some (.int x4), some (.int (x5 ||| ((1 : Int32) <<< (x6 &&& 31)))), some (.int (x6 + 1)), some (.int r3)], [], qMM m n lm)) rfl ?_
          exact ih m x2 x4 (x5 ||| ((1 : Int32) <<< (x6 &&& 31))) (x6 + 1) (w3) (some (.int r3)) _ h hk
noncomputable def F_Ru_stepTo_46_9 (m : (Nat → Nat → Int32)) (a2 : Int32) (a3 : Int32) : Option ((Nat → Nat → Int32)) :=
  if m 46 0 < 8 then
    if m 46 0 ≤ 0 then
      Option.bind (FL_Ru_stepTo_46_9_78 qFU m a2 0 0 0) (fun y4 =>
        cond (q_in (m 46 0) 8) (cond (q_in (m 46 0) 8) (cond (q_in (m 46 0) 8) (some ((q_w (q_w (q_w (q_w m 47 (m 46 0).toNatClampNeg a2) 48 (m 46 0).toNatClampNeg 0) 49 (m 46 0).toNatClampNeg y4) 46 0 (m 46 0 + 1)))) none) none) none)
    else
      cond (q_in (m 46 0 - 1) 8) (
        Option.bind (F_La_furrowBetween_9 m (m 47 ((m 46 0 - 1)).toNatClampNeg) a2) (fun r12 =>
          cond (q_in (m 46 0 - 1) 8) (
            Option.bind (FL_Ru_stepTo_46_9_78 qFU m a2 (((m 48 ((m 46 0 - 1)).toNatClampNeg + a3) + r12) + (m 9 4 * (m 46 0 - 1))) 0 0) (fun y16 =>
              cond (q_in (m 46 0) 8) (cond (q_in (m 46 0) 8) (cond (q_in (m 46 0) 8) (some ((q_w (q_w (q_w (q_w m 47 (m 46 0).toNatClampNeg a2) 48 (m 46 0).toNatClampNeg (((m 48 ((m 46 0 - 1)).toNatClampNeg + a3) + r12) + (m 9 4 * (m 46 0 - 1)))) 49 (m 46 0).toNatClampNeg y16) 46 0 (m 46 0 + 1)))) none) none) none)
           ) none)
       ) none
  else
    some (m)
theorem T_Ru_stepTo_46_9 {Ln : Nat} {xs : Nat → Int32} {n : (Nat → Nat → Int32)} {lm : Nat → Int64} {d : Nat} (hd : 2 ≤ d) {m : (Nat → Nat → Int32)} {a2 : Int32} {a3 : Int32} {m1 : (Nat → Nat → Int32)} (h : F_Ru_stepTo_46_9 m a2 a3 = some m1) : q_Ev (qXT Ln xs) d 57 (0, [some (.ref 48), some (.ref 11), some (.int a2), some (.int a3), none, none, none, none], [], qMM m n lm) (none, qMM m1 n lm) := by
  unfold F_Ru_stepTo_46_9 at h
  refine q_ev_run 3 (S' := (6, [some (.ref 48), some (.ref 11), some (.int a2), some (.int a3), none, none, none, none], [.int 8, .int (m 46 0)], qMM m n lm)) rfl ?_
  by_cases hc1 : m 46 0 < 8
  · rw [if_pos hc1] at h
    refine q_ev_brT hc1 (a := 10) (b := 9) rfl ?_
    refine q_ev_run 4 (S' := (17, [some (.ref 48), some (.ref 11), some (.int a2), some (.int a3), some (.int 0), none, none, none], [.int (m 46 0)], qMM m n lm)) rfl ?_
    by_cases hc2 : m 46 0 ≤ 0
    · rw [if_pos hc2] at h
      refine q_ev_brT hc2 (a := 72) (b := 20) rfl ?_
      refine q_ev_run 4 (S' := (78, [some (.ref 48), some (.ref 11), some (.int a2), some (.int a3), some (.int 0), some (.int 0), some (.int 0), none], [], qMM m n lm)) rfl ?_
      obtain ⟨y4, hl7, h⟩ := Option.bind_eq_some_iff.mp h
      try dsimp only at h
      refine TL_Ru_stepTo_46_9_78 (by first | omega | decide) _ m a2 0 0 0 (some (.int a3)) (none) _ hl7 (fun w3 w5 w6 => ?_)
      refine q_ev_run 5 (S' := (147, [some (.ref 48), some (.ref 11), some (.int a2), w3, some (.int 0), some (.int y4), w5, w6], [.int a2, .int (m 46 0), .ref 49], qMM m n lm)) rfl ?_
      obtain ⟨hb8, h⟩ := q_cd h
      refine q_ev_chk (b := q_in (m 46 0) 8) hb8 (S' := (148, [some (.ref 48), some (.ref 11), some (.int a2), w3, some (.int 0), some (.int y4), w5, w6], [], qMM (q_w m 47 (m 46 0).toNatClampNeg a2) n lm)) rfl ?_
      refine q_ev_run 5 (S' := (158, [some (.ref 48), some (.ref 11), some (.int a2), w3, some (.int 0), some (.int y4), w5, w6], [.int 0, .int (m 46 0), .ref 50], qMM (q_w m 47 (m 46 0).toNatClampNeg a2) n lm)) rfl ?_
      obtain ⟨hb9, h⟩ := q_cd h
      refine q_ev_chk (b := q_in (m 46 0) 8) hb9 (S' := (159, [some (.ref 48), some (.ref 11), some (.int a2), w3, some (.int 0), some (.int y4), w5, w6], [], qMM (q_w (q_w m 47 (m 46 0).toNatClampNeg a2) 48 (m 46 0).toNatClampNeg 0) n lm)) rfl ?_
      refine q_ev_run 5 (S' := (169, [some (.ref 48), some (.ref 11), some (.int a2), w3, some (.int 0), some (.int y4), w5, w6], [.int y4, .int (m 46 0), .ref 51], qMM (q_w (q_w m 47 (m 46 0).toNatClampNeg a2) 48 (m 46 0).toNatClampNeg 0) n lm)) rfl ?_
      obtain ⟨hb10, h⟩ := q_cd h
      refine q_ev_chk (b := q_in (m 46 0) 8) hb10 (S' := (170, [some (.ref 48), some (.ref 11), some (.int a2), w3, some (.int 0), some (.int y4), w5, w6], [], qMM (q_w (q_w (q_w m 47 (m 46 0).toNatClampNeg a2) 48 (m 46 0).toNatClampNeg 0) 49 (m 46 0).toNatClampNeg y4) n lm)) rfl ?_
      refine q_ev_run 6 (S' := (180, [some (.ref 48), some (.ref 11), some (.int a2), w3, some (.int 0), some (.int y4), w5, w6], [], qMM (q_w (q_w (q_w (q_w m 47 (m 46 0).toNatClampNeg a2) 48 (m 46 0).toNatClampNeg 0) 49 (m 46 0).toNatClampNeg y4) 46 0 (m 46 0 + 1)) n lm)) rfl ?_
      have h_z0 := Option.some.inj h
      subst h_z0
      exact q_ev_ret rfl rfl
    · rw [if_neg hc2] at h
      refine q_ev_brF hc2 (a := 72) (b := 20) rfl ?_
      refine q_ev_run 12 (S' := (39, [some (.ref 48), some (.ref 11), some (.int a2), some (.int a3), some (.int 0), some (.int (m 46 0 - 1)), none, none], [.int (m 46 0 - 1), .ref 49, .ref 11], qMM m n lm)) rfl ?_
      obtain ⟨hb11, h⟩ := q_cd h
      refine q_ev_chk (b := q_in (m 46 0 - 1) 8) hb11 (S' := (40, [some (.ref 48), some (.ref 11), some (.int a2), some (.int a3), some (.int 0), some (.int (m 46 0 - 1)), none, none], [.int (m 47 ((m 46 0 - 1)).toNatClampNeg), .ref 11], qMM m n lm)) rfl ?_
      refine q_ev_run 1 (S' := (41, [some (.ref 48), some (.ref 11), some (.int a2), some (.int a3), some (.int 0), some (.int (m 46 0 - 1)), none, none], [.int a2, .int (m 47 ((m 46 0 - 1)).toNatClampNeg), .ref 11], qMM m n lm)) rfl ?_
      obtain ⟨r12, hf13, h⟩ := Option.bind_eq_some_iff.mp h
      try dsimp only at h
      refine q_ev_call (S' := (44, [some (.ref 48), some (.ref 11), some (.int a2), some (.int a3), some (.int 0), some (.int (m 46 0 - 1)), none, none], [], qMM m n lm)) rfl (by omega) (T_La_furrowBetween_9 (by first | omega | decide) hf13) ?_
      refine q_ev_eq (S' := (44, [some (.ref 48), some (.ref 11), some (.int a2), some (.int a3), some (.int 0), some (.int (m 46 0 - 1)), none, none], [.int r12], qMM m n lm)) rfl ?_
      refine q_ev_run 7 (S' := (56, [some (.ref 48), some (.ref 11), some (.int a2), some (.int a3), some (.int 0), some (.int (m 46 0 - 1)), some (.int r12), none], [.int (m 46 0 - 1), .ref 50], qMM m n lm)) rfl ?_
      obtain ⟨hb14, h⟩ := q_cd h
      refine q_ev_chk (b := q_in (m 46 0 - 1) 8) hb14 (S' := (57, [some (.ref 48), some (.ref 11), some (.int a2), some (.int a3), some (.int 0), some (.int (m 46 0 - 1)), some (.int r12), none], [.int (m 48 ((m 46 0 - 1)).toNatClampNeg)], qMM m n lm)) rfl ?_
      refine q_ev_run 14 (S' := (78, [some (.ref 48), some (.ref 11), some (.int a2), some (.int a3), some (.int (((m 48 ((m 46 0 - 1)).toNatClampNeg + a3) + r12) + (m 9 4 * (m 46 0 - 1)))), some (.int 0), some (.int 0), none], [], qMM m n lm)) rfl ?_
      obtain ⟨y16, hl19, h⟩ := Option.bind_eq_some_iff.mp h
      try dsimp only at h
      refine TL_Ru_stepTo_46_9_78 (by first | omega | decide) _ m a2 (((m 48 ((m 46 0 - 1)).toNatClampNeg + a3) + r12) + (m 9 4 * (m 46 0 - 1))) 0 0 (some (.int a3)) (none) _ hl19 (fun w15 w17 w18 => ?_)
      refine q_ev_run 5 (S' := (147, [some (.ref 48), some (.ref 11), some (.int a2), w15, some (.int (((m 48 ((m 46 0 - 1)).toNatClampNeg + a3) + r12) + (m 9 4 * (m 46 0 - 1)))), some (.int y16), w17, w18], [.int a2, .int (m 46 0), .ref 49], qMM m n lm)) rfl ?_
      obtain ⟨hb20, h⟩ := q_cd h
      refine q_ev_chk (b := q_in (m 46 0) 8) hb20 (S' := (148, [some (.ref 48), some (.ref 11), some (.int a2), w15, some (.int (((m 48 ((m 46 0 - 1)).toNatClampNeg + a3) + r12) + (m 9 4 * (m 46 0 - 1)))), some (.int y16), w17, w18], [], qMM (q_w m 47 (m 46 0).toNatClampNeg a2) n lm)) rfl ?_
      refine q_ev_run 5 (S' := (158, [some (.ref 48), some (.ref 11), some (.int a2), w15, some (.int (((m 48 ((m 46 0 - 1)).toNatClampNeg + a3) + r12) + (m 9 4 * (m 46 0 - 1)))), some (.int y16), w17, w18], [.int (((m 48 ((m 46 0 - 1)).toNatClampNeg + a3) + r12) + (m 9 4 * (m 46 0 - 1))), .int (m 46 0), .ref 50], qMM (q_w m 47 (m 46 0).toNatClampNeg a2) n lm)) rfl ?_
      obtain ⟨hb21, h⟩ := q_cd h
      refine q_ev_chk (b := q_in (m 46 0) 8) hb21 (S' := (159, [some (.ref 48), some (.ref 11), some (.int a2), w15, some (.int (((m 48 ((m 46 0 - 1)).toNatClampNeg + a3) + r12) + (m 9 4 * (m 46 0 - 1)))), some (.int y16), w17, w18], [], qMM (q_w (q_w m 47 (m 46 0).toNatClampNeg a2) 48 (m 46 0).toNatClampNeg (((m 48 ((m 46 0 - 1)).toNatClampNeg + a3) + r12) + (m 9 4 * (m 46 0 - 1)))) n lm)) rfl ?_
      refine q_ev_run 5 (S' := (169, [some (.ref 48), some (.ref 11), some (.int a2), w15, some (.int (((m 48 ((m 46 0 - 1)).toNatClampNeg + a3) + r12) + (m 9 4 * (m 46 0 - 1)))), some (.int y16), w17, w18], [.int y16, .int (m 46 0), .ref 51], qMM (q_w (q_w m 47 (m 46 0).toNatClampNeg a2) 48 (m 46 0).toNatClampNeg (((m 48 ((m 46 0 - 1)).toNatClampNeg + a3) + r12) + (m 9 4 * (m 46 0 - 1)))) n lm)) rfl ?_
      obtain ⟨hb22, h⟩ := q_cd h
      refine q_ev_chk (b := q_in (m 46 0) 8) hb22 (S' := (170, [some (.ref 48), some (.ref 11), some (.int a2), w15, some (.int (((m 48 ((m 46 0 - 1)).toNatClampNeg + a3) + r12) + (m 9 4 * (m 46 0 - 1)))), some (.int y16), w17, w18], [], qMM (q_w (q_w (q_w m 47 (m 46 0).toNatClampNeg a2) 48 (m 46 0).toNatClampNeg (((m 48 ((m 46 0 - 1)).toNatClampNeg + a3) + r12) + (m 9 4 * (m 46 0 - 1)))) 49 (m 46 0).toNatClampNeg y16) n lm)) rfl ?_
      refine q_ev_run 6 (S' := (180, [some (.ref 48), some (.ref 11), some (.int a2), w15, some (.int (((m 48 ((m 46 0 - 1)).toNatClampNeg + a3) + r12) + (m 9 4 * (m 46 0 - 1)))), some (.int y16), w17, w18], [], qMM (q_w (q_w (q_w (q_w m 47 (m 46 0).toNatClampNeg a2) 48 (m 46 0).toNatClampNeg (((m 48 ((m 46 0 - 1)).toNatClampNeg + a3) + r12) + (m 9 4 * (m 46 0 - 1)))) 49 (m 46 0).toNatClampNeg y16) 46 0 (m 46 0 + 1)) n lm)) rfl ?_
      have h_z0 := Option.some.inj h
      subst h_z0
      exact q_ev_ret rfl rfl
  · rw [if_neg hc1] at h
    refine q_ev_brF hc1 (a := 10) (b := 9) rfl ?_
    have h_z0 := Option.some.inj h
    subst h_z0
    exact q_ev_ret rfl rfl
noncomputable def F_Ru_stepBack_46 (m : (Nat → Nat → Int32)) : Option ((Nat → Nat → Int32)) :=
  if m 46 0 ≤ 0 then
    some (m)
  else
    some ((q_w m 46 0 (m 46 0 - 1)))
theorem T_Ru_stepBack_46 {Ln : Nat} {xs : Nat → Int32} {n : (Nat → Nat → Int32)} {lm : Nat → Int64} {d : Nat} (hd : 0 ≤ d) {m : (Nat → Nat → Int32)} {m1 : (Nat → Nat → Int32)} (h : F_Ru_stepBack_46 m = some m1) : q_Ev (qXT Ln xs) d 58 (0, [some (.ref 48)], [], qMM m n lm) (none, qMM m1 n lm) := by
  unfold F_Ru_stepBack_46 at h
  refine q_ev_run 2 (S' := (4, [some (.ref 48)], [.int (m 46 0)], qMM m n lm)) rfl ?_
  by_cases hc1 : m 46 0 ≤ 0
  · rw [if_pos hc1] at h
    refine q_ev_brT hc1 (a := 17) (b := 7) rfl ?_
    have h_z0 := Option.some.inj h
    subst h_z0
    exact q_ev_ret rfl rfl
  · rw [if_neg hc1] at h
    refine q_ev_brF hc1 (a := 17) (b := 7) rfl ?_
    refine q_ev_run 6 (S' := (17, [some (.ref 48)], [], qMM (q_w m 46 0 (m 46 0 - 1)) n lm)) rfl ?_
    have h_z0 := Option.some.inj h
    subst h_z0
    exact q_ev_ret rfl rfl
noncomputable def FL_Wo_tryAll_45_9_41 (rec : (Nat → Nat → Int32) → Int32 → Option ((Nat → Nat → Int32))) : Nat → (Nat → Nat → Int32) → Int32 → Int32 → Int32 → Option ((Nat → Nat → Int32))
  | 0, _, _, _, _ => none
  | fu + 1, m, x2, x3, x4 =>
    if m 9 0 ≤ x4 then
      some (m)
    else
      Option.bind (F_La_furrowBetween_9 m x3 x4) (fun r2 =>
        if r2 ≤ 0 then
          FL_Wo_tryAll_45_9_41 rec fu m x2 x3 (x4 + 1)
        else
          Option.bind (F_Ru_stepTo_46_9 m x4 0) (fun m5 =>
            Option.bind (rec m5 (x2 - 1)) (fun m7 =>
              Option.bind (F_Ru_stepBack_46 m7) (fun m9 =>
                FL_Wo_tryAll_45_9_41 rec fu m9 x2 x3 (x4 + 1)))))
theorem TL_Wo_tryAll_45_9_41 {Ln : Nat} {xs : Nat → Int32} {n : (Nat → Nat → Int32)} {lm : Nat → Int64} {d : Nat} (hd : 3 ≤ d) {rec : (Nat → Nat → Int32) → Int32 → Option ((Nat → Nat → Int32))} (hrec : ∀ (m : (Nat → Nat → Int32)) (a2 : Int32) (m1 : (Nat → Nat → Int32)), rec m a2 = some m1 → q_Ev (qXT Ln xs) (d - 1) 65 (0, [some (.ref 47), some (.ref 11), some (.int a2), none, none], [], qMM m n lm) (none, qMM m1 n lm)) {r : Option Value × qM} : ∀ (fu : Nat) (m : (Nat → Nat → Int32)) (x2 : Int32) (x3 : Int32) (x4 : Int32)  (m1 : (Nat → Nat → Int32)), FL_Wo_tryAll_45_9_41 rec fu m x2 x3 x4 = some m1 → (∀ (u4 : Option Value), q_Ev (qXT Ln xs) d 65 (92, [some (.ref 47), some (.ref 11), some (.int x2), some (.int x3), u4], [], qMM m1 n lm) r) → q_Ev (qXT Ln xs) d 65 (41, [some (.ref 47), some (.ref 11), some (.int x2), some (.int x3), some (.int x4)], [], qMM m n lm) r := by
  intro fu
  induction fu with
  | zero => intro m x2 x3 x4 m1 h hk; cases h
  | succ fu ih =>
    intro m x2 x3 x4 m1 h hk
    rw [FL_Wo_tryAll_45_9_41] at h
    refine q_ev_run 3 (S' := (47, [some (.ref 47), some (.ref 11), some (.int x2), some (.int x3), some (.int x4)], [.int (m 9 0), .int x4], qMM m n lm)) rfl ?_
    by_cases hc1 : m 9 0 ≤ x4
    · rw [if_pos hc1] at h
      refine q_ev_brT hc1 (a := 92) (b := 50) rfl ?_
      have h_z0 := Option.some.inj h
      subst h_z0
      exact hk (some (.int x4))
    · rw [if_neg hc1] at h
      refine q_ev_brF hc1 (a := 92) (b := 50) rfl ?_
      refine q_ev_run 3 (S' := (54, [some (.ref 47), some (.ref 11), some (.int x2), some (.int x3), some (.int x4)], [.int x4, .int x3, .ref 11], qMM m n lm)) rfl ?_
      obtain ⟨r2, hf3, h⟩ := Option.bind_eq_some_iff.mp h
      try dsimp only at h
      refine q_ev_call (S' := (57, [some (.ref 47), some (.ref 11), some (.int x2), some (.int x3), some (.int x4)], [], qMM m n lm)) rfl (by omega) (T_La_furrowBetween_9 (by first | omega | decide) hf3) ?_
      refine q_ev_eq (S' := (57, [some (.ref 47), some (.ref 11), some (.int x2), some (.int x3), some (.int x4)], [.int r2], qMM m n lm)) rfl ?_
      by_cases hc4 : r2 ≤ 0
      · rw [if_pos hc4] at h
        refine q_ev_brT hc4 (a := 86) (b := 60) rfl ?_
        refine q_ev_run 2 (S' := (41, [some (.ref 47), some (.ref 11), some (.int x2), some (.int x3), some (.int (x4 + 1))], [], qMM m n lm)) rfl ?_
        exact ih m x2 x3 (x4 + 1) _ h hk
      · rw [if_neg hc4] at h
        refine q_ev_brF hc4 (a := 86) (b := 60) rfl ?_
        refine q_ev_run 5 (S' := (68, [some (.ref 47), some (.ref 11), some (.int x2), some (.int x3), some (.int x4)], [.int 0, .int x4, .ref 11, .ref 48], qMM m n lm)) rfl ?_
        obtain ⟨m5, hf6, h⟩ := Option.bind_eq_some_iff.mp h
        try dsimp only at h
        refine q_ev_call (S' := (71, [some (.ref 47), some (.ref 11), some (.int x2), some (.int x3), some (.int x4)], [], qMM m n lm)) rfl (by omega) (T_Ru_stepTo_46_9 (by first | omega | decide) hf6) ?_
        refine q_ev_eq (S' := (71, [some (.ref 47), some (.ref 11), some (.int x2), some (.int x3), some (.int x4)], [], qMM m5 n lm)) rfl ?_
        refine q_ev_run 5 (S' := (76, [some (.ref 47), some (.ref 11), some (.int x2), some (.int x3), some (.int x4)], [.int (x2 - 1), .ref 11, .ref 47], qMM m5 n lm)) rfl ?_
        obtain ⟨m7, hf8, h⟩ := Option.bind_eq_some_iff.mp h
        try dsimp only at h
        refine q_ev_call (S' := (79, [some (.ref 47), some (.ref 11), some (.int x2), some (.int x3), some (.int x4)], [], qMM m5 n lm)) rfl (by omega) (hrec _ _ _ hf8) ?_
        refine q_ev_eq (S' := (79, [some (.ref 47), some (.ref 11), some (.int x2), some (.int x3), some (.int x4)], [], qMM m7 n lm)) rfl ?_
        refine q_ev_run 2 (S' := (83, [some (.ref 47), some (.ref 11), some (.int x2), some (.int x3), some (.int x4)], [.ref 48], qMM m7 n lm)) rfl ?_
        obtain ⟨m9, hf10, h⟩ := Option.bind_eq_some_iff.mp h
        try dsimp only at h
        refine q_ev_call (S' := (86, [some (.ref 47), some (.ref 11), some (.int x2), some (.int x3), some (.int x4)], [], qMM m7 n lm)) rfl (by omega) (T_Ru_stepBack_46 (by first | omega | decide) hf10) ?_
        refine q_ev_eq (S' := (86, [some (.ref 47), some (.ref 11), some (.int x2), some (.int x3), some (.int x4)], [], qMM m9 n lm)) rfl ?_
        refine q_ev_run 2 (S' := (41, [some (.ref 47), some (.ref 11), some (.int x2), some (.int x3), some (.int (x4 + 1))], [], qMM m9 n lm)) rfl ?_
        exact ih m9 x2 x3 (x4 + 1) _ h hk
