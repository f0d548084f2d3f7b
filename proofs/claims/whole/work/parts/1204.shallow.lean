noncomputable def F_Mo_readsNumber (m : (Nat → Nat → Int32)) (a1 : Int32) (a2 : Int32) (a3 : Int32) : Option (Int32 × (Nat → Nat → Int32)) :=
  Option.bind (F_Mo_token m) (fun m1 =>
    Option.bind (F_Mo_isNumber m1 a2 a3) (fun r3 =>
      if r3 = 0 then
        some (0, m1)
      else
        cond (q_in a1 93) (
          Option.bind (F_Mo_token (q_w m1 59 a1.toNatClampNeg (m1 56 14))) (fun m7 =>
            some (1, m7))
         ) none))
theorem T_Mo_readsNumber {Ln : Nat} {xs : Nat → Int32} {n : (Nat → Nat → Int32)} {lm : Nat → Int64} {d : Nat} (hd : 3 ≤ d) {m : (Nat → Nat → Int32)} {a1 : Int32} {a2 : Int32} {a3 : Int32} {rv : Int32} {m1 : (Nat → Nat → Int32)} (h : F_Mo_readsNumber m a1 a2 a3 = some (rv, m1)) : q_Ev (qXT Ln xs) d 119 (0, [some (.ref 58), some (.int a1), some (.int a2), some (.int a3)], [], qMM n m lm) (some (.int rv), qMM n m1 lm) := by
  unfold F_Mo_readsNumber at h
  refine q_ev_run 1 (S' := (1, [some (.ref 58), some (.int a1), some (.int a2), some (.int a3)], [.ref 58], qMM n m lm)) rfl ?_
  obtain ⟨m1, hf2, h⟩ := Option.bind_eq_some_iff.mp h
  try dsimp only at h
  refine q_ev_call (S' := (4, [some (.ref 58), some (.int a1), some (.int a2), some (.int a3)], [], qMM n m lm)) rfl (by omega) (T_Mo_token (by first | omega | decide) hf2) ?_
  refine q_ev_eq (S' := (4, [some (.ref 58), some (.int a1), some (.int a2), some (.int a3)], [], qMM n m1 lm)) rfl ?_
  refine q_ev_run 3 (S' := (7, [some (.ref 58), some (.int a1), some (.int a2), some (.int a3)], [.int a3, .int a2, .ref 58], qMM n m1 lm)) rfl ?_
  obtain ⟨r3, hf4, h⟩ := Option.bind_eq_some_iff.mp h
  try dsimp only at h
  refine q_ev_call (S' := (10, [some (.ref 58), some (.int a1), some (.int a2), some (.int a3)], [], qMM n m1 lm)) rfl (by omega) (T_Mo_isNumber (by first | omega | decide) hf4) ?_
  refine q_ev_eq (S' := (10, [some (.ref 58), some (.int a1), some (.int a2), some (.int a3)], [.int r3], qMM n m1 lm)) rfl ?_
  by_cases hc5 : r3 = 0
  · rw [if_pos hc5] at h
    refine q_ev_brT hc5 (a := 13) (b := 15) rfl ?_
    refine q_ev_run 1 (S' := (14, [some (.ref 58), some (.int a1), some (.int a2), some (.int a3)], [.int 0], qMM n m1 lm)) rfl ?_
    have h_z0 := Option.some.inj h
    obtain ⟨h_0, h_z1⟩ := Prod.mk.inj h_z0
    subst h_0
    subst h_z1
    exact q_ev_ret rfl rfl
  · rw [if_neg hc5] at h
    refine q_ev_brF hc5 (a := 13) (b := 15) rfl ?_
    refine q_ev_run 5 (S' := (24, [some (.ref 58), some (.int a1), some (.int a2), some (.int a3)], [.int (m1 56 14), .int a1, .ref 61], qMM n m1 lm)) rfl ?_
    obtain ⟨hb6, h⟩ := q_cd h
    refine q_ev_chk (b := q_in a1 93) hb6 (S' := (25, [some (.ref 58), some (.int a1), some (.int a2), some (.int a3)], [], qMM n (q_w m1 59 a1.toNatClampNeg (m1 56 14)) lm)) rfl ?_
    refine q_ev_run 1 (S' := (26, [some (.ref 58), some (.int a1), some (.int a2), some (.int a3)], [.ref 58], qMM n (q_w m1 59 a1.toNatClampNeg (m1 56 14)) lm)) rfl ?_
    obtain ⟨m7, hf8, h⟩ := Option.bind_eq_some_iff.mp h
    try dsimp only at h
    refine q_ev_call (S' := (29, [some (.ref 58), some (.int a1), some (.int a2), some (.int a3)], [], qMM n (q_w m1 59 a1.toNatClampNeg (m1 56 14)) lm)) rfl (by omega) (T_Mo_token (by first | omega | decide) hf8) ?_
    refine q_ev_eq (S' := (29, [some (.ref 58), some (.int a1), some (.int a2), some (.int a3)], [], qMM n m7 lm)) rfl ?_
    refine q_ev_run 1 (S' := (30, [some (.ref 58), some (.int a1), some (.int a2), some (.int a3)], [.int 1], qMM n m7 lm)) rfl ?_
    have h_z0 := Option.some.inj h
    obtain ⟨h_0, h_z1⟩ := Prod.mk.inj h_z0
    subst h_0
    subst h_z1
    exact q_ev_ret rfl rfl
noncomputable def F_Mo_readsHog (m : (Nat → Nat → Int32)) : Option (Int32 × (Nat → Nat → Int32)) :=
  if m 59 1 = 5 then
    some (0, m)
  else
    Option.bind (F_Mo_readsNumber m (8 + m 59 1) 0 15) (fun (r2, m3) =>
      if r2 = 0 then
        some (0, m3)
      else
        some (1, (q_w m3 59 1 (m3 59 1 + 1))))
theorem T_Mo_readsHog {Ln : Nat} {xs : Nat → Int32} {n : (Nat → Nat → Int32)} {lm : Nat → Int64} {d : Nat} (hd : 4 ≤ d) {m : (Nat → Nat → Int32)} {rv : Int32} {m1 : (Nat → Nat → Int32)} (h : F_Mo_readsHog m = some (rv, m1)) : q_Ev (qXT Ln xs) d 120 (0, [some (.ref 58)], [], qMM n m lm) (some (.int rv), qMM n m1 lm) := by
  unfold F_Mo_readsHog at h
  refine q_ev_run 5 (S' := (7, [some (.ref 58)], [.int 5, .int (m 59 1)], qMM n m lm)) rfl ?_
  by_cases hc1 : m 59 1 = 5
  · rw [if_pos hc1] at h
    refine q_ev_brT hc1 (a := 29) (b := 10) rfl ?_
    refine q_ev_run 1 (S' := (30, [some (.ref 58)], [.int 0], qMM n m lm)) rfl ?_
    have h_z0 := Option.some.inj h
    obtain ⟨h_0, h_z1⟩ := Prod.mk.inj h_z0
    subst h_0
    subst h_z1
    exact q_ev_ret rfl rfl
  · rw [if_neg hc1] at h
    refine q_ev_brF hc1 (a := 29) (b := 10) rfl ?_
    refine q_ev_run 9 (S' := (23, [some (.ref 58)], [.int 15, .int 0, .int (8 + m 59 1), .ref 58], qMM n m lm)) rfl ?_
    obtain ⟨⟨r2, m3⟩, hf4, h⟩ := Option.bind_eq_some_iff.mp h
    try dsimp only at h
    refine q_ev_call (S' := (26, [some (.ref 58)], [], qMM n m lm)) rfl (by omega) (T_Mo_readsNumber (by first | omega | decide) hf4) ?_
    refine q_ev_eq (S' := (26, [some (.ref 58)], [.int r2], qMM n m3 lm)) rfl ?_
    by_cases hc5 : r2 = 0
    · rw [if_pos hc5] at h
      refine q_ev_brT hc5 (a := 29) (b := 31) rfl ?_
      refine q_ev_run 1 (S' := (30, [some (.ref 58)], [.int 0], qMM n m3 lm)) rfl ?_
      have h_z0 := Option.some.inj h
      obtain ⟨h_0, h_z1⟩ := Prod.mk.inj h_z0
      subst h_0
      subst h_z1
      exact q_ev_ret rfl rfl
    · rw [if_neg hc5] at h
      refine q_ev_brF hc5 (a := 29) (b := 31) rfl ?_
      refine q_ev_run 9 (S' := (42, [some (.ref 58)], [.int 1], qMM n (q_w m3 59 1 (m3 59 1 + 1)) lm)) rfl ?_
      have h_z0 := Option.some.inj h
      obtain ⟨h_0, h_z1⟩ := Prod.mk.inj h_z0
      subst h_0
      subst h_z1
      exact q_ev_ret rfl rfl
noncomputable def F_Mo_readsSight (m : (Nat → Nat → Int32)) : Option (Int32 × (Nat → Nat → Int32)) :=
  Option.bind (F_Mo_readsTwo m) (fun (r1, m2) =>
    if r1 = (Int32.ofInt (-9)) then
      some (0, m2)
    else
      cond (q_in (85 + (r1 / 8)) 93) (
        cond (q_in (85 + (r1 / 8)) 93) (
          cond (q_in (85 + (r1 - r1 / 8 * 8)) 93) (
            cond (q_in (85 + (r1 - r1 / 8 * 8)) 93) (
              Option.bind (F_Mo_token (q_w (q_w m2 59 ((85 + (r1 / 8))).toNatClampNeg (m2 59 ((85 + (r1 / 8))).toNatClampNeg ||| ((1 : Int32) <<< ((r1 - r1 / 8 * 8) &&& 31)))) 59 ((85 + (r1 - r1 / 8 * 8))).toNatClampNeg ((q_w m2 59 ((85 + (r1 / 8))).toNatClampNeg (m2 59 ((85 + (r1 / 8))).toNatClampNeg ||| ((1 : Int32) <<< ((r1 - r1 / 8 * 8) &&& 31)))) 59 ((85 + (r1 - r1 / 8 * 8))).toNatClampNeg ||| ((1 : Int32) <<< ((r1 / 8) &&& 31))))) (fun m9 =>
                some (1, m9))
             ) none
           ) none
         ) none
       ) none)
theorem T_Mo_readsSight {Ln : Nat} {xs : Nat → Int32} {n : (Nat → Nat → Int32)} {lm : Nat → Int64} {d : Nat} (hd : 4 ≤ d) {m : (Nat → Nat → Int32)} {rv : Int32} {m1 : (Nat → Nat → Int32)} (h : F_Mo_readsSight m = some (rv, m1)) : q_Ev (qXT Ln xs) d 118 (0, [some (.ref 58), none], [], qMM n m lm) (some (.int rv), qMM n m1 lm) := by
  unfold F_Mo_readsSight at h
  refine q_ev_run 1 (S' := (1, [some (.ref 58), none], [.ref 58], qMM n m lm)) rfl ?_
  obtain ⟨⟨r1, m2⟩, hf3, h⟩ := Option.bind_eq_some_iff.mp h
  try dsimp only at h
  refine q_ev_call (S' := (4, [some (.ref 58), none], [], qMM n m lm)) rfl (by omega) (T_Mo_readsTwo (by first | omega | decide) hf3) ?_
  refine q_ev_eq (S' := (4, [some (.ref 58), none], [.int r1], qMM n m2 lm)) rfl ?_
  refine q_ev_run 3 (S' := (8, [some (.ref 58), some (.int r1)], [.int (Int32.ofInt (-9)), .int r1], qMM n m2 lm)) rfl ?_
  by_cases hc4 : r1 = (Int32.ofInt (-9))
  · rw [if_pos hc4] at h
    refine q_ev_brT hc4 (a := 11) (b := 13) rfl ?_
    refine q_ev_run 1 (S' := (12, [some (.ref 58), some (.int r1)], [.int 0], qMM n m2 lm)) rfl ?_
    have h_z0 := Option.some.inj h
    obtain ⟨h_0, h_z1⟩ := Prod.mk.inj h_z0
    subst h_0
    subst h_z1
    exact q_ev_ret rfl rfl
  · rw [if_neg hc4] at h
    refine q_ev_brF hc4 (a := 11) (b := 13) rfl ?_
    refine q_ev_run 8 (S' := (25, [some (.ref 58), some (.int r1)], [.int (85 + (r1 / 8)), .ref 61, .int (85 + (r1 / 8)), .ref 61], qMM n m2 lm)) rfl ?_
    obtain ⟨hb5, h⟩ := q_cd h
    refine q_ev_chk (b := q_in (85 + (r1 / 8)) 93) hb5 (S' := (26, [some (.ref 58), some (.int r1)], [.int (m2 59 ((85 + (r1 / 8))).toNatClampNeg), .int (85 + (r1 / 8)), .ref 61], qMM n m2 lm)) rfl ?_
    refine q_ev_run 6 (S' := (33, [some (.ref 58), some (.int r1)], [.int (m2 59 ((85 + (r1 / 8))).toNatClampNeg ||| ((1 : Int32) <<< ((r1 - r1 / 8 * 8) &&& 31))), .int (85 + (r1 / 8)), .ref 61], qMM n m2 lm)) rfl ?_
    obtain ⟨hb6, h⟩ := q_cd h
    refine q_ev_chk (b := q_in (85 + (r1 / 8)) 93) hb6 (S' := (34, [some (.ref 58), some (.int r1)], [], qMM n (q_w m2 59 ((85 + (r1 / 8))).toNatClampNeg (m2 59 ((85 + (r1 / 8))).toNatClampNeg ||| ((1 : Int32) <<< ((r1 - r1 / 8 * 8) &&& 31)))) lm)) rfl ?_
    refine q_ev_run 8 (S' := (46, [some (.ref 58), some (.int r1)], [.int (85 + (r1 - r1 / 8 * 8)), .ref 61, .int (85 + (r1 - r1 / 8 * 8)), .ref 61], qMM n (q_w m2 59 ((85 + (r1 / 8))).toNatClampNeg (m2 59 ((85 + (r1 / 8))).toNatClampNeg ||| ((1 : Int32) <<< ((r1 - r1 / 8 * 8) &&& 31)))) lm)) rfl ?_
    obtain ⟨hb7, h⟩ := q_cd h
    refine q_ev_chk (b := q_in (85 + (r1 - r1 / 8 * 8)) 93) hb7 (S' := (47, [some (.ref 58), some (.int r1)], [.int ((q_w m2 59 ((85 + (r1 / 8))).toNatClampNeg (m2 59 ((85 + (r1 / 8))).toNatClampNeg ||| ((1 : Int32) <<< ((r1 - r1 / 8 * 8) &&& 31)))) 59 ((85 + (r1 - r1 / 8 * 8))).toNatClampNeg), .int (85 + (r1 - r1 / 8 * 8)), .ref 61], qMM n (q_w m2 59 ((85 + (r1 / 8))).toNatClampNeg (m2 59 ((85 + (r1 / 8))).toNatClampNeg ||| ((1 : Int32) <<< ((r1 - r1 / 8 * 8) &&& 31)))) lm)) rfl ?_
    refine q_ev_run 6 (S' := (54, [some (.ref 58), some (.int r1)], [.int ((q_w m2 59 ((85 + (r1 / 8))).toNatClampNeg (m2 59 ((85 + (r1 / 8))).toNatClampNeg ||| ((1 : Int32) <<< ((r1 - r1 / 8 * 8) &&& 31)))) 59 ((85 + (r1 - r1 / 8 * 8))).toNatClampNeg ||| ((1 : Int32) <<< ((r1 / 8) &&& 31))), .int (85 + (r1 - r1 / 8 * 8)), .ref 61], qMM n (q_w m2 59 ((85 + (r1 / 8))).toNatClampNeg (m2 59 ((85 + (r1 / 8))).toNatClampNeg ||| ((1 : Int32) <<< ((r1 - r1 / 8 * 8) &&& 31)))) lm)) rfl ?_
    obtain ⟨hb8, h⟩ := q_cd h
    refine q_ev_chk (b := q_in (85 + (r1 - r1 / 8 * 8)) 93) hb8 (S' := (55, [some (.ref 58), some (.int r1)], [], qMM n (q_w (q_w m2 59 ((85 + (r1 / 8))).toNatClampNeg (m2 59 ((85 + (r1 / 8))).toNatClampNeg ||| ((1 : Int32) <<< ((r1 - r1 / 8 * 8) &&& 31)))) 59 ((85 + (r1 - r1 / 8 * 8))).toNatClampNeg ((q_w m2 59 ((85 + (r1 / 8))).toNatClampNeg (m2 59 ((85 + (r1 / 8))).toNatClampNeg ||| ((1 : Int32) <<< ((r1 - r1 / 8 * 8) &&& 31)))) 59 ((85 + (r1 - r1 / 8 * 8))).toNatClampNeg ||| ((1 : Int32) <<< ((r1 / 8) &&& 31)))) lm)) rfl ?_
    refine q_ev_run 1 (S' := (56, [some (.ref 58), some (.int r1)], [.ref 58], qMM n (q_w (q_w m2 59 ((85 + (r1 / 8))).toNatClampNeg (m2 59 ((85 + (r1 / 8))).toNatClampNeg ||| ((1 : Int32) <<< ((r1 - r1 / 8 * 8) &&& 31)))) 59 ((85 + (r1 - r1 / 8 * 8))).toNatClampNeg ((q_w m2 59 ((85 + (r1 / 8))).toNatClampNeg (m2 59 ((85 + (r1 / 8))).toNatClampNeg ||| ((1 : Int32) <<< ((r1 - r1 / 8 * 8) &&& 31)))) 59 ((85 + (r1 - r1 / 8 * 8))).toNatClampNeg ||| ((1 : Int32) <<< ((r1 / 8) &&& 31)))) lm)) rfl ?_
    obtain ⟨m9, hf10, h⟩ := Option.bind_eq_some_iff.mp h
    try dsimp only at h
    refine q_ev_call (S' := (59, [some (.ref 58), some (.int r1)], [], qMM n (q_w (q_w m2 59 ((85 + (r1 / 8))).toNatClampNeg (m2 59 ((85 + (r1 / 8))).toNatClampNeg ||| ((1 : Int32) <<< ((r1 - r1 / 8 * 8) &&& 31)))) 59 ((85 + (r1 - r1 / 8 * 8))).toNatClampNeg ((q_w m2 59 ((85 + (r1 / 8))).toNatClampNeg (m2 59 ((85 + (r1 / 8))).toNatClampNeg ||| ((1 : Int32) <<< ((r1 - r1 / 8 * 8) &&& 31)))) 59 ((85 + (r1 - r1 / 8 * 8))).toNatClampNeg ||| ((1 : Int32) <<< ((r1 / 8) &&& 31)))) lm)) rfl (by omega) (T_Mo_token (by first | omega | decide) hf10) ?_
    refine q_ev_eq (S' := (59, [some (.ref 58), some (.int r1)], [], qMM n m9 lm)) rfl ?_
    refine q_ev_run 1 (S' := (60, [some (.ref 58), some (.int r1)], [.int 1], qMM n m9 lm)) rfl ?_
    have h_z0 := Option.some.inj h
    obtain ⟨h_0, h_z1⟩ := Prod.mk.inj h_z0
    subst h_0
    subst h_z1
    exact q_ev_ret rfl rfl
noncomputable def F_Mo_readsItem (m : (Nat → Nat → Int32)) : Option (Int32 × (Nat → Nat → Int32)) :=
  if m 56 12 = 1 then
    if m 56 14 = 99 then
      Option.bind (F_Mo_isOnce m 3) (fun (r2, m3) =>
        if r2 = 0 then
          some (0, m3)
        else
          Option.bind (F_Mo_readsCourse m3) (fun (r6, m7) =>
            if r6 = 0 then
              some (0, m7)
            else
              some (1, m7)))
    else
    if m 56 14 = 102 then
      Option.bind (F_Mo_readsFurrow m) (fun (r11, m12) =>
        cond (q_bl r11) (some (r11, m12)) none)
    else
    if m 56 14 = 104 then
      Option.bind (F_Mo_readsHog m) (fun (r16, m17) =>
        cond (q_bl r16) (some (r16, m17)) none)
    else
    if m 56 14 = 110 then
      if m 59 6 = 0 then
        Option.bind (F_Mo_readsNumber m 0 2 8) (fun (r22, m23) =>
          if r22 = 0 then
            some (0, m23)
          else
            some (1, m23))
      else
        some (0, m)
    else
    if m 56 14 = 114 then
      Option.bind (F_Mo_isOnce m 2) (fun (r27, m28) =>
        if r27 = 0 then
          some (0, m28)
        else
          Option.bind (F_Mo_readsNumber m28 5 0 99) (fun (r31, m32) =>
            if r31 = 0 then
              some (0, m32)
            else
              some (1, m32)))
    else
    if m 56 14 = 115 then
      Option.bind (F_Mo_isOnce m 0) (fun (r36, m37) =>
        if r36 = 0 then
          some (0, m37)
        else
          Option.bind (F_Mo_readsNumber m37 3 1 9) (fun (r40, m41) =>
            if r40 = 0 then
              some (0, m41)
            else
              some (1, m41)))
    else
    if m 56 14 = 116 then
      Option.bind (F_Mo_isOnce m 1) (fun (r45, m46) =>
        if r45 = 0 then
          some (0, m46)
        else
          Option.bind (F_Mo_readsNumber m46 4 0 3) (fun (r49, m50) =>
            if r49 = 0 then
              some (0, m50)
            else
              some (1, m50)))
    else
    if m 56 14 = 118 then
      Option.bind (F_Mo_readsSight m) (fun (r54, m55) =>
        cond (q_bl r54) (some (r54, m55)) none)
    else
      some (0, m)
  else
    some (0, m)
theorem T_Mo_readsItem {Ln : Nat} {xs : Nat → Int32} {n : (Nat → Nat → Int32)} {lm : Nat → Int64} {d : Nat} (hd : 5 ≤ d) {m : (Nat → Nat → Int32)} {rv : Int32} {m1 : (Nat → Nat → Int32)} (h : F_Mo_readsItem m = some (rv, m1)) : q_Ev (qXT Ln xs) d 123 (0, [some (.ref 58), none], [], qMM n m lm) (some (.int rv), qMM n m1 lm) := by
  unfold F_Mo_readsItem at h
  refine q_ev_run 3 (S' := (5, [some (.ref 58), none], [.int 1, .int (m 56 12)], qMM n m lm)) rfl ?_
  by_cases hc1 : m 56 12 = 1
  · rw [if_pos hc1] at h
    refine q_ev_brT hc1 (a := 8) (b := 15) rfl ?_
    refine q_ev_run 5 (S' := (18, [some (.ref 58), some (.int (m 56 14))], [.int (m 56 14)], qMM n m lm)) rfl ?_
    by_cases hc10 : m 56 14 = 99
    · rw [if_pos hc10] at h
      refine q_ev_sw (v := 228) (a := 228) (show q_sw (m 56 14) 249 99 [228, 249, 249, 139, 249, 149, 249, 249, 249, 249, 249, 112, 249, 249, 249, 203, 154, 179, 249, 144] = 228 by rw [hc10]; rfl) rfl rfl ?_
      refine q_ev_run 2 (S' := (230, [some (.ref 58), some (.int (m 56 14))], [.int 3, .ref 58], qMM n m lm)) rfl ?_
      obtain ⟨⟨r2, m3⟩, hf4, h⟩ := Option.bind_eq_some_iff.mp h
      try dsimp only at h
      refine q_ev_call (S' := (233, [some (.ref 58), some (.int (m 56 14))], [], qMM n m lm)) rfl (by omega) (T_Mo_isOnce (by first | omega | decide) hf4) ?_
      refine q_ev_eq (S' := (233, [some (.ref 58), some (.int (m 56 14))], [.int r2], qMM n m3 lm)) rfl ?_
      by_cases hc5 : r2 = 0
      · rw [if_pos hc5] at h
        refine q_ev_brT hc5 (a := 247) (b := 236) rfl ?_
        refine q_ev_run 1 (S' := (248, [some (.ref 58), some (.int (m 56 14))], [.int 0], qMM n m3 lm)) rfl ?_
        have h_z0 := Option.some.inj h
        obtain ⟨h_0, h_z1⟩ := Prod.mk.inj h_z0
        subst h_0
        subst h_z1
        exact q_ev_ret rfl rfl
      · rw [if_neg hc5] at h
        refine q_ev_brF hc5 (a := 247) (b := 236) rfl ?_
        refine q_ev_run 1 (S' := (237, [some (.ref 58), some (.int (m 56 14))], [.ref 58], qMM n m3 lm)) rfl ?_
        obtain ⟨⟨r6, m7⟩, hf8, h⟩ := Option.bind_eq_some_iff.mp h
        try dsimp only at h
        refine q_ev_call (S' := (240, [some (.ref 58), some (.int (m 56 14))], [], qMM n m3 lm)) rfl (by omega) (T_Mo_readsCourse (by first | omega | decide) hf8) ?_
        refine q_ev_eq (S' := (240, [some (.ref 58), some (.int (m 56 14))], [.int r6], qMM n m7 lm)) rfl ?_
        by_cases hc9 : r6 = 0
        · rw [if_pos hc9] at h
          refine q_ev_brT hc9 (a := 247) (b := 243) rfl ?_
          refine q_ev_run 1 (S' := (248, [some (.ref 58), some (.int (m 56 14))], [.int 0], qMM n m7 lm)) rfl ?_
          have h_z0 := Option.some.inj h
          obtain ⟨h_0, h_z1⟩ := Prod.mk.inj h_z0
          subst h_0
          subst h_z1
          exact q_ev_ret rfl rfl
        · rw [if_neg hc9] at h
          refine q_ev_brF hc9 (a := 247) (b := 243) rfl ?_
          refine q_ev_run 2 (S' := (248, [some (.ref 58), some (.int (m 56 14))], [.int 1], qMM n m7 lm)) rfl ?_
          have h_z0 := Option.some.inj h
          obtain ⟨h_0, h_z1⟩ := Prod.mk.inj h_z0
          subst h_0
          subst h_z1
          exact q_ev_ret rfl rfl
    rw [if_neg hc10] at h
    by_cases hc15 : m 56 14 = 102
    · rw [if_pos hc15] at h
      refine q_ev_sw (v := 139) (a := 139) (show q_sw (m 56 14) 249 99 [228, 249, 249, 139, 249, 149, 249, 249, 249, 249, 249, 112, 249, 249, 249, 203, 154, 179, 249, 144] = 139 by rw [hc15]; rfl) rfl rfl ?_
      refine q_ev_run 1 (S' := (140, [some (.ref 58), some (.int (m 56 14))], [.ref 58], qMM n m lm)) rfl ?_
      obtain ⟨⟨r11, m12⟩, hf13, h⟩ := Option.bind_eq_some_iff.mp h
      try dsimp only at h
      refine q_ev_call (S' := (143, [some (.ref 58), some (.int (m 56 14))], [], qMM n m lm)) rfl (by omega) (T_Mo_readsFurrow (by first | omega | decide) hf13) ?_
      refine q_ev_eq (S' := (143, [some (.ref 58), some (.int (m 56 14))], [.int r11], qMM n m12 lm)) rfl ?_
      obtain ⟨hb14, h⟩ := q_cd h
      have h_z0 := Option.some.inj h
      obtain ⟨h_0, h_z1⟩ := Prod.mk.inj h_z0
      subst h_0
      subst h_z1
      exact q_ev_retb hb14 rfl rfl
    rw [if_neg hc15] at h
    by_cases hc20 : m 56 14 = 104
    · rw [if_pos hc20] at h
      refine q_ev_sw (v := 149) (a := 149) (show q_sw (m 56 14) 249 99 [228, 249, 249, 139, 249, 149, 249, 249, 249, 249, 249, 112, 249, 249, 249, 203, 154, 179, 249, 144] = 149 by rw [hc20]; rfl) rfl rfl ?_
      refine q_ev_run 1 (S' := (150, [some (.ref 58), some (.int (m 56 14))], [.ref 58], qMM n m lm)) rfl ?_
      obtain ⟨⟨r16, m17⟩, hf18, h⟩ := Option.bind_eq_some_iff.mp h
      try dsimp only at h
      refine q_ev_call (S' := (153, [some (.ref 58), some (.int (m 56 14))], [], qMM n m lm)) rfl (by omega) (T_Mo_readsHog (by first | omega | decide) hf18) ?_
      refine q_ev_eq (S' := (153, [some (.ref 58), some (.int (m 56 14))], [.int r16], qMM n m17 lm)) rfl ?_
      obtain ⟨hb19, h⟩ := q_cd h
      have h_z0 := Option.some.inj h
      obtain ⟨h_0, h_z1⟩ := Prod.mk.inj h_z0
      subst h_0
      subst h_z1
      exact q_ev_retb hb19 rfl rfl
    rw [if_neg hc20] at h
    by_cases hc26 : m 56 14 = 110
    · rw [if_pos hc26] at h
      refine q_ev_sw (v := 112) (a := 112) (show q_sw (m 56 14) 249 99 [228, 249, 249, 139, 249, 149, 249, 249, 249, 249, 249, 112, 249, 249, 249, 203, 154, 179, 249, 144] = 112 by rw [hc26]; rfl) rfl rfl ?_
      refine q_ev_run 4 (S' := (119, [some (.ref 58), some (.int (m 56 14))], [.int (m 59 6)], qMM n m lm)) rfl ?_
      by_cases hc21 : m 59 6 = 0
      · rw [if_pos hc21] at h
        refine q_ev_brT hc21 (a := 122) (b := 137) rfl ?_
        refine q_ev_run 4 (S' := (127, [some (.ref 58), some (.int (m 56 14))], [.int 8, .int 2, .int 0, .ref 58], qMM n m lm)) rfl ?_
        obtain ⟨⟨r22, m23⟩, hf24, h⟩ := Option.bind_eq_some_iff.mp h
        try dsimp only at h
        refine q_ev_call (S' := (130, [some (.ref 58), some (.int (m 56 14))], [], qMM n m lm)) rfl (by omega) (T_Mo_readsNumber (by first | omega | decide) hf24) ?_
        refine q_ev_eq (S' := (130, [some (.ref 58), some (.int (m 56 14))], [.int r22], qMM n m23 lm)) rfl ?_
        by_cases hc25 : r22 = 0
        · rw [if_pos hc25] at h
          refine q_ev_brT hc25 (a := 137) (b := 133) rfl ?_
          refine q_ev_run 1 (S' := (138, [some (.ref 58), some (.int (m 56 14))], [.int 0], qMM n m23 lm)) rfl ?_
          have h_z0 := Option.some.inj h
          obtain ⟨h_0, h_z1⟩ := Prod.mk.inj h_z0
          subst h_0
          subst h_z1
          exact q_ev_ret rfl rfl
        · rw [if_neg hc25] at h
          refine q_ev_brF hc25 (a := 137) (b := 133) rfl ?_
          refine q_ev_run 2 (S' := (138, [some (.ref 58), some (.int (m 56 14))], [.int 1], qMM n m23 lm)) rfl ?_
          have h_z0 := Option.some.inj h
          obtain ⟨h_0, h_z1⟩ := Prod.mk.inj h_z0
          subst h_0
          subst h_z1
          exact q_ev_ret rfl rfl
      · rw [if_neg hc21] at h
        refine q_ev_brF hc21 (a := 122) (b := 137) rfl ?_
        refine q_ev_run 1 (S' := (138, [some (.ref 58), some (.int (m 56 14))], [.int 0], qMM n m lm)) rfl ?_
        have h_z0 := Option.some.inj h
        obtain ⟨h_0, h_z1⟩ := Prod.mk.inj h_z0
        subst h_0
        subst h_z1
        exact q_ev_ret rfl rfl
    rw [if_neg hc26] at h
    by_cases hc35 : m 56 14 = 114
    · rw [if_pos hc35] at h
      refine q_ev_sw (v := 203) (a := 203) (show q_sw (m 56 14) 249 99 [228, 249, 249, 139, 249, 149, 249, 249, 249, 249, 249, 112, 249, 249, 249, 203, 154, 179, 249, 144] = 203 by rw [hc35]; rfl) rfl rfl ?_
      refine q_ev_run 2 (S' := (205, [some (.ref 58), some (.int (m 56 14))], [.int 2, .ref 58], qMM n m lm)) rfl ?_
      obtain ⟨⟨r27, m28⟩, hf29, h⟩ := Option.bind_eq_some_iff.mp h
      try dsimp only at h
      refine q_ev_call (S' := (208, [some (.ref 58), some (.int (m 56 14))], [], qMM n m lm)) rfl (by omega) (T_Mo_isOnce (by first | omega | decide) hf29) ?_
      refine q_ev_eq (S' := (208, [some (.ref 58), some (.int (m 56 14))], [.int r27], qMM n m28 lm)) rfl ?_
      by_cases hc30 : r27 = 0
      · rw [if_pos hc30] at h
        refine q_ev_brT hc30 (a := 226) (b := 211) rfl ?_
        refine q_ev_run 1 (S' := (227, [some (.ref 58), some (.int (m 56 14))], [.int 0], qMM n m28 lm)) rfl ?_
        have h_z0 := Option.some.inj h
        obtain ⟨h_0, h_z1⟩ := Prod.mk.inj h_z0
        subst h_0
        subst h_z1
        exact q_ev_ret rfl rfl
      · rw [if_neg hc30] at h
        refine q_ev_brF hc30 (a := 226) (b := 211) rfl ?_
        refine q_ev_run 4 (S' := (216, [some (.ref 58), some (.int (m 56 14))], [.int 99, .int 0, .int 5, .ref 58], qMM n m28 lm)) rfl ?_
        obtain ⟨⟨r31, m32⟩, hf33, h⟩ := Option.bind_eq_some_iff.mp h
        try dsimp only at h
        refine q_ev_call (S' := (219, [some (.ref 58), some (.int (m 56 14))], [], qMM n m28 lm)) rfl (by omega) (T_Mo_readsNumber (by first | omega | decide) hf33) ?_
        refine q_ev_eq (S' := (219, [some (.ref 58), some (.int (m 56 14))], [.int r31], qMM n m32 lm)) rfl ?_
        by_cases hc34 : r31 = 0
        · rw [if_pos hc34] at h
          refine q_ev_brT hc34 (a := 226) (b := 222) rfl ?_
          refine q_ev_run 1 (S' := (227, [some (.ref 58), some (.int (m 56 14))], [.int 0], qMM n m32 lm)) rfl ?_
          have h_z0 := Option.some.inj h
          obtain ⟨h_0, h_z1⟩ := Prod.mk.inj h_z0
          subst h_0
          subst h_z1
          exact q_ev_ret rfl rfl
        · rw [if_neg hc34] at h
          refine q_ev_brF hc34 (a := 226) (b := 222) rfl ?_
          refine q_ev_run 2 (S' := (227, [some (.ref 58), some (.int (m 56 14))], [.int 1], qMM n m32 lm)) rfl ?_
          have h_z0 := Option.some.inj h
          obtain ⟨h_0, h_z1⟩ := Prod.mk.inj h_z0
          subst h_0
          subst h_z1
          exact q_ev_ret rfl rfl
    rw [if_neg hc35] at h
    by_cases hc44 : m 56 14 = 115
    · rw [if_pos hc44] at h
      refine q_ev_sw (v := 154) (a := 154) (show q_sw (m 56 14) 249 99 [228, 249, 249, 139, 249, 149, 249, 249, 249, 249, 249, 112, 249, 249, 249, 203, 154, 179, 249, 144] = 154 by rw [hc44]; rfl) rfl rfl ?_
      refine q_ev_run 2 (S' := (156, [some (.ref 58), some (.int (m 56 14))], [.int 0, .ref 58], qMM n m lm)) rfl ?_
      obtain ⟨⟨r36, m37⟩, hf38, h⟩ := Option.bind_eq_some_iff.mp h
      try dsimp only at h
      refine q_ev_call (S' := (159, [some (.ref 58), some (.int (m 56 14))], [], qMM n m lm)) rfl (by omega) (T_Mo_isOnce (by first | omega | decide) hf38) ?_
      refine q_ev_eq (S' := (159, [some (.ref 58), some (.int (m 56 14))], [.int r36], qMM n m37 lm)) rfl ?_
      by_cases hc39 : r36 = 0
      · rw [if_pos hc39] at h
        refine q_ev_brT hc39 (a := 177) (b := 162) rfl ?_
        refine q_ev_run 1 (S' := (178, [some (.ref 58), some (.int (m 56 14))], [.int 0], qMM n m37 lm)) rfl ?_
        have h_z0 := Option.some.inj h
        obtain ⟨h_0, h_z1⟩ := Prod.mk.inj h_z0
        subst h_0
        subst h_z1
        exact q_ev_ret rfl rfl
      · rw [if_neg hc39] at h
        refine q_ev_brF hc39 (a := 177) (b := 162) rfl ?_
        refine q_ev_run 4 (S' := (167, [some (.ref 58), some (.int (m 56 14))], [.int 9, .int 1, .int 3, .ref 58], qMM n m37 lm)) rfl ?_
        obtain ⟨⟨r40, m41⟩, hf42, h⟩ := Option.bind_eq_some_iff.mp h
        try dsimp only at h
        refine q_ev_call (S' := (170, [some (.ref 58), some (.int (m 56 14))], [], qMM n m37 lm)) rfl (by omega) (T_Mo_readsNumber (by first | omega | decide) hf42) ?_
        refine q_ev_eq (S' := (170, [some (.ref 58), some (.int (m 56 14))], [.int r40], qMM n m41 lm)) rfl ?_
        by_cases hc43 : r40 = 0
        · rw [if_pos hc43] at h
          refine q_ev_brT hc43 (a := 177) (b := 173) rfl ?_
          refine q_ev_run 1 (S' := (178, [some (.ref 58), some (.int (m 56 14))], [.int 0], qMM n m41 lm)) rfl ?_
          have h_z0 := Option.some.inj h
          obtain ⟨h_0, h_z1⟩ := Prod.mk.inj h_z0
          subst h_0
          subst h_z1
          exact q_ev_ret rfl rfl
        · rw [if_neg hc43] at h
          refine q_ev_brF hc43 (a := 177) (b := 173) rfl ?_
          refine q_ev_run 2 (S' := (178, [some (.ref 58), some (.int (m 56 14))], [.int 1], qMM n m41 lm)) rfl ?_
          have h_z0 := Option.some.inj h
          obtain ⟨h_0, h_z1⟩ := Prod.mk.inj h_z0
          subst h_0
          subst h_z1
          exact q_ev_ret rfl rfl
    rw [if_neg hc44] at h
    by_cases hc53 : m 56 14 = 116
    · rw [if_pos hc53] at h
      refine q_ev_sw (v := 179) (a := 179) (show q_sw (m 56 14) 249 99 [228, 249, 249, 139, 249, 149, 249, 249, 249, 249, 249, 112, 249, 249, 249, 203, 154, 179, 249, 144] = 179 by rw [hc53]; rfl) rfl rfl ?_
      refine q_ev_run 2 (S' := (181, [some (.ref 58), some (.int (m 56 14))], [.int 1, .ref 58], qMM n m lm)) rfl ?_
      obtain ⟨⟨r45, m46⟩, hf47, h⟩ := Option.bind_eq_some_iff.mp h
      try dsimp only at h
      refine q_ev_call (S' := (184, [some (.ref 58), some (.int (m 56 14))], [], qMM n m lm)) rfl (by omega) (T_Mo_isOnce (by first | omega | decide) hf47) ?_
      refine q_ev_eq (S' := (184, [some (.ref 58), some (.int (m 56 14))], [.int r45], qMM n m46 lm)) rfl ?_
      by_cases hc48 : r45 = 0
      · rw [if_pos hc48] at h
        refine q_ev_brT hc48 (a := 201) (b := 187) rfl ?_
        refine q_ev_run 1 (S' := (202, [some (.ref 58), some (.int (m 56 14))], [.int 0], qMM n m46 lm)) rfl ?_
        have h_z0 := Option.some.inj h
        obtain ⟨h_0, h_z1⟩ := Prod.mk.inj h_z0
        subst h_0
        subst h_z1
        exact q_ev_ret rfl rfl
      · rw [if_neg hc48] at h
        refine q_ev_brF hc48 (a := 201) (b := 187) rfl ?_
        refine q_ev_run 4 (S' := (191, [some (.ref 58), some (.int (m 56 14))], [.int 3, .int 0, .int 4, .ref 58], qMM n m46 lm)) rfl ?_
        obtain ⟨⟨r49, m50⟩, hf51, h⟩ := Option.bind_eq_some_iff.mp h
        try dsimp only at h
        refine q_ev_call (S' := (194, [some (.ref 58), some (.int (m 56 14))], [], qMM n m46 lm)) rfl (by omega) (T_Mo_readsNumber (by first | omega | decide) hf51) ?_
        refine q_ev_eq (S' := (194, [some (.ref 58), some (.int (m 56 14))], [.int r49], qMM n m50 lm)) rfl ?_
        by_cases hc52 : r49 = 0
        · rw [if_pos hc52] at h
          refine q_ev_brT hc52 (a := 201) (b := 197) rfl ?_
          refine q_ev_run 1 (S' := (202, [some (.ref 58), some (.int (m 56 14))], [.int 0], qMM n m50 lm)) rfl ?_
          have h_z0 := Option.some.inj h
          obtain ⟨h_0, h_z1⟩ := Prod.mk.inj h_z0
          subst h_0
          subst h_z1
          exact q_ev_ret rfl rfl
        · rw [if_neg hc52] at h
          refine q_ev_brF hc52 (a := 201) (b := 197) rfl ?_
          refine q_ev_run 2 (S' := (202, [some (.ref 58), some (.int (m 56 14))], [.int 1], qMM n m50 lm)) rfl ?_
          have h_z0 := Option.some.inj h
          obtain ⟨h_0, h_z1⟩ := Prod.mk.inj h_z0
          subst h_0
          subst h_z1
          exact q_ev_ret rfl rfl
    rw [if_neg hc53] at h
    by_cases hc58 : m 56 14 = 118
    · rw [if_pos hc58] at h
      refine q_ev_sw (v := 144) (a := 144) (show q_sw (m 56 14) 249 99 [228, 249, 249, 139, 249, 149, 249, 249, 249, 249, 249, 112, 249, 249, 249, 203, 154, 179, 249, 144] = 144 by rw [hc58]; rfl) rfl rfl ?_
      refine q_ev_run 1 (S' := (145, [some (.ref 58), some (.int (m 56 14))], [.ref 58], qMM n m lm)) rfl ?_
      obtain ⟨⟨r54, m55⟩, hf56, h⟩ := Option.bind_eq_some_iff.mp h
      try dsimp only at h
      refine q_ev_call (S' := (148, [some (.ref 58), some (.int (m 56 14))], [], qMM n m lm)) rfl (by omega) (T_Mo_readsSight (by first | omega | decide) hf56) ?_
      refine q_ev_eq (S' := (148, [some (.ref 58), some (.int (m 56 14))], [.int r54], qMM n m55 lm)) rfl ?_
      obtain ⟨hb57, h⟩ := q_cd h
      have h_z0 := Option.some.inj h
      obtain ⟨h_0, h_z1⟩ := Prod.mk.inj h_z0
      subst h_0
      subst h_z1
      exact q_ev_retb hb57 rfl rfl
    rw [if_neg hc58] at h
    refine q_ev_sw (v := 249) (a := 249) (show q_sw (m 56 14) 249 99 [228, 249, 249, 139, 249, 149, 249, 249, 249, 249, 249, 112, 249, 249, 249, 203, 154, 179, 249, 144] = 249 from q_sw_nd (by show m 56 14 ∉ ([99, 102, 104, 110, 114, 115, 116, 118] : List Int32); simp [hc10, hc15, hc20, hc26, hc35, hc44, hc53, hc58])) rfl rfl ?_
    refine q_ev_run 1 (S' := (250, [some (.ref 58), some (.int (m 56 14))], [.int 0], qMM n m lm)) rfl ?_
    have h_z0 := Option.some.inj h
    obtain ⟨h_0, h_z1⟩ := Prod.mk.inj h_z0
    subst h_0
    subst h_z1
    exact q_ev_ret rfl rfl
  · rw [if_neg hc1] at h
    refine q_ev_brF hc1 (a := 8) (b := 15) rfl ?_
    refine q_ev_run 5 (S' := (250, [some (.ref 58), some (.int 0)], [.int 0], qMM n m lm)) rfl ?_
    have h_z0 := Option.some.inj h
    obtain ⟨h_0, h_z1⟩ := Prod.mk.inj h_z0
    subst h_0
    subst h_z1
    exact q_ev_ret rfl rfl
noncomputable def FL_Mo_reads_44 : Nat → (Nat → Nat → Int32) → Option ((Int32 × (Nat → Nat → Int32)) ⊕ ((Nat → Nat → Int32)))
  | 0, _ => none
  | fu + 1, m =>
    if m 56 12 = 0 then
      some (.inr m)
    else
      Option.bind (F_Mo_readsItem m) (fun (r2, m3) =>
        if r2 = 0 then
          some (.inl (0, m3))
        else
          if m3 56 12 = 3 then
            Option.bind (F_Mo_token (q_w m3 59 6 (m3 59 6 + 1))) (fun m7 =>
              FL_Mo_reads_44 fu m7)
          else
            some (.inl (0, m3)))
theorem TL_Mo_reads_44 {Ln : Nat} {xs : Nat → Int32} {n : (Nat → Nat → Int32)} {lm : Nat → Int64} {d : Nat} (hd : 6 ≤ d) {r : Option Value × qM} : ∀ (fu : Nat) (m : (Nat → Nat → Int32)) (w1 : Option Value) (o : (Int32 × (Nat → Nat → Int32)) ⊕ ((Nat → Nat → Int32))), FL_Mo_reads_44 fu m = some o → (∀ (rv : Int32) (m1 : (Nat → Nat → Int32)), o = .inl (rv, m1) → r = (some (.int rv), qMM n m1 lm)) → (∀ (m1 : (Nat → Nat → Int32)), o = .inr m1 → ∀ (u1 : Option Value), q_Ev (qXT Ln xs) d 124 (86, [some (.ref 58), u1], [], qMM n m1 lm) r) → q_Ev (qXT Ln xs) d 124 (44, [some (.ref 58), w1], [], qMM n m lm) r := by
  intro fu
  induction fu with
  | zero => intro m w1 o h hr hk; cases h
  | succ fu ih =>
    intro m w1 o h hr hk
    rw [FL_Mo_reads_44] at h
    refine q_ev_run 2 (S' := (48, [some (.ref 58), w1], [.int (m 56 12)], qMM n m lm)) rfl ?_
    by_cases hc1 : m 56 12 = 0
    · rw [if_pos hc1] at h
      refine q_ev_brT hc1 (a := 86) (b := 51) rfl ?_
      obtain rfl := (Option.some.inj h).symm
      exact hk _ rfl (w1)
    · rw [if_neg hc1] at h
      refine q_ev_brF hc1 (a := 86) (b := 51) rfl ?_
      refine q_ev_run 1 (S' := (52, [some (.ref 58), w1], [.ref 58], qMM n m lm)) rfl ?_
      obtain ⟨⟨r2, m3⟩, hf4, h⟩ := Option.bind_eq_some_iff.mp h
      try dsimp only at h
      refine q_ev_call (S' := (55, [some (.ref 58), w1], [], qMM n m lm)) rfl (by omega) (T_Mo_readsItem (by first | omega | decide) hf4) ?_
      refine q_ev_eq (S' := (55, [some (.ref 58), w1], [.int r2], qMM n m3 lm)) rfl ?_
      by_cases hc5 : r2 = 0
      · rw [if_pos hc5] at h
        refine q_ev_brT hc5 (a := 66) (b := 58) rfl ?_
        refine q_ev_run 1 (S' := (67, [some (.ref 58), w1], [.int 0], qMM n m3 lm)) rfl ?_
        obtain rfl := (Option.some.inj h).symm
        rw [hr _ _ rfl]
        exact q_ev_ret rfl rfl
      · rw [if_neg hc5] at h
        refine q_ev_brF hc5 (a := 66) (b := 58) rfl ?_
        refine q_ev_run 3 (S' := (63, [some (.ref 58), w1], [.int 3, .int (m3 56 12)], qMM n m3 lm)) rfl ?_
        by_cases hc6 : m3 56 12 = 3
        · rw [if_pos hc6] at h
          refine q_ev_brT hc6 (a := 68) (b := 66) rfl ?_
          refine q_ev_run 9 (S' := (80, [some (.ref 58), w1], [.ref 58], qMM n (q_w m3 59 6 (m3 59 6 + 1)) lm)) rfl ?_
          obtain ⟨m7, hf8, h⟩ := Option.bind_eq_some_iff.mp h
          try dsimp only at h
          refine q_ev_call (S' := (83, [some (.ref 58), w1], [], qMM n (q_w m3 59 6 (m3 59 6 + 1)) lm)) rfl (by omega) (T_Mo_token (by first | omega | decide) hf8) ?_
          refine q_ev_eq (S' := (83, [some (.ref 58), w1], [], qMM n m7 lm)) rfl ?_
          refine q_ev_run 1 (S' := (44, [some (.ref 58), w1], [], qMM n m7 lm)) rfl ?_
          exact ih m7 (w1) _ h hr hk
        · rw [if_neg hc6] at h
          refine q_ev_brF hc6 (a := 68) (b := 66) rfl ?_
          refine q_ev_run 1 (S' := (67, [some (.ref 58), w1], [.int 0], qMM n m3 lm)) rfl ?_
          obtain rfl := (Option.some.inj h).symm
          rw [hr _ _ rfl]
          exact q_ev_ret rfl rfl
noncomputable def F_Mo_reads (m : (Nat → Nat → Int32)) : Option (Int32 × (Nat → Nat → Int32)) :=
  Option.bind (FL_Mo_reads_2 qFU m 0) (fun m2 =>
    Option.bind (F_Mo_token (q_w (q_w (q_w m2 59 0 4) 59 3 3) 56 11 0)) (fun m4 =>
      Option.bind (FL_Mo_reads_44 qFU m4) (fun o9 => match o9 with
        | .inl (v0, v1) => some (v0, v1)
        | .inr m7 =>
          some (1, m7))))
theorem T_Mo_reads {Ln : Nat} {xs : Nat → Int32} {n : (Nat → Nat → Int32)} {lm : Nat → Int64} {d : Nat} (hd : 6 ≤ d) {m : (Nat → Nat → Int32)} {rv : Int32} {m1 : (Nat → Nat → Int32)} (h : F_Mo_reads m = some (rv, m1)) : q_Ev (qXT Ln xs) d 124 (0, [some (.ref 58), none], [], qMM n m lm) (some (.int rv), qMM n m1 lm) := by
  unfold F_Mo_reads at h
  refine q_ev_run 2 (S' := (2, [some (.ref 58), some (.int 0)], [], qMM n m lm)) rfl ?_
  obtain ⟨m2, hl3, h⟩ := Option.bind_eq_some_iff.mp h
  try dsimp only at h
  refine TL_Mo_reads_2 (by first | omega | decide) _ m 0 _ hl3 (fun w1 => ?_)
  refine q_ev_run 14 (S' := (41, [some (.ref 58), w1], [.ref 58], qMM n (q_w (q_w (q_w m2 59 0 4) 59 3 3) 56 11 0) lm)) rfl ?_
  obtain ⟨m4, hf5, h⟩ := Option.bind_eq_some_iff.mp h
  try dsimp only at h
  refine q_ev_call (S' := (44, [some (.ref 58), w1], [], qMM n (q_w (q_w (q_w m2 59 0 4) 59 3 3) 56 11 0) lm)) rfl (by omega) (T_Mo_token (by first | omega | decide) hf5) ?_
  refine q_ev_eq (S' := (44, [some (.ref 58), w1], [], qMM n m4 lm)) rfl ?_
  obtain ⟨o9, hl8, h⟩ := Option.bind_eq_some_iff.mp h
  rcases o9 with ⟨v0, v1⟩ | m7
  · have h_z0 := Option.some.inj h
    obtain ⟨h_0, h_z1⟩ := Prod.mk.inj h_z0
    subst h_0
    subst h_z1
    exact TL_Mo_reads_44 (by first | omega | decide) _ m4 (w1) _ hl8 (fun _ _ hh => by cases hh; rfl) (fun _ hh => by cases hh)
  · refine TL_Mo_reads_44 (by first | omega | decide) _ m4 (w1) _ hl8 (fun _ _ hh => by cases hh) (fun _ hh w6 => ?_)
    cases hh
    try dsimp only at h
    refine q_ev_run 1 (S' := (87, [some (.ref 58), w6], [.int 1], qMM n m7 lm)) rfl ?_
    have h_z0 := Option.some.inj h
    obtain ⟨h_0, h_z1⟩ := Prod.mk.inj h_z0
    subst h_0
    subst h_z1
    exact q_ev_ret rfl rfl
noncomputable def FL_Mo_tells_2 : Nat → (Nat → Nat → Int32) → Int32 → Option ((Nat → Nat → Int32))
  | 0, _, _ => none
  | fu + 1, m, x1 =>
    if 93 ≤ x1 then
      some (m)
    else
      cond (q_in x1 93) (cond (q_in x1 93) (FL_Mo_tells_2 fu (q_w m 58 x1.toNatClampNeg (m 59 x1.toNatClampNeg)) (x1 + 1)) none) none
theorem TL_Mo_tells_2 {Ln : Nat} {xs : Nat → Int32} {n : (Nat → Nat → Int32)} {lm : Nat → Int64} {d : Nat} (hd : 0 ≤ d) {r : Option Value × qM} : ∀ (fu : Nat) (m : (Nat → Nat → Int32)) (x1 : Int32) (w2 : Option Value) (w3 : Option Value) (w4 : Option Value) (w5 : Option Value) (m1 : (Nat → Nat → Int32)), FL_Mo_tells_2 fu m x1 = some m1 → (∀ (u1 u2 u3 u4 u5 : Option Value), q_Ev (qXT Ln xs) d 125 (26, [some (.ref 58), u1, u2, u3, u4, u5], [], qMM n m1 lm) r) → q_Ev (qXT Ln xs) d 125 (2, [some (.ref 58), some (.int x1), w2, w3, w4, w5], [], qMM n m lm) r := by
  intro fu
  induction fu with
  | zero => intro m x1 w2 w3 w4 w5 m1 h hk; cases h
  | succ fu ih =>
    intro m x1 w2 w3 w4 w5 m1 h hk
    rw [FL_Mo_tells_2] at h
    refine q_ev_run 2 (S' := (5, [some (.ref 58), some (.int x1), w2, w3, w4, w5], [.int 93, .int x1], qMM n m lm)) rfl ?_
    by_cases hc1 : 93 ≤ x1
    · rw [if_pos hc1] at h
      refine q_ev_brT hc1 (a := 26) (b := 8) rfl ?_
      have h_z0 := Option.some.inj h
      subst h_z0
      exact hk (some (.int x1)) (w2) (w3) (w4) (w5)
    · rw [if_neg hc1] at h
      refine q_ev_brF hc1 (a := 26) (b := 8) rfl ?_
      refine q_ev_run 6 (S' := (18, [some (.ref 58), some (.int x1), w2, w3, w4, w5], [.int x1, .ref 61, .int x1, .ref 60], qMM n m lm)) rfl ?_
      obtain ⟨hb2, h⟩ := q_cd h
      refine q_ev_chk (b := q_in x1 93) hb2 (S' := (19, [some (.ref 58), some (.int x1), w2, w3, w4, w5], [.int (m 59 x1.toNatClampNeg), .int x1, .ref 60], qMM n m lm)) rfl ?_
      obtain ⟨hb3, h⟩ := q_cd h
      refine q_ev_chk (b := q_in x1 93) hb3 (S' := (20, [some (.ref 58), some (.int x1), w2, w3, w4, w5], [], qMM n (q_w m 58 x1.toNatClampNeg (m 59 x1.toNatClampNeg)) lm)) rfl ?_
      refine q_ev_run 2 (S' := (2, [some (.ref 58), some (.int (x1 + 1)), w2, w3, w4, w5], [], qMM n (q_w m 58 x1.toNatClampNeg (m 59 x1.toNatClampNeg)) lm)) rfl ?_
      exact ih (q_w m 58 x1.toNatClampNeg (m 59 x1.toNatClampNeg)) (x1 + 1) (w2) (w3) (w4) (w5) _ h hk
noncomputable def FL_Mo_tells_28 : Nat → (Nat → Nat → Int32) → Int32 → Option ((Nat → Nat → Int32))
  | 0, _, _ => none
  | fu + 1, m, x1 =>
    if 65 ≤ x1 then
      some (m)
    else
      if 57 ≤ x1 then
        cond (q_in x1 65) (FL_Mo_tells_28 fu (q_w m 60 x1.toNatClampNeg (Int32.ofInt (-9))) (x1 + 1)) none
      else
        cond (q_in x1 65) (FL_Mo_tells_28 fu (q_w m 60 x1.toNatClampNeg 0) (x1 + 1)) none
theorem TL_Mo_tells_28 {Ln : Nat} {xs : Nat → Int32} {n : (Nat → Nat → Int32)} {lm : Nat → Int64} {d : Nat} (hd : 0 ≤ d) {r : Option Value × qM} : ∀ (fu : Nat) (m : (Nat → Nat → Int32)) (x1 : Int32) (w2 : Option Value) (w3 : Option Value) (w4 : Option Value) (w5 : Option Value) (m1 : (Nat → Nat → Int32)), FL_Mo_tells_28 fu m x1 = some m1 → (∀ (u1 u2 u3 u4 u5 : Option Value), q_Ev (qXT Ln xs) d 125 (58, [some (.ref 58), u1, u2, u3, u4, u5], [], qMM n m1 lm) r) → q_Ev (qXT Ln xs) d 125 (28, [some (.ref 58), some (.int x1), w2, w3, w4, w5], [], qMM n m lm) r := by
  intro fu
  induction fu with
  | zero => intro m x1 w2 w3 w4 w5 m1 h hk; cases h
  | succ fu ih =>
    intro m x1 w2 w3 w4 w5 m1 h hk
    rw [FL_Mo_tells_28] at h
    refine q_ev_run 2 (S' := (31, [some (.ref 58), some (.int x1), w2, w3, w4, w5], [.int 65, .int x1], qMM n m lm)) rfl ?_
    by_cases hc1 : 65 ≤ x1
    · rw [if_pos hc1] at h
      refine q_ev_brT hc1 (a := 58) (b := 34) rfl ?_
      have h_z0 := Option.some.inj h
      subst h_z0
      exact hk (some (.int x1)) (w2) (w3) (w4) (w5)
    · rw [if_neg hc1] at h
      refine q_ev_brF hc1 (a := 58) (b := 34) rfl ?_
      refine q_ev_run 5 (S' := (42, [some (.ref 58), some (.int x1), w2, w3, w4, w5], [.int 57, .int x1, .int x1, .ref 62], qMM n m lm)) rfl ?_
      by_cases hc2 : 57 ≤ x1
      · rw [if_pos hc2] at h
        refine q_ev_brT hc2 (a := 49) (b := 45) rfl ?_
        refine q_ev_run 1 (S' := (51, [some (.ref 58), some (.int x1), w2, w3, w4, w5], [.int (Int32.ofInt (-9)), .int x1, .ref 62], qMM n m lm)) rfl ?_
        obtain ⟨hb3, h⟩ := q_cd h
        refine q_ev_chk (b := q_in x1 65) hb3 (S' := (52, [some (.ref 58), some (.int x1), w2, w3, w4, w5], [], qMM n (q_w m 60 x1.toNatClampNeg (Int32.ofInt (-9))) lm)) rfl ?_
        refine q_ev_run 2 (S' := (28, [some (.ref 58), some (.int (x1 + 1)), w2, w3, w4, w5], [], qMM n (q_w m 60 x1.toNatClampNeg (Int32.ofInt (-9))) lm)) rfl ?_
        exact ih (q_w m 60 x1.toNatClampNeg (Int32.ofInt (-9))) (x1 + 1) (w2) (w3) (w4) (w5) _ h hk
      · rw [if_neg hc2] at h
        refine q_ev_brF hc2 (a := 49) (b := 45) rfl ?_
        refine q_ev_run 2 (S' := (51, [some (.ref 58), some (.int x1), w2, w3, w4, w5], [.int 0, .int x1, .ref 62], qMM n m lm)) rfl ?_
        obtain ⟨hb4, h⟩ := q_cd h
        refine q_ev_chk (b := q_in x1 65) hb4 (S' := (52, [some (.ref 58), some (.int x1), w2, w3, w4, w5], [], qMM n (q_w m 60 x1.toNatClampNeg 0) lm)) rfl ?_
        refine q_ev_run 2 (S' := (28, [some (.ref 58), some (.int (x1 + 1)), w2, w3, w4, w5], [], qMM n (q_w m 60 x1.toNatClampNeg 0) lm)) rfl ?_
        exact ih (q_w m 60 x1.toNatClampNeg 0) (x1 + 1) (w2) (w3) (w4) (w5) _ h hk
noncomputable def FL_Mo_tells_79 : Nat → (Nat → Nat → Int32) → Int32 → Option ((Nat → Nat → Int32))
  | 0, _, _ => none
  | fu + 1, m, x1 =>
    if 64 ≤ x1 then
      some (m)
    else
      if (x1 / 8) = (x1 - x1 / 8 * 8) then
        cond (q_in x1 64) (FL_Mo_tells_79 fu (q_w m 64 x1.toNatClampNeg 0) (x1 + 1)) none
      else
        cond (q_in (21 + x1) 93) (
          if m 58 ((21 + x1)).toNatClampNeg = 0 then
            cond (q_in x1 64) (FL_Mo_tells_79 fu (q_w m 64 x1.toNatClampNeg (Int32.ofInt (-9))) (x1 + 1)) none
          else
            cond (q_in (21 + x1) 93) (cond (q_in x1 64) (FL_Mo_tells_79 fu (q_w m 64 x1.toNatClampNeg (m 58 ((21 + x1)).toNatClampNeg)) (x1 + 1)) none) none
         ) none
theorem TL_Mo_tells_79 {Ln : Nat} {xs : Nat → Int32} {n : (Nat → Nat → Int32)} {lm : Nat → Int64} {d : Nat} (hd : 0 ≤ d) {r : Option Value × qM} : ∀ (fu : Nat) (m : (Nat → Nat → Int32)) (x1 : Int32) (w2 : Option Value) (w3 : Option Value) (w4 : Option Value) (w5 : Option Value) (m1 : (Nat → Nat → Int32)), FL_Mo_tells_79 fu m x1 = some m1 → (∀ (u1 u2 u3 u4 u5 : Option Value), q_Ev (qXT Ln xs) d 125 (138, [some (.ref 58), u1, u2, u3, u4, u5], [], qMM n m1 lm) r) → q_Ev (qXT Ln xs) d 125 (79, [some (.ref 58), some (.int x1), w2, w3, w4, w5], [], qMM n m lm) r := by
  intro fu
  induction fu with
  | zero => intro m x1 w2 w3 w4 w5 m1 h hk; cases h
  | succ fu ih =>
    intro m x1 w2 w3 w4 w5 m1 h hk
    rw [FL_Mo_tells_79] at h
    refine q_ev_run 2 (S' := (82, [some (.ref 58), some (.int x1), w2, w3, w4, w5], [.int 64, .int x1], qMM n m lm)) rfl ?_
    by_cases hc1 : 64 ≤ x1
    · rw [if_pos hc1] at h
      refine q_ev_brT hc1 (a := 138) (b := 85) rfl ?_
      have h_z0 := Option.some.inj h
      subst h_z0
      exact hk (some (.int x1)) (w2) (w3) (w4) (w5)
    · rw [if_neg hc1] at h
      refine q_ev_brF hc1 (a := 138) (b := 85) rfl ?_
      refine q_ev_run 9 (S' := (98, [some (.ref 58), some (.int x1), w2, w3, w4, w5], [.int (x1 - x1 / 8 * 8), .int (x1 / 8), .int x1, .ref 66], qMM n m lm)) rfl ?_
      by_cases hc2 : (x1 / 8) = (x1 - x1 / 8 * 8)
      · rw [if_pos hc2] at h
        refine q_ev_brT hc2 (a := 101) (b := 105) rfl ?_
        refine q_ev_run 2 (S' := (131, [some (.ref 58), some (.int x1), w2, w3, w4, w5], [.int 0, .int x1, .ref 66], qMM n m lm)) rfl ?_
        obtain ⟨hb3, h⟩ := q_cd h
        refine q_ev_chk (b := q_in x1 64) hb3 (S' := (132, [some (.ref 58), some (.int x1), w2, w3, w4, w5], [], qMM n (q_w m 64 x1.toNatClampNeg 0) lm)) rfl ?_
        refine q_ev_run 2 (S' := (79, [some (.ref 58), some (.int (x1 + 1)), w2, w3, w4, w5], [], qMM n (q_w m 64 x1.toNatClampNeg 0) lm)) rfl ?_
        exact ih (q_w m 64 x1.toNatClampNeg 0) (x1 + 1) (w2) (w3) (w4) (w5) _ h hk
      · rw [if_neg hc2] at h
        refine q_ev_brF hc2 (a := 101) (b := 105) rfl ?_
        refine q_ev_run 5 (S' := (113, [some (.ref 58), some (.int x1), w2, w3, w4, w5], [.int (21 + x1), .ref 60, .int x1, .ref 66], qMM n m lm)) rfl ?_
        obtain ⟨hb4, h⟩ := q_cd h
        refine q_ev_chk (b := q_in (21 + x1) 93) hb4 (S' := (114, [some (.ref 58), some (.int x1), w2, w3, w4, w5], [.int (m 58 ((21 + x1)).toNatClampNeg), .int x1, .ref 66], qMM n m lm)) rfl ?_
        by_cases hc5 : m 58 ((21 + x1)).toNatClampNeg = 0
        · rw [if_pos hc5] at h
          refine q_ev_brT hc5 (a := 117) (b := 122) rfl ?_
          refine q_ev_run 2 (S' := (131, [some (.ref 58), some (.int x1), w2, w3, w4, w5], [.int (Int32.ofInt (-9)), .int x1, .ref 66], qMM n m lm)) rfl ?_
          obtain ⟨hb6, h⟩ := q_cd h
          refine q_ev_chk (b := q_in x1 64) hb6 (S' := (132, [some (.ref 58), some (.int x1), w2, w3, w4, w5], [], qMM n (q_w m 64 x1.toNatClampNeg (Int32.ofInt (-9))) lm)) rfl ?_
          refine q_ev_run 2 (S' := (79, [some (.ref 58), some (.int (x1 + 1)), w2, w3, w4, w5], [], qMM n (q_w m 64 x1.toNatClampNeg (Int32.ofInt (-9))) lm)) rfl ?_
          exact ih (q_w m 64 x1.toNatClampNeg (Int32.ofInt (-9))) (x1 + 1) (w2) (w3) (w4) (w5) _ h hk
        · rw [if_neg hc5] at h
          refine q_ev_brF hc5 (a := 117) (b := 122) rfl ?_
          refine q_ev_run 5 (S' := (130, [some (.ref 58), some (.int x1), w2, w3, w4, w5], [.int (21 + x1), .ref 60, .int x1, .ref 66], qMM n m lm)) rfl ?_
          obtain ⟨hb7, h⟩ := q_cd h
          refine q_ev_chk (b := q_in (21 + x1) 93) hb7 (S' := (131, [some (.ref 58), some (.int x1), w2, w3, w4, w5], [.int (m 58 ((21 + x1)).toNatClampNeg), .int x1, .ref 66], qMM n m lm)) rfl ?_
          obtain ⟨hb8, h⟩ := q_cd h
          refine q_ev_chk (b := q_in x1 64) hb8 (S' := (132, [some (.ref 58), some (.int x1), w2, w3, w4, w5], [], qMM n (q_w m 64 x1.toNatClampNeg (m 58 ((21 + x1)).toNatClampNeg)) lm)) rfl ?_
          refine q_ev_run 2 (S' := (79, [some (.ref 58), some (.int (x1 + 1)), w2, w3, w4, w5], [], qMM n (q_w m 64 x1.toNatClampNeg (m 58 ((21 + x1)).toNatClampNeg)) lm)) rfl ?_
          exact ih (q_w m 64 x1.toNatClampNeg (m 58 ((21 + x1)).toNatClampNeg)) (x1 + 1) (w2) (w3) (w4) (w5) _ h hk
