noncomputable def F_Re_readFurrow_1 (m : (Nat → Nat → Int32)) : Option (Int32 × (Nat → Nat → Int32)) :=
  Option.bind (F_Re_takePlace_1 m) (fun (r1, m2) =>
    if r1 = (Int32.ofInt (-9)) then
      some (0, m2)
    else
      Option.bind (F_Re_takePlaceUnlike_1 m2 r1) (fun (r5, m6) =>
        if r5 = (Int32.ofInt (-9)) then
          some (0, m6)
        else
          Option.bind (F_Re_takeNumber_1 m6 1 9) (fun (r9, m10) =>
            if r9 = (Int32.ofInt (-9)) then
              some (0, m10)
            else
              Option.bind (F_La_putFurrow_3 m10 r1 r5 r9) (fun m13 =>
                some (1, m13)))))
theorem T_Re_readFurrow_1 {Ln : Nat} {xs : Nat → Int32} {n : (Nat → Nat → Int32)} {lm : Nat → Int64} {d : Nat} (hd : 2 ≤ d) {m : (Nat → Nat → Int32)} {rv : Int32} {m1 : (Nat → Nat → Int32)} (h : F_Re_readFurrow_1 m = some (rv, m1)) : q_Ev (qXT Ln xs) d 45 (0, [some (.ref 1), none, none, none], [], qMM m n lm) (some (.int rv), qMM m1 n lm) := by
  unfold F_Re_readFurrow_1 at h
  refine q_ev_run 1 (S' := (1, [some (.ref 1), none, none, none], [.ref 1], qMM m n lm)) rfl ?_
  obtain ⟨⟨r1, m2⟩, hf3, h⟩ := Option.bind_eq_some_iff.mp h
  try dsimp only at h
  refine q_ev_call (S' := (4, [some (.ref 1), none, none, none], [], qMM m n lm)) rfl (by omega) (T_Re_takePlace_1 (by first | omega | decide) hf3) ?_
  refine q_ev_eq (S' := (4, [some (.ref 1), none, none, none], [.int r1], qMM m2 n lm)) rfl ?_
  refine q_ev_run 3 (S' := (8, [some (.ref 1), some (.int r1), none, none], [.int (Int32.ofInt (-9)), .int r1], qMM m2 n lm)) rfl ?_
  by_cases hc4 : r1 = (Int32.ofInt (-9))
  · rw [if_pos hc4] at h
    refine q_ev_brT hc4 (a := 11) (b := 16) rfl ?_
    refine q_ev_run 13 (S' := (48, [some (.ref 1), some (.int r1), some (.int (Int32.ofInt (-9))), some (.int (Int32.ofInt (-9)))], [.int 0], qMM m2 n lm)) rfl ?_
    have h_z0 := Option.some.inj h
    obtain ⟨h_0, h_z1⟩ := Prod.mk.inj h_z0
    subst h_0
    subst h_z1
    exact q_ev_ret rfl rfl
  · rw [if_neg hc4] at h
    refine q_ev_brF hc4 (a := 11) (b := 16) rfl ?_
    refine q_ev_run 2 (S' := (18, [some (.ref 1), some (.int r1), none, none], [.int r1, .ref 1], qMM m2 n lm)) rfl ?_
    obtain ⟨⟨r5, m6⟩, hf7, h⟩ := Option.bind_eq_some_iff.mp h
    try dsimp only at h
    refine q_ev_call (S' := (21, [some (.ref 1), some (.int r1), none, none], [], qMM m2 n lm)) rfl (by omega) (T_Re_takePlaceUnlike_1 (by first | omega | decide) hf7) ?_
    refine q_ev_eq (S' := (21, [some (.ref 1), some (.int r1), none, none], [.int r5], qMM m6 n lm)) rfl ?_
    refine q_ev_run 3 (S' := (25, [some (.ref 1), some (.int r1), some (.int r5), none], [.int (Int32.ofInt (-9)), .int r5], qMM m6 n lm)) rfl ?_
    by_cases hc8 : r5 = (Int32.ofInt (-9))
    · rw [if_pos hc8] at h
      refine q_ev_brT hc8 (a := 28) (b := 33) rfl ?_
      refine q_ev_run 7 (S' := (48, [some (.ref 1), some (.int r1), some (.int r5), some (.int (Int32.ofInt (-9)))], [.int 0], qMM m6 n lm)) rfl ?_
      have h_z0 := Option.some.inj h
      obtain ⟨h_0, h_z1⟩ := Prod.mk.inj h_z0
      subst h_0
      subst h_z1
      exact q_ev_ret rfl rfl
    · rw [if_neg hc8] at h
      refine q_ev_brF hc8 (a := 28) (b := 33) rfl ?_
      refine q_ev_run 3 (S' := (37, [some (.ref 1), some (.int r1), some (.int r5), none], [.int 9, .int 1, .ref 1], qMM m6 n lm)) rfl ?_
      obtain ⟨⟨r9, m10⟩, hf11, h⟩ := Option.bind_eq_some_iff.mp h
      try dsimp only at h
      refine q_ev_call (S' := (40, [some (.ref 1), some (.int r1), some (.int r5), none], [], qMM m6 n lm)) rfl (by omega) (T_Re_takeNumber_1 (by first | omega | decide) hf11) ?_
      refine q_ev_eq (S' := (40, [some (.ref 1), some (.int r1), some (.int r5), none], [.int r9], qMM m10 n lm)) rfl ?_
      refine q_ev_run 3 (S' := (44, [some (.ref 1), some (.int r1), some (.int r5), some (.int r9)], [.int (Int32.ofInt (-9)), .int r9], qMM m10 n lm)) rfl ?_
      by_cases hc12 : r9 = (Int32.ofInt (-9))
      · rw [if_pos hc12] at h
        refine q_ev_brT hc12 (a := 47) (b := 49) rfl ?_
        refine q_ev_run 1 (S' := (48, [some (.ref 1), some (.int r1), some (.int r5), some (.int r9)], [.int 0], qMM m10 n lm)) rfl ?_
        have h_z0 := Option.some.inj h
        obtain ⟨h_0, h_z1⟩ := Prod.mk.inj h_z0
        subst h_0
        subst h_z1
        exact q_ev_ret rfl rfl
      · rw [if_neg hc12] at h
        refine q_ev_brF hc12 (a := 47) (b := 49) rfl ?_
        refine q_ev_run 5 (S' := (56, [some (.ref 1), some (.int r1), some (.int r5), some (.int r9)], [.int r9, .int r5, .int r1, .ref 3], qMM m10 n lm)) rfl ?_
        obtain ⟨m13, hf14, h⟩ := Option.bind_eq_some_iff.mp h
        try dsimp only at h
        refine q_ev_call (S' := (59, [some (.ref 1), some (.int r1), some (.int r5), some (.int r9)], [], qMM m10 n lm)) rfl (by omega) (T_La_putFurrow_3 (by first | omega | decide) hf14) ?_
        refine q_ev_eq (S' := (59, [some (.ref 1), some (.int r1), some (.int r5), some (.int r9)], [], qMM m13 n lm)) rfl ?_
        refine q_ev_run 1 (S' := (60, [some (.ref 1), some (.int r1), some (.int r5), some (.int r9)], [.int 1], qMM m13 n lm)) rfl ?_
        have h_z0 := Option.some.inj h
        obtain ⟨h_0, h_z1⟩ := Prod.mk.inj h_z0
        subst h_0
        subst h_z1
        exact q_ev_ret rfl rfl
noncomputable def F_Re_readHedgehog_1 (m : (Nat → Nat → Int32)) : Option (Int32 × (Nat → Nat → Int32)) :=
  Option.bind (F_Re_takeNumber_1 m 0 15) (fun (r1, m2) =>
    if r1 = (Int32.ofInt (-9)) then
      some (0, m2)
    else
      if m2 3 1 < 5 then
        cond (q_in (m2 3 1) 5) (some (1, (q_w (q_w m2 7 (m2 3 1).toNatClampNeg r1) 3 1 (m2 3 1 + 1)))) none
      else
        some (0, m2))
theorem T_Re_readHedgehog_1 {Ln : Nat} {xs : Nat → Int32} {n : (Nat → Nat → Int32)} {lm : Nat → Int64} {d : Nat} (hd : 1 ≤ d) {m : (Nat → Nat → Int32)} {rv : Int32} {m1 : (Nat → Nat → Int32)} (h : F_Re_readHedgehog_1 m = some (rv, m1)) : q_Ev (qXT Ln xs) d 47 (0, [some (.ref 1), none], [], qMM m n lm) (some (.int rv), qMM m1 n lm) := by
  unfold F_Re_readHedgehog_1 at h
  refine q_ev_run 3 (S' := (4, [some (.ref 1), none], [.int 15, .int 0, .ref 1], qMM m n lm)) rfl ?_
  obtain ⟨⟨r1, m2⟩, hf3, h⟩ := Option.bind_eq_some_iff.mp h
  try dsimp only at h
  refine q_ev_call (S' := (7, [some (.ref 1), none], [], qMM m n lm)) rfl (by omega) (T_Re_takeNumber_1 (by first | omega | decide) hf3) ?_
  refine q_ev_eq (S' := (7, [some (.ref 1), none], [.int r1], qMM m2 n lm)) rfl ?_
  refine q_ev_run 3 (S' := (11, [some (.ref 1), some (.int r1)], [.int (Int32.ofInt (-9)), .int r1], qMM m2 n lm)) rfl ?_
  by_cases hc4 : r1 = (Int32.ofInt (-9))
  · rw [if_pos hc4] at h
    refine q_ev_brT hc4 (a := 25) (b := 14) rfl ?_
    refine q_ev_run 1 (S' := (26, [some (.ref 1), some (.int r1)], [.int 0], qMM m2 n lm)) rfl ?_
    have h_z0 := Option.some.inj h
    obtain ⟨h_0, h_z1⟩ := Prod.mk.inj h_z0
    subst h_0
    subst h_z1
    exact q_ev_ret rfl rfl
  · rw [if_neg hc4] at h
    refine q_ev_brF hc4 (a := 25) (b := 14) rfl ?_
    refine q_ev_run 4 (S' := (22, [some (.ref 1), some (.int r1)], [.int 5, .int (m2 3 1)], qMM m2 n lm)) rfl ?_
    by_cases hc5 : m2 3 1 < 5
    · rw [if_pos hc5] at h
      refine q_ev_brT hc5 (a := 27) (b := 25) rfl ?_
      refine q_ev_run 7 (S' := (42, [some (.ref 1), some (.int r1)], [.int r1, .int (m2 3 1), .ref 7], qMM m2 n lm)) rfl ?_
      obtain ⟨hb6, h⟩ := q_cd h
      refine q_ev_chk (b := q_in (m2 3 1) 5) hb6 (S' := (43, [some (.ref 1), some (.int r1)], [], qMM (q_w m2 7 (m2 3 1).toNatClampNeg r1) n lm)) rfl ?_
      refine q_ev_run 8 (S' := (57, [some (.ref 1), some (.int r1)], [.int 1], qMM (q_w (q_w m2 7 (m2 3 1).toNatClampNeg r1) 3 1 (m2 3 1 + 1)) n lm)) rfl ?_
      have h_z0 := Option.some.inj h
      obtain ⟨h_0, h_z1⟩ := Prod.mk.inj h_z0
      subst h_0
      subst h_z1
      exact q_ev_ret rfl rfl
    · rw [if_neg hc5] at h
      refine q_ev_brF hc5 (a := 27) (b := 25) rfl ?_
      refine q_ev_run 1 (S' := (26, [some (.ref 1), some (.int r1)], [.int 0], qMM m2 n lm)) rfl ?_
      have h_z0 := Option.some.inj h
      obtain ⟨h_0, h_z1⟩ := Prod.mk.inj h_z0
      subst h_0
      subst h_z1
      exact q_ev_ret rfl rfl
noncomputable def F_La_putSight_3 (m : (Nat → Nat → Int32)) (a1 : Int32) (a2 : Int32) : Option ((Nat → Nat → Int32)) :=
  cond (q_in a1 8) (cond (q_in a1 8) (cond (q_in a2 8) (cond (q_in a2 8) (some ((q_w (q_w m 6 a1.toNatClampNeg (m 6 a1.toNatClampNeg ||| ((1 : Int32) <<< (a2 &&& 31)))) 6 a2.toNatClampNeg ((q_w m 6 a1.toNatClampNeg (m 6 a1.toNatClampNeg ||| ((1 : Int32) <<< (a2 &&& 31)))) 6 a2.toNatClampNeg ||| ((1 : Int32) <<< (a1 &&& 31)))))) none) none) none) none
theorem T_La_putSight_3 {Ln : Nat} {xs : Nat → Int32} {n : (Nat → Nat → Int32)} {lm : Nat → Int64} {d : Nat} (hd : 0 ≤ d) {m : (Nat → Nat → Int32)} {a1 : Int32} {a2 : Int32} {m1 : (Nat → Nat → Int32)} (h : F_La_putSight_3 m a1 a2 = some m1) : q_Ev (qXT Ln xs) d 20 (0, [some (.ref 3), some (.int a1), some (.int a2)], [], qMM m n lm) (none, qMM m1 n lm) := by
  unfold F_La_putSight_3 at h
  refine q_ev_run 4 (S' := (6, [some (.ref 3), some (.int a1), some (.int a2)], [.int a1, .ref 6, .int a1, .ref 6], qMM m n lm)) rfl ?_
  obtain ⟨hb1, h⟩ := q_cd h
  refine q_ev_chk (b := q_in a1 8) hb1 (S' := (7, [some (.ref 3), some (.int a1), some (.int a2)], [.int (m 6 a1.toNatClampNeg), .int a1, .ref 6], qMM m n lm)) rfl ?_
  refine q_ev_run 4 (S' := (11, [some (.ref 3), some (.int a1), some (.int a2)], [.int (m 6 a1.toNatClampNeg ||| ((1 : Int32) <<< (a2 &&& 31))), .int a1, .ref 6], qMM m n lm)) rfl ?_
  obtain ⟨hb2, h⟩ := q_cd h
  refine q_ev_chk (b := q_in a1 8) hb2 (S' := (12, [some (.ref 3), some (.int a1), some (.int a2)], [], qMM (q_w m 6 a1.toNatClampNeg (m 6 a1.toNatClampNeg ||| ((1 : Int32) <<< (a2 &&& 31)))) n lm)) rfl ?_
  refine q_ev_run 4 (S' := (18, [some (.ref 3), some (.int a1), some (.int a2)], [.int a2, .ref 6, .int a2, .ref 6], qMM (q_w m 6 a1.toNatClampNeg (m 6 a1.toNatClampNeg ||| ((1 : Int32) <<< (a2 &&& 31)))) n lm)) rfl ?_
  obtain ⟨hb3, h⟩ := q_cd h
  refine q_ev_chk (b := q_in a2 8) hb3 (S' := (19, [some (.ref 3), some (.int a1), some (.int a2)], [.int ((q_w m 6 a1.toNatClampNeg (m 6 a1.toNatClampNeg ||| ((1 : Int32) <<< (a2 &&& 31)))) 6 a2.toNatClampNeg), .int a2, .ref 6], qMM (q_w m 6 a1.toNatClampNeg (m 6 a1.toNatClampNeg ||| ((1 : Int32) <<< (a2 &&& 31)))) n lm)) rfl ?_
  refine q_ev_run 4 (S' := (23, [some (.ref 3), some (.int a1), some (.int a2)], [.int ((q_w m 6 a1.toNatClampNeg (m 6 a1.toNatClampNeg ||| ((1 : Int32) <<< (a2 &&& 31)))) 6 a2.toNatClampNeg ||| ((1 : Int32) <<< (a1 &&& 31))), .int a2, .ref 6], qMM (q_w m 6 a1.toNatClampNeg (m 6 a1.toNatClampNeg ||| ((1 : Int32) <<< (a2 &&& 31)))) n lm)) rfl ?_
  obtain ⟨hb4, h⟩ := q_cd h
  refine q_ev_chk (b := q_in a2 8) hb4 (S' := (24, [some (.ref 3), some (.int a1), some (.int a2)], [], qMM (q_w (q_w m 6 a1.toNatClampNeg (m 6 a1.toNatClampNeg ||| ((1 : Int32) <<< (a2 &&& 31)))) 6 a2.toNatClampNeg ((q_w m 6 a1.toNatClampNeg (m 6 a1.toNatClampNeg ||| ((1 : Int32) <<< (a2 &&& 31)))) 6 a2.toNatClampNeg ||| ((1 : Int32) <<< (a1 &&& 31)))) n lm)) rfl ?_
  have h_z0 := Option.some.inj h
  subst h_z0
  exact q_ev_ret rfl rfl
noncomputable def F_Re_readSight_1 (m : (Nat → Nat → Int32)) : Option (Int32 × (Nat → Nat → Int32)) :=
  Option.bind (F_Re_takePlace_1 m) (fun (r1, m2) =>
    if r1 = (Int32.ofInt (-9)) then
      some (0, m2)
    else
      Option.bind (F_Re_takePlaceUnlike_1 m2 r1) (fun (r5, m6) =>
        if r5 = (Int32.ofInt (-9)) then
          some (0, m6)
        else
          Option.bind (F_La_putSight_3 m6 r1 r5) (fun m9 =>
            some (1, m9))))
theorem T_Re_readSight_1 {Ln : Nat} {xs : Nat → Int32} {n : (Nat → Nat → Int32)} {lm : Nat → Int64} {d : Nat} (hd : 2 ≤ d) {m : (Nat → Nat → Int32)} {rv : Int32} {m1 : (Nat → Nat → Int32)} (h : F_Re_readSight_1 m = some (rv, m1)) : q_Ev (qXT Ln xs) d 46 (0, [some (.ref 1), none, none], [], qMM m n lm) (some (.int rv), qMM m1 n lm) := by
  unfold F_Re_readSight_1 at h
  refine q_ev_run 1 (S' := (1, [some (.ref 1), none, none], [.ref 1], qMM m n lm)) rfl ?_
  obtain ⟨⟨r1, m2⟩, hf3, h⟩ := Option.bind_eq_some_iff.mp h
  try dsimp only at h
  refine q_ev_call (S' := (4, [some (.ref 1), none, none], [], qMM m n lm)) rfl (by omega) (T_Re_takePlace_1 (by first | omega | decide) hf3) ?_
  refine q_ev_eq (S' := (4, [some (.ref 1), none, none], [.int r1], qMM m2 n lm)) rfl ?_
  refine q_ev_run 3 (S' := (8, [some (.ref 1), some (.int r1), none], [.int (Int32.ofInt (-9)), .int r1], qMM m2 n lm)) rfl ?_
  by_cases hc4 : r1 = (Int32.ofInt (-9))
  · rw [if_pos hc4] at h
    refine q_ev_brT hc4 (a := 11) (b := 16) rfl ?_
    refine q_ev_run 7 (S' := (29, [some (.ref 1), some (.int r1), some (.int (Int32.ofInt (-9)))], [.int 0], qMM m2 n lm)) rfl ?_
    have h_z0 := Option.some.inj h
    obtain ⟨h_0, h_z1⟩ := Prod.mk.inj h_z0
    subst h_0
    subst h_z1
    exact q_ev_ret rfl rfl
  · rw [if_neg hc4] at h
    refine q_ev_brF hc4 (a := 11) (b := 16) rfl ?_
    refine q_ev_run 2 (S' := (18, [some (.ref 1), some (.int r1), none], [.int r1, .ref 1], qMM m2 n lm)) rfl ?_
    obtain ⟨⟨r5, m6⟩, hf7, h⟩ := Option.bind_eq_some_iff.mp h
    try dsimp only at h
    refine q_ev_call (S' := (21, [some (.ref 1), some (.int r1), none], [], qMM m2 n lm)) rfl (by omega) (T_Re_takePlaceUnlike_1 (by first | omega | decide) hf7) ?_
    refine q_ev_eq (S' := (21, [some (.ref 1), some (.int r1), none], [.int r5], qMM m6 n lm)) rfl ?_
    refine q_ev_run 3 (S' := (25, [some (.ref 1), some (.int r1), some (.int r5)], [.int (Int32.ofInt (-9)), .int r5], qMM m6 n lm)) rfl ?_
    by_cases hc8 : r5 = (Int32.ofInt (-9))
    · rw [if_pos hc8] at h
      refine q_ev_brT hc8 (a := 28) (b := 30) rfl ?_
      refine q_ev_run 1 (S' := (29, [some (.ref 1), some (.int r1), some (.int r5)], [.int 0], qMM m6 n lm)) rfl ?_
      have h_z0 := Option.some.inj h
      obtain ⟨h_0, h_z1⟩ := Prod.mk.inj h_z0
      subst h_0
      subst h_z1
      exact q_ev_ret rfl rfl
    · rw [if_neg hc8] at h
      refine q_ev_brF hc8 (a := 28) (b := 30) rfl ?_
      refine q_ev_run 4 (S' := (36, [some (.ref 1), some (.int r1), some (.int r5)], [.int r5, .int r1, .ref 3], qMM m6 n lm)) rfl ?_
      obtain ⟨m9, hf10, h⟩ := Option.bind_eq_some_iff.mp h
      try dsimp only at h
      refine q_ev_call (S' := (39, [some (.ref 1), some (.int r1), some (.int r5)], [], qMM m6 n lm)) rfl (by omega) (T_La_putSight_3 (by first | omega | decide) hf10) ?_
      refine q_ev_eq (S' := (39, [some (.ref 1), some (.int r1), some (.int r5)], [], qMM m9 n lm)) rfl ?_
      refine q_ev_run 1 (S' := (40, [some (.ref 1), some (.int r1), some (.int r5)], [.int 1], qMM m9 n lm)) rfl ?_
      have h_z0 := Option.some.inj h
      obtain ⟨h_0, h_z1⟩ := Prod.mk.inj h_z0
      subst h_0
      subst h_z1
      exact q_ev_ret rfl rfl
noncomputable def F_La_hasPlace_3 (m : (Nat → Nat → Int32)) (a1 : Int32) : Option (Int32) :=
  if a1 < 0 then
    some (0)
  else
    if m 3 0 ≤ a1 then
      some (0)
    else
      some (1)
theorem T_La_hasPlace_3 {Ln : Nat} {xs : Nat → Int32} {n : (Nat → Nat → Int32)} {lm : Nat → Int64} {d : Nat} (hd : 0 ≤ d) {m : (Nat → Nat → Int32)} {a1 : Int32} {rv : Int32} (h : F_La_hasPlace_3 m a1 = some rv) : q_Ev (qXT Ln xs) d 15 (0, [some (.ref 3), some (.int a1)], [], qMM m n lm) (some (.int rv), qMM m n lm) := by
  unfold F_La_hasPlace_3 at h
  refine q_ev_run 1 (S' := (1, [some (.ref 3), some (.int a1)], [.int a1], qMM m n lm)) rfl ?_
  by_cases hc1 : a1 < 0
  · rw [if_pos hc1] at h
    refine q_ev_brT hc1 (a := 16) (b := 4) rfl ?_
    refine q_ev_run 1 (S' := (17, [some (.ref 3), some (.int a1)], [.int 0], qMM m n lm)) rfl ?_
    have h_z0 := Option.some.inj h
    subst h_z0
    exact q_ev_ret rfl rfl
  · rw [if_neg hc1] at h
    refine q_ev_brF hc1 (a := 16) (b := 4) rfl ?_
    refine q_ev_run 3 (S' := (9, [some (.ref 3), some (.int a1)], [.int (m 3 0), .int a1], qMM m n lm)) rfl ?_
    by_cases hc2 : m 3 0 ≤ a1
    · rw [if_pos hc2] at h
      refine q_ev_brT hc2 (a := 16) (b := 12) rfl ?_
      refine q_ev_run 1 (S' := (17, [some (.ref 3), some (.int a1)], [.int 0], qMM m n lm)) rfl ?_
      have h_z0 := Option.some.inj h
      subst h_z0
      exact q_ev_ret rfl rfl
    · rw [if_neg hc2] at h
      refine q_ev_brF hc2 (a := 16) (b := 12) rfl ?_
      refine q_ev_run 2 (S' := (17, [some (.ref 3), some (.int a1)], [.int 1], qMM m n lm)) rfl ?_
      have h_z0 := Option.some.inj h
      subst h_z0
      exact q_ev_ret rfl rfl
noncomputable def F_La_furrowBetween_3 (m : (Nat → Nat → Int32)) (a1 : Int32) (a2 : Int32) : Option (Int32) :=
  Option.bind (F_La_pair a1 a2) (fun r1 =>
    cond (q_in r1 64) (some (m 4 r1.toNatClampNeg)) none)
theorem T_La_furrowBetween_3 {Ln : Nat} {xs : Nat → Int32} {n : (Nat → Nat → Int32)} {lm : Nat → Int64} {d : Nat} (hd : 1 ≤ d) {m : (Nat → Nat → Int32)} {a1 : Int32} {a2 : Int32} {rv : Int32} (h : F_La_furrowBetween_3 m a1 a2 = some rv) : q_Ev (qXT Ln xs) d 18 (0, [some (.ref 3), some (.int a1), some (.int a2)], [], qMM m n lm) (some (.int rv), qMM m n lm) := by
  unfold F_La_furrowBetween_3 at h
  refine q_ev_run 4 (S' := (6, [some (.ref 3), some (.int a1), some (.int a2)], [.int a2, .int a1, .ref 4], qMM m n lm)) rfl ?_
  obtain ⟨r1, hf2, h⟩ := Option.bind_eq_some_iff.mp h
  try dsimp only at h
  refine q_ev_call (S' := (9, [some (.ref 3), some (.int a1), some (.int a2)], [.ref 4], qMM m n lm)) rfl (by omega) (T_La_pair (by first | omega | decide) hf2) ?_
  refine q_ev_eq (S' := (9, [some (.ref 3), some (.int a1), some (.int a2)], [.int r1, .ref 4], qMM m n lm)) rfl ?_
  obtain ⟨hb3, h⟩ := q_cd h
  refine q_ev_chk (b := q_in r1 64) hb3 (S' := (10, [some (.ref 3), some (.int a1), some (.int a2)], [.int (m 4 r1.toNatClampNeg)], qMM m n lm)) rfl ?_
  have h_z0 := Option.some.inj h
  subst h_z0
  exact q_ev_ret rfl rfl
noncomputable def F_Re_takePlaceBeyondFurrow_1 (m : (Nat → Nat → Int32)) (a1 : Int32) : Option (Int32 × (Nat → Nat → Int32)) :=
  cond (q_in (m 1 5) 201) (
    Option.bind (F_La_hasPlace_3 m (m 70 (m 1 5).toNatClampNeg - 258)) (fun r2 =>
      if r2 = 0 then
        Option.bind (F_Re_takeNumber_1 m 0 (m 3 0 - 1)) (fun (r5, m6) =>
          some (r5, m6))
      else
        Option.bind (F_La_furrowBetween_3 m a1 (m 70 (m 1 5).toNatClampNeg - 258)) (fun r8 =>
          if r8 = 0 then
            some ((Int32.ofInt (-9)), m)
          else
            Option.bind (F_Re_takeNumber_1 m 0 (m 3 0 - 1)) (fun (r11, m12) =>
              some (r11, m12))))
   ) none
theorem T_Re_takePlaceBeyondFurrow_1 {Ln : Nat} {xs : Nat → Int32} {n : (Nat → Nat → Int32)} {lm : Nat → Int64} {d : Nat} (hd : 2 ≤ d) {m : (Nat → Nat → Int32)} {a1 : Int32} {rv : Int32} {m1 : (Nat → Nat → Int32)} (h : F_Re_takePlaceBeyondFurrow_1 m a1 = some (rv, m1)) : q_Ev (qXT Ln xs) d 51 (0, [some (.ref 1), some (.int a1), none, none], [], qMM m n lm) (some (.int rv), qMM m1 n lm) := by
  unfold F_Re_takePlaceBeyondFurrow_1 at h
  refine q_ev_run 4 (S' := (8, [some (.ref 1), some (.int a1), none, none], [.int (m 1 5), .ref 9], qMM m n lm)) rfl ?_
  obtain ⟨hb1, h⟩ := q_cd h
  refine q_ev_chk (b := q_in (m 1 5) 201) hb1 (S' := (9, [some (.ref 1), some (.int a1), none, none], [.int (m 70 (m 1 5).toNatClampNeg)], qMM m n lm)) rfl ?_
  refine q_ev_run 6 (S' := (19, [some (.ref 1), some (.int a1), some (.int (m 70 (m 1 5).toNatClampNeg - 258)), none], [.int (m 70 (m 1 5).toNatClampNeg - 258), .ref 3], qMM m n lm)) rfl ?_
  obtain ⟨r2, hf3, h⟩ := Option.bind_eq_some_iff.mp h
  try dsimp only at h
  refine q_ev_call (S' := (22, [some (.ref 1), some (.int a1), some (.int (m 70 (m 1 5).toNatClampNeg - 258)), none], [], qMM m n lm)) rfl (by omega) (T_La_hasPlace_3 (by first | omega | decide) hf3) ?_
  refine q_ev_eq (S' := (22, [some (.ref 1), some (.int a1), some (.int (m 70 (m 1 5).toNatClampNeg - 258)), none], [.int r2], qMM m n lm)) rfl ?_
  by_cases hc4 : r2 = 0
  · rw [if_pos hc4] at h
    refine q_ev_brT hc4 (a := 41) (b := 25) rfl ?_
    refine q_ev_run 11 (S' := (63, [some (.ref 1), some (.int a1), some (.int (m 70 (m 1 5).toNatClampNeg - 258)), some (.int 0)], [.int (m 3 0 - 1), .int 0, .ref 1], qMM m n lm)) rfl ?_
    obtain ⟨⟨r5, m6⟩, hf7, h⟩ := Option.bind_eq_some_iff.mp h
    try dsimp only at h
    refine q_ev_call (S' := (66, [some (.ref 1), some (.int a1), some (.int (m 70 (m 1 5).toNatClampNeg - 258)), some (.int 0)], [], qMM m n lm)) rfl (by omega) (T_Re_takeNumber_1 (by first | omega | decide) hf7) ?_
    refine q_ev_eq (S' := (66, [some (.ref 1), some (.int a1), some (.int (m 70 (m 1 5).toNatClampNeg - 258)), some (.int 0)], [.int r5], qMM m6 n lm)) rfl ?_
    have h_z0 := Option.some.inj h
    obtain ⟨h_0, h_z1⟩ := Prod.mk.inj h_z0
    subst h_0
    subst h_z1
    exact q_ev_ret rfl rfl
  · rw [if_neg hc4] at h
    refine q_ev_brF hc4 (a := 41) (b := 25) rfl ?_
    refine q_ev_run 4 (S' := (31, [some (.ref 1), some (.int a1), some (.int (m 70 (m 1 5).toNatClampNeg - 258)), none], [.int (m 70 (m 1 5).toNatClampNeg - 258), .int a1, .ref 3], qMM m n lm)) rfl ?_
    obtain ⟨r8, hf9, h⟩ := Option.bind_eq_some_iff.mp h
    try dsimp only at h
    refine q_ev_call (S' := (34, [some (.ref 1), some (.int a1), some (.int (m 70 (m 1 5).toNatClampNeg - 258)), none], [], qMM m n lm)) rfl (by omega) (T_La_furrowBetween_3 (by first | omega | decide) hf9) ?_
    refine q_ev_eq (S' := (34, [some (.ref 1), some (.int a1), some (.int (m 70 (m 1 5).toNatClampNeg - 258)), none], [.int r8], qMM m n lm)) rfl ?_
    by_cases hc10 : r8 = 0
    · rw [if_pos hc10] at h
      refine q_ev_brT hc10 (a := 37) (b := 41) rfl ?_
      refine q_ev_run 7 (S' := (66, [some (.ref 1), some (.int a1), some (.int (m 70 (m 1 5).toNatClampNeg - 258)), some (.int 1)], [.int (Int32.ofInt (-9))], qMM m n lm)) rfl ?_
      have h_z0 := Option.some.inj h
      obtain ⟨h_0, h_z1⟩ := Prod.mk.inj h_z0
      subst h_0
      subst h_z1
      exact q_ev_ret rfl rfl
    · rw [if_neg hc10] at h
      refine q_ev_brF hc10 (a := 37) (b := 41) rfl ?_
      refine q_ev_run 11 (S' := (63, [some (.ref 1), some (.int a1), some (.int (m 70 (m 1 5).toNatClampNeg - 258)), some (.int 0)], [.int (m 3 0 - 1), .int 0, .ref 1], qMM m n lm)) rfl ?_
      obtain ⟨⟨r11, m12⟩, hf13, h⟩ := Option.bind_eq_some_iff.mp h
      try dsimp only at h
      refine q_ev_call (S' := (66, [some (.ref 1), some (.int a1), some (.int (m 70 (m 1 5).toNatClampNeg - 258)), some (.int 0)], [], qMM m n lm)) rfl (by omega) (T_Re_takeNumber_1 (by first | omega | decide) hf13) ?_
      refine q_ev_eq (S' := (66, [some (.ref 1), some (.int a1), some (.int (m 70 (m 1 5).toNatClampNeg - 258)), some (.int 0)], [.int r11], qMM m12 n lm)) rfl ?_
      have h_z0 := Option.some.inj h
      obtain ⟨h_0, h_z1⟩ := Prod.mk.inj h_z0
      subst h_0
      subst h_z1
      exact q_ev_ret rfl rfl
noncomputable def FL_Re_readCourse_1_7 : Nat → (Nat → Nat → Int32) → Int32 → Int32 → Option ((Int32 × (Nat → Nat → Int32)) ⊕ ((Nat → Nat → Int32)))
  | 0, _, _, _ => none
  | fu + 1, m, x1, x2 =>
    if 8 ≤ x2 then
      some (.inr m)
    else
      if x1 = (Int32.ofInt (-9)) then
        some (.inr m)
      else
        cond (q_in x2 8) (
          cond (q_in (m 1 5) 201) (
            if m 70 (m 1 5).toNatClampNeg = 59 then
              some (.inl (1, (q_w (q_w m 8 x2.toNatClampNeg x1) 3 2 (x2 + 1))))
            else
              if (x2 + 1) = 8 then
                some (.inl (1, (q_w (q_w m 8 x2.toNatClampNeg x1) 3 2 (x2 + 1))))
              else
                Option.bind (F_Re_takePlaceBeyondFurrow_1 (q_w (q_w m 8 x2.toNatClampNeg x1) 3 2 (x2 + 1)) x1) (fun (r7, m8) =>
                  FL_Re_readCourse_1_7 fu m8 r7 (x2 + 1))
           ) none
         ) none
theorem TL_Re_readCourse_1_7 {Ln : Nat} {xs : Nat → Int32} {n : (Nat → Nat → Int32)} {lm : Nat → Int64} {d : Nat} (hd : 3 ≤ d) {r : Option Value × qM} : ∀ (fu : Nat) (m : (Nat → Nat → Int32)) (x1 : Int32) (x2 : Int32)  (o : (Int32 × (Nat → Nat → Int32)) ⊕ ((Nat → Nat → Int32))), FL_Re_readCourse_1_7 fu m x1 x2 = some o → (∀ (rv : Int32) (m1 : (Nat → Nat → Int32)), o = .inl (rv, m1) → r = (some (.int rv), qMM m1 n lm)) → (∀ (m1 : (Nat → Nat → Int32)), o = .inr m1 → ∀ (u1 u2 : Option Value), q_Ev (qXT Ln xs) d 48 (79, [some (.ref 1), u1, u2], [], qMM m1 n lm) r) → q_Ev (qXT Ln xs) d 48 (7, [some (.ref 1), some (.int x1), some (.int x2)], [], qMM m n lm) r := by
  intro fu
  induction fu with
  | zero => intro m x1 x2 o h hr hk; cases h
  | succ fu ih =>
    intro m x1 x2 o h hr hk
    rw [FL_Re_readCourse_1_7] at h
    refine q_ev_run 2 (S' := (10, [some (.ref 1), some (.int x1), some (.int x2)], [.int 8, .int x2], qMM m n lm)) rfl ?_
    by_cases hc1 : 8 ≤ x2
    · rw [if_pos hc1] at h
      refine q_ev_brT hc1 (a := 79) (b := 13) rfl ?_
      obtain rfl := (Option.some.inj h).symm
      exact hk _ rfl (some (.int x1)) (some (.int x2))
    · rw [if_neg hc1] at h
      refine q_ev_brF hc1 (a := 79) (b := 13) rfl ?_
      refine q_ev_run 2 (S' := (16, [some (.ref 1), some (.int x1), some (.int x2)], [.int (Int32.ofInt (-9)), .int x1], qMM m n lm)) rfl ?_
      by_cases hc2 : x1 = (Int32.ofInt (-9))
      · rw [if_pos hc2] at h
        refine q_ev_brT hc2 (a := 79) (b := 19) rfl ?_
        obtain rfl := (Option.some.inj h).symm
        exact hk _ rfl (some (.int x1)) (some (.int x2))
      · rw [if_neg hc2] at h
        refine q_ev_brF hc2 (a := 79) (b := 19) rfl ?_
        refine q_ev_run 5 (S' := (28, [some (.ref 1), some (.int x1), some (.int x2)], [.int x1, .int x2, .ref 8], qMM m n lm)) rfl ?_
        obtain ⟨hb3, h⟩ := q_cd h
        refine q_ev_chk (b := q_in x2 8) hb3 (S' := (29, [some (.ref 1), some (.int x1), some (.int x2)], [], qMM (q_w m 8 x2.toNatClampNeg x1) n lm)) rfl ?_
        refine q_ev_run 10 (S' := (47, [some (.ref 1), some (.int x1), some (.int x2)], [.int (m 1 5), .ref 9], qMM (q_w (q_w m 8 x2.toNatClampNeg x1) 3 2 (x2 + 1)) n lm)) rfl ?_
        obtain ⟨hb4, h⟩ := q_cd h
        refine q_ev_chk (b := q_in (m 1 5) 201) hb4 (S' := (48, [some (.ref 1), some (.int x1), some (.int x2)], [.int (m 70 (m 1 5).toNatClampNeg)], qMM (q_w (q_w m 8 x2.toNatClampNeg x1) 3 2 (x2 + 1)) n lm)) rfl ?_
        refine q_ev_run 1 (S' := (50, [some (.ref 1), some (.int x1), some (.int x2)], [.int 59, .int (m 70 (m 1 5).toNatClampNeg)], qMM (q_w (q_w m 8 x2.toNatClampNeg x1) 3 2 (x2 + 1)) n lm)) rfl ?_
        by_cases hc5 : m 70 (m 1 5).toNatClampNeg = 59
        · rw [if_pos hc5] at h
          refine q_ev_brT hc5 (a := 65) (b := 53) rfl ?_
          refine q_ev_run 1 (S' := (66, [some (.ref 1), some (.int x1), some (.int x2)], [.int 1], qMM (q_w (q_w m 8 x2.toNatClampNeg x1) 3 2 (x2 + 1)) n lm)) rfl ?_
          obtain rfl := (Option.some.inj h).symm
          rw [hr _ _ rfl]
          exact q_ev_ret rfl rfl
        · rw [if_neg hc5] at h
          refine q_ev_brF hc5 (a := 65) (b := 53) rfl ?_
          refine q_ev_run 4 (S' := (62, [some (.ref 1), some (.int x1), some (.int x2)], [.int 8, .int (x2 + 1)], qMM (q_w (q_w m 8 x2.toNatClampNeg x1) 3 2 (x2 + 1)) n lm)) rfl ?_
          by_cases hc6 : (x2 + 1) = 8
          · rw [if_pos hc6] at h
            refine q_ev_brT hc6 (a := 65) (b := 67) rfl ?_
            refine q_ev_run 1 (S' := (66, [some (.ref 1), some (.int x1), some (.int x2)], [.int 1], qMM (q_w (q_w m 8 x2.toNatClampNeg x1) 3 2 (x2 + 1)) n lm)) rfl ?_
            obtain rfl := (Option.some.inj h).symm
            rw [hr _ _ rfl]
            exact q_ev_ret rfl rfl
          · rw [if_neg hc6] at h
            refine q_ev_brF hc6 (a := 65) (b := 67) rfl ?_
            refine q_ev_run 2 (S' := (69, [some (.ref 1), some (.int x1), some (.int x2)], [.int x1, .ref 1], qMM (q_w (q_w m 8 x2.toNatClampNeg x1) 3 2 (x2 + 1)) n lm)) rfl ?_
            obtain ⟨⟨r7, m8⟩, hf9, h⟩ := Option.bind_eq_some_iff.mp h
            try dsimp only at h
            refine q_ev_call (S' := (72, [some (.ref 1), some (.int x1), some (.int x2)], [], qMM (q_w (q_w m 8 x2.toNatClampNeg x1) 3 2 (x2 + 1)) n lm)) rfl (by omega) (T_Re_takePlaceBeyondFurrow_1 (by first | omega | decide) hf9) ?_
            refine q_ev_eq (S' := (72, [some (.ref 1), some (.int x1), some (.int x2)], [.int r7], qMM m8 n lm)) rfl ?_
            refine q_ev_run 3 (S' := (7, [some (.ref 1), some (.int r7), some (.int (x2 + 1))], [], qMM m8 n lm)) rfl ?_
            exact ih m8 r7 (x2 + 1) _ h hr hk
noncomputable def F_Re_readCourse_1 (m : (Nat → Nat → Int32)) : Option (Int32 × (Nat → Nat → Int32)) :=
  Option.bind (F_Re_takePlace_1 m) (fun (r1, m2) =>
    Option.bind (FL_Re_readCourse_1_7 qFU m2 r1 0) (fun o8 => match o8 with
      | .inl (v0, v1) => some (v0, v1)
      | .inr m6 =>
        some (0, m6)))
theorem T_Re_readCourse_1 {Ln : Nat} {xs : Nat → Int32} {n : (Nat → Nat → Int32)} {lm : Nat → Int64} {d : Nat} (hd : 3 ≤ d) {m : (Nat → Nat → Int32)} {rv : Int32} {m1 : (Nat → Nat → Int32)} (h : F_Re_readCourse_1 m = some (rv, m1)) : q_Ev (qXT Ln xs) d 48 (0, [some (.ref 1), none, none], [], qMM m n lm) (some (.int rv), qMM m1 n lm) := by
  unfold F_Re_readCourse_1 at h
  refine q_ev_run 1 (S' := (1, [some (.ref 1), none, none], [.ref 1], qMM m n lm)) rfl ?_
  obtain ⟨⟨r1, m2⟩, hf3, h⟩ := Option.bind_eq_some_iff.mp h
  try dsimp only at h
  refine q_ev_call (S' := (4, [some (.ref 1), none, none], [], qMM m n lm)) rfl (by omega) (T_Re_takePlace_1 (by first | omega | decide) hf3) ?_
  refine q_ev_eq (S' := (4, [some (.ref 1), none, none], [.int r1], qMM m2 n lm)) rfl ?_
  refine q_ev_run 3 (S' := (7, [some (.ref 1), some (.int r1), some (.int 0)], [], qMM m2 n lm)) rfl ?_
  obtain ⟨o8, hl7, h⟩ := Option.bind_eq_some_iff.mp h
  rcases o8 with ⟨v0, v1⟩ | m6
  · have h_z0 := Option.some.inj h
    obtain ⟨h_0, h_z1⟩ := Prod.mk.inj h_z0
    subst h_0
    subst h_z1
    exact TL_Re_readCourse_1_7 (by first | omega | decide) _ m2 r1 0 _ hl7 (fun _ _ hh => by cases hh; rfl) (fun _ hh => by cases hh)
  · refine TL_Re_readCourse_1_7 (by first | omega | decide) _ m2 r1 0 _ hl7 (fun _ _ hh => by cases hh) (fun _ hh w4 w5 => ?_)
    cases hh
    try dsimp only at h
    refine q_ev_run 1 (S' := (80, [some (.ref 1), w4, w5], [.int 0], qMM m6 n lm)) rfl ?_
    have h_z0 := Option.some.inj h
    obtain ⟨h_0, h_z1⟩ := Prod.mk.inj h_z0
    subst h_0
    subst h_z1
    exact q_ev_ret rfl rfl
noncomputable def F_Re_readBody_1 (m : (Nat → Nat → Int32)) (a1 : Int32) : Option (Int32 × (Nat → Nat → Int32)) :=
  if a1 = 102 then
    Option.bind (F_Re_readFurrow_1 m) (fun (r1, m2) =>
      cond (q_bl r1) (some (r1, m2)) none)
  else
  if a1 = 104 then
    Option.bind (F_Re_readHedgehog_1 m) (fun (r6, m7) =>
      cond (q_bl r6) (some (r6, m7)) none)
  else
  if a1 = 110 then
    Option.bind (F_Re_takeNumber_1 m 2 8) (fun (r11, m12) =>
      if r11 = (Int32.ofInt (-9)) then
        some (0, (q_w m12 3 0 r11))
      else
        some (1, (q_w m12 3 0 r11)))
  else
  if a1 = 114 then
    Option.bind (F_Re_takeNumber_1 m 0 99) (fun (r16, m17) =>
      if r16 = (Int32.ofInt (-9)) then
        some (0, (q_w m17 3 5 r16))
      else
        some (1, (q_w m17 3 5 r16)))
  else
  if a1 = 115 then
    Option.bind (F_Re_takeNumber_1 m 1 9) (fun (r21, m22) =>
      if r21 = (Int32.ofInt (-9)) then
        some (0, (q_w m22 3 3 r21))
      else
        some (1, (q_w m22 3 3 r21)))
  else
  if a1 = 116 then
    Option.bind (F_Re_takeNumber_1 m 0 3) (fun (r26, m27) =>
      if r26 = (Int32.ofInt (-9)) then
        some (0, (q_w m27 3 4 r26))
      else
        some (1, (q_w m27 3 4 r26)))
  else
  if a1 = 118 then
    Option.bind (F_Re_readSight_1 m) (fun (r31, m32) =>
      cond (q_bl r31) (some (r31, m32)) none)
  else
    Option.bind (F_Re_readCourse_1 m) (fun (r36, m37) =>
      cond (q_bl r36) (some (r36, m37)) none)
theorem T_Re_readBody_1 {Ln : Nat} {xs : Nat → Int32} {n : (Nat → Nat → Int32)} {lm : Nat → Int64} {d : Nat} (hd : 4 ≤ d) {m : (Nat → Nat → Int32)} {a1 : Int32} {rv : Int32} {m1 : (Nat → Nat → Int32)} (h : F_Re_readBody_1 m a1 = some (rv, m1)) : q_Ev (qXT Ln xs) d 44 (0, [some (.ref 1), some (.int a1)], [], qMM m n lm) (some (.int rv), qMM m1 n lm) := by
  unfold F_Re_readBody_1 at h
  refine q_ev_run 1 (S' := (1, [some (.ref 1), some (.int a1)], [.int a1], qMM m n lm)) rfl ?_
  by_cases hc5 : a1 = 102
  · rw [if_pos hc5] at h
    refine q_ev_sw (v := 116) (a := 116) (show q_sw a1 226 102 [116, 226, 126, 226, 226, 226, 226, 226, 84, 226, 226, 226, 194, 131, 163, 226, 121] = 116 by rw [hc5]; rfl) rfl rfl ?_
    refine q_ev_run 1 (S' := (117, [some (.ref 1), some (.int a1)], [.ref 1], qMM m n lm)) rfl ?_
    obtain ⟨⟨r1, m2⟩, hf3, h⟩ := Option.bind_eq_some_iff.mp h
    try dsimp only at h
    refine q_ev_call (S' := (120, [some (.ref 1), some (.int a1)], [], qMM m n lm)) rfl (by omega) (T_Re_readFurrow_1 (by first | omega | decide) hf3) ?_
    refine q_ev_eq (S' := (120, [some (.ref 1), some (.int a1)], [.int r1], qMM m2 n lm)) rfl ?_
    obtain ⟨hb4, h⟩ := q_cd h
    have h_z0 := Option.some.inj h
    obtain ⟨h_0, h_z1⟩ := Prod.mk.inj h_z0
    subst h_0
    subst h_z1
    exact q_ev_retb hb4 rfl rfl
  rw [if_neg hc5] at h
  by_cases hc10 : a1 = 104
  · rw [if_pos hc10] at h
    refine q_ev_sw (v := 126) (a := 126) (show q_sw a1 226 102 [116, 226, 126, 226, 226, 226, 226, 226, 84, 226, 226, 226, 194, 131, 163, 226, 121] = 126 by rw [hc10]; rfl) rfl rfl ?_
    refine q_ev_run 1 (S' := (127, [some (.ref 1), some (.int a1)], [.ref 1], qMM m n lm)) rfl ?_
    obtain ⟨⟨r6, m7⟩, hf8, h⟩ := Option.bind_eq_some_iff.mp h
    try dsimp only at h
    refine q_ev_call (S' := (130, [some (.ref 1), some (.int a1)], [], qMM m n lm)) rfl (by omega) (T_Re_readHedgehog_1 (by first | omega | decide) hf8) ?_
    refine q_ev_eq (S' := (130, [some (.ref 1), some (.int a1)], [.int r6], qMM m7 n lm)) rfl ?_
    obtain ⟨hb9, h⟩ := q_cd h
    have h_z0 := Option.some.inj h
    obtain ⟨h_0, h_z1⟩ := Prod.mk.inj h_z0
    subst h_0
    subst h_z1
    exact q_ev_retb hb9 rfl rfl
  rw [if_neg hc10] at h
  by_cases hc15 : a1 = 110
  · rw [if_pos hc15] at h
    refine q_ev_sw (v := 84) (a := 84) (show q_sw a1 226 102 [116, 226, 126, 226, 226, 226, 226, 226, 84, 226, 226, 226, 194, 131, 163, 226, 121] = 84 by rw [hc15]; rfl) rfl rfl ?_
    refine q_ev_run 5 (S' := (92, [some (.ref 1), some (.int a1)], [.int 8, .int 2, .ref 1, .ref 3], qMM m n lm)) rfl ?_
    obtain ⟨⟨r11, m12⟩, hf13, h⟩ := Option.bind_eq_some_iff.mp h
    try dsimp only at h
    refine q_ev_call (S' := (95, [some (.ref 1), some (.int a1)], [.ref 3], qMM m n lm)) rfl (by omega) (T_Re_takeNumber_1 (by first | omega | decide) hf13) ?_
    refine q_ev_eq (S' := (95, [some (.ref 1), some (.int a1)], [.int r11, .ref 3], qMM m12 n lm)) rfl ?_
    refine q_ev_run 5 (S' := (107, [some (.ref 1), some (.int a1)], [.int (Int32.ofInt (-9)), .int r11], qMM (q_w m12 3 0 r11) n lm)) rfl ?_
    by_cases hc14 : r11 = (Int32.ofInt (-9))
    · rw [if_pos hc14] at h
      refine q_ev_brT hc14 (a := 114) (b := 110) rfl ?_
      refine q_ev_run 1 (S' := (115, [some (.ref 1), some (.int a1)], [.int 0], qMM (q_w m12 3 0 r11) n lm)) rfl ?_
      have h_z0 := Option.some.inj h
      obtain ⟨h_0, h_z1⟩ := Prod.mk.inj h_z0
      subst h_0
      subst h_z1
      exact q_ev_ret rfl rfl
    · rw [if_neg hc14] at h
      refine q_ev_brF hc14 (a := 114) (b := 110) rfl ?_
      refine q_ev_run 2 (S' := (115, [some (.ref 1), some (.int a1)], [.int 1], qMM (q_w m12 3 0 r11) n lm)) rfl ?_
      have h_z0 := Option.some.inj h
      obtain ⟨h_0, h_z1⟩ := Prod.mk.inj h_z0
      subst h_0
      subst h_z1
      exact q_ev_ret rfl rfl
  rw [if_neg hc15] at h
  by_cases hc20 : a1 = 114
  · rw [if_pos hc20] at h
    refine q_ev_sw (v := 194) (a := 194) (show q_sw a1 226 102 [116, 226, 126, 226, 226, 226, 226, 226, 84, 226, 226, 226, 194, 131, 163, 226, 121] = 194 by rw [hc20]; rfl) rfl rfl ?_
    refine q_ev_run 5 (S' := (202, [some (.ref 1), some (.int a1)], [.int 99, .int 0, .ref 1, .ref 3], qMM m n lm)) rfl ?_
    obtain ⟨⟨r16, m17⟩, hf18, h⟩ := Option.bind_eq_some_iff.mp h
    try dsimp only at h
    refine q_ev_call (S' := (205, [some (.ref 1), some (.int a1)], [.ref 3], qMM m n lm)) rfl (by omega) (T_Re_takeNumber_1 (by first | omega | decide) hf18) ?_
    refine q_ev_eq (S' := (205, [some (.ref 1), some (.int a1)], [.int r16, .ref 3], qMM m17 n lm)) rfl ?_
    refine q_ev_run 5 (S' := (217, [some (.ref 1), some (.int a1)], [.int (Int32.ofInt (-9)), .int r16], qMM (q_w m17 3 5 r16) n lm)) rfl ?_
    by_cases hc19 : r16 = (Int32.ofInt (-9))
    · rw [if_pos hc19] at h
      refine q_ev_brT hc19 (a := 224) (b := 220) rfl ?_
      refine q_ev_run 1 (S' := (225, [some (.ref 1), some (.int a1)], [.int 0], qMM (q_w m17 3 5 r16) n lm)) rfl ?_
      have h_z0 := Option.some.inj h
      obtain ⟨h_0, h_z1⟩ := Prod.mk.inj h_z0
      subst h_0
      subst h_z1
      exact q_ev_ret rfl rfl
    · rw [if_neg hc19] at h
      refine q_ev_brF hc19 (a := 224) (b := 220) rfl ?_
      refine q_ev_run 2 (S' := (225, [some (.ref 1), some (.int a1)], [.int 1], qMM (q_w m17 3 5 r16) n lm)) rfl ?_
      have h_z0 := Option.some.inj h
      obtain ⟨h_0, h_z1⟩ := Prod.mk.inj h_z0
      subst h_0
      subst h_z1
      exact q_ev_ret rfl rfl
  rw [if_neg hc20] at h
  by_cases hc25 : a1 = 115
  · rw [if_pos hc25] at h
    refine q_ev_sw (v := 131) (a := 131) (show q_sw a1 226 102 [116, 226, 126, 226, 226, 226, 226, 226, 84, 226, 226, 226, 194, 131, 163, 226, 121] = 131 by rw [hc25]; rfl) rfl rfl ?_
    refine q_ev_run 5 (S' := (139, [some (.ref 1), some (.int a1)], [.int 9, .int 1, .ref 1, .ref 3], qMM m n lm)) rfl ?_
    obtain ⟨⟨r21, m22⟩, hf23, h⟩ := Option.bind_eq_some_iff.mp h
    try dsimp only at h
    refine q_ev_call (S' := (142, [some (.ref 1), some (.int a1)], [.ref 3], qMM m n lm)) rfl (by omega) (T_Re_takeNumber_1 (by first | omega | decide) hf23) ?_
    refine q_ev_eq (S' := (142, [some (.ref 1), some (.int a1)], [.int r21, .ref 3], qMM m22 n lm)) rfl ?_
    refine q_ev_run 5 (S' := (154, [some (.ref 1), some (.int a1)], [.int (Int32.ofInt (-9)), .int r21], qMM (q_w m22 3 3 r21) n lm)) rfl ?_
    by_cases hc24 : r21 = (Int32.ofInt (-9))
    · rw [if_pos hc24] at h
      refine q_ev_brT hc24 (a := 161) (b := 157) rfl ?_
      refine q_ev_run 1 (S' := (162, [some (.ref 1), some (.int a1)], [.int 0], qMM (q_w m22 3 3 r21) n lm)) rfl ?_
      have h_z0 := Option.some.inj h
      obtain ⟨h_0, h_z1⟩ := Prod.mk.inj h_z0
      subst h_0
      subst h_z1
      exact q_ev_ret rfl rfl
    · rw [if_neg hc24] at h
      refine q_ev_brF hc24 (a := 161) (b := 157) rfl ?_
      refine q_ev_run 2 (S' := (162, [some (.ref 1), some (.int a1)], [.int 1], qMM (q_w m22 3 3 r21) n lm)) rfl ?_
      have h_z0 := Option.some.inj h
      obtain ⟨h_0, h_z1⟩ := Prod.mk.inj h_z0
      subst h_0
      subst h_z1
      exact q_ev_ret rfl rfl
  rw [if_neg hc25] at h
  by_cases hc30 : a1 = 116
  · rw [if_pos hc30] at h
    refine q_ev_sw (v := 163) (a := 163) (show q_sw a1 226 102 [116, 226, 126, 226, 226, 226, 226, 226, 84, 226, 226, 226, 194, 131, 163, 226, 121] = 163 by rw [hc30]; rfl) rfl rfl ?_
    refine q_ev_run 5 (S' := (170, [some (.ref 1), some (.int a1)], [.int 3, .int 0, .ref 1, .ref 3], qMM m n lm)) rfl ?_
    obtain ⟨⟨r26, m27⟩, hf28, h⟩ := Option.bind_eq_some_iff.mp h
    try dsimp only at h
    refine q_ev_call (S' := (173, [some (.ref 1), some (.int a1)], [.ref 3], qMM m n lm)) rfl (by omega) (T_Re_takeNumber_1 (by first | omega | decide) hf28) ?_
    refine q_ev_eq (S' := (173, [some (.ref 1), some (.int a1)], [.int r26, .ref 3], qMM m27 n lm)) rfl ?_
    refine q_ev_run 5 (S' := (185, [some (.ref 1), some (.int a1)], [.int (Int32.ofInt (-9)), .int r26], qMM (q_w m27 3 4 r26) n lm)) rfl ?_
    by_cases hc29 : r26 = (Int32.ofInt (-9))
    · rw [if_pos hc29] at h
      refine q_ev_brT hc29 (a := 192) (b := 188) rfl ?_
      refine q_ev_run 1 (S' := (193, [some (.ref 1), some (.int a1)], [.int 0], qMM (q_w m27 3 4 r26) n lm)) rfl ?_
      have h_z0 := Option.some.inj h
      obtain ⟨h_0, h_z1⟩ := Prod.mk.inj h_z0
      subst h_0
      subst h_z1
      exact q_ev_ret rfl rfl
    · rw [if_neg hc29] at h
      refine q_ev_brF hc29 (a := 192) (b := 188) rfl ?_
      refine q_ev_run 2 (S' := (193, [some (.ref 1), some (.int a1)], [.int 1], qMM (q_w m27 3 4 r26) n lm)) rfl ?_
      have h_z0 := Option.some.inj h
      obtain ⟨h_0, h_z1⟩ := Prod.mk.inj h_z0
      subst h_0
      subst h_z1
      exact q_ev_ret rfl rfl
  rw [if_neg hc30] at h
  by_cases hc35 : a1 = 118
  · rw [if_pos hc35] at h
    refine q_ev_sw (v := 121) (a := 121) (show q_sw a1 226 102 [116, 226, 126, 226, 226, 226, 226, 226, 84, 226, 226, 226, 194, 131, 163, 226, 121] = 121 by rw [hc35]; rfl) rfl rfl ?_
    refine q_ev_run 1 (S' := (122, [some (.ref 1), some (.int a1)], [.ref 1], qMM m n lm)) rfl ?_
    obtain ⟨⟨r31, m32⟩, hf33, h⟩ := Option.bind_eq_some_iff.mp h
    try dsimp only at h
    refine q_ev_call (S' := (125, [some (.ref 1), some (.int a1)], [], qMM m n lm)) rfl (by omega) (T_Re_readSight_1 (by first | omega | decide) hf33) ?_
    refine q_ev_eq (S' := (125, [some (.ref 1), some (.int a1)], [.int r31], qMM m32 n lm)) rfl ?_
    obtain ⟨hb34, h⟩ := q_cd h
    have h_z0 := Option.some.inj h
    obtain ⟨h_0, h_z1⟩ := Prod.mk.inj h_z0
    subst h_0
    subst h_z1
    exact q_ev_retb hb34 rfl rfl
  rw [if_neg hc35] at h
  refine q_ev_sw (v := 226) (a := 226) (show q_sw a1 226 102 [116, 226, 126, 226, 226, 226, 226, 226, 84, 226, 226, 226, 194, 131, 163, 226, 121] = 226 from q_sw_nd (by show a1 ∉ ([102, 104, 110, 114, 115, 116, 118] : List Int32); simp [hc5, hc10, hc15, hc20, hc25, hc30, hc35])) rfl rfl ?_
  refine q_ev_run 1 (S' := (227, [some (.ref 1), some (.int a1)], [.ref 1], qMM m n lm)) rfl ?_
  obtain ⟨⟨r36, m37⟩, hf38, h⟩ := Option.bind_eq_some_iff.mp h
  try dsimp only at h
  refine q_ev_call (S' := (230, [some (.ref 1), some (.int a1)], [], qMM m n lm)) rfl (by omega) (T_Re_readCourse_1 (by first | omega | decide) hf38) ?_
  refine q_ev_eq (S' := (230, [some (.ref 1), some (.int a1)], [.int r36], qMM m37 n lm)) rfl ?_
  obtain ⟨hb39, h⟩ := q_cd h
  have h_z0 := Option.some.inj h
  obtain ⟨h_0, h_z1⟩ := Prod.mk.inj h_z0
  subst h_0
  subst h_z1
  exact q_ev_retb hb39 rfl rfl
noncomputable def F_Re_readItem_1 (m : (Nat → Nat → Int32)) (a1 : Int32) : Option (Int32 × (Nat → Nat → Int32)) :=
  cond (q_in (m 1 5) 201) (
    Option.bind (F_Re_canBegin_1 m (m 70 (m 1 5).toNatClampNeg) a1) (fun r2 =>
      if r2 = 0 then
        some (0, m)
      else
        Option.bind (F_Re_bitOf (m 70 (m 1 5).toNatClampNeg)) (fun r5 =>
          Option.bind (F_Re_readBody_1 (q_w (q_w m 1 6 (m 1 6 ||| r5)) 1 5 (m 1 5 + 1)) (m 70 (m 1 5).toNatClampNeg)) (fun (r7, m8) =>
            if r7 = 0 then
              some (0, m8)
            else
              cond (q_in (m8 1 5) 201) (
                if m8 70 (m8 1 5).toNatClampNeg = 59 then
                  some (1, (q_w m8 1 5 (m8 1 5 + 1)))
                else
                  some (0, m8)
               ) none)))
   ) none
theorem T_Re_readItem_1 {Ln : Nat} {xs : Nat → Int32} {n : (Nat → Nat → Int32)} {lm : Nat → Int64} {d : Nat} (hd : 5 ≤ d) {m : (Nat → Nat → Int32)} {a1 : Int32} {rv : Int32} {m1 : (Nat → Nat → Int32)} (h : F_Re_readItem_1 m a1 = some (rv, m1)) : q_Ev (qXT Ln xs) d 41 (0, [some (.ref 1), some (.int a1), none], [], qMM m n lm) (some (.int rv), qMM m1 n lm) := by
  unfold F_Re_readItem_1 at h
  refine q_ev_run 4 (S' := (8, [some (.ref 1), some (.int a1), none], [.int (m 1 5), .ref 9], qMM m n lm)) rfl ?_
  obtain ⟨hb1, h⟩ := q_cd h
  refine q_ev_chk (b := q_in (m 1 5) 201) hb1 (S' := (9, [some (.ref 1), some (.int a1), none], [.int (m 70 (m 1 5).toNatClampNeg)], qMM m n lm)) rfl ?_
  refine q_ev_run 4 (S' := (13, [some (.ref 1), some (.int a1), some (.int (m 70 (m 1 5).toNatClampNeg))], [.int a1, .int (m 70 (m 1 5).toNatClampNeg), .ref 1], qMM m n lm)) rfl ?_
  obtain ⟨r2, hf3, h⟩ := Option.bind_eq_some_iff.mp h
  try dsimp only at h
  refine q_ev_call (S' := (16, [some (.ref 1), some (.int a1), some (.int (m 70 (m 1 5).toNatClampNeg))], [], qMM m n lm)) rfl (by omega) (T_Re_canBegin_1 (by first | omega | decide) hf3) ?_
  refine q_ev_eq (S' := (16, [some (.ref 1), some (.int a1), some (.int (m 70 (m 1 5).toNatClampNeg))], [.int r2], qMM m n lm)) rfl ?_
  by_cases hc4 : r2 = 0
  · rw [if_pos hc4] at h
    refine q_ev_brT hc4 (a := 19) (b := 21) rfl ?_
    refine q_ev_run 1 (S' := (20, [some (.ref 1), some (.int a1), some (.int (m 70 (m 1 5).toNatClampNeg))], [.int 0], qMM m n lm)) rfl ?_
    have h_z0 := Option.some.inj h
    obtain ⟨h_0, h_z1⟩ := Prod.mk.inj h_z0
    subst h_0
    subst h_z1
    exact q_ev_ret rfl rfl
  · rw [if_neg hc4] at h
    refine q_ev_brF hc4 (a := 19) (b := 21) rfl ?_
    refine q_ev_run 4 (S' := (27, [some (.ref 1), some (.int a1), some (.int (m 70 (m 1 5).toNatClampNeg))], [.int (m 70 (m 1 5).toNatClampNeg), .int (m 1 6), .ref 1], qMM m n lm)) rfl ?_
    obtain ⟨r5, hf6, h⟩ := Option.bind_eq_some_iff.mp h
    try dsimp only at h
    refine q_ev_call (S' := (30, [some (.ref 1), some (.int a1), some (.int (m 70 (m 1 5).toNatClampNeg))], [.int (m 1 6), .ref 1], qMM m n lm)) rfl (by omega) (T_Re_bitOf (by first | omega | decide) hf6) ?_
    refine q_ev_eq (S' := (30, [some (.ref 1), some (.int a1), some (.int (m 70 (m 1 5).toNatClampNeg))], [.int r5, .int (m 1 6), .ref 1], qMM m n lm)) rfl ?_
    refine q_ev_run 10 (S' := (46, [some (.ref 1), some (.int a1), some (.int (m 70 (m 1 5).toNatClampNeg))], [.int (m 70 (m 1 5).toNatClampNeg), .ref 1], qMM (q_w (q_w m 1 6 (m 1 6 ||| r5)) 1 5 (m 1 5 + 1)) n lm)) rfl ?_
    obtain ⟨⟨r7, m8⟩, hf9, h⟩ := Option.bind_eq_some_iff.mp h
    try dsimp only at h
    refine q_ev_call (S' := (49, [some (.ref 1), some (.int a1), some (.int (m 70 (m 1 5).toNatClampNeg))], [], qMM (q_w (q_w m 1 6 (m 1 6 ||| r5)) 1 5 (m 1 5 + 1)) n lm)) rfl (by omega) (T_Re_readBody_1 (by first | omega | decide) hf9) ?_
    refine q_ev_eq (S' := (49, [some (.ref 1), some (.int a1), some (.int (m 70 (m 1 5).toNatClampNeg))], [.int r7], qMM m8 n lm)) rfl ?_
    by_cases hc10 : r7 = 0
    · rw [if_pos hc10] at h
      refine q_ev_brT hc10 (a := 66) (b := 52) rfl ?_
      refine q_ev_run 1 (S' := (67, [some (.ref 1), some (.int a1), some (.int (m 70 (m 1 5).toNatClampNeg))], [.int 0], qMM m8 n lm)) rfl ?_
      have h_z0 := Option.some.inj h
      obtain ⟨h_0, h_z1⟩ := Prod.mk.inj h_z0
      subst h_0
      subst h_z1
      exact q_ev_ret rfl rfl
    · rw [if_neg hc10] at h
      refine q_ev_brF hc10 (a := 66) (b := 52) rfl ?_
      refine q_ev_run 4 (S' := (60, [some (.ref 1), some (.int a1), some (.int (m 70 (m 1 5).toNatClampNeg))], [.int (m8 1 5), .ref 9], qMM m8 n lm)) rfl ?_
      obtain ⟨hb11, h⟩ := q_cd h
      refine q_ev_chk (b := q_in (m8 1 5) 201) hb11 (S' := (61, [some (.ref 1), some (.int a1), some (.int (m 70 (m 1 5).toNatClampNeg))], [.int (m8 70 (m8 1 5).toNatClampNeg)], qMM m8 n lm)) rfl ?_
      refine q_ev_run 1 (S' := (63, [some (.ref 1), some (.int a1), some (.int (m 70 (m 1 5).toNatClampNeg))], [.int 59, .int (m8 70 (m8 1 5).toNatClampNeg)], qMM m8 n lm)) rfl ?_
      by_cases hc12 : m8 70 (m8 1 5).toNatClampNeg = 59
      · rw [if_pos hc12] at h
        refine q_ev_brT hc12 (a := 68) (b := 66) rfl ?_
        refine q_ev_run 7 (S' := (79, [some (.ref 1), some (.int a1), some (.int (m 70 (m 1 5).toNatClampNeg))], [.int 1], qMM (q_w m8 1 5 (m8 1 5 + 1)) n lm)) rfl ?_
        have h_z0 := Option.some.inj h
        obtain ⟨h_0, h_z1⟩ := Prod.mk.inj h_z0
        subst h_0
        subst h_z1
        exact q_ev_ret rfl rfl
      · rw [if_neg hc12] at h
        refine q_ev_brF hc12 (a := 68) (b := 66) rfl ?_
        refine q_ev_run 1 (S' := (67, [some (.ref 1), some (.int a1), some (.int (m 70 (m 1 5).toNatClampNeg))], [.int 0], qMM m8 n lm)) rfl ?_
        have h_z0 := Option.some.inj h
        obtain ⟨h_0, h_z1⟩ := Prod.mk.inj h_z0
        subst h_0
        subst h_z1
        exact q_ev_ret rfl rfl
noncomputable def FL_Re_readAll_1_23 : Nat → (Nat → Nat → Int32) → Int32 → Option ((Int32 × (Nat → Nat → Int32)) ⊕ ((Nat → Nat → Int32)))
  | 0, _, _ => none
  | fu + 1, m, x1 =>
    if 200 < x1 then
      some (.inr m)
    else
      cond (q_in (m 1 5) 201) (
        if m 70 (m 1 5).toNatClampNeg = 256 then
          some (.inl (x1, m))
        else
          if x1 = 0 then
            Option.bind (F_Re_readItem_1 m 1) (fun (r5, m6) =>
              if r5 = 0 then
                some (.inr m6)
              else
                FL_Re_readAll_1_23 fu m6 (x1 + 1))
          else
            Option.bind (F_Re_readItem_1 m 0) (fun (r9, m10) =>
              if r9 = 0 then
                some (.inr m10)
              else
                FL_Re_readAll_1_23 fu m10 (x1 + 1))
       ) none
theorem TL_Re_readAll_1_23 {Ln : Nat} {xs : Nat → Int32} {n : (Nat → Nat → Int32)} {lm : Nat → Int64} {d : Nat} (hd : 6 ≤ d) {r : Option Value × qM} : ∀ (fu : Nat) (m : (Nat → Nat → Int32)) (x1 : Int32)  (o : (Int32 × (Nat → Nat → Int32)) ⊕ ((Nat → Nat → Int32))), FL_Re_readAll_1_23 fu m x1 = some o → (∀ (rv : Int32) (m1 : (Nat → Nat → Int32)), o = .inl (rv, m1) → r = (some (.int rv), qMM m1 n lm)) → (∀ (m1 : (Nat → Nat → Int32)), o = .inr m1 → ∀ (u1 : Option Value), q_Ev (qXT Ln xs) d 36 (72, [some (.ref 1), u1], [], qMM m1 n lm) r) → q_Ev (qXT Ln xs) d 36 (23, [some (.ref 1), some (.int x1)], [], qMM m n lm) r := by
  intro fu
  induction fu with
  | zero => intro m x1 o h hr hk; cases h
  | succ fu ih =>
    intro m x1 o h hr hk
    rw [FL_Re_readAll_1_23] at h
    refine q_ev_run 2 (S' := (27, [some (.ref 1), some (.int x1)], [.int 200, .int x1], qMM m n lm)) rfl ?_
    by_cases hc1 : 200 < x1
    · rw [if_pos hc1] at h
      refine q_ev_brT hc1 (a := 72) (b := 30) rfl ?_
      obtain rfl := (Option.some.inj h).symm
      exact hk _ rfl (some (.int x1))
    · rw [if_neg hc1] at h
      refine q_ev_brF hc1 (a := 72) (b := 30) rfl ?_
      refine q_ev_run 4 (S' := (38, [some (.ref 1), some (.int x1)], [.int (m 1 5), .ref 9], qMM m n lm)) rfl ?_
      obtain ⟨hb2, h⟩ := q_cd h
      refine q_ev_chk (b := q_in (m 1 5) 201) hb2 (S' := (39, [some (.ref 1), some (.int x1)], [.int (m 70 (m 1 5).toNatClampNeg)], qMM m n lm)) rfl ?_
      refine q_ev_run 1 (S' := (42, [some (.ref 1), some (.int x1)], [.int 256, .int (m 70 (m 1 5).toNatClampNeg)], qMM m n lm)) rfl ?_
      by_cases hc3 : m 70 (m 1 5).toNatClampNeg = 256
      · rw [if_pos hc3] at h
        refine q_ev_brT hc3 (a := 45) (b := 47) rfl ?_
        refine q_ev_run 1 (S' := (46, [some (.ref 1), some (.int x1)], [.int x1], qMM m n lm)) rfl ?_
        obtain rfl := (Option.some.inj h).symm
        rw [hr _ _ rfl]
        exact q_ev_ret rfl rfl
      · rw [if_neg hc3] at h
        refine q_ev_brF hc3 (a := 45) (b := 47) rfl ?_
        refine q_ev_run 2 (S' := (49, [some (.ref 1), some (.int x1)], [.int x1, .ref 1], qMM m n lm)) rfl ?_
        by_cases hc4 : x1 = 0
        · rw [if_pos hc4] at h
          refine q_ev_brT hc4 (a := 52) (b := 56) rfl ?_
          refine q_ev_run 2 (S' := (57, [some (.ref 1), some (.int x1)], [.int 1, .ref 1], qMM m n lm)) rfl ?_
          obtain ⟨⟨r5, m6⟩, hf7, h⟩ := Option.bind_eq_some_iff.mp h
          try dsimp only at h
          refine q_ev_call (S' := (60, [some (.ref 1), some (.int x1)], [], qMM m n lm)) rfl (by omega) (T_Re_readItem_1 (by first | omega | decide) hf7) ?_
          refine q_ev_eq (S' := (60, [some (.ref 1), some (.int x1)], [.int r5], qMM m6 n lm)) rfl ?_
          by_cases hc8 : r5 = 0
          · rw [if_pos hc8] at h
            refine q_ev_brT hc8 (a := 63) (b := 66) rfl ?_
            refine q_ev_run 1 (S' := (72, [some (.ref 1), some (.int x1)], [], qMM m6 n lm)) rfl ?_
            obtain rfl := (Option.some.inj h).symm
            exact hk _ rfl (some (.int x1))
          · rw [if_neg hc8] at h
            refine q_ev_brF hc8 (a := 63) (b := 66) rfl ?_
            refine q_ev_run 2 (S' := (23, [some (.ref 1), some (.int (x1 + 1))], [], qMM m6 n lm)) rfl ?_
            exact ih m6 (x1 + 1) _ h hr hk
        · rw [if_neg hc4] at h
          refine q_ev_brF hc4 (a := 52) (b := 56) rfl ?_
          refine q_ev_run 1 (S' := (57, [some (.ref 1), some (.int x1)], [.int 0, .ref 1], qMM m n lm)) rfl ?_
          obtain ⟨⟨r9, m10⟩, hf11, h⟩ := Option.bind_eq_some_iff.mp h
          try dsimp only at h
          refine q_ev_call (S' := (60, [some (.ref 1), some (.int x1)], [], qMM m n lm)) rfl (by omega) (T_Re_readItem_1 (by first | omega | decide) hf11) ?_
          refine q_ev_eq (S' := (60, [some (.ref 1), some (.int x1)], [.int r9], qMM m10 n lm)) rfl ?_
          by_cases hc12 : r9 = 0
          · rw [if_pos hc12] at h
            refine q_ev_brT hc12 (a := 63) (b := 66) rfl ?_
            refine q_ev_run 1 (S' := (72, [some (.ref 1), some (.int x1)], [], qMM m10 n lm)) rfl ?_
            obtain rfl := (Option.some.inj h).symm
            exact hk _ rfl (some (.int x1))
          · rw [if_neg hc12] at h
            refine q_ev_brF hc12 (a := 63) (b := 66) rfl ?_
            refine q_ev_run 2 (S' := (23, [some (.ref 1), some (.int (x1 + 1))], [], qMM m10 n lm)) rfl ?_
            exact ih m10 (x1 + 1) _ h hr hk
noncomputable def F_Re_readAll_1 (m : (Nat → Nat → Int32)) : Option (Int32 × (Nat → Nat → Int32)) :=
  Option.bind (F_La_wipe_3 m) (fun m1 =>
    Option.bind (F_Re_split_1 (q_w (q_w m1 1 6 0) 1 5 0)) (fun m3 =>
      Option.bind (FL_Re_readAll_1_23 qFU m3 0) (fun o9 => match o9 with
        | .inl (v0, v1) => some (v0, v1)
        | .inr m6 =>
          cond (q_in (m6 1 5) 201) (some (((Int32.ofInt (-10)) - m6 71 (m6 1 5).toNatClampNeg), m6)) none)))
theorem T_Re_readAll_1 {Ln : Nat} {xs : Nat → Int32} {n : (Nat → Nat → Int32)} {lm : Nat → Int64} {d : Nat} (hd : 6 ≤ d) {m : (Nat → Nat → Int32)} {rv : Int32} {m1 : (Nat → Nat → Int32)} (h : F_Re_readAll_1 m = some (rv, m1)) : q_Ev (qXT Ln xs) d 36 (0, [some (.ref 1), none], [], qMM m n lm) (some (.int rv), qMM m1 n lm) := by
  unfold F_Re_readAll_1 at h
  refine q_ev_run 2 (S' := (4, [some (.ref 1), none], [.ref 3], qMM m n lm)) rfl ?_
  obtain ⟨m1, hf2, h⟩ := Option.bind_eq_some_iff.mp h
  try dsimp only at h
  refine q_ev_call (S' := (7, [some (.ref 1), none], [], qMM m n lm)) rfl (by omega) (T_La_wipe_3 (by first | omega | decide) hf2) ?_
  refine q_ev_eq (S' := (7, [some (.ref 1), none], [], qMM m1 n lm)) rfl ?_
  refine q_ev_run 7 (S' := (18, [some (.ref 1), none], [.ref 1], qMM (q_w (q_w m1 1 6 0) 1 5 0) n lm)) rfl ?_
  obtain ⟨m3, hf4, h⟩ := Option.bind_eq_some_iff.mp h
  try dsimp only at h
  refine q_ev_call (S' := (21, [some (.ref 1), none], [], qMM (q_w (q_w m1 1 6 0) 1 5 0) n lm)) rfl (by omega) (T_Re_split_1 (by first | omega | decide) hf4) ?_
  refine q_ev_eq (S' := (21, [some (.ref 1), none], [], qMM m3 n lm)) rfl ?_
  refine q_ev_run 2 (S' := (23, [some (.ref 1), some (.int 0)], [], qMM m3 n lm)) rfl ?_
  obtain ⟨o9, hl7, h⟩ := Option.bind_eq_some_iff.mp h
  rcases o9 with ⟨v0, v1⟩ | m6
  · have h_z0 := Option.some.inj h
    obtain ⟨h_0, h_z1⟩ := Prod.mk.inj h_z0
    subst h_0
    subst h_z1
    exact TL_Re_readAll_1_23 (by first | omega | decide) _ m3 0 _ hl7 (fun _ _ hh => by cases hh; rfl) (fun _ hh => by cases hh)
  · refine TL_Re_readAll_1_23 (by first | omega | decide) _ m3 0 _ hl7 (fun _ _ hh => by cases hh) (fun _ hh w5 => ?_)
    cases hh
    try dsimp only at h
    refine q_ev_run 5 (S' := (82, [some (.ref 1), w5], [.int (m6 1 5), .ref 10, .int (Int32.ofInt (-10))], qMM m6 n lm)) rfl ?_
    obtain ⟨hb8, h⟩ := q_cd h
    refine q_ev_chk (b := q_in (m6 1 5) 201) hb8 (S' := (83, [some (.ref 1), w5], [.int (m6 71 (m6 1 5).toNatClampNeg), .int (Int32.ofInt (-10))], qMM m6 n lm)) rfl ?_
    refine q_ev_run 1 (S' := (84, [some (.ref 1), w5], [.int ((Int32.ofInt (-10)) - m6 71 (m6 1 5).toNatClampNeg)], qMM m6 n lm)) rfl ?_
    have h_z0 := Option.some.inj h
    obtain ⟨h_0, h_z1⟩ := Prod.mk.inj h_z0
    subst h_0
    subst h_z1
    exact q_ev_ret rfl rfl
