noncomputable def F_Mo_laysCourse (m : (Nat → Nat → Int32)) (a1 : Int32) (a2 : Int32) (a3 : Int32) : Option (Int32 × (Nat → Nat → Int32)) :=
  Option.bind (FL_Mo_laysCourse_27 qFU (q_w (q_w (q_w m 56 17 (a2 + 1)) 65 0 a1) 66 0 0) a2 a3 1 1) (fun y2 =>
    Option.bind (FL_Mo_laysCourse_49 qFU (q_w (q_w (q_w m 56 17 (a2 + 1)) 65 0 a1) 66 0 0) a2 a3 y2 1) (fun o12 => match o12 with
      | .inl (v0, v1) => some (v0, v1)
      | .inr m10 =>
        some (1, m10)))
theorem T_Mo_laysCourse {Ln : Nat} {xs : Nat → Int32} {n : (Nat → Nat → Int32)} {lm : Nat → Int64} {d : Nat} (hd : 2 ≤ d) {m : (Nat → Nat → Int32)} {a1 : Int32} {a2 : Int32} {a3 : Int32} {rv : Int32} {m1 : (Nat → Nat → Int32)} (h : F_Mo_laysCourse m a1 a2 a3 = some (rv, m1)) : q_Ev (qXT Ln xs) d 153 (0, [some (.ref 58), some (.int a1), some (.int a2), some (.int a3), none, none, none], [], qMM n m lm) (some (.int rv), qMM n m1 lm) := by
  unfold F_Mo_laysCourse at h
  refine q_ev_run 19 (S' := (27, [some (.ref 58), some (.int a1), some (.int a2), some (.int a3), some (.int 1), some (.int 1), none], [], qMM n (q_w (q_w (q_w m 56 17 (a2 + 1)) 65 0 a1) 66 0 0) lm)) rfl ?_
  obtain ⟨y2, hl5, h⟩ := Option.bind_eq_some_iff.mp h
  try dsimp only at h
  refine TL_Mo_laysCourse_27 (by first | omega | decide) _ (q_w (q_w (q_w m 56 17 (a2 + 1)) 65 0 a1) 66 0 0) a2 a3 1 1 (some (.int a1)) (none) _ hl5 (fun w1 w3 w4 => ?_)
  refine q_ev_run 2 (S' := (49, [some (.ref 58), w1, some (.int a2), some (.int a3), some (.int y2), some (.int 1), w4], [], qMM n (q_w (q_w (q_w m 56 17 (a2 + 1)) 65 0 a1) 66 0 0) lm)) rfl ?_
  obtain ⟨o12, hl11, h⟩ := Option.bind_eq_some_iff.mp h
  rcases o12 with ⟨v0, v1⟩ | m10
  · have h_z0 := Option.some.inj h
    obtain ⟨h_0, h_z1⟩ := Prod.mk.inj h_z0
    subst h_0
    subst h_z1
    exact TL_Mo_laysCourse_49 (by first | omega | decide) _ (q_w (q_w (q_w m 56 17 (a2 + 1)) 65 0 a1) 66 0 0) a2 a3 y2 1 (w1) (w4) _ hl11 (fun _ _ hh => by cases hh; rfl) (fun _ hh => by cases hh)
  · refine TL_Mo_laysCourse_49 (by first | omega | decide) _ (q_w (q_w (q_w m 56 17 (a2 + 1)) 65 0 a1) 66 0 0) a2 a3 y2 1 (w1) (w4) _ hl11 (fun _ _ hh => by cases hh) (fun _ hh w6 w7 w8 w9 => ?_)
    cases hh
    try dsimp only at h
    refine q_ev_run 1 (S' := (176, [some (.ref 58), w6, some (.int a2), some (.int a3), w7, w8, w9], [.int 1], qMM n m10 lm)) rfl ?_
    have h_z0 := Option.some.inj h
    obtain ⟨h_0, h_z1⟩ := Prod.mk.inj h_z0
    subst h_0
    subst h_z1
    exact q_ev_ret rfl rfl
noncomputable def FL_Mo_worst_105 : Nat → (Nat → Nat → Int32) → Int32 → Int32 → Int32 → Int32 → Int32 → Int32 → Int32 → Int32 → Option (Int32)
  | 0, _, _, _, _, _, _, _, _, _ => none
  | fu + 1, m, x1, x2, x3, x4, x5, x6, x7, x9 =>
    if x2 < x9 then
      some (x6)
    else
      cond (q_in x9 8) (FL_Mo_worst_105 fu m x1 x2 x3 x4 x5 (((10 * x6) + m 65 x9.toNatClampNeg) + 1) x7 (x9 + 1)) none
theorem TL_Mo_worst_105 {Ln : Nat} {xs : Nat → Int32} {n : (Nat → Nat → Int32)} {lm : Nat → Int64} {d : Nat} (hd : 0 ≤ d) {r : Option Value × qM} : ∀ (fu : Nat) (m : (Nat → Nat → Int32)) (x1 : Int32) (x2 : Int32) (x3 : Int32) (x4 : Int32) (x5 : Int32) (x6 : Int32) (x7 : Int32) (x9 : Int32) (w8 : Option Value) (y6 : Int32), FL_Mo_worst_105 fu m x1 x2 x3 x4 x5 x6 x7 x9 = some y6 → (∀ (u8 u9 : Option Value), q_Ev (qXT Ln xs) d 154 (134, [some (.ref 58), some (.int x1), some (.int x2), some (.int x3), some (.int x4), some (.int x5), some (.int y6), some (.int x7), u8, u9], [], qMM n m lm) r) → q_Ev (qXT Ln xs) d 154 (105, [some (.ref 58), some (.int x1), some (.int x2), some (.int x3), some (.int x4), some (.int x5), some (.int x6), some (.int x7), w8, some (.int x9)], [], qMM n m lm) r := by
  intro fu
  induction fu with
  | zero => intro m x1 x2 x3 x4 x5 x6 x7 x9 w8 y6 h hk; cases h
  | succ fu ih =>
    intro m x1 x2 x3 x4 x5 x6 x7 x9 w8 y6 h hk
    rw [FL_Mo_worst_105] at h
    refine q_ev_run 2 (S' := (108, [some (.ref 58), some (.int x1), some (.int x2), some (.int x3), some (.int x4), some (.int x5), some (.int x6), some (.int x7), w8, some (.int x9)], [.int x2, .int x9], qMM n m lm)) rfl ?_
    by_cases hc1 : x2 < x9
    · rw [if_pos hc1] at h
      refine q_ev_brT hc1 (a := 134) (b := 111) rfl ?_
      have h_z0 := Option.some.inj h
      subst h_z0
      exact hk (w8) (some (.int x9))
    · rw [if_neg hc1] at h
      refine q_ev_brF hc1 (a := 134) (b := 111) rfl ?_
      refine q_ev_run 6 (S' := (122, [some (.ref 58), some (.int x1), some (.int x2), some (.int x3), some (.int x4), some (.int x5), some (.int x6), some (.int x7), w8, some (.int x9)], [.int x9, .ref 67, .int (10 * x6)], qMM n m lm)) rfl ?_
      obtain ⟨hb2, h⟩ := q_cd h
      refine q_ev_chk (b := q_in x9 8) hb2 (S' := (123, [some (.ref 58), some (.int x1), some (.int x2), some (.int x3), some (.int x4), some (.int x5), some (.int x6), some (.int x7), w8, some (.int x9)], [.int (m 65 x9.toNatClampNeg), .int (10 * x6)], qMM n m lm)) rfl ?_
      refine q_ev_run 6 (S' := (105, [some (.ref 58), some (.int x1), some (.int x2), some (.int x3), some (.int x4), some (.int x5), some (.int (((10 * x6) + m 65 x9.toNatClampNeg) + 1)), some (.int x7), w8, some (.int (x9 + 1))], [], qMM n m lm)) rfl ?_
      exact ih m x1 x2 x3 x4 x5 (((10 * x6) + m 65 x9.toNatClampNeg) + 1) x7 (x9 + 1) (w8) _ h hk
noncomputable def FL_Mo_worst_64 : Nat → (Nat → Nat → Int32) → Int32 → Int32 → Int32 → Int32 → Int32 → Int32 → Int32 → Option (Int32 × Int32 × (Nat → Nat → Int32))
  | 0, _, _, _, _, _, _, _, _ => none
  | fu + 1, m, x1, x2, x3, x4, x5, x6, x7 =>
    if x4 ≤ x7 then
      some (x5, x6, m)
    else
      Option.bind (F_Mo_laysCourse m x1 x2 x7) (fun (r2, m3) =>
        if r2 = 0 then
          FL_Mo_worst_64 fu m3 x1 x2 x3 x4 x5 x6 (x7 + 1)
        else
          Option.bind (F_Mo_fewest m3) (fun (r6, m7) =>
            if r6 ≤ x5 then
              FL_Mo_worst_64 fu m7 x1 x2 x3 x4 x5 x6 (x7 + 1)
            else
              Option.bind (FL_Mo_worst_105 qFU m7 x1 x2 x3 x4 r6 0 x7 0) (fun y10 =>
                FL_Mo_worst_64 fu m7 x1 x2 x3 x4 r6 y10 (x7 + 1))))
theorem TL_Mo_worst_64 {Ln : Nat} {xs : Nat → Int32} {n : (Nat → Nat → Int32)} {lm : Nat → Int64} {d : Nat} (hd : 5 ≤ d) {r : Option Value × qM} : ∀ (fu : Nat) (m : (Nat → Nat → Int32)) (x1 : Int32) (x2 : Int32) (x3 : Int32) (x4 : Int32) (x5 : Int32) (x6 : Int32) (x7 : Int32) (w8 : Option Value) (w9 : Option Value) (y5 : Int32) (y6 : Int32) (m1 : (Nat → Nat → Int32)), FL_Mo_worst_64 fu m x1 x2 x3 x4 x5 x6 x7 = some (y5, y6, m1) → (∀ (u7 u8 u9 : Option Value), q_Ev (qXT Ln xs) d 154 (140, [some (.ref 58), some (.int x1), some (.int x2), some (.int x3), some (.int x4), some (.int y5), some (.int y6), u7, u8, u9], [], qMM n m1 lm) r) → q_Ev (qXT Ln xs) d 154 (64, [some (.ref 58), some (.int x1), some (.int x2), some (.int x3), some (.int x4), some (.int x5), some (.int x6), some (.int x7), w8, w9], [], qMM n m lm) r := by
  intro fu
  induction fu with
  | zero => intro m x1 x2 x3 x4 x5 x6 x7 w8 w9 y5 y6 m1 h hk; cases h
  | succ fu ih =>
    intro m x1 x2 x3 x4 x5 x6 x7 w8 w9 y5 y6 m1 h hk
    rw [FL_Mo_worst_64] at h
    refine q_ev_run 2 (S' := (68, [some (.ref 58), some (.int x1), some (.int x2), some (.int x3), some (.int x4), some (.int x5), some (.int x6), some (.int x7), w8, w9], [.int x4, .int x7], qMM n m lm)) rfl ?_
    by_cases hc1 : x4 ≤ x7
    · rw [if_pos hc1] at h
      refine q_ev_brT hc1 (a := 140) (b := 71) rfl ?_
      have h_z0 := Option.some.inj h
      obtain ⟨h_0, h_z1⟩ := Prod.mk.inj h_z0
      obtain ⟨h_1, h_z2⟩ := Prod.mk.inj h_z1
      subst h_0
      subst h_1
      subst h_z2
      exact hk (some (.int x7)) (w8) (w9)
    · rw [if_neg hc1] at h
      refine q_ev_brF hc1 (a := 140) (b := 71) rfl ?_
      refine q_ev_run 4 (S' := (76, [some (.ref 58), some (.int x1), some (.int x2), some (.int x3), some (.int x4), some (.int x5), some (.int x6), some (.int x7), w8, w9], [.int x7, .int x2, .int x1, .ref 58], qMM n m lm)) rfl ?_
      obtain ⟨⟨r2, m3⟩, hf4, h⟩ := Option.bind_eq_some_iff.mp h
      try dsimp only at h
      refine q_ev_call (S' := (79, [some (.ref 58), some (.int x1), some (.int x2), some (.int x3), some (.int x4), some (.int x5), some (.int x6), some (.int x7), w8, w9], [], qMM n m lm)) rfl (by omega) (T_Mo_laysCourse (by first | omega | decide) hf4) ?_
      refine q_ev_eq (S' := (79, [some (.ref 58), some (.int x1), some (.int x2), some (.int x3), some (.int x4), some (.int x5), some (.int x6), some (.int x7), w8, w9], [.int r2], qMM n m3 lm)) rfl ?_
      by_cases hc5 : r2 = 0
      · rw [if_pos hc5] at h
        refine q_ev_brT hc5 (a := 134) (b := 82) rfl ?_
        refine q_ev_run 2 (S' := (64, [some (.ref 58), some (.int x1), some (.int x2), some (.int x3), some (.int x4), some (.int x5), some (.int x6), some (.int (x7 + 1)), w8, w9], [], qMM n m3 lm)) rfl ?_
        exact ih m3 x1 x2 x3 x4 x5 x6 (x7 + 1) (w8) (w9) _ _ _ h hk
      · rw [if_neg hc5] at h
        refine q_ev_brF hc5 (a := 134) (b := 82) rfl ?_
        refine q_ev_run 1 (S' := (83, [some (.ref 58), some (.int x1), some (.int x2), some (.int x3), some (.int x4), some (.int x5), some (.int x6), some (.int x7), w8, w9], [.ref 58], qMM n m3 lm)) rfl ?_
        obtain ⟨⟨r6, m7⟩, hf8, h⟩ := Option.bind_eq_some_iff.mp h
        try dsimp only at h
        refine q_ev_call (S' := (86, [some (.ref 58), some (.int x1), some (.int x2), some (.int x3), some (.int x4), some (.int x5), some (.int x6), some (.int x7), w8, w9], [], qMM n m3 lm)) rfl (by omega) (T_Mo_fewest (by first | omega | decide) hf8) ?_
        refine q_ev_eq (S' := (86, [some (.ref 58), some (.int x1), some (.int x2), some (.int x3), some (.int x4), some (.int x5), some (.int x6), some (.int x7), w8, w9], [.int r6], qMM n m7 lm)) rfl ?_
        refine q_ev_run 3 (S' := (92, [some (.ref 58), some (.int x1), some (.int x2), some (.int x3), some (.int x4), some (.int x5), some (.int x6), some (.int x7), some (.int r6), w9], [.int x5, .int r6], qMM n m7 lm)) rfl ?_
        by_cases hc9 : r6 ≤ x5
        · rw [if_pos hc9] at h
          refine q_ev_brT hc9 (a := 134) (b := 95) rfl ?_
          refine q_ev_run 2 (S' := (64, [some (.ref 58), some (.int x1), some (.int x2), some (.int x3), some (.int x4), some (.int x5), some (.int x6), some (.int (x7 + 1)), some (.int r6), w9], [], qMM n m7 lm)) rfl ?_
          exact ih m7 x1 x2 x3 x4 x5 x6 (x7 + 1) (some (.int r6)) (w9) _ _ _ h hk
        · rw [if_neg hc9] at h
          refine q_ev_brF hc9 (a := 134) (b := 95) rfl ?_
          refine q_ev_run 6 (S' := (105, [some (.ref 58), some (.int x1), some (.int x2), some (.int x3), some (.int x4), some (.int r6), some (.int 0), some (.int x7), some (.int r6), some (.int 0)], [], qMM n m7 lm)) rfl ?_
          obtain ⟨y10, hl13, h⟩ := Option.bind_eq_some_iff.mp h
          try dsimp only at h
          refine TL_Mo_worst_105 (by first | omega | decide) _ m7 x1 x2 x3 x4 r6 0 x7 0 (some (.int r6)) _ hl13 (fun w11 w12 => ?_)
          refine q_ev_run 2 (S' := (64, [some (.ref 58), some (.int x1), some (.int x2), some (.int x3), some (.int x4), some (.int r6), some (.int y10), some (.int (x7 + 1)), w11, w12], [], qMM n m7 lm)) rfl ?_
          exact ih m7 x1 x2 x3 x4 r6 y10 (x7 + 1) (w11) (w12) _ _ _ h hk
noncomputable def F_Mo_worst (m : (Nat → Nat → Int32)) (a1 : Int32) (a2 : Int32) (a3 : Int32) : Option (Int32 × (Nat → Nat → Int32)) :=
  Option.bind (F_Mo_isPlace m a1) (fun r1 =>
    if r1 = 0 then
      some ((Int32.ofInt (-1)), m)
    else
      Option.bind (F_Mo_in a2 0 4) (fun r4 =>
        if r4 = 0 then
          some ((Int32.ofInt (-1)), m)
        else
          Option.bind (F_Mo_in a3 0 1) (fun r7 =>
            if r7 = 0 then
              some ((Int32.ofInt (-1)), m)
            else
              Option.bind (FL_Mo_worst_34 qFU m a1 a2 a3 1 0) (fun y10 =>
                Option.bind (FL_Mo_worst_64 qFU m a1 a2 a3 y10 (Int32.ofInt (-9)) (Int32.ofInt (-9)) 0) (fun (y17, y18, m22) =>
                  if a3 = 0 then
                    some (y17, m22)
                  else
                    some (y18, m22))))))
theorem T_Mo_worst {Ln : Nat} {xs : Nat → Int32} {n : (Nat → Nat → Int32)} {lm : Nat → Int64} {d : Nat} (hd : 5 ≤ d) {m : (Nat → Nat → Int32)} {a1 : Int32} {a2 : Int32} {a3 : Int32} {rv : Int32} {m1 : (Nat → Nat → Int32)} (h : F_Mo_worst m a1 a2 a3 = some (rv, m1)) : q_Ev (qXT Ln xs) d 154 (0, [some (.ref 58), some (.int a1), some (.int a2), some (.int a3), none, none, none, none, none, none], [], qMM n m lm) (some (.int rv), qMM n m1 lm) := by
  unfold F_Mo_worst at h
  refine q_ev_run 2 (S' := (2, [some (.ref 58), some (.int a1), some (.int a2), some (.int a3), none, none, none, none, none, none], [.int a1, .ref 58], qMM n m lm)) rfl ?_
  obtain ⟨r1, hf2, h⟩ := Option.bind_eq_some_iff.mp h
  try dsimp only at h
  refine q_ev_call (S' := (5, [some (.ref 58), some (.int a1), some (.int a2), some (.int a3), none, none, none, none, none, none], [], qMM n m lm)) rfl (by omega) (T_Mo_isPlace (by first | omega | decide) hf2) ?_
  refine q_ev_eq (S' := (5, [some (.ref 58), some (.int a1), some (.int a2), some (.int a3), none, none, none, none, none, none], [.int r1], qMM n m lm)) rfl ?_
  by_cases hc3 : r1 = 0
  · rw [if_pos hc3] at h
    refine q_ev_brT hc3 (a := 26) (b := 8) rfl ?_
    refine q_ev_run 1 (S' := (27, [some (.ref 58), some (.int a1), some (.int a2), some (.int a3), none, none, none, none, none, none], [.int (Int32.ofInt (-1))], qMM n m lm)) rfl ?_
    have h_z0 := Option.some.inj h
    obtain ⟨h_0, h_z1⟩ := Prod.mk.inj h_z0
    subst h_0
    subst h_z1
    exact q_ev_ret rfl rfl
  · rw [if_neg hc3] at h
    refine q_ev_brF hc3 (a := 26) (b := 8) rfl ?_
    refine q_ev_run 3 (S' := (11, [some (.ref 58), some (.int a1), some (.int a2), some (.int a3), none, none, none, none, none, none], [.int 4, .int 0, .int a2], qMM n m lm)) rfl ?_
    obtain ⟨r4, hf5, h⟩ := Option.bind_eq_some_iff.mp h
    try dsimp only at h
    refine q_ev_call (S' := (14, [some (.ref 58), some (.int a1), some (.int a2), some (.int a3), none, none, none, none, none, none], [], qMM n m lm)) rfl (by omega) (T_Mo_in (by first | omega | decide) hf5) ?_
    refine q_ev_eq (S' := (14, [some (.ref 58), some (.int a1), some (.int a2), some (.int a3), none, none, none, none, none, none], [.int r4], qMM n m lm)) rfl ?_
    by_cases hc6 : r4 = 0
    · rw [if_pos hc6] at h
      refine q_ev_brT hc6 (a := 26) (b := 17) rfl ?_
      refine q_ev_run 1 (S' := (27, [some (.ref 58), some (.int a1), some (.int a2), some (.int a3), none, none, none, none, none, none], [.int (Int32.ofInt (-1))], qMM n m lm)) rfl ?_
      have h_z0 := Option.some.inj h
      obtain ⟨h_0, h_z1⟩ := Prod.mk.inj h_z0
      subst h_0
      subst h_z1
      exact q_ev_ret rfl rfl
    · rw [if_neg hc6] at h
      refine q_ev_brF hc6 (a := 26) (b := 17) rfl ?_
      refine q_ev_run 3 (S' := (20, [some (.ref 58), some (.int a1), some (.int a2), some (.int a3), none, none, none, none, none, none], [.int 1, .int 0, .int a3], qMM n m lm)) rfl ?_
      obtain ⟨r7, hf8, h⟩ := Option.bind_eq_some_iff.mp h
      try dsimp only at h
      refine q_ev_call (S' := (23, [some (.ref 58), some (.int a1), some (.int a2), some (.int a3), none, none, none, none, none, none], [], qMM n m lm)) rfl (by omega) (T_Mo_in (by first | omega | decide) hf8) ?_
      refine q_ev_eq (S' := (23, [some (.ref 58), some (.int a1), some (.int a2), some (.int a3), none, none, none, none, none, none], [.int r7], qMM n m lm)) rfl ?_
      by_cases hc9 : r7 = 0
      · rw [if_pos hc9] at h
        refine q_ev_brT hc9 (a := 26) (b := 28) rfl ?_
        refine q_ev_run 1 (S' := (27, [some (.ref 58), some (.int a1), some (.int a2), some (.int a3), none, none, none, none, none, none], [.int (Int32.ofInt (-1))], qMM n m lm)) rfl ?_
        have h_z0 := Option.some.inj h
        obtain ⟨h_0, h_z1⟩ := Prod.mk.inj h_z0
        subst h_0
        subst h_z1
        exact q_ev_ret rfl rfl
      · rw [if_neg hc9] at h
        refine q_ev_brF hc9 (a := 26) (b := 28) rfl ?_
        refine q_ev_run 4 (S' := (34, [some (.ref 58), some (.int a1), some (.int a2), some (.int a3), some (.int 1), some (.int 0), none, none, none, none], [], qMM n m lm)) rfl ?_
        obtain ⟨y10, hl16, h⟩ := Option.bind_eq_some_iff.mp h
        try dsimp only at h
        refine TL_Mo_worst_34 (by first | omega | decide) _ m a1 a2 a3 1 0 (none) (none) (none) (none) _ hl16 (fun w11 w12 w13 w14 w15 => ?_)
        refine q_ev_run 6 (S' := (64, [some (.ref 58), some (.int a1), some (.int a2), some (.int a3), some (.int y10), some (.int (Int32.ofInt (-9))), some (.int (Int32.ofInt (-9))), some (.int 0), w14, w15], [], qMM n m lm)) rfl ?_
        obtain ⟨⟨y17, y18, m22⟩, hl23, h⟩ := Option.bind_eq_some_iff.mp h
        try dsimp only at h
        refine TL_Mo_worst_64 (by first | omega | decide) _ m a1 a2 a3 y10 (Int32.ofInt (-9)) (Int32.ofInt (-9)) 0 (w14) (w15) _ _ _ hl23 (fun w19 w20 w21 => ?_)
        refine q_ev_run 1 (S' := (141, [some (.ref 58), some (.int a1), some (.int a2), some (.int a3), some (.int y10), some (.int y17), some (.int y18), w19, w20, w21], [.int a3], qMM n m22 lm)) rfl ?_
        by_cases hc24 : a3 = 0
        · rw [if_pos hc24] at h
          refine q_ev_brT hc24 (a := 144) (b := 149) rfl ?_
          refine q_ev_run 2 (S' := (151, [some (.ref 58), some (.int a1), some (.int a2), some (.int a3), some (.int y10), some (.int y17), some (.int y18), w19, w20, w21], [.int y17], qMM n m22 lm)) rfl ?_
          have h_z0 := Option.some.inj h
          obtain ⟨h_0, h_z1⟩ := Prod.mk.inj h_z0
          subst h_0
          subst h_z1
          exact q_ev_ret rfl rfl
        · rw [if_neg hc24] at h
          refine q_ev_brF hc24 (a := 144) (b := 149) rfl ?_
          refine q_ev_run 1 (S' := (151, [some (.ref 58), some (.int a1), some (.int a2), some (.int a3), some (.int y10), some (.int y17), some (.int y18), w19, w20, w21], [.int y18], qMM n m22 lm)) rfl ?_
          have h_z0 := Option.some.inj h
          obtain ⟨h_0, h_z1⟩ := Prod.mk.inj h_z0
          subst h_0
          subst h_z1
          exact q_ev_ret rfl rfl
noncomputable def F_AT_saw (m : (Nat → Nat → Int32)) (a1 : Int32) (a2 : Int32) : Option (Int32 × (Nat → Nat → Int32)) :=
  Option.bind (F_Ru_hasPoint_39 m a1) (fun r1 =>
    if r1 = 0 then
      some ((Int32.ofInt (-1)), m)
    else
      if a2 < 0 then
        some ((Int32.ofInt (-1)), m)
      else
        if a2 ≤ 15 then
          cond (q_in a1 8) (cond (q_in a1 8) (some (m 21 a1.toNatClampNeg, (q_w m 21 a1.toNatClampNeg a2))) none) none
        else
          some ((Int32.ofInt (-1)), m))
theorem T_AT_saw {Ln : Nat} {xs : Nat → Int32} {n : (Nat → Nat → Int32)} {lm : Nat → Int64} {d : Nat} (hd : 1 ≤ d) {m : (Nat → Nat → Int32)} {a1 : Int32} {a2 : Int32} {rv : Int32} {m1 : (Nat → Nat → Int32)} (h : F_AT_saw m a1 a2 = some (rv, m1)) : q_Ev (qXT Ln xs) d 84 (0, [some (.ref 0), some (.int a1), some (.int a2), none], [], qMM m n lm) (some (.int rv), qMM m1 n lm) := by
  unfold F_AT_saw at h
  refine q_ev_run 3 (S' := (5, [some (.ref 0), some (.int a1), some (.int a2), none], [.int a1, .ref 41], qMM m n lm)) rfl ?_
  obtain ⟨r1, hf2, h⟩ := Option.bind_eq_some_iff.mp h
  try dsimp only at h
  refine q_ev_call (S' := (8, [some (.ref 0), some (.int a1), some (.int a2), none], [], qMM m n lm)) rfl (by omega) (T_Ru_hasPoint_39 (by first | omega | decide) hf2) ?_
  refine q_ev_eq (S' := (8, [some (.ref 0), some (.int a1), some (.int a2), none], [.int r1], qMM m n lm)) rfl ?_
  by_cases hc3 : r1 = 0
  · rw [if_pos hc3] at h
    refine q_ev_brT hc3 (a := 21) (b := 11) rfl ?_
    refine q_ev_run 1 (S' := (22, [some (.ref 0), some (.int a1), some (.int a2), none], [.int (Int32.ofInt (-1))], qMM m n lm)) rfl ?_
    have h_z0 := Option.some.inj h
    obtain ⟨h_0, h_z1⟩ := Prod.mk.inj h_z0
    subst h_0
    subst h_z1
    exact q_ev_ret rfl rfl
  · rw [if_neg hc3] at h
    refine q_ev_brF hc3 (a := 21) (b := 11) rfl ?_
    refine q_ev_run 1 (S' := (12, [some (.ref 0), some (.int a1), some (.int a2), none], [.int a2], qMM m n lm)) rfl ?_
    by_cases hc4 : a2 < 0
    · rw [if_pos hc4] at h
      refine q_ev_brT hc4 (a := 21) (b := 15) rfl ?_
      refine q_ev_run 1 (S' := (22, [some (.ref 0), some (.int a1), some (.int a2), none], [.int (Int32.ofInt (-1))], qMM m n lm)) rfl ?_
      have h_z0 := Option.some.inj h
      obtain ⟨h_0, h_z1⟩ := Prod.mk.inj h_z0
      subst h_0
      subst h_z1
      exact q_ev_ret rfl rfl
    · rw [if_neg hc4] at h
      refine q_ev_brF hc4 (a := 21) (b := 15) rfl ?_
      refine q_ev_run 2 (S' := (18, [some (.ref 0), some (.int a1), some (.int a2), none], [.int 15, .int a2], qMM m n lm)) rfl ?_
      by_cases hc5 : a2 ≤ 15
      · rw [if_pos hc5] at h
        refine q_ev_brT hc5 (a := 23) (b := 21) rfl ?_
        refine q_ev_run 4 (S' := (31, [some (.ref 0), some (.int a1), some (.int a2), none], [.int a1, .ref 23], qMM m n lm)) rfl ?_
        obtain ⟨hb6, h⟩ := q_cd h
        refine q_ev_chk (b := q_in a1 8) hb6 (S' := (32, [some (.ref 0), some (.int a1), some (.int a2), none], [.int (m 21 a1.toNatClampNeg)], qMM m n lm)) rfl ?_
        refine q_ev_run 6 (S' := (42, [some (.ref 0), some (.int a1), some (.int a2), some (.int (m 21 a1.toNatClampNeg))], [.int a2, .int a1, .ref 23], qMM m n lm)) rfl ?_
        obtain ⟨hb7, h⟩ := q_cd h
        refine q_ev_chk (b := q_in a1 8) hb7 (S' := (43, [some (.ref 0), some (.int a1), some (.int a2), some (.int (m 21 a1.toNatClampNeg))], [], qMM (q_w m 21 a1.toNatClampNeg a2) n lm)) rfl ?_
        refine q_ev_run 1 (S' := (44, [some (.ref 0), some (.int a1), some (.int a2), some (.int (m 21 a1.toNatClampNeg))], [.int (m 21 a1.toNatClampNeg)], qMM (q_w m 21 a1.toNatClampNeg a2) n lm)) rfl ?_
        have h_z0 := Option.some.inj h
        obtain ⟨h_0, h_z1⟩ := Prod.mk.inj h_z0
        subst h_0
        subst h_z1
        exact q_ev_ret rfl rfl
      · rw [if_neg hc5] at h
        refine q_ev_brF hc5 (a := 23) (b := 21) rfl ?_
        refine q_ev_run 1 (S' := (22, [some (.ref 0), some (.int a1), some (.int a2), none], [.int (Int32.ofInt (-1))], qMM m n lm)) rfl ?_
        have h_z0 := Option.some.inj h
        obtain ⟨h_0, h_z1⟩ := Prod.mk.inj h_z0
        subst h_0
        subst h_z1
        exact q_ev_ret rfl rfl
noncomputable def F_Mo_saw (m : (Nat → Nat → Int32)) (a1 : Int32) (a2 : Int32) : Option (Int32 × (Nat → Nat → Int32)) :=
  Option.bind (F_Mo_isPoint m a1) (fun r1 =>
    if r1 = 0 then
      some ((Int32.ofInt (-1)), m)
    else
      Option.bind (F_Mo_in a2 0 15) (fun r4 =>
        if r4 = 0 then
          some ((Int32.ofInt (-1)), m)
        else
          cond (q_in (57 + a1) 65) (cond (q_in (57 + a1) 65) (some (m 60 ((57 + a1)).toNatClampNeg, (q_w m 60 ((57 + a1)).toNatClampNeg a2))) none) none))
theorem T_Mo_saw {Ln : Nat} {xs : Nat → Int32} {n : (Nat → Nat → Int32)} {lm : Nat → Int64} {d : Nat} (hd : 2 ≤ d) {m : (Nat → Nat → Int32)} {a1 : Int32} {a2 : Int32} {rv : Int32} {m1 : (Nat → Nat → Int32)} (h : F_Mo_saw m a1 a2 = some (rv, m1)) : q_Ev (qXT Ln xs) d 155 (0, [some (.ref 58), some (.int a1), some (.int a2), none], [], qMM n m lm) (some (.int rv), qMM n m1 lm) := by
  unfold F_Mo_saw at h
  refine q_ev_run 2 (S' := (2, [some (.ref 58), some (.int a1), some (.int a2), none], [.int a1, .ref 58], qMM n m lm)) rfl ?_
  obtain ⟨r1, hf2, h⟩ := Option.bind_eq_some_iff.mp h
  try dsimp only at h
  refine q_ev_call (S' := (5, [some (.ref 58), some (.int a1), some (.int a2), none], [], qMM n m lm)) rfl (by omega) (T_Mo_isPoint (by first | omega | decide) hf2) ?_
  refine q_ev_eq (S' := (5, [some (.ref 58), some (.int a1), some (.int a2), none], [.int r1], qMM n m lm)) rfl ?_
  by_cases hc3 : r1 = 0
  · rw [if_pos hc3] at h
    refine q_ev_brT hc3 (a := 18) (b := 8) rfl ?_
    refine q_ev_run 1 (S' := (19, [some (.ref 58), some (.int a1), some (.int a2), none], [.int (Int32.ofInt (-1))], qMM n m lm)) rfl ?_
    have h_z0 := Option.some.inj h
    obtain ⟨h_0, h_z1⟩ := Prod.mk.inj h_z0
    subst h_0
    subst h_z1
    exact q_ev_ret rfl rfl
  · rw [if_neg hc3] at h
    refine q_ev_brF hc3 (a := 18) (b := 8) rfl ?_
    refine q_ev_run 3 (S' := (12, [some (.ref 58), some (.int a1), some (.int a2), none], [.int 15, .int 0, .int a2], qMM n m lm)) rfl ?_
    obtain ⟨r4, hf5, h⟩ := Option.bind_eq_some_iff.mp h
    try dsimp only at h
    refine q_ev_call (S' := (15, [some (.ref 58), some (.int a1), some (.int a2), none], [], qMM n m lm)) rfl (by omega) (T_Mo_in (by first | omega | decide) hf5) ?_
    refine q_ev_eq (S' := (15, [some (.ref 58), some (.int a1), some (.int a2), none], [.int r4], qMM n m lm)) rfl ?_
    by_cases hc6 : r4 = 0
    · rw [if_pos hc6] at h
      refine q_ev_brT hc6 (a := 18) (b := 20) rfl ?_
      refine q_ev_run 1 (S' := (19, [some (.ref 58), some (.int a1), some (.int a2), none], [.int (Int32.ofInt (-1))], qMM n m lm)) rfl ?_
      have h_z0 := Option.some.inj h
      obtain ⟨h_0, h_z1⟩ := Prod.mk.inj h_z0
      subst h_0
      subst h_z1
      exact q_ev_ret rfl rfl
    · rw [if_neg hc6] at h
      refine q_ev_brF hc6 (a := 18) (b := 20) rfl ?_
      refine q_ev_run 5 (S' := (28, [some (.ref 58), some (.int a1), some (.int a2), none], [.int (57 + a1), .ref 62], qMM n m lm)) rfl ?_
      obtain ⟨hb7, h⟩ := q_cd h
      refine q_ev_chk (b := q_in (57 + a1) 65) hb7 (S' := (29, [some (.ref 58), some (.int a1), some (.int a2), none], [.int (m 60 ((57 + a1)).toNatClampNeg)], qMM n m lm)) rfl ?_
      refine q_ev_run 7 (S' := (39, [some (.ref 58), some (.int a1), some (.int a2), some (.int (m 60 ((57 + a1)).toNatClampNeg))], [.int a2, .int (57 + a1), .ref 62], qMM n m lm)) rfl ?_
      obtain ⟨hb8, h⟩ := q_cd h
      refine q_ev_chk (b := q_in (57 + a1) 65) hb8 (S' := (40, [some (.ref 58), some (.int a1), some (.int a2), some (.int (m 60 ((57 + a1)).toNatClampNeg))], [], qMM n (q_w m 60 ((57 + a1)).toNatClampNeg a2) lm)) rfl ?_
      refine q_ev_run 1 (S' := (41, [some (.ref 58), some (.int a1), some (.int a2), some (.int (m 60 ((57 + a1)).toNatClampNeg))], [.int (m 60 ((57 + a1)).toNatClampNeg)], qMM n (q_w m 60 ((57 + a1)).toNatClampNeg a2) lm)) rfl ?_
      have h_z0 := Option.some.inj h
      obtain ⟨h_0, h_z1⟩ := Prod.mk.inj h_z0
      subst h_0
      subst h_z1
      exact q_ev_ret rfl rfl
noncomputable def FL_AT_forget_4 : Nat → (Nat → Nat → Int32) → Int32 → Int32 → Option (Int32 × (Nat → Nat → Int32))
  | 0, _, _, _ => none
  | fu + 1, m, x1, x2 =>
    if 8 ≤ x2 then
      some (x1, m)
    else
      cond (q_in x2 8) (
        if m 21 x2.toNatClampNeg = (Int32.ofInt (-9)) then
          cond (q_in x2 8) (FL_AT_forget_4 fu (q_w m 21 x2.toNatClampNeg (Int32.ofInt (-9))) x1 (x2 + 1)) none
        else
          cond (q_in x2 8) (FL_AT_forget_4 fu (q_w m 21 x2.toNatClampNeg (Int32.ofInt (-9))) (x1 + 1) (x2 + 1)) none
       ) none
theorem TL_AT_forget_4 {Ln : Nat} {xs : Nat → Int32} {n : (Nat → Nat → Int32)} {lm : Nat → Int64} {d : Nat} (hd : 0 ≤ d) {r : Option Value × qM} : ∀ (fu : Nat) (m : (Nat → Nat → Int32)) (x1 : Int32) (x2 : Int32)  (y1 : Int32) (m1 : (Nat → Nat → Int32)), FL_AT_forget_4 fu m x1 x2 = some (y1, m1) → (∀ (u2 : Option Value), q_Ev (qXT Ln xs) d 85 (44, [some (.ref 0), some (.int y1), u2], [], qMM m1 n lm) r) → q_Ev (qXT Ln xs) d 85 (4, [some (.ref 0), some (.int x1), some (.int x2)], [], qMM m n lm) r := by
  intro fu
  induction fu with
  | zero => intro m x1 x2 y1 m1 h hk; cases h
  | succ fu ih =>
    intro m x1 x2 y1 m1 h hk
    rw [FL_AT_forget_4] at h
    refine q_ev_run 2 (S' := (7, [some (.ref 0), some (.int x1), some (.int x2)], [.int 8, .int x2], qMM m n lm)) rfl ?_
    by_cases hc1 : 8 ≤ x2
    · rw [if_pos hc1] at h
      refine q_ev_brT hc1 (a := 44) (b := 10) rfl ?_
      have h_z0 := Option.some.inj h
      obtain ⟨h_0, h_z1⟩ := Prod.mk.inj h_z0
      subst h_0
      subst h_z1
      exact hk (some (.int x2))
    · rw [if_neg hc1] at h
      refine q_ev_brF hc1 (a := 44) (b := 10) rfl ?_
      refine q_ev_run 4 (S' := (18, [some (.ref 0), some (.int x1), some (.int x2)], [.int x2, .ref 23], qMM m n lm)) rfl ?_
      obtain ⟨hb2, h⟩ := q_cd h
      refine q_ev_chk (b := q_in x2 8) hb2 (S' := (19, [some (.ref 0), some (.int x1), some (.int x2)], [.int (m 21 x2.toNatClampNeg)], qMM m n lm)) rfl ?_
      refine q_ev_run 1 (S' := (21, [some (.ref 0), some (.int x1), some (.int x2)], [.int (Int32.ofInt (-9)), .int (m 21 x2.toNatClampNeg)], qMM m n lm)) rfl ?_
      by_cases hc3 : m 21 x2.toNatClampNeg = (Int32.ofInt (-9))
      · rw [if_pos hc3] at h
        refine q_ev_brT hc3 (a := 27) (b := 24) rfl ?_
        refine q_ev_run 5 (S' := (37, [some (.ref 0), some (.int x1), some (.int x2)], [.int (Int32.ofInt (-9)), .int x2, .ref 23], qMM m n lm)) rfl ?_
        obtain ⟨hb4, h⟩ := q_cd h
        refine q_ev_chk (b := q_in x2 8) hb4 (S' := (38, [some (.ref 0), some (.int x1), some (.int x2)], [], qMM (q_w m 21 x2.toNatClampNeg (Int32.ofInt (-9))) n lm)) rfl ?_
        refine q_ev_run 2 (S' := (4, [some (.ref 0), some (.int x1), some (.int (x2 + 1))], [], qMM (q_w m 21 x2.toNatClampNeg (Int32.ofInt (-9))) n lm)) rfl ?_
        exact ih (q_w m 21 x2.toNatClampNeg (Int32.ofInt (-9))) x1 (x2 + 1) _ _ h hk
      · rw [if_neg hc3] at h
        refine q_ev_brF hc3 (a := 27) (b := 24) rfl ?_
        refine q_ev_run 6 (S' := (37, [some (.ref 0), some (.int (x1 + 1)), some (.int x2)], [.int (Int32.ofInt (-9)), .int x2, .ref 23], qMM m n lm)) rfl ?_
        obtain ⟨hb5, h⟩ := q_cd h
        refine q_ev_chk (b := q_in x2 8) hb5 (S' := (38, [some (.ref 0), some (.int (x1 + 1)), some (.int x2)], [], qMM (q_w m 21 x2.toNatClampNeg (Int32.ofInt (-9))) n lm)) rfl ?_
        refine q_ev_run 2 (S' := (4, [some (.ref 0), some (.int (x1 + 1)), some (.int (x2 + 1))], [], qMM (q_w m 21 x2.toNatClampNeg (Int32.ofInt (-9))) n lm)) rfl ?_
        exact ih (q_w m 21 x2.toNatClampNeg (Int32.ofInt (-9))) (x1 + 1) (x2 + 1) _ _ h hk
noncomputable def F_AT_forget (m : (Nat → Nat → Int32)) : Option (Int32 × (Nat → Nat → Int32)) :=
  Option.bind (FL_AT_forget_4 qFU m 0 0) (fun (y1, m3) =>
    some (y1, m3))
theorem T_AT_forget {Ln : Nat} {xs : Nat → Int32} {n : (Nat → Nat → Int32)} {lm : Nat → Int64} {d : Nat} (hd : 0 ≤ d) {m : (Nat → Nat → Int32)} {rv : Int32} {m1 : (Nat → Nat → Int32)} (h : F_AT_forget m = some (rv, m1)) : q_Ev (qXT Ln xs) d 85 (0, [some (.ref 0), none, none], [], qMM m n lm) (some (.int rv), qMM m1 n lm) := by
  unfold F_AT_forget at h
  refine q_ev_run 4 (S' := (4, [some (.ref 0), some (.int 0), some (.int 0)], [], qMM m n lm)) rfl ?_
  obtain ⟨⟨y1, m3⟩, hl4, h⟩ := Option.bind_eq_some_iff.mp h
  try dsimp only at h
  refine TL_AT_forget_4 (by first | omega | decide) _ m 0 0 _ _ hl4 (fun w2 => ?_)
  refine q_ev_run 1 (S' := (45, [some (.ref 0), some (.int y1), w2], [.int y1], qMM m3 n lm)) rfl ?_
  have h_z0 := Option.some.inj h
  obtain ⟨h_0, h_z1⟩ := Prod.mk.inj h_z0
  subst h_0
  subst h_z1
  exact q_ev_ret rfl rfl
noncomputable def FL_Mo_forget_4 : Nat → (Nat → Nat → Int32) → Int32 → Int32 → Option (Int32 × (Nat → Nat → Int32))
  | 0, _, _, _ => none
  | fu + 1, m, x1, x2 =>
    if 8 ≤ x2 then
      some (x1, m)
    else
      cond (q_in (57 + x2) 65) (
        if m 60 ((57 + x2)).toNatClampNeg = (Int32.ofInt (-9)) then
          cond (q_in (57 + x2) 65) (FL_Mo_forget_4 fu (q_w m 60 ((57 + x2)).toNatClampNeg (Int32.ofInt (-9))) (x1 + 0) (x2 + 1)) none
        else
          cond (q_in (57 + x2) 65) (FL_Mo_forget_4 fu (q_w m 60 ((57 + x2)).toNatClampNeg (Int32.ofInt (-9))) (x1 + 1) (x2 + 1)) none
       ) none
theorem TL_Mo_forget_4 {Ln : Nat} {xs : Nat → Int32} {n : (Nat → Nat → Int32)} {lm : Nat → Int64} {d : Nat} (hd : 0 ≤ d) {r : Option Value × qM} : ∀ (fu : Nat) (m : (Nat → Nat → Int32)) (x1 : Int32) (x2 : Int32)  (y1 : Int32) (m1 : (Nat → Nat → Int32)), FL_Mo_forget_4 fu m x1 x2 = some (y1, m1) → (∀ (u2 : Option Value), q_Ev (qXT Ln xs) d 156 (49, [some (.ref 58), some (.int y1), u2], [], qMM n m1 lm) r) → q_Ev (qXT Ln xs) d 156 (4, [some (.ref 58), some (.int x1), some (.int x2)], [], qMM n m lm) r := by
  intro fu
  induction fu with
  | zero => intro m x1 x2 y1 m1 h hk; cases h
  | succ fu ih =>
    intro m x1 x2 y1 m1 h hk
    rw [FL_Mo_forget_4] at h
    refine q_ev_run 2 (S' := (7, [some (.ref 58), some (.int x1), some (.int x2)], [.int 8, .int x2], qMM n m lm)) rfl ?_
    by_cases hc1 : 8 ≤ x2
    · rw [if_pos hc1] at h
      refine q_ev_brT hc1 (a := 49) (b := 10) rfl ?_
      have h_z0 := Option.some.inj h
      obtain ⟨h_0, h_z1⟩ := Prod.mk.inj h_z0
      subst h_0
      subst h_z1
      exact hk (some (.int x2))
    · rw [if_neg hc1] at h
      refine q_ev_brF hc1 (a := 49) (b := 10) rfl ?_
      refine q_ev_run 6 (S' := (19, [some (.ref 58), some (.int x1), some (.int x2)], [.int (57 + x2), .ref 62, .int x1], qMM n m lm)) rfl ?_
      obtain ⟨hb2, h⟩ := q_cd h
      refine q_ev_chk (b := q_in (57 + x2) 65) hb2 (S' := (20, [some (.ref 58), some (.int x1), some (.int x2)], [.int (m 60 ((57 + x2)).toNatClampNeg), .int x1], qMM n m lm)) rfl ?_
      refine q_ev_run 1 (S' := (22, [some (.ref 58), some (.int x1), some (.int x2)], [.int (Int32.ofInt (-9)), .int (m 60 ((57 + x2)).toNatClampNeg), .int x1], qMM n m lm)) rfl ?_
      by_cases hc3 : m 60 ((57 + x2)).toNatClampNeg = (Int32.ofInt (-9))
      · rw [if_pos hc3] at h
        refine q_ev_brT hc3 (a := 25) (b := 29) rfl ?_
        refine q_ev_run 10 (S' := (42, [some (.ref 58), some (.int (x1 + 0)), some (.int x2)], [.int (Int32.ofInt (-9)), .int (57 + x2), .ref 62], qMM n m lm)) rfl ?_
        obtain ⟨hb4, h⟩ := q_cd h
        refine q_ev_chk (b := q_in (57 + x2) 65) hb4 (S' := (43, [some (.ref 58), some (.int (x1 + 0)), some (.int x2)], [], qMM n (q_w m 60 ((57 + x2)).toNatClampNeg (Int32.ofInt (-9))) lm)) rfl ?_
        refine q_ev_run 2 (S' := (4, [some (.ref 58), some (.int (x1 + 0)), some (.int (x2 + 1))], [], qMM n (q_w m 60 ((57 + x2)).toNatClampNeg (Int32.ofInt (-9))) lm)) rfl ?_
        exact ih (q_w m 60 ((57 + x2)).toNatClampNeg (Int32.ofInt (-9))) (x1 + 0) (x2 + 1) _ _ h hk
      · rw [if_neg hc3] at h
        refine q_ev_brF hc3 (a := 25) (b := 29) rfl ?_
        refine q_ev_run 9 (S' := (42, [some (.ref 58), some (.int (x1 + 1)), some (.int x2)], [.int (Int32.ofInt (-9)), .int (57 + x2), .ref 62], qMM n m lm)) rfl ?_
        obtain ⟨hb5, h⟩ := q_cd h
        refine q_ev_chk (b := q_in (57 + x2) 65) hb5 (S' := (43, [some (.ref 58), some (.int (x1 + 1)), some (.int x2)], [], qMM n (q_w m 60 ((57 + x2)).toNatClampNeg (Int32.ofInt (-9))) lm)) rfl ?_
        refine q_ev_run 2 (S' := (4, [some (.ref 58), some (.int (x1 + 1)), some (.int (x2 + 1))], [], qMM n (q_w m 60 ((57 + x2)).toNatClampNeg (Int32.ofInt (-9))) lm)) rfl ?_
        exact ih (q_w m 60 ((57 + x2)).toNatClampNeg (Int32.ofInt (-9))) (x1 + 1) (x2 + 1) _ _ h hk
noncomputable def F_Mo_forget (m : (Nat → Nat → Int32)) : Option (Int32 × (Nat → Nat → Int32)) :=
  Option.bind (FL_Mo_forget_4 qFU m 0 0) (fun (y1, m3) =>
    some (y1, m3))
theorem T_Mo_forget {Ln : Nat} {xs : Nat → Int32} {n : (Nat → Nat → Int32)} {lm : Nat → Int64} {d : Nat} (hd : 0 ≤ d) {m : (Nat → Nat → Int32)} {rv : Int32} {m1 : (Nat → Nat → Int32)} (h : F_Mo_forget m = some (rv, m1)) : q_Ev (qXT Ln xs) d 156 (0, [some (.ref 58), none, none], [], qMM n m lm) (some (.int rv), qMM n m1 lm) := by
  unfold F_Mo_forget at h
  refine q_ev_run 4 (S' := (4, [some (.ref 58), some (.int 0), some (.int 0)], [], qMM n m lm)) rfl ?_
  obtain ⟨⟨y1, m3⟩, hl4, h⟩ := Option.bind_eq_some_iff.mp h
  try dsimp only at h
  refine TL_Mo_forget_4 (by first | omega | decide) _ m 0 0 _ _ hl4 (fun w2 => ?_)
  refine q_ev_run 1 (S' := (50, [some (.ref 58), some (.int y1), w2], [.int y1], qMM n m3 lm)) rfl ?_
  have h_z0 := Option.some.inj h
  obtain ⟨h_0, h_z1⟩ := Prod.mk.inj h_z0
  subst h_0
  subst h_z1
  exact q_ev_ret rfl rfl
noncomputable def FL_La_canHaveBeen_9_30 : Nat → (Nat → Nat → Int32) → Int32 → Int32 → Int32 → Option ((Int32) ⊕ (Unit))
  | 0, _, _, _, _ => none
  | fu + 1, m, x3, x4, x5 =>
    if 4 ≤ x5 then
      some (.inr ())
    else
      if m 9 5 ≤ 0 then
        if ((x4 >>> (x5 &&& 31)) &&& 1) = 0 then
          FL_La_canHaveBeen_9_30 fu m x3 x4 (x5 + 1)
        else
          some (.inl (0))
      else
        if x3 < (m 9 5 * (x5 + 1)) then
          if ((x4 >>> (x5 &&& 31)) &&& 1) = 0 then
            FL_La_canHaveBeen_9_30 fu m x3 x4 (x5 + 1)
          else
            some (.inl (0))
        else
          if ((x4 >>> (x5 &&& 31)) &&& 1) = 0 then
            FL_La_canHaveBeen_9_30 fu m x3 x4 (x5 + 1)
          else
            FL_La_canHaveBeen_9_30 fu m x3 x4 (x5 + 1)
theorem TL_La_canHaveBeen_9_30 {Ln : Nat} {xs : Nat → Int32} {n : (Nat → Nat → Int32)} {lm : Nat → Int64} {d : Nat} (hd : 0 ≤ d) {r : Option Value × qM} : ∀ (fu : Nat) (m : (Nat → Nat → Int32)) (x3 : Int32) (x4 : Int32) (x5 : Int32) (w1 : Option Value) (w2 : Option Value) (w6 : Option Value) (o : (Int32) ⊕ (Unit)), FL_La_canHaveBeen_9_30 fu m x3 x4 x5 = some o → (∀ (rv : Int32), o = .inl rv → r = (some (.int rv), qMM m n lm)) → (∀ (_ : Unit), o = .inr () → ∀ (u1 u2 u5 u6 : Option Value), q_Ev (qXT Ln xs) d 25 (86, [some (.ref 11), u1, u2, some (.int x3), some (.int x4), u5, u6], [], qMM m n lm) r) → q_Ev (qXT Ln xs) d 25 (30, [some (.ref 11), w1, w2, some (.int x3), some (.int x4), some (.int x5), w6], [], qMM m n lm) r := by
  intro fu
  induction fu with
  | zero => intro m x3 x4 x5 w1 w2 w6 o h hr hk; cases h
  | succ fu ih =>
    intro m x3 x4 x5 w1 w2 w6 o h hr hk
    rw [FL_La_canHaveBeen_9_30] at h
    refine q_ev_run 2 (S' := (33, [some (.ref 11), w1, w2, some (.int x3), some (.int x4), some (.int x5), w6], [.int 4, .int x5], qMM m n lm)) rfl ?_
    by_cases hc1 : 4 ≤ x5
    · rw [if_pos hc1] at h
      refine q_ev_brT hc1 (a := 86) (b := 36) rfl ?_
      obtain rfl := (Option.some.inj h).symm
      exact hk () rfl (w1) (w2) (some (.int x5)) (w6)
    · rw [if_neg hc1] at h
      refine q_ev_brF hc1 (a := 86) (b := 36) rfl ?_
      refine q_ev_run 2 (S' := (40, [some (.ref 11), w1, w2, some (.int x3), some (.int x4), some (.int x5), w6], [.int (m 9 5)], qMM m n lm)) rfl ?_
      by_cases hc2 : m 9 5 ≤ 0
      · rw [if_pos hc2] at h
        refine q_ev_brT hc2 (a := 60) (b := 43) rfl ?_
        refine q_ev_run 7 (S' := (70, [some (.ref 11), w1, w2, some (.int x3), some (.int x4), some (.int x5), some (.int 0)], [.int ((x4 >>> (x5 &&& 31)) &&& 1)], qMM m n lm)) rfl ?_
        by_cases hc3 : ((x4 >>> (x5 &&& 31)) &&& 1) = 0
        · rw [if_pos hc3] at h
          refine q_ev_brT hc3 (a := 80) (b := 73) rfl ?_
          refine q_ev_run 2 (S' := (30, [some (.ref 11), w1, w2, some (.int x3), some (.int x4), some (.int (x5 + 1)), some (.int 0)], [], qMM m n lm)) rfl ?_
          exact ih m x3 x4 (x5 + 1) (w1) (w2) (some (.int 0)) _ h hr hk
        · rw [if_neg hc3] at h
          refine q_ev_brF hc3 (a := 80) (b := 73) rfl ?_
          refine q_ev_run 3 (S' := (79, [some (.ref 11), w1, w2, some (.int x3), some (.int x4), some (.int x5), some (.int 0)], [.int 0], qMM m n lm)) rfl ?_
          obtain rfl := (Option.some.inj h).symm
          rw [hr _ rfl]
          exact q_ev_ret rfl rfl
      · rw [if_neg hc2] at h
        refine q_ev_brF hc2 (a := 60) (b := 43) rfl ?_
        refine q_ev_run 7 (S' := (53, [some (.ref 11), w1, w2, some (.int x3), some (.int x4), some (.int x5), w6], [.int (m 9 5 * (x5 + 1)), .int x3], qMM m n lm)) rfl ?_
        by_cases hc4 : x3 < (m 9 5 * (x5 + 1))
        · rw [if_pos hc4] at h
          refine q_ev_brT hc4 (a := 60) (b := 56) rfl ?_
          refine q_ev_run 7 (S' := (70, [some (.ref 11), w1, w2, some (.int x3), some (.int x4), some (.int x5), some (.int 0)], [.int ((x4 >>> (x5 &&& 31)) &&& 1)], qMM m n lm)) rfl ?_
          by_cases hc5 : ((x4 >>> (x5 &&& 31)) &&& 1) = 0
          · rw [if_pos hc5] at h
            refine q_ev_brT hc5 (a := 80) (b := 73) rfl ?_
            refine q_ev_run 2 (S' := (30, [some (.ref 11), w1, w2, some (.int x3), some (.int x4), some (.int (x5 + 1)), some (.int 0)], [], qMM m n lm)) rfl ?_
            exact ih m x3 x4 (x5 + 1) (w1) (w2) (some (.int 0)) _ h hr hk
          · rw [if_neg hc5] at h
            refine q_ev_brF hc5 (a := 80) (b := 73) rfl ?_
            refine q_ev_run 3 (S' := (79, [some (.ref 11), w1, w2, some (.int x3), some (.int x4), some (.int x5), some (.int 0)], [.int 0], qMM m n lm)) rfl ?_
            obtain rfl := (Option.some.inj h).symm
            rw [hr _ rfl]
            exact q_ev_ret rfl rfl
        · rw [if_neg hc4] at h
          refine q_ev_brF hc4 (a := 60) (b := 56) rfl ?_
          refine q_ev_run 8 (S' := (70, [some (.ref 11), w1, w2, some (.int x3), some (.int x4), some (.int x5), some (.int 1)], [.int ((x4 >>> (x5 &&& 31)) &&& 1)], qMM m n lm)) rfl ?_
          by_cases hc6 : ((x4 >>> (x5 &&& 31)) &&& 1) = 0
          · rw [if_pos hc6] at h
            refine q_ev_brT hc6 (a := 80) (b := 73) rfl ?_
            refine q_ev_run 2 (S' := (30, [some (.ref 11), w1, w2, some (.int x3), some (.int x4), some (.int (x5 + 1)), some (.int 1)], [], qMM m n lm)) rfl ?_
            exact ih m x3 x4 (x5 + 1) (w1) (w2) (some (.int 1)) _ h hr hk
          · rw [if_neg hc6] at h
            refine q_ev_brF hc6 (a := 80) (b := 73) rfl ?_
            refine q_ev_run 4 (S' := (30, [some (.ref 11), w1, w2, some (.int x3), some (.int x4), some (.int (x5 + 1)), some (.int 1)], [], qMM m n lm)) rfl ?_
            exact ih m x3 x4 (x5 + 1) (w1) (w2) (some (.int 1)) _ h hr hk
noncomputable def F_La_canHaveBeen_9 (m : (Nat → Nat → Int32)) (a1 : Int32) (a2 : Int32) (a3 : Int32) : Option (Int32) :=
  cond (q_in a1 5) (
    if (a2 &&& (m 13 a1.toNatClampNeg ^^^ (Int32.ofInt (-1)))) = 0 then
      cond (q_in a1 5) (
        Option.bind (FL_La_canHaveBeen_9_30 qFU m a3 (m 13 a1.toNatClampNeg &&& (a2 ^^^ (Int32.ofInt (-1)))) 0) (fun o9 => match o9 with
          | .inl v0 => some v0
          | .inr _ =>
            some (1))
       ) none
    else
      some (0)
   ) none
theorem T_La_canHaveBeen_9 {Ln : Nat} {xs : Nat → Int32} {n : (Nat → Nat → Int32)} {lm : Nat → Int64} {d : Nat} (hd : 0 ≤ d) {m : (Nat → Nat → Int32)} {a1 : Int32} {a2 : Int32} {a3 : Int32} {rv : Int32} (h : F_La_canHaveBeen_9 m a1 a2 a3 = some rv) : q_Ev (qXT Ln xs) d 25 (0, [some (.ref 11), some (.int a1), some (.int a2), some (.int a3), none, none, none], [], qMM m n lm) (some (.int rv), qMM m n lm) := by
  unfold F_La_canHaveBeen_9 at h
  refine q_ev_run 4 (S' := (6, [some (.ref 11), some (.int a1), some (.int a2), some (.int a3), none, none, none], [.int a1, .ref 15, .int a2], qMM m n lm)) rfl ?_
  obtain ⟨hb1, h⟩ := q_cd h
  refine q_ev_chk (b := q_in a1 5) hb1 (S' := (7, [some (.ref 11), some (.int a1), some (.int a2), some (.int a3), none, none, none], [.int (m 13 a1.toNatClampNeg), .int a2], qMM m n lm)) rfl ?_
  refine q_ev_run 3 (S' := (10, [some (.ref 11), some (.int a1), some (.int a2), some (.int a3), none, none, none], [.int (a2 &&& (m 13 a1.toNatClampNeg ^^^ (Int32.ofInt (-1))))], qMM m n lm)) rfl ?_
  by_cases hc2 : (a2 &&& (m 13 a1.toNatClampNeg ^^^ (Int32.ofInt (-1)))) = 0
  · rw [if_pos hc2] at h
    refine q_ev_brT hc2 (a := 15) (b := 13) rfl ?_
    refine q_ev_run 3 (S' := (20, [some (.ref 11), some (.int a1), some (.int a2), some (.int a3), none, none, none], [.int a1, .ref 15], qMM m n lm)) rfl ?_
    obtain ⟨hb3, h⟩ := q_cd h
    refine q_ev_chk (b := q_in a1 5) hb3 (S' := (21, [some (.ref 11), some (.int a1), some (.int a2), some (.int a3), none, none, none], [.int (m 13 a1.toNatClampNeg)], qMM m n lm)) rfl ?_
    refine q_ev_run 7 (S' := (30, [some (.ref 11), some (.int a1), some (.int a2), some (.int a3), some (.int (m 13 a1.toNatClampNeg &&& (a2 ^^^ (Int32.ofInt (-1))))), some (.int 0), none], [], qMM m n lm)) rfl ?_
    obtain ⟨o9, hl8, h⟩ := Option.bind_eq_some_iff.mp h
    rcases o9 with v0 | _
    · have h_z0 := Option.some.inj h
      subst h_z0
      exact TL_La_canHaveBeen_9_30 (by first | omega | decide) _ m a3 (m 13 a1.toNatClampNeg &&& (a2 ^^^ (Int32.ofInt (-1)))) 0 (some (.int a1)) (some (.int a2)) (none) _ hl8 (fun _ hh => by cases hh; rfl) (fun _ hh => by cases hh)
    · refine TL_La_canHaveBeen_9_30 (by first | omega | decide) _ m a3 (m 13 a1.toNatClampNeg &&& (a2 ^^^ (Int32.ofInt (-1)))) 0 (some (.int a1)) (some (.int a2)) (none) _ hl8 (fun _ hh => by cases hh) (fun _ hh w4 w5 w6 w7 => ?_)
      cases hh
      try dsimp only at h
      refine q_ev_run 1 (S' := (87, [some (.ref 11), w4, w5, some (.int a3), some (.int (m 13 a1.toNatClampNeg &&& (a2 ^^^ (Int32.ofInt (-1))))), w6, w7], [.int 1], qMM m n lm)) rfl ?_
      have h_z0 := Option.some.inj h
      subst h_z0
      exact q_ev_ret rfl rfl
  · rw [if_neg hc2] at h
    refine q_ev_brF hc2 (a := 15) (b := 13) rfl ?_
    refine q_ev_run 1 (S' := (14, [some (.ref 11), some (.int a1), some (.int a2), some (.int a3), none, none, none], [.int 0], qMM m n lm)) rfl ?_
    have h_z0 := Option.some.inj h
    subst h_z0
    exact q_ev_ret rfl rfl
noncomputable def FL_Gu_prepare_52_9_39_21_43 : Nat → (Nat → Nat → Int32) → Int32 → Int32 → Option ((Nat → Nat → Int32))
  | 0, _, _, _ => none
  | fu + 1, m, x4, x5 =>
    if m 39 0 ≤ x5 then
      some (m)
    else
      cond (q_in x5 8) (
        if m 21 x5.toNatClampNeg = (Int32.ofInt (-9)) then
          cond (q_in x4 5) (cond (q_in x4 5) (FL_Gu_prepare_52_9_39_21_43 fu (q_w m 53 x4.toNatClampNeg (m 53 x4.toNatClampNeg ||| ((1 : Int32) <<< (x5 &&& 31)))) x4 (x5 + 1)) none) none
        else
          cond (q_in x5 8) (
            cond (q_in x5 8) (
              Option.bind (F_La_canHaveBeen_9 m x4 (m 21 x5.toNatClampNeg) (m 41 x5.toNatClampNeg)) (fun r8 =>
                if r8 = 0 then
                  FL_Gu_prepare_52_9_39_21_43 fu m x4 (x5 + 1)
                else
                  cond (q_in x4 5) (cond (q_in x4 5) (FL_Gu_prepare_52_9_39_21_43 fu (q_w m 53 x4.toNatClampNeg (m 53 x4.toNatClampNeg ||| ((1 : Int32) <<< (x5 &&& 31)))) x4 (x5 + 1)) none) none)
             ) none
           ) none
       ) none
theorem TL_Gu_prepare_52_9_39_21_43 {Ln : Nat} {xs : Nat → Int32} {n : (Nat → Nat → Int32)} {lm : Nat → Int64} {d : Nat} (hd : 1 ≤ d) {r : Option Value × qM} : ∀ (fu : Nat) (m : (Nat → Nat → Int32)) (x4 : Int32) (x5 : Int32)  (m1 : (Nat → Nat → Int32)), FL_Gu_prepare_52_9_39_21_43 fu m x4 x5 = some m1 → (∀ (u5 : Option Value), q_Ev (qXT Ln xs) d 1 (101, [some (.ref 54), some (.ref 11), some (.ref 41), some (.ref 23), some (.int x4), u5], [], qMM m1 n lm) r) → q_Ev (qXT Ln xs) d 1 (43, [some (.ref 54), some (.ref 11), some (.ref 41), some (.ref 23), some (.int x4), some (.int x5)], [], qMM m n lm) r := by
  intro fu
  induction fu with
  | zero => intro m x4 x5 m1 h hk; cases h
  | succ fu ih =>
    intro m x4 x5 m1 h hk
    rw [FL_Gu_prepare_52_9_39_21_43] at h
    refine q_ev_run 3 (S' := (49, [some (.ref 54), some (.ref 11), some (.ref 41), some (.ref 23), some (.int x4), some (.int x5)], [.int (m 39 0), .int x5], qMM m n lm)) rfl ?_
    by_cases hc1 : m 39 0 ≤ x5
    · rw [if_pos hc1] at h
      refine q_ev_brT hc1 (a := 101) (b := 52) rfl ?_
      have h_z0 := Option.some.inj h
      subst h_z0
      exact hk (some (.int x5))
    · rw [if_neg hc1] at h
      refine q_ev_brF hc1 (a := 101) (b := 52) rfl ?_
      refine q_ev_run 2 (S' := (55, [some (.ref 54), some (.ref 11), some (.ref 41), some (.ref 23), some (.int x4), some (.int x5)], [.int x5, .ref 23], qMM m n lm)) rfl ?_
      obtain ⟨hb2, h⟩ := q_cd h
      refine q_ev_chk (b := q_in x5 8) hb2 (S' := (56, [some (.ref 54), some (.ref 11), some (.ref 41), some (.ref 23), some (.int x4), some (.int x5)], [.int (m 21 x5.toNatClampNeg)], qMM m n lm)) rfl ?_
      refine q_ev_run 1 (S' := (58, [some (.ref 54), some (.ref 11), some (.ref 41), some (.ref 23), some (.int x4), some (.int x5)], [.int (Int32.ofInt (-9)), .int (m 21 x5.toNatClampNeg)], qMM m n lm)) rfl ?_
      by_cases hc3 : m 21 x5.toNatClampNeg = (Int32.ofInt (-9))
      · rw [if_pos hc3] at h
        refine q_ev_brT hc3 (a := 81) (b := 61) rfl ?_
        refine q_ev_run 4 (S' := (88, [some (.ref 54), some (.ref 11), some (.ref 41), some (.ref 23), some (.int x4), some (.int x5)], [.int x4, .ref 55, .int x4, .ref 55], qMM m n lm)) rfl ?_
        obtain ⟨hb4, h⟩ := q_cd h
        refine q_ev_chk (b := q_in x4 5) hb4 (S' := (89, [some (.ref 54), some (.ref 11), some (.ref 41), some (.ref 23), some (.int x4), some (.int x5)], [.int (m 53 x4.toNatClampNeg), .int x4, .ref 55], qMM m n lm)) rfl ?_
        refine q_ev_run 4 (S' := (94, [some (.ref 54), some (.ref 11), some (.ref 41), some (.ref 23), some (.int x4), some (.int x5)], [.int (m 53 x4.toNatClampNeg ||| ((1 : Int32) <<< (x5 &&& 31))), .int x4, .ref 55], qMM m n lm)) rfl ?_
        obtain ⟨hb5, h⟩ := q_cd h
        refine q_ev_chk (b := q_in x4 5) hb5 (S' := (95, [some (.ref 54), some (.ref 11), some (.ref 41), some (.ref 23), some (.int x4), some (.int x5)], [], qMM (q_w m 53 x4.toNatClampNeg (m 53 x4.toNatClampNeg ||| ((1 : Int32) <<< (x5 &&& 31)))) n lm)) rfl ?_
        refine q_ev_run 2 (S' := (43, [some (.ref 54), some (.ref 11), some (.ref 41), some (.ref 23), some (.int x4), some (.int (x5 + 1))], [], qMM (q_w m 53 x4.toNatClampNeg (m 53 x4.toNatClampNeg ||| ((1 : Int32) <<< (x5 &&& 31)))) n lm)) rfl ?_
        exact ih (q_w m 53 x4.toNatClampNeg (m 53 x4.toNatClampNeg ||| ((1 : Int32) <<< (x5 &&& 31)))) x4 (x5 + 1) _ h hk
      · rw [if_neg hc3] at h
        refine q_ev_brF hc3 (a := 81) (b := 61) rfl ?_
        refine q_ev_run 4 (S' := (67, [some (.ref 54), some (.ref 11), some (.ref 41), some (.ref 23), some (.int x4), some (.int x5)], [.int x5, .ref 23, .int x4, .ref 11], qMM m n lm)) rfl ?_
        obtain ⟨hb6, h⟩ := q_cd h
        refine q_ev_chk (b := q_in x5 8) hb6 (S' := (68, [some (.ref 54), some (.ref 11), some (.ref 41), some (.ref 23), some (.int x4), some (.int x5)], [.int (m 21 x5.toNatClampNeg), .int x4, .ref 11], qMM m n lm)) rfl ?_
        refine q_ev_run 3 (S' := (74, [some (.ref 54), some (.ref 11), some (.ref 41), some (.ref 23), some (.int x4), some (.int x5)], [.int x5, .ref 43, .int (m 21 x5.toNatClampNeg), .int x4, .ref 11], qMM m n lm)) rfl ?_
        obtain ⟨hb7, h⟩ := q_cd h
        refine q_ev_chk (b := q_in x5 8) hb7 (S' := (75, [some (.ref 54), some (.ref 11), some (.ref 41), some (.ref 23), some (.int x4), some (.int x5)], [.int (m 41 x5.toNatClampNeg), .int (m 21 x5.toNatClampNeg), .int x4, .ref 11], qMM m n lm)) rfl ?_
        obtain ⟨r8, hf9, h⟩ := Option.bind_eq_some_iff.mp h
        try dsimp only at h
        refine q_ev_call (S' := (78, [some (.ref 54), some (.ref 11), some (.ref 41), some (.ref 23), some (.int x4), some (.int x5)], [], qMM m n lm)) rfl (by omega) (T_La_canHaveBeen_9 (by first | omega | decide) hf9) ?_
        refine q_ev_eq (S' := (78, [some (.ref 54), some (.ref 11), some (.ref 41), some (.ref 23), some (.int x4), some (.int x5)], [.int r8], qMM m n lm)) rfl ?_
        by_cases hc10 : r8 = 0
        · rw [if_pos hc10] at h
          refine q_ev_brT hc10 (a := 95) (b := 81) rfl ?_
          refine q_ev_run 2 (S' := (43, [some (.ref 54), some (.ref 11), some (.ref 41), some (.ref 23), some (.int x4), some (.int (x5 + 1))], [], qMM m n lm)) rfl ?_
          exact ih m x4 (x5 + 1) _ h hk
        · rw [if_neg hc10] at h
          refine q_ev_brF hc10 (a := 95) (b := 81) rfl ?_
          refine q_ev_run 4 (S' := (88, [some (.ref 54), some (.ref 11), some (.ref 41), some (.ref 23), some (.int x4), some (.int x5)], [.int x4, .ref 55, .int x4, .ref 55], qMM m n lm)) rfl ?_
          obtain ⟨hb11, h⟩ := q_cd h
          refine q_ev_chk (b := q_in x4 5) hb11 (S' := (89, [some (.ref 54), some (.ref 11), some (.ref 41), some (.ref 23), some (.int x4), some (.int x5)], [.int (m 53 x4.toNatClampNeg), .int x4, .ref 55], qMM m n lm)) rfl ?_
          refine q_ev_run 4 (S' := (94, [some (.ref 54), some (.ref 11), some (.ref 41), some (.ref 23), some (.int x4), some (.int x5)], [.int (m 53 x4.toNatClampNeg ||| ((1 : Int32) <<< (x5 &&& 31))), .int x4, .ref 55], qMM m n lm)) rfl ?_
          obtain ⟨hb12, h⟩ := q_cd h
          refine q_ev_chk (b := q_in x4 5) hb12 (S' := (95, [some (.ref 54), some (.ref 11), some (.ref 41), some (.ref 23), some (.int x4), some (.int x5)], [], qMM (q_w m 53 x4.toNatClampNeg (m 53 x4.toNatClampNeg ||| ((1 : Int32) <<< (x5 &&& 31)))) n lm)) rfl ?_
          refine q_ev_run 2 (S' := (43, [some (.ref 54), some (.ref 11), some (.ref 41), some (.ref 23), some (.int x4), some (.int (x5 + 1))], [], qMM (q_w m 53 x4.toNatClampNeg (m 53 x4.toNatClampNeg ||| ((1 : Int32) <<< (x5 &&& 31)))) n lm)) rfl ?_
          exact ih (q_w m 53 x4.toNatClampNeg (m 53 x4.toNatClampNeg ||| ((1 : Int32) <<< (x5 &&& 31)))) x4 (x5 + 1) _ h hk
noncomputable def FL_Gu_prepare_52_9_39_21_23 : Nat → (Nat → Nat → Int32) → Int32 → Option ((Nat → Nat → Int32))
  | 0, _, _ => none
  | fu + 1, m, x4 =>
    if m 52 0 ≤ x4 then
      some (m)
    else
      cond (q_in x4 5) (
        Option.bind (FL_Gu_prepare_52_9_39_21_43 qFU (q_w m 53 x4.toNatClampNeg 0) x4 0) (fun m4 =>
          FL_Gu_prepare_52_9_39_21_23 fu m4 (x4 + 1))
       ) none
theorem TL_Gu_prepare_52_9_39_21_23 {Ln : Nat} {xs : Nat → Int32} {n : (Nat → Nat → Int32)} {lm : Nat → Int64} {d : Nat} (hd : 1 ≤ d) {r : Option Value × qM} : ∀ (fu : Nat) (m : (Nat → Nat → Int32)) (x4 : Int32) (w5 : Option Value) (m1 : (Nat → Nat → Int32)), FL_Gu_prepare_52_9_39_21_23 fu m x4 = some m1 → (∀ (u4 u5 : Option Value), q_Ev (qXT Ln xs) d 1 (107, [some (.ref 54), some (.ref 11), some (.ref 41), some (.ref 23), u4, u5], [], qMM m1 n lm) r) → q_Ev (qXT Ln xs) d 1 (23, [some (.ref 54), some (.ref 11), some (.ref 41), some (.ref 23), some (.int x4), w5], [], qMM m n lm) r := by
  intro fu
  induction fu with
  | zero => intro m x4 w5 m1 h hk; cases h
  | succ fu ih =>
    intro m x4 w5 m1 h hk
    rw [FL_Gu_prepare_52_9_39_21_23] at h
    refine q_ev_run 3 (S' := (29, [some (.ref 54), some (.ref 11), some (.ref 41), some (.ref 23), some (.int x4), w5], [.int (m 52 0), .int x4], qMM m n lm)) rfl ?_
    by_cases hc1 : m 52 0 ≤ x4
    · rw [if_pos hc1] at h
      refine q_ev_brT hc1 (a := 107) (b := 32) rfl ?_
      have h_z0 := Option.some.inj h
      subst h_z0
      exact hk (some (.int x4)) (w5)
    · rw [if_neg hc1] at h
      refine q_ev_brF hc1 (a := 107) (b := 32) rfl ?_
      refine q_ev_run 4 (S' := (39, [some (.ref 54), some (.ref 11), some (.ref 41), some (.ref 23), some (.int x4), w5], [.int 0, .int x4, .ref 55], qMM m n lm)) rfl ?_
      obtain ⟨hb2, h⟩ := q_cd h
      refine q_ev_chk (b := q_in x4 5) hb2 (S' := (40, [some (.ref 54), some (.ref 11), some (.ref 41), some (.ref 23), some (.int x4), w5], [], qMM (q_w m 53 x4.toNatClampNeg 0) n lm)) rfl ?_
      refine q_ev_run 2 (S' := (43, [some (.ref 54), some (.ref 11), some (.ref 41), some (.ref 23), some (.int x4), some (.int 0)], [], qMM (q_w m 53 x4.toNatClampNeg 0) n lm)) rfl ?_
      obtain ⟨m4, hl5, h⟩ := Option.bind_eq_some_iff.mp h
      try dsimp only at h
      refine TL_Gu_prepare_52_9_39_21_43 (by first | omega | decide) _ (q_w m 53 x4.toNatClampNeg 0) x4 0 _ hl5 (fun w3 => ?_)
      refine q_ev_run 2 (S' := (23, [some (.ref 54), some (.ref 11), some (.ref 41), some (.ref 23), some (.int (x4 + 1)), w3], [], qMM m4 n lm)) rfl ?_
      exact ih m4 (x4 + 1) (w3) _ h hk
