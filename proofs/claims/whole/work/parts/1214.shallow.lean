noncomputable def F_Mo_sure (m : (Nat → Nat → Int32)) (a1 : Int32) : Option (Int32 × (Nat → Nat → Int32)) :=
  Option.bind (F_Mo_isPoint m a1) (fun r1 =>
    if r1 = 0 then
      some ((Int32.ofInt (-1)), m)
    else
      Option.bind (F_Mo_ways m) (fun (r4, m5) =>
        if r4 = 0 then
          some ((Int32.ofInt (-9)), m5)
        else
          Option.bind (FL_Mo_sure_25 qFU m5 a1 (Int32.ofInt (-5)) 0) (fun y8 =>
            some (y8, m5))))
theorem T_Mo_sure {Ln : Nat} {xs : Nat → Int32} {n : (Nat → Nat → Int32)} {lm : Nat → Int64} {d : Nat} (hd : 4 ≤ d) {m : (Nat → Nat → Int32)} {a1 : Int32} {rv : Int32} {m1 : (Nat → Nat → Int32)} (h : F_Mo_sure m a1 = some (rv, m1)) : q_Ev (qXT Ln xs) d 160 (0, [some (.ref 56), some (.int a1), none, none], [], qMM n m lm) (some (.int rv), qMM n m1 lm) := by
  unfold F_Mo_sure at h
  refine q_ev_run 2 (S' := (2, [some (.ref 56), some (.int a1), none, none], [.int a1, .ref 56], qMM n m lm)) rfl ?_
  obtain ⟨r1, hf2, h⟩ := Option.bind_eq_some_iff.mp h
  try dsimp only at h
  refine q_ev_call (S' := (5, [some (.ref 56), some (.int a1), none, none], [], qMM n m lm)) rfl (by omega) (T_Mo_isPoint (by first | omega | decide) hf2) ?_
  refine q_ev_eq (S' := (5, [some (.ref 56), some (.int a1), none, none], [.int r1], qMM n m lm)) rfl ?_
  by_cases hc3 : r1 = 0
  · rw [if_pos hc3] at h
    refine q_ev_brT hc3 (a := 8) (b := 10) rfl ?_
    refine q_ev_run 1 (S' := (9, [some (.ref 56), some (.int a1), none, none], [.int (Int32.ofInt (-1))], qMM n m lm)) rfl ?_
    have h_z := Option.some.inj h
    obtain ⟨h_0, h_z⟩ := Prod.mk.inj h_z
    subst h_0
    subst h_z
    exact q_ev_ret rfl rfl
  · rw [if_neg hc3] at h
    refine q_ev_brF hc3 (a := 8) (b := 10) rfl ?_
    refine q_ev_run 1 (S' := (11, [some (.ref 56), some (.int a1), none, none], [.ref 56], qMM n m lm)) rfl ?_
    obtain ⟨⟨r4, m5⟩, hf6, h⟩ := Option.bind_eq_some_iff.mp h
    try dsimp only at h
    refine q_ev_call (S' := (14, [some (.ref 56), some (.int a1), none, none], [], qMM n m lm)) rfl (by omega) (T_Mo_ways (by first | omega | decide) hf6) ?_
    refine q_ev_eq (S' := (14, [some (.ref 56), some (.int a1), none, none], [.int r4], qMM n m5 lm)) rfl ?_
    by_cases hc7 : r4 = 0
    · rw [if_pos hc7] at h
      refine q_ev_brT hc7 (a := 17) (b := 20) rfl ?_
      refine q_ev_run 1 (S' := (19, [some (.ref 56), some (.int a1), none, none], [.int (Int32.ofInt (-9))], qMM n m5 lm)) rfl ?_
      have h_z := Option.some.inj h
      obtain ⟨h_0, h_z⟩ := Prod.mk.inj h_z
      subst h_0
      subst h_z
      exact q_ev_ret rfl rfl
    · rw [if_neg hc7] at h
      refine q_ev_brF hc7 (a := 17) (b := 20) rfl ?_
      refine q_ev_run 4 (S' := (25, [some (.ref 56), some (.int a1), some (.int (Int32.ofInt (-5))), some (.int 0)], [], qMM n m5 lm)) rfl ?_
      obtain ⟨y8, hl10, h⟩ := Option.bind_eq_some_iff.mp h
      try dsimp only at h
      refine TL_Mo_sure_25 (by first | omega | decide) _ m5 a1 (Int32.ofInt (-5)) 0 _ hl10 (fun w9 => ?_)
      refine q_ev_run 1 (S' := (55, [some (.ref 56), some (.int a1), some (.int y8), w9], [.int y8], qMM n m5 lm)) rfl ?_
      have h_z := Option.some.inj h
      obtain ⟨h_0, h_z⟩ := Prod.mk.inj h_z
      subst h_0
      subst h_z
      exact q_ev_ret rfl rfl
noncomputable def FL_La_areToldApart_9_5 : Nat → (Nat → Nat → Int32) → Int32 → Int32 → Int32 → Int32 → Option ((Int32) ⊕ (Unit))
  | 0, _, _, _, _, _ => none
  | fu + 1, m, x1, x2, x3, x4 =>
    if m 9 1 ≤ x4 then
      some (.inr ())
    else
      cond (q_in x4 5) (
        if ((x1 >>> (x4 &&& 31)) &&& 1) = 0 then
          FL_La_areToldApart_9_5 fu m x1 x2 x3 (x4 + 1)
        else
          if (x3 &&& ((1 : Int32) <<< ((m 13 x4.toNatClampNeg &&& x2) &&& 31))) = 0 then
            FL_La_areToldApart_9_5 fu m x1 x2 (x3 ||| ((1 : Int32) <<< ((m 13 x4.toNatClampNeg &&& x2) &&& 31))) (x4 + 1)
          else
            some (.inl (0))
       ) none
theorem TL_La_areToldApart_9_5 {Ln : Nat} {xs : Nat → Int32} {n : (Nat → Nat → Int32)} {lm : Nat → Int64} {d : Nat} (hd : 0 ≤ d) {r : Option Value × qM} : ∀ (fu : Nat) (m : (Nat → Nat → Int32)) (x1 : Int32) (x2 : Int32) (x3 : Int32) (x4 : Int32) (w5 : Option Value) (w6 : Option Value) (o : (Int32) ⊕ (Unit)), FL_La_areToldApart_9_5 fu m x1 x2 x3 x4 = some o → (∀ (rv : Int32), o = .inl rv → r = (some (.int rv), qMM m n lm)) → (∀ (_ : Unit), o = .inr () → ∀ (u3 u4 u5 u6 : Option Value), q_Ev (qXT Ln xs) d 24 (73, [some (.ref 9), some (.int x1), some (.int x2), u3, u4, u5, u6], [], qMM m n lm) r) → q_Ev (qXT Ln xs) d 24 (5, [some (.ref 9), some (.int x1), some (.int x2), some (.int x3), some (.int x4), w5, w6], [], qMM m n lm) r := by
  intro fu
  induction fu with
  | zero => intro m x1 x2 x3 x4 w5 w6 o h hr hk; cases h
  | succ fu ih =>
    intro m x1 x2 x3 x4 w5 w6 o h hr hk
    rw [FL_La_areToldApart_9_5] at h
    refine q_ev_run 3 (S' := (11, [some (.ref 9), some (.int x1), some (.int x2), some (.int x3), some (.int x4), w5, w6], [.int (m 9 1), .int x4], qMM m n lm)) rfl ?_
    by_cases hc1 : m 9 1 ≤ x4
    · rw [if_pos hc1] at h
      refine q_ev_brT hc1 (a := 73) (b := 14) rfl ?_
      obtain rfl := (Option.some.inj h).symm
      exact hk  rfl (some (.int x3)) (some (.int x4)) (w5) (w6)
    · rw [if_neg hc1] at h
      refine q_ev_brF hc1 (a := 73) (b := 14) rfl ?_
      refine q_ev_run 4 (S' := (21, [some (.ref 9), some (.int x1), some (.int x2), some (.int x3), some (.int x4), w5, w6], [.int x4, .ref 13, .int 1], qMM m n lm)) rfl ?_
      obtain ⟨hb2, h⟩ := q_cd h
      refine q_ev_chk (b := q_in x4 5) hb2 (S' := (22, [some (.ref 9), some (.int x1), some (.int x2), some (.int x3), some (.int x4), w5, w6], [.int (m 13 x4.toNatClampNeg), .int 1], qMM m n lm)) rfl ?_
      refine q_ev_run 9 (S' := (33, [some (.ref 9), some (.int x1), some (.int x2), some (.int x3), some (.int x4), some (.int ((1 : Int32) <<< ((m 13 x4.toNatClampNeg &&& x2) &&& 31))), w6], [.int ((x1 >>> (x4 &&& 31)) &&& 1)], qMM m n lm)) rfl ?_
      by_cases hc3 : ((x1 >>> (x4 &&& 31)) &&& 1) = 0
      · rw [if_pos hc3] at h
        refine q_ev_brT hc3 (a := 40) (b := 36) rfl ?_
        refine q_ev_run 8 (S' := (5, [some (.ref 9), some (.int x1), some (.int x2), some (.int x3), some (.int (x4 + 1)), some (.int ((1 : Int32) <<< ((m 13 x4.toNatClampNeg &&& x2) &&& 31))), some (.int 0)], [], qMM m n lm)) rfl ?_
        exact ih m x1 x2 x3 (x4 + 1) (some (.int ((1 : Int32) <<< ((m 13 x4.toNatClampNeg &&& x2) &&& 31)))) (some (.int 0)) _ h hr hk
      · rw [if_neg hc3] at h
        refine q_ev_brF hc3 (a := 40) (b := 36) rfl ?_
        refine q_ev_run 8 (S' := (52, [some (.ref 9), some (.int x1), some (.int x2), some (.int x3), some (.int x4), some (.int ((1 : Int32) <<< ((m 13 x4.toNatClampNeg &&& x2) &&& 31))), some (.int 1)], [.int (x3 &&& ((1 : Int32) <<< ((m 13 x4.toNatClampNeg &&& x2) &&& 31)))], qMM m n lm)) rfl ?_
        by_cases hc4 : (x3 &&& ((1 : Int32) <<< ((m 13 x4.toNatClampNeg &&& x2) &&& 31))) = 0
        · rw [if_pos hc4] at h
          refine q_ev_brT hc4 (a := 57) (b := 55) rfl ?_
          refine q_ev_run 8 (S' := (5, [some (.ref 9), some (.int x1), some (.int x2), some (.int (x3 ||| ((1 : Int32) <<< ((m 13 x4.toNatClampNeg &&& x2) &&& 31)))), some (.int (x4 + 1)), some (.int ((1 : Int32) <<< ((m 13 x4.toNatClampNeg &&& x2) &&& 31))), some (.int 1)], [], qMM m n lm)) rfl ?_
          exact ih m x1 x2 (x3 ||| ((1 : Int32) <<< ((m 13 x4.toNatClampNeg &&& x2) &&& 31))) (x4 + 1) (some (.int ((1 : Int32) <<< ((m 13 x4.toNatClampNeg &&& x2) &&& 31)))) (some (.int 1)) _ h hr hk
        · rw [if_neg hc4] at h
          refine q_ev_brF hc4 (a := 57) (b := 55) rfl ?_
          refine q_ev_run 1 (S' := (56, [some (.ref 9), some (.int x1), some (.int x2), some (.int x3), some (.int x4), some (.int ((1 : Int32) <<< ((m 13 x4.toNatClampNeg &&& x2) &&& 31))), some (.int 1)], [.int 0], qMM m n lm)) rfl ?_
          obtain rfl := (Option.some.inj h).symm
          rw [hr _ rfl]
          exact q_ev_ret rfl rfl
noncomputable def F_La_areToldApart_9 (m : (Nat → Nat → Int32)) (a1 : Int32) (a2 : Int32) : Option (Int32) :=
  Option.bind (FL_La_areToldApart_9_5 qFU m a1 a2 0 0) (fun o6 => match o6 with
    | .inl v0 => some v0
    | .inr _ =>
      some (1))
theorem T_La_areToldApart_9 {Ln : Nat} {xs : Nat → Int32} {n : (Nat → Nat → Int32)} {lm : Nat → Int64} {d : Nat} (hd : 0 ≤ d) {m : (Nat → Nat → Int32)} {a1 : Int32} {a2 : Int32} {rv : Int32} (h : F_La_areToldApart_9 m a1 a2 = some rv) : q_Ev (qXT Ln xs) d 24 (0, [some (.ref 9), some (.int a1), some (.int a2), none, none, none, none], [], qMM m n lm) (some (.int rv), qMM m n lm) := by
  unfold F_La_areToldApart_9 at h
  refine q_ev_run 4 (S' := (5, [some (.ref 9), some (.int a1), some (.int a2), some (.int 0), some (.int 0), none, none], [], qMM m n lm)) rfl ?_
  obtain ⟨o6, hl5, h⟩ := Option.bind_eq_some_iff.mp h
  rcases o6 with v0 | _
  · have h_z := Option.some.inj h
    subst h_z
    exact TL_La_areToldApart_9_5 (by first | omega | decide) _ m a1 a2 0 0 (none) (none) _ hl5 (fun _ hh => by cases hh; rfl) (fun _ hh => by cases hh)
  · refine TL_La_areToldApart_9_5 (by first | omega | decide) _ m a1 a2 0 0 (none) (none) _ hl5 (fun _ hh => by cases hh) (fun _ hh w1 w2 w3 w4 => ?_)
    cases hh
    try dsimp only at h
    refine q_ev_run 1 (S' := (74, [some (.ref 9), some (.int a1), some (.int a2), w1, w2, w3, w4], [.int 1], qMM m n lm)) rfl ?_
    have h_z := Option.some.inj h
    subst h_z
    exact q_ev_ret rfl rfl
noncomputable def FL_AT_ask_24 : Nat → (Nat → Nat → Int32) → Int32 → Int32 → Int32 → Option (Int32)
  | 0, _, _, _, _ => none
  | fu + 1, m, x1, x2, x3 =>
    if 15 < x3 then
      some (x2)
    else
      if x2 = (Int32.ofInt (-9)) then
        Option.bind (F_La_areToldApart_9 m x1 x3) (fun r3 =>
          if r3 = 0 then
            FL_AT_ask_24 fu m x1 x2 (x3 + 1)
          else
            FL_AT_ask_24 fu m x1 x3 (x3 + 1))
      else
        Option.bind (F_In_bitCount x3) (fun r6 =>
          Option.bind (F_In_bitCount x2) (fun r8 =>
            if r8 ≤ r6 then
              FL_AT_ask_24 fu m x1 x2 (x3 + 1)
            else
              Option.bind (F_La_areToldApart_9 m x1 x3) (fun r11 =>
                if r11 = 0 then
                  FL_AT_ask_24 fu m x1 x2 (x3 + 1)
                else
                  FL_AT_ask_24 fu m x1 x3 (x3 + 1))))
theorem TL_AT_ask_24 {Ln : Nat} {xs : Nat → Int32} {n : (Nat → Nat → Int32)} {lm : Nat → Int64} {d : Nat} (hd : 1 ≤ d) {r : Option Value × qM} : ∀ (fu : Nat) (m : (Nat → Nat → Int32)) (x1 : Int32) (x2 : Int32) (x3 : Int32) (w4 : Option Value) (y2 : Int32), FL_AT_ask_24 fu m x1 x2 x3 = some y2 → (∀ (u3 u4 : Option Value), q_Ev (qXT Ln xs) d 87 (79, [some (.ref 0), some (.int x1), some (.int y2), u3, u4], [], qMM m n lm) r) → q_Ev (qXT Ln xs) d 87 (24, [some (.ref 0), some (.int x1), some (.int x2), some (.int x3), w4], [], qMM m n lm) r := by
  intro fu
  induction fu with
  | zero => intro m x1 x2 x3 w4 y2 h hk; cases h
  | succ fu ih =>
    intro m x1 x2 x3 w4 y2 h hk
    rw [FL_AT_ask_24] at h
    refine q_ev_run 2 (S' := (27, [some (.ref 0), some (.int x1), some (.int x2), some (.int x3), w4], [.int 15, .int x3], qMM m n lm)) rfl ?_
    by_cases hc1 : 15 < x3
    · rw [if_pos hc1] at h
      refine q_ev_brT hc1 (a := 79) (b := 30) rfl ?_
      have h_z := Option.some.inj h
      subst h_z
      exact hk (some (.int x3)) (w4)
    · rw [if_neg hc1] at h
      refine q_ev_brF hc1 (a := 79) (b := 30) rfl ?_
      refine q_ev_run 2 (S' := (33, [some (.ref 0), some (.int x1), some (.int x2), some (.int x3), w4], [.int (Int32.ofInt (-9)), .int x2], qMM m n lm)) rfl ?_
      by_cases hc2 : x2 = (Int32.ofInt (-9))
      · rw [if_pos hc2] at h
        refine q_ev_brT hc2 (a := 47) (b := 36) rfl ?_
        refine q_ev_run 9 (S' := (65, [some (.ref 0), some (.int x1), some (.int x2), some (.int x3), some (.int 1)], [.int x3, .int x1, .ref 9], qMM m n lm)) rfl ?_
        obtain ⟨r3, hf4, h⟩ := Option.bind_eq_some_iff.mp h
        try dsimp only at h
        refine q_ev_call (S' := (68, [some (.ref 0), some (.int x1), some (.int x2), some (.int x3), some (.int 1)], [], qMM m n lm)) rfl (by omega) (T_La_areToldApart_9 (by first | omega | decide) hf4) ?_
        refine q_ev_eq (S' := (68, [some (.ref 0), some (.int x1), some (.int x2), some (.int x3), some (.int 1)], [.int r3], qMM m n lm)) rfl ?_
        by_cases hc5 : r3 = 0
        · rw [if_pos hc5] at h
          refine q_ev_brT hc5 (a := 73) (b := 71) rfl ?_
          refine q_ev_run 2 (S' := (24, [some (.ref 0), some (.int x1), some (.int x2), some (.int (x3 + 1)), some (.int 1)], [], qMM m n lm)) rfl ?_
          exact ih m x1 x2 (x3 + 1) (some (.int 1)) _ h hk
        · rw [if_neg hc5] at h
          refine q_ev_brF hc5 (a := 73) (b := 71) rfl ?_
          refine q_ev_run 4 (S' := (24, [some (.ref 0), some (.int x1), some (.int x3), some (.int (x3 + 1)), some (.int 1)], [], qMM m n lm)) rfl ?_
          exact ih m x1 x3 (x3 + 1) (some (.int 1)) _ h hk
      · rw [if_neg hc2] at h
        refine q_ev_brF hc2 (a := 47) (b := 36) rfl ?_
        refine q_ev_run 1 (S' := (37, [some (.ref 0), some (.int x1), some (.int x2), some (.int x3), w4], [.int x3], qMM m n lm)) rfl ?_
        obtain ⟨r6, hf7, h⟩ := Option.bind_eq_some_iff.mp h
        try dsimp only at h
        refine q_ev_call (S' := (40, [some (.ref 0), some (.int x1), some (.int x2), some (.int x3), w4], [], qMM m n lm)) rfl (by omega) (T_In_bitCount (by first | omega | decide) hf7) ?_
        refine q_ev_eq (S' := (40, [some (.ref 0), some (.int x1), some (.int x2), some (.int x3), w4], [.int r6], qMM m n lm)) rfl ?_
        refine q_ev_run 1 (S' := (41, [some (.ref 0), some (.int x1), some (.int x2), some (.int x3), w4], [.int x2, .int r6], qMM m n lm)) rfl ?_
        obtain ⟨r8, hf9, h⟩ := Option.bind_eq_some_iff.mp h
        try dsimp only at h
        refine q_ev_call (S' := (44, [some (.ref 0), some (.int x1), some (.int x2), some (.int x3), w4], [.int r6], qMM m n lm)) rfl (by omega) (T_In_bitCount (by first | omega | decide) hf9) ?_
        refine q_ev_eq (S' := (44, [some (.ref 0), some (.int x1), some (.int x2), some (.int x3), w4], [.int r8, .int r6], qMM m n lm)) rfl ?_
        by_cases hc10 : r8 ≤ r6
        · rw [if_pos hc10] at h
          refine q_ev_brT hc10 (a := 51) (b := 47) rfl ?_
          refine q_ev_run 6 (S' := (24, [some (.ref 0), some (.int x1), some (.int x2), some (.int (x3 + 1)), some (.int 0)], [], qMM m n lm)) rfl ?_
          exact ih m x1 x2 (x3 + 1) (some (.int 0)) _ h hk
        · rw [if_neg hc10] at h
          refine q_ev_brF hc10 (a := 51) (b := 47) rfl ?_
          refine q_ev_run 9 (S' := (65, [some (.ref 0), some (.int x1), some (.int x2), some (.int x3), some (.int 1)], [.int x3, .int x1, .ref 9], qMM m n lm)) rfl ?_
          obtain ⟨r11, hf12, h⟩ := Option.bind_eq_some_iff.mp h
          try dsimp only at h
          refine q_ev_call (S' := (68, [some (.ref 0), some (.int x1), some (.int x2), some (.int x3), some (.int 1)], [], qMM m n lm)) rfl (by omega) (T_La_areToldApart_9 (by first | omega | decide) hf12) ?_
          refine q_ev_eq (S' := (68, [some (.ref 0), some (.int x1), some (.int x2), some (.int x3), some (.int 1)], [.int r11], qMM m n lm)) rfl ?_
          by_cases hc13 : r11 = 0
          · rw [if_pos hc13] at h
            refine q_ev_brT hc13 (a := 73) (b := 71) rfl ?_
            refine q_ev_run 2 (S' := (24, [some (.ref 0), some (.int x1), some (.int x2), some (.int (x3 + 1)), some (.int 1)], [], qMM m n lm)) rfl ?_
            exact ih m x1 x2 (x3 + 1) (some (.int 1)) _ h hk
          · rw [if_neg hc13] at h
            refine q_ev_brF hc13 (a := 73) (b := 71) rfl ?_
            refine q_ev_run 4 (S' := (24, [some (.ref 0), some (.int x1), some (.int x3), some (.int (x3 + 1)), some (.int 1)], [], qMM m n lm)) rfl ?_
            exact ih m x1 x3 (x3 + 1) (some (.int 1)) _ h hk
noncomputable def F_AT_ask (m : (Nat → Nat → Int32)) (a1 : Int32) : Option (Int32) :=
  if a1 < 0 then
    some ((Int32.ofInt (-1)))
  else
    if a1 < ((1 : Int32) <<< (m 9 1 &&& 31)) then
      Option.bind (FL_AT_ask_24 qFU m a1 (Int32.ofInt (-9)) 0) (fun y3 =>
        some (y3))
    else
      some ((Int32.ofInt (-1)))
theorem T_AT_ask {Ln : Nat} {xs : Nat → Int32} {n : (Nat → Nat → Int32)} {lm : Nat → Int64} {d : Nat} (hd : 1 ≤ d) {m : (Nat → Nat → Int32)} {a1 : Int32} {rv : Int32} (h : F_AT_ask m a1 = some rv) : q_Ev (qXT Ln xs) d 87 (0, [some (.ref 0), some (.int a1), none, none, none], [], qMM m n lm) (some (.int rv), qMM m n lm) := by
  unfold F_AT_ask at h
  refine q_ev_run 1 (S' := (1, [some (.ref 0), some (.int a1), none, none, none], [.int a1], qMM m n lm)) rfl ?_
  by_cases hc1 : a1 < 0
  · rw [if_pos hc1] at h
    refine q_ev_brT hc1 (a := 17) (b := 4) rfl ?_
    refine q_ev_run 1 (S' := (18, [some (.ref 0), some (.int a1), none, none, none], [.int (Int32.ofInt (-1))], qMM m n lm)) rfl ?_
    have h_z := Option.some.inj h
    subst h_z
    exact q_ev_ret rfl rfl
  · rw [if_neg hc1] at h
    refine q_ev_brF hc1 (a := 17) (b := 4) rfl ?_
    refine q_ev_run 6 (S' := (14, [some (.ref 0), some (.int a1), none, none, none], [.int ((1 : Int32) <<< (m 9 1 &&& 31)), .int a1], qMM m n lm)) rfl ?_
    by_cases hc2 : a1 < ((1 : Int32) <<< (m 9 1 &&& 31))
    · rw [if_pos hc2] at h
      refine q_ev_brT hc2 (a := 19) (b := 17) rfl ?_
      refine q_ev_run 4 (S' := (24, [some (.ref 0), some (.int a1), some (.int (Int32.ofInt (-9))), some (.int 0), none], [], qMM m n lm)) rfl ?_
      obtain ⟨y3, hl6, h⟩ := Option.bind_eq_some_iff.mp h
      try dsimp only at h
      refine TL_AT_ask_24 (by first | omega | decide) _ m a1 (Int32.ofInt (-9)) 0 (none) _ hl6 (fun w4 w5 => ?_)
      refine q_ev_run 1 (S' := (80, [some (.ref 0), some (.int a1), some (.int y3), w4, w5], [.int y3], qMM m n lm)) rfl ?_
      have h_z := Option.some.inj h
      subst h_z
      exact q_ev_ret rfl rfl
    · rw [if_neg hc2] at h
      refine q_ev_brF hc2 (a := 19) (b := 17) rfl ?_
      refine q_ev_run 1 (S' := (18, [some (.ref 0), some (.int a1), none, none, none], [.int (Int32.ofInt (-1))], qMM m n lm)) rfl ?_
      have h_z := Option.some.inj h
      subst h_z
      exact q_ev_ret rfl rfl
noncomputable def FL_Mo_ask_36 : Nat → (Nat → Nat → Int32) → Int32 → Int32 → Int32 → Int32 → Int32 → Option (Int32)
  | 0, _, _, _, _, _, _ => none
  | fu + 1, m, x1, x2, x3, x4, x5 =>
    if 25 ≤ x5 then
      some (x4)
    else
      if (x5 - x5 / 5 * 5) ≤ (x5 / 5) then
        if x4 = 0 then
          FL_Mo_ask_36 fu m x1 x2 x3 0 (x5 + 1)
        else
          FL_Mo_ask_36 fu m x1 x2 x3 1 (x5 + 1)
      else
        if ((x1 >>> ((x5 / 5) &&& 31)) &&& 1) = 1 then
          if ((x1 >>> ((x5 - x5 / 5 * 5) &&& 31)) &&& 1) = 1 then
            if x4 = 0 then
              FL_Mo_ask_36 fu m x1 x2 x3 0 (x5 + 1)
            else
              cond (q_in (8 + (x5 / 5)) 93) (
                cond (q_in (8 + (x5 - x5 / 5 * 5)) 93) (
                  if ((m 58 ((8 + (x5 / 5))).toNatClampNeg ^^^ m 58 ((8 + (x5 - x5 / 5 * 5))).toNatClampNeg) &&& x3) = 0 then
                    FL_Mo_ask_36 fu m x1 x2 x3 0 (x5 + 1)
                  else
                    FL_Mo_ask_36 fu m x1 x2 x3 1 (x5 + 1)
                 ) none
               ) none
          else
            if x4 = 0 then
              FL_Mo_ask_36 fu m x1 x2 x3 0 (x5 + 1)
            else
              FL_Mo_ask_36 fu m x1 x2 x3 1 (x5 + 1)
        else
          if x4 = 0 then
            FL_Mo_ask_36 fu m x1 x2 x3 0 (x5 + 1)
          else
            FL_Mo_ask_36 fu m x1 x2 x3 1 (x5 + 1)
theorem TL_Mo_ask_36 {Ln : Nat} {xs : Nat → Int32} {n : (Nat → Nat → Int32)} {lm : Nat → Int64} {d : Nat} (hd : 0 ≤ d) {r : Option Value × qM} : ∀ (fu : Nat) (m : (Nat → Nat → Int32)) (x1 : Int32) (x2 : Int32) (x3 : Int32) (x4 : Int32) (x5 : Int32) (w6 : Option Value) (w7 : Option Value) (w8 : Option Value) (y4 : Int32), FL_Mo_ask_36 fu m x1 x2 x3 x4 x5 = some y4 → (∀ (u5 u6 u7 u8 : Option Value), q_Ev (qXT Ln xs) d 161 (138, [some (.ref 56), some (.int x1), some (.int x2), some (.int x3), some (.int y4), u5, u6, u7, u8], [], qMM n m lm) r) → q_Ev (qXT Ln xs) d 161 (36, [some (.ref 56), some (.int x1), some (.int x2), some (.int x3), some (.int x4), some (.int x5), w6, w7, w8], [], qMM n m lm) r := by
  intro fu
  induction fu with
  | zero => intro m x1 x2 x3 x4 x5 w6 w7 w8 y4 h hk; cases h
  | succ fu ih =>
    intro m x1 x2 x3 x4 x5 w6 w7 w8 y4 h hk
    rw [FL_Mo_ask_36] at h
    refine q_ev_run 2 (S' := (40, [some (.ref 56), some (.int x1), some (.int x2), some (.int x3), some (.int x4), some (.int x5), w6, w7, w8], [.int 25, .int x5], qMM n m lm)) rfl ?_
    by_cases hc1 : 25 ≤ x5
    · rw [if_pos hc1] at h
      refine q_ev_brT hc1 (a := 138) (b := 43) rfl ?_
      have h_z := Option.some.inj h
      subst h_z
      exact hk (some (.int x5)) (w6) (w7) (w8)
    · rw [if_neg hc1] at h
      refine q_ev_brF hc1 (a := 138) (b := 43) rfl ?_
      refine q_ev_run 10 (S' := (59, [some (.ref 56), some (.int x1), some (.int x2), some (.int x3), some (.int x4), some (.int x5), some (.int (x5 / 5)), some (.int (x5 - x5 / 5 * 5)), w8], [.int (x5 - x5 / 5 * 5), .int (x5 / 5)], qMM n m lm)) rfl ?_
      by_cases hc2 : (x5 - x5 / 5 * 5) ≤ (x5 / 5)
      · rw [if_pos hc2] at h
        refine q_ev_brT hc2 (a := 86) (b := 62) rfl ?_
        refine q_ev_run 3 (S' := (91, [some (.ref 56), some (.int x1), some (.int x2), some (.int x3), some (.int x4), some (.int x5), some (.int (x5 / 5)), some (.int (x5 - x5 / 5 * 5)), some (.int 0)], [.int x4], qMM n m lm)) rfl ?_
        by_cases hc3 : x4 = 0
        · rw [if_pos hc3] at h
          refine q_ev_brT hc3 (a := 129) (b := 94) rfl ?_
          refine q_ev_run 4 (S' := (36, [some (.ref 56), some (.int x1), some (.int x2), some (.int x3), some (.int 0), some (.int (x5 + 1)), some (.int (x5 / 5)), some (.int (x5 - x5 / 5 * 5)), some (.int 0)], [], qMM n m lm)) rfl ?_
          exact ih m x1 x2 x3 0 (x5 + 1) (some (.int (x5 / 5))) (some (.int (x5 - x5 / 5 * 5))) (some (.int 0)) _ h hk
        · rw [if_neg hc3] at h
          refine q_ev_brF hc3 (a := 129) (b := 94) rfl ?_
          refine q_ev_run 7 (S' := (36, [some (.ref 56), some (.int x1), some (.int x2), some (.int x3), some (.int 1), some (.int (x5 + 1)), some (.int (x5 / 5)), some (.int (x5 - x5 / 5 * 5)), some (.int 0)], [], qMM n m lm)) rfl ?_
          exact ih m x1 x2 x3 1 (x5 + 1) (some (.int (x5 / 5))) (some (.int (x5 - x5 / 5 * 5))) (some (.int 0)) _ h hk
      · rw [if_neg hc2] at h
        refine q_ev_brF hc2 (a := 86) (b := 62) rfl ?_
        refine q_ev_run 6 (S' := (69, [some (.ref 56), some (.int x1), some (.int x2), some (.int x3), some (.int x4), some (.int x5), some (.int (x5 / 5)), some (.int (x5 - x5 / 5 * 5)), w8], [.int 1, .int ((x1 >>> ((x5 / 5) &&& 31)) &&& 1)], qMM n m lm)) rfl ?_
        by_cases hc4 : ((x1 >>> ((x5 / 5) &&& 31)) &&& 1) = 1
        · rw [if_pos hc4] at h
          refine q_ev_brT hc4 (a := 72) (b := 86) rfl ?_
          refine q_ev_run 6 (S' := (79, [some (.ref 56), some (.int x1), some (.int x2), some (.int x3), some (.int x4), some (.int x5), some (.int (x5 / 5)), some (.int (x5 - x5 / 5 * 5)), w8], [.int 1, .int ((x1 >>> ((x5 - x5 / 5 * 5) &&& 31)) &&& 1)], qMM n m lm)) rfl ?_
          by_cases hc5 : ((x1 >>> ((x5 - x5 / 5 * 5) &&& 31)) &&& 1) = 1
          · rw [if_pos hc5] at h
            refine q_ev_brT hc5 (a := 82) (b := 86) rfl ?_
            refine q_ev_run 4 (S' := (91, [some (.ref 56), some (.int x1), some (.int x2), some (.int x3), some (.int x4), some (.int x5), some (.int (x5 / 5)), some (.int (x5 - x5 / 5 * 5)), some (.int 1)], [.int x4], qMM n m lm)) rfl ?_
            by_cases hc6 : x4 = 0
            · rw [if_pos hc6] at h
              refine q_ev_brT hc6 (a := 129) (b := 94) rfl ?_
              refine q_ev_run 4 (S' := (36, [some (.ref 56), some (.int x1), some (.int x2), some (.int x3), some (.int 0), some (.int (x5 + 1)), some (.int (x5 / 5)), some (.int (x5 - x5 / 5 * 5)), some (.int 1)], [], qMM n m lm)) rfl ?_
              exact ih m x1 x2 x3 0 (x5 + 1) (some (.int (x5 / 5))) (some (.int (x5 - x5 / 5 * 5))) (some (.int 1)) _ h hk
            · rw [if_neg hc6] at h
              refine q_ev_brF hc6 (a := 129) (b := 94) rfl ?_
              refine q_ev_run 7 (S' := (108, [some (.ref 56), some (.int x1), some (.int x2), some (.int x3), some (.int x4), some (.int x5), some (.int (x5 / 5)), some (.int (x5 - x5 / 5 * 5)), some (.int 1)], [.int (8 + (x5 / 5)), .ref 58], qMM n m lm)) rfl ?_
              obtain ⟨hb7, h⟩ := q_cd h
              refine q_ev_chk (b := q_in (8 + (x5 / 5)) 93) hb7 (S' := (109, [some (.ref 56), some (.int x1), some (.int x2), some (.int x3), some (.int x4), some (.int x5), some (.int (x5 / 5)), some (.int (x5 - x5 / 5 * 5)), some (.int 1)], [.int (m 58 ((8 + (x5 / 5))).toNatClampNeg)], qMM n m lm)) rfl ?_
              refine q_ev_run 5 (S' := (118, [some (.ref 56), some (.int x1), some (.int x2), some (.int x3), some (.int x4), some (.int x5), some (.int (x5 / 5)), some (.int (x5 - x5 / 5 * 5)), some (.int 1)], [.int (8 + (x5 - x5 / 5 * 5)), .ref 58, .int (m 58 ((8 + (x5 / 5))).toNatClampNeg)], qMM n m lm)) rfl ?_
              obtain ⟨hb8, h⟩ := q_cd h
              refine q_ev_chk (b := q_in (8 + (x5 - x5 / 5 * 5)) 93) hb8 (S' := (119, [some (.ref 56), some (.int x1), some (.int x2), some (.int x3), some (.int x4), some (.int x5), some (.int (x5 / 5)), some (.int (x5 - x5 / 5 * 5)), some (.int 1)], [.int (m 58 ((8 + (x5 - x5 / 5 * 5))).toNatClampNeg), .int (m 58 ((8 + (x5 / 5))).toNatClampNeg)], qMM n m lm)) rfl ?_
              refine q_ev_run 3 (S' := (122, [some (.ref 56), some (.int x1), some (.int x2), some (.int x3), some (.int x4), some (.int x5), some (.int (x5 / 5)), some (.int (x5 - x5 / 5 * 5)), some (.int 1)], [.int ((m 58 ((8 + (x5 / 5))).toNatClampNeg ^^^ m 58 ((8 + (x5 - x5 / 5 * 5))).toNatClampNeg) &&& x3)], qMM n m lm)) rfl ?_
              by_cases hc9 : ((m 58 ((8 + (x5 / 5))).toNatClampNeg ^^^ m 58 ((8 + (x5 - x5 / 5 * 5))).toNatClampNeg) &&& x3) = 0
              · rw [if_pos hc9] at h
                refine q_ev_brT hc9 (a := 129) (b := 125) rfl ?_
                refine q_ev_run 4 (S' := (36, [some (.ref 56), some (.int x1), some (.int x2), some (.int x3), some (.int 0), some (.int (x5 + 1)), some (.int (x5 / 5)), some (.int (x5 - x5 / 5 * 5)), some (.int 1)], [], qMM n m lm)) rfl ?_
                exact ih m x1 x2 x3 0 (x5 + 1) (some (.int (x5 / 5))) (some (.int (x5 - x5 / 5 * 5))) (some (.int 1)) _ h hk
              · rw [if_neg hc9] at h
                refine q_ev_brF hc9 (a := 129) (b := 125) rfl ?_
                refine q_ev_run 5 (S' := (36, [some (.ref 56), some (.int x1), some (.int x2), some (.int x3), some (.int 1), some (.int (x5 + 1)), some (.int (x5 / 5)), some (.int (x5 - x5 / 5 * 5)), some (.int 1)], [], qMM n m lm)) rfl ?_
                exact ih m x1 x2 x3 1 (x5 + 1) (some (.int (x5 / 5))) (some (.int (x5 - x5 / 5 * 5))) (some (.int 1)) _ h hk
          · rw [if_neg hc5] at h
            refine q_ev_brF hc5 (a := 82) (b := 86) rfl ?_
            refine q_ev_run 3 (S' := (91, [some (.ref 56), some (.int x1), some (.int x2), some (.int x3), some (.int x4), some (.int x5), some (.int (x5 / 5)), some (.int (x5 - x5 / 5 * 5)), some (.int 0)], [.int x4], qMM n m lm)) rfl ?_
            by_cases hc10 : x4 = 0
            · rw [if_pos hc10] at h
              refine q_ev_brT hc10 (a := 129) (b := 94) rfl ?_
              refine q_ev_run 4 (S' := (36, [some (.ref 56), some (.int x1), some (.int x2), some (.int x3), some (.int 0), some (.int (x5 + 1)), some (.int (x5 / 5)), some (.int (x5 - x5 / 5 * 5)), some (.int 0)], [], qMM n m lm)) rfl ?_
              exact ih m x1 x2 x3 0 (x5 + 1) (some (.int (x5 / 5))) (some (.int (x5 - x5 / 5 * 5))) (some (.int 0)) _ h hk
            · rw [if_neg hc10] at h
              refine q_ev_brF hc10 (a := 129) (b := 94) rfl ?_
              refine q_ev_run 7 (S' := (36, [some (.ref 56), some (.int x1), some (.int x2), some (.int x3), some (.int 1), some (.int (x5 + 1)), some (.int (x5 / 5)), some (.int (x5 - x5 / 5 * 5)), some (.int 0)], [], qMM n m lm)) rfl ?_
              exact ih m x1 x2 x3 1 (x5 + 1) (some (.int (x5 / 5))) (some (.int (x5 - x5 / 5 * 5))) (some (.int 0)) _ h hk
        · rw [if_neg hc4] at h
          refine q_ev_brF hc4 (a := 72) (b := 86) rfl ?_
          refine q_ev_run 3 (S' := (91, [some (.ref 56), some (.int x1), some (.int x2), some (.int x3), some (.int x4), some (.int x5), some (.int (x5 / 5)), some (.int (x5 - x5 / 5 * 5)), some (.int 0)], [.int x4], qMM n m lm)) rfl ?_
          by_cases hc11 : x4 = 0
          · rw [if_pos hc11] at h
            refine q_ev_brT hc11 (a := 129) (b := 94) rfl ?_
            refine q_ev_run 4 (S' := (36, [some (.ref 56), some (.int x1), some (.int x2), some (.int x3), some (.int 0), some (.int (x5 + 1)), some (.int (x5 / 5)), some (.int (x5 - x5 / 5 * 5)), some (.int 0)], [], qMM n m lm)) rfl ?_
            exact ih m x1 x2 x3 0 (x5 + 1) (some (.int (x5 / 5))) (some (.int (x5 - x5 / 5 * 5))) (some (.int 0)) _ h hk
          · rw [if_neg hc11] at h
            refine q_ev_brF hc11 (a := 129) (b := 94) rfl ?_
            refine q_ev_run 7 (S' := (36, [some (.ref 56), some (.int x1), some (.int x2), some (.int x3), some (.int 1), some (.int (x5 + 1)), some (.int (x5 / 5)), some (.int (x5 - x5 / 5 * 5)), some (.int 0)], [], qMM n m lm)) rfl ?_
            exact ih m x1 x2 x3 1 (x5 + 1) (some (.int (x5 / 5))) (some (.int (x5 - x5 / 5 * 5))) (some (.int 0)) _ h hk
noncomputable def FL_Mo_ask_26 : Nat → (Nat → Nat → Int32) → Int32 → Int32 → Int32 → Option (Int32)
  | 0, _, _, _, _ => none
  | fu + 1, m, x1, x2, x3 =>
    if x3 < 0 then
      some (x2)
    else
      Option.bind (FL_Mo_ask_36 qFU m x1 x2 x3 1 0) (fun y2 =>
        if y2 = 0 then
          FL_Mo_ask_26 fu m x1 x2 (x3 + (Int32.ofInt (-1)))
        else
          if x2 = (Int32.ofInt (-9)) then
            FL_Mo_ask_26 fu m x1 x3 (x3 + (Int32.ofInt (-1)))
          else
            Option.bind (F_Mo_ones x3) (fun r10 =>
              Option.bind (F_Mo_ones x2) (fun r12 =>
                if r12 < r10 then
                  FL_Mo_ask_26 fu m x1 x2 (x3 + (Int32.ofInt (-1)))
                else
                  FL_Mo_ask_26 fu m x1 x3 (x3 + (Int32.ofInt (-1))))))
theorem TL_Mo_ask_26 {Ln : Nat} {xs : Nat → Int32} {n : (Nat → Nat → Int32)} {lm : Nat → Int64} {d : Nat} (hd : 1 ≤ d) {r : Option Value × qM} : ∀ (fu : Nat) (m : (Nat → Nat → Int32)) (x1 : Int32) (x2 : Int32) (x3 : Int32) (w4 : Option Value) (w5 : Option Value) (w6 : Option Value) (w7 : Option Value) (w8 : Option Value) (y2 : Int32), FL_Mo_ask_26 fu m x1 x2 x3 = some y2 → (∀ (u3 u4 u5 u6 u7 u8 : Option Value), q_Ev (qXT Ln xs) d 161 (172, [some (.ref 56), some (.int x1), some (.int y2), u3, u4, u5, u6, u7, u8], [], qMM n m lm) r) → q_Ev (qXT Ln xs) d 161 (26, [some (.ref 56), some (.int x1), some (.int x2), some (.int x3), w4, w5, w6, w7, w8], [], qMM n m lm) r := by
  intro fu
  induction fu with
  | zero => intro m x1 x2 x3 w4 w5 w6 w7 w8 y2 h hk; cases h
  | succ fu ih =>
    intro m x1 x2 x3 w4 w5 w6 w7 w8 y2 h hk
    rw [FL_Mo_ask_26] at h
    refine q_ev_run 1 (S' := (27, [some (.ref 56), some (.int x1), some (.int x2), some (.int x3), w4, w5, w6, w7, w8], [.int x3], qMM n m lm)) rfl ?_
    by_cases hc1 : x3 < 0
    · rw [if_pos hc1] at h
      refine q_ev_brT hc1 (a := 172) (b := 30) rfl ?_
      have h_z := Option.some.inj h
      subst h_z
      exact hk (some (.int x3)) (w4) (w5) (w6) (w7) (w8)
    · rw [if_neg hc1] at h
      refine q_ev_brF hc1 (a := 172) (b := 30) rfl ?_
      refine q_ev_run 4 (S' := (36, [some (.ref 56), some (.int x1), some (.int x2), some (.int x3), some (.int 1), some (.int 0), w6, w7, w8], [], qMM n m lm)) rfl ?_
      obtain ⟨y2, hl7, h⟩ := Option.bind_eq_some_iff.mp h
      try dsimp only at h
      refine TL_Mo_ask_36 (by first | omega | decide) _ m x1 x2 x3 1 0 (w6) (w7) (w8) _ hl7 (fun w3 w4 w5 w6 => ?_)
      refine q_ev_run 1 (S' := (140, [some (.ref 56), some (.int x1), some (.int x2), some (.int x3), some (.int y2), w3, w4, w5, w6], [.int y2], qMM n m lm)) rfl ?_
      by_cases hc8 : y2 = 0
      · rw [if_pos hc8] at h
        refine q_ev_brT hc8 (a := 164) (b := 143) rfl ?_
        refine q_ev_run 4 (S' := (26, [some (.ref 56), some (.int x1), some (.int x2), some (.int (x3 + (Int32.ofInt (-1)))), some (.int y2), w3, w4, w5, w6], [], qMM n m lm)) rfl ?_
        exact ih m x1 x2 (x3 + (Int32.ofInt (-1))) (some (.int y2)) (w3) (w4) (w5) (w6) _ h hk
      · rw [if_neg hc8] at h
        refine q_ev_brF hc8 (a := 164) (b := 143) rfl ?_
        refine q_ev_run 2 (S' := (146, [some (.ref 56), some (.int x1), some (.int x2), some (.int x3), some (.int y2), w3, w4, w5, w6], [.int (Int32.ofInt (-9)), .int x2], qMM n m lm)) rfl ?_
        by_cases hc9 : x2 = (Int32.ofInt (-9))
        · rw [if_pos hc9] at h
          refine q_ev_brT hc9 (a := 160) (b := 149) rfl ?_
          refine q_ev_run 5 (S' := (26, [some (.ref 56), some (.int x1), some (.int x3), some (.int (x3 + (Int32.ofInt (-1)))), some (.int y2), w3, w4, w5, w6], [], qMM n m lm)) rfl ?_
          exact ih m x1 x3 (x3 + (Int32.ofInt (-1))) (some (.int y2)) (w3) (w4) (w5) (w6) _ h hk
        · rw [if_neg hc9] at h
          refine q_ev_brF hc9 (a := 160) (b := 149) rfl ?_
          refine q_ev_run 1 (S' := (150, [some (.ref 56), some (.int x1), some (.int x2), some (.int x3), some (.int y2), w3, w4, w5, w6], [.int x3], qMM n m lm)) rfl ?_
          obtain ⟨r10, hf11, h⟩ := Option.bind_eq_some_iff.mp h
          try dsimp only at h
          refine q_ev_call (S' := (153, [some (.ref 56), some (.int x1), some (.int x2), some (.int x3), some (.int y2), w3, w4, w5, w6], [], qMM n m lm)) rfl (by omega) (T_Mo_ones (by first | omega | decide) hf11) ?_
          refine q_ev_eq (S' := (153, [some (.ref 56), some (.int x1), some (.int x2), some (.int x3), some (.int y2), w3, w4, w5, w6], [.int r10], qMM n m lm)) rfl ?_
          refine q_ev_run 1 (S' := (154, [some (.ref 56), some (.int x1), some (.int x2), some (.int x3), some (.int y2), w3, w4, w5, w6], [.int x2, .int r10], qMM n m lm)) rfl ?_
          obtain ⟨r12, hf13, h⟩ := Option.bind_eq_some_iff.mp h
          try dsimp only at h
          refine q_ev_call (S' := (157, [some (.ref 56), some (.int x1), some (.int x2), some (.int x3), some (.int y2), w3, w4, w5, w6], [.int r10], qMM n m lm)) rfl (by omega) (T_Mo_ones (by first | omega | decide) hf13) ?_
          refine q_ev_eq (S' := (157, [some (.ref 56), some (.int x1), some (.int x2), some (.int x3), some (.int y2), w3, w4, w5, w6], [.int r12, .int r10], qMM n m lm)) rfl ?_
          by_cases hc14 : r12 < r10
          · rw [if_pos hc14] at h
            refine q_ev_brT hc14 (a := 164) (b := 160) rfl ?_
            refine q_ev_run 4 (S' := (26, [some (.ref 56), some (.int x1), some (.int x2), some (.int (x3 + (Int32.ofInt (-1)))), some (.int y2), w3, w4, w5, w6], [], qMM n m lm)) rfl ?_
            exact ih m x1 x2 (x3 + (Int32.ofInt (-1))) (some (.int y2)) (w3) (w4) (w5) (w6) _ h hk
          · rw [if_neg hc14] at h
            refine q_ev_brF hc14 (a := 164) (b := 160) rfl ?_
            refine q_ev_run 5 (S' := (26, [some (.ref 56), some (.int x1), some (.int x3), some (.int (x3 + (Int32.ofInt (-1)))), some (.int y2), w3, w4, w5, w6], [], qMM n m lm)) rfl ?_
            exact ih m x1 x3 (x3 + (Int32.ofInt (-1))) (some (.int y2)) (w3) (w4) (w5) (w6) _ h hk
noncomputable def F_Mo_ask (m : (Nat → Nat → Int32)) (a1 : Int32) : Option (Int32) :=
  Option.bind (F_Mo_in a1 0 (((1 : Int32) <<< (m 58 1 &&& 31)) - 1)) (fun r1 =>
    if r1 = 0 then
      some ((Int32.ofInt (-1)))
    else
      Option.bind (FL_Mo_ask_26 qFU m a1 (Int32.ofInt (-9)) 15) (fun y4 =>
        some (y4)))
theorem T_Mo_ask {Ln : Nat} {xs : Nat → Int32} {n : (Nat → Nat → Int32)} {lm : Nat → Int64} {d : Nat} (hd : 1 ≤ d) {m : (Nat → Nat → Int32)} {a1 : Int32} {rv : Int32} (h : F_Mo_ask m a1 = some rv) : q_Ev (qXT Ln xs) d 161 (0, [some (.ref 56), some (.int a1), none, none, none, none, none, none, none], [], qMM n m lm) (some (.int rv), qMM n m lm) := by
  unfold F_Mo_ask at h
  refine q_ev_run 10 (S' := (12, [some (.ref 56), some (.int a1), none, none, none, none, none, none, none], [.int (((1 : Int32) <<< (m 58 1 &&& 31)) - 1), .int 0, .int a1], qMM n m lm)) rfl ?_
  obtain ⟨r1, hf2, h⟩ := Option.bind_eq_some_iff.mp h
  try dsimp only at h
  refine q_ev_call (S' := (15, [some (.ref 56), some (.int a1), none, none, none, none, none, none, none], [], qMM n m lm)) rfl (by omega) (T_Mo_in (by first | omega | decide) hf2) ?_
  refine q_ev_eq (S' := (15, [some (.ref 56), some (.int a1), none, none, none, none, none, none, none], [.int r1], qMM n m lm)) rfl ?_
  by_cases hc3 : r1 = 0
  · rw [if_pos hc3] at h
    refine q_ev_brT hc3 (a := 18) (b := 20) rfl ?_
    refine q_ev_run 1 (S' := (19, [some (.ref 56), some (.int a1), none, none, none, none, none, none, none], [.int (Int32.ofInt (-1))], qMM n m lm)) rfl ?_
    have h_z := Option.some.inj h
    subst h_z
    exact q_ev_ret rfl rfl
  · rw [if_neg hc3] at h
    refine q_ev_brF hc3 (a := 18) (b := 20) rfl ?_
    refine q_ev_run 4 (S' := (26, [some (.ref 56), some (.int a1), some (.int (Int32.ofInt (-9))), some (.int 15), none, none, none, none, none], [], qMM n m lm)) rfl ?_
    obtain ⟨y4, hl11, h⟩ := Option.bind_eq_some_iff.mp h
    try dsimp only at h
    refine TL_Mo_ask_26 (by first | omega | decide) _ m a1 (Int32.ofInt (-9)) 15 (none) (none) (none) (none) (none) _ hl11 (fun w5 w6 w7 w8 w9 w10 => ?_)
    refine q_ev_run 1 (S' := (173, [some (.ref 56), some (.int a1), some (.int y4), w5, w6, w7, w8, w9, w10], [.int y4], qMM n m lm)) rfl ?_
    have h_z := Option.some.inj h
    subst h_z
    exact q_ev_ret rfl rfl
noncomputable def FL_AT_greatestShared_2 : Nat → Int32 → Int32 → Int32 → Option ((Int32) ⊕ (Unit))
  | 0, _, _, _ => none
  | fu + 1, x0, x1, x2 =>
    if x2 ≤ 1 then
      some (.inr ())
    else
      if x2 = 0 then none else (
        if (x0 - x0 / x2 * x2) = 0 then
          if x2 = 0 then none else (
            if (x1 - x1 / x2 * x2) = 0 then
              some (.inl (x2))
            else
              FL_AT_greatestShared_2 fu x0 x1 (x2 + (Int32.ofInt (-1)))
           )
        else
          FL_AT_greatestShared_2 fu x0 x1 (x2 + (Int32.ofInt (-1)))
       )
theorem TL_AT_greatestShared_2 {Ln : Nat} {xs : Nat → Int32} {n : (Nat → Nat → Int32)} {m : (Nat → Nat → Int32)} {lm : Nat → Int64} {d : Nat} (hd : 0 ≤ d) {r : Option Value × qM} : ∀ (fu : Nat) (x0 : Int32) (x1 : Int32) (x2 : Int32)  (o : (Int32) ⊕ (Unit)), FL_AT_greatestShared_2 fu x0 x1 x2 = some o → (∀ (rv : Int32), o = .inl rv → r = (some (.int rv), qMM m n lm)) → (∀ (_ : Unit), o = .inr () → ∀ (u2 : Option Value), q_Ev (qXT Ln xs) d 101 (27, [some (.int x0), some (.int x1), u2], [], qMM m n lm) r) → q_Ev (qXT Ln xs) d 101 (2, [some (.int x0), some (.int x1), some (.int x2)], [], qMM m n lm) r := by
  intro fu
  induction fu with
  | zero => intro x0 x1 x2 o h hr hk; cases h
  | succ fu ih =>
    intro x0 x1 x2 o h hr hk
    rw [FL_AT_greatestShared_2] at h
    refine q_ev_run 2 (S' := (4, [some (.int x0), some (.int x1), some (.int x2)], [.int 1, .int x2], qMM m n lm)) rfl ?_
    by_cases hc1 : x2 ≤ 1
    · rw [if_pos hc1] at h
      refine q_ev_brT hc1 (a := 27) (b := 7) rfl ?_
      obtain rfl := (Option.some.inj h).symm
      exact hk  rfl (some (.int x2))
    · rw [if_neg hc1] at h
      refine q_ev_brF hc1 (a := 27) (b := 7) rfl ?_
      refine q_ev_run 2 (S' := (9, [some (.int x0), some (.int x1), some (.int x2)], [.int x2, .int x0], qMM m n lm)) rfl ?_
      by_cases hz2 : x2 = 0
      · rw [if_pos hz2] at h; cases h
      rw [if_neg hz2] at h
      refine q_ev_nz hz2 (S' := (10, [some (.int x0), some (.int x1), some (.int x2)], [.int (x0 - x0 / x2 * x2)], qMM m n lm)) rfl ?_
      by_cases hc3 : (x0 - x0 / x2 * x2) = 0
      · rw [if_pos hc3] at h
        refine q_ev_brT hc3 (a := 13) (b := 21) rfl ?_
        refine q_ev_run 2 (S' := (15, [some (.int x0), some (.int x1), some (.int x2)], [.int x2, .int x1], qMM m n lm)) rfl ?_
        by_cases hz4 : x2 = 0
        · rw [if_pos hz4] at h; cases h
        rw [if_neg hz4] at h
        refine q_ev_nz hz4 (S' := (16, [some (.int x0), some (.int x1), some (.int x2)], [.int (x1 - x1 / x2 * x2)], qMM m n lm)) rfl ?_
        by_cases hc5 : (x1 - x1 / x2 * x2) = 0
        · rw [if_pos hc5] at h
          refine q_ev_brT hc5 (a := 19) (b := 21) rfl ?_
          refine q_ev_run 1 (S' := (20, [some (.int x0), some (.int x1), some (.int x2)], [.int x2], qMM m n lm)) rfl ?_
          obtain rfl := (Option.some.inj h).symm
          rw [hr _ rfl]
          exact q_ev_ret rfl rfl
        · rw [if_neg hc5] at h
          refine q_ev_brF hc5 (a := 19) (b := 21) rfl ?_
          refine q_ev_run 2 (S' := (2, [some (.int x0), some (.int x1), some (.int (x2 + (Int32.ofInt (-1))))], [], qMM m n lm)) rfl ?_
          exact ih x0 x1 (x2 + (Int32.ofInt (-1))) _ h hr hk
      · rw [if_neg hc3] at h
        refine q_ev_brF hc3 (a := 13) (b := 21) rfl ?_
        refine q_ev_run 2 (S' := (2, [some (.int x0), some (.int x1), some (.int (x2 + (Int32.ofInt (-1))))], [], qMM m n lm)) rfl ?_
        exact ih x0 x1 (x2 + (Int32.ofInt (-1))) _ h hr hk
noncomputable def F_AT_greatestShared (a0 : Int32) (a1 : Int32) : Option (Int32) :=
  Option.bind (FL_AT_greatestShared_2 qFU a0 a1 a1) (fun o3 => match o3 with
    | .inl v0 => some v0
    | .inr _ =>
      some (1))
theorem T_AT_greatestShared {Ln : Nat} {xs : Nat → Int32} {n : (Nat → Nat → Int32)} {m : (Nat → Nat → Int32)} {lm : Nat → Int64} {d : Nat} (hd : 0 ≤ d) {a0 : Int32} {a1 : Int32} {rv : Int32} (h : F_AT_greatestShared a0 a1 = some rv) : q_Ev (qXT Ln xs) d 101 (0, [some (.int a0), some (.int a1), none], [], qMM m n lm) (some (.int rv), qMM m n lm) := by
  unfold F_AT_greatestShared at h
  refine q_ev_run 2 (S' := (2, [some (.int a0), some (.int a1), some (.int a1)], [], qMM m n lm)) rfl ?_
  obtain ⟨o3, hl2, h⟩ := Option.bind_eq_some_iff.mp h
  rcases o3 with v0 | _
  · have h_z := Option.some.inj h
    subst h_z
    exact TL_AT_greatestShared_2 (by first | omega | decide) _ a0 a1 a1 _ hl2 (fun _ hh => by cases hh; rfl) (fun _ hh => by cases hh)
  · refine TL_AT_greatestShared_2 (by first | omega | decide) _ a0 a1 a1 _ hl2 (fun _ hh => by cases hh) (fun _ hh w1 => ?_)
    cases hh
    try dsimp only at h
    refine q_ev_run 1 (S' := (28, [some (.int a0), some (.int a1), w1], [.int 1], qMM m n lm)) rfl ?_
    have h_z := Option.some.inj h
    subst h_z
    exact q_ev_ret rfl rfl
noncomputable def FL_AT_bet_69 : Nat → (Nat → Nat → Int32) → Int32 → Int32 → Int32 → Int32 → Int64 → Int32 → Option (Int64 × Int32)
  | 0, _, _, _, _, _, _, _ => none
  | fu + 1, m, x1, x2, x3, x4, x5, x7 =>
    if m 39 0 ≤ x7 then
      some (x5, x7)
    else
      FL_AT_bet_69 fu m x1 x2 x3 x4 (x5 * x4.toInt64) (x7 + 1)
theorem TL_AT_bet_69 {Ln : Nat} {xs : Nat → Int32} {n : (Nat → Nat → Int32)} {lm : Nat → Int64} {d : Nat} (hd : 0 ≤ d) {r : Option Value × qM} : ∀ (fu : Nat) (m : (Nat → Nat → Int32)) (x1 : Int32) (x2 : Int32) (x3 : Int32) (x4 : Int32) (x5 : Int64) (x7 : Int32)  (y5 : Int64) (y7 : Int32), FL_AT_bet_69 fu m x1 x2 x3 x4 x5 x7 = some (y5, y7) → (q_Ev (qXT Ln xs) d 88 (95, [some (.ref 0), some (.int x1), some (.int x2), some (.int x3), some (.int x4), some (.long y5), none, some (.int y7)], [], qMM m n lm) r) → q_Ev (qXT Ln xs) d 88 (69, [some (.ref 0), some (.int x1), some (.int x2), some (.int x3), some (.int x4), some (.long x5), none, some (.int x7)], [], qMM m n lm) r := by
  intro fu
  induction fu with
  | zero => intro m x1 x2 x3 x4 x5 x7 y5 y7 h hk; cases h
  | succ fu ih =>
    intro m x1 x2 x3 x4 x5 x7 y5 y7 h hk
    rw [FL_AT_bet_69] at h
    refine q_ev_run 4 (S' := (78, [some (.ref 0), some (.int x1), some (.int x2), some (.int x3), some (.int x4), some (.long x5), none, some (.int x7)], [.int (m 39 0), .int x7], qMM m n lm)) rfl ?_
    by_cases hc1 : m 39 0 ≤ x7
    · rw [if_pos hc1] at h
      refine q_ev_brT hc1 (a := 95) (b := 81) rfl ?_
      have h_z := Option.some.inj h
      obtain ⟨h_0, h_z⟩ := Prod.mk.inj h_z
      subst h_0
      subst h_z
      exact hk 
    · rw [if_neg hc1] at h
      refine q_ev_brF hc1 (a := 95) (b := 81) rfl ?_
      refine q_ev_run 7 (S' := (69, [some (.ref 0), some (.int x1), some (.int x2), some (.int x3), some (.int x4), some (.long (x5 * x4.toInt64)), none, some (.int (x7 + 1))], [], qMM m n lm)) rfl ?_
      exact ih m x1 x2 x3 x4 (x5 * x4.toInt64) (x7 + 1) _ _ h hk
noncomputable def F_AT_bet (m : (Nat → Nat → Int32)) (a1 : Int32) (a2 : Int32) : Option (Int64) :=
  if a1 < 0 then
    some ((Int64.ofInt (-1)))
  else
    if 10 < a1 then
      some ((Int64.ofInt (-1)))
    else
      if a2 < 0 then
        some ((Int64.ofInt (-1)))
      else
        if a2 ≤ 1 then
          if m 39 0 = 0 then
            some (a2.toInt64)
          else
            Option.bind (F_AT_greatestShared (10 - a1) 10) (fun r6 =>
              if a2 = 0 then
                if r6 = 0 then none else (
                  Option.bind (FL_AT_bet_69 qFU m a1 a2 r6 ((10 - a1) / r6) 1 1) (fun (y10, y11) =>
                    some (y10))
                 )
              else
                if r6 = 0 then none else (
                  Option.bind (FL_AT_bet_69 qFU m a1 a2 r6 (10 / r6) 1 1) (fun (y14, y15) =>
                    some (y14))
                 ))
        else
          some ((Int64.ofInt (-1)))
theorem T_AT_bet {Ln : Nat} {xs : Nat → Int32} {n : (Nat → Nat → Int32)} {lm : Nat → Int64} {d : Nat} (hd : 1 ≤ d) {m : (Nat → Nat → Int32)} {a1 : Int32} {a2 : Int32} {rv : Int64} (h : F_AT_bet m a1 a2 = some rv) : q_Ev (qXT Ln xs) d 88 (0, [some (.ref 0), some (.int a1), some (.int a2), none, none, none, none, none], [], qMM m n lm) (some (.long rv), qMM m n lm) := by
  unfold F_AT_bet at h
  refine q_ev_run 1 (S' := (1, [some (.ref 0), some (.int a1), some (.int a2), none, none, none, none, none], [.int a1], qMM m n lm)) rfl ?_
  by_cases hc1 : a1 < 0
  · rw [if_pos hc1] at h
    refine q_ev_brT hc1 (a := 19) (b := 4) rfl ?_
    refine q_ev_run 1 (S' := (22, [some (.ref 0), some (.int a1), some (.int a2), none, none, none, none, none], [.long (Int64.ofInt (-1))], qMM m n lm)) rfl ?_
    have h_z := Option.some.inj h
    subst h_z
    exact q_ev_ret rfl rfl
  · rw [if_neg hc1] at h
    refine q_ev_brF hc1 (a := 19) (b := 4) rfl ?_
    refine q_ev_run 2 (S' := (7, [some (.ref 0), some (.int a1), some (.int a2), none, none, none, none, none], [.int 10, .int a1], qMM m n lm)) rfl ?_
    by_cases hc2 : 10 < a1
    · rw [if_pos hc2] at h
      refine q_ev_brT hc2 (a := 19) (b := 10) rfl ?_
      refine q_ev_run 1 (S' := (22, [some (.ref 0), some (.int a1), some (.int a2), none, none, none, none, none], [.long (Int64.ofInt (-1))], qMM m n lm)) rfl ?_
      have h_z := Option.some.inj h
      subst h_z
      exact q_ev_ret rfl rfl
    · rw [if_neg hc2] at h
      refine q_ev_brF hc2 (a := 19) (b := 10) rfl ?_
      refine q_ev_run 1 (S' := (11, [some (.ref 0), some (.int a1), some (.int a2), none, none, none, none, none], [.int a2], qMM m n lm)) rfl ?_
      by_cases hc3 : a2 < 0
      · rw [if_pos hc3] at h
        refine q_ev_brT hc3 (a := 19) (b := 14) rfl ?_
        refine q_ev_run 1 (S' := (22, [some (.ref 0), some (.int a1), some (.int a2), none, none, none, none, none], [.long (Int64.ofInt (-1))], qMM m n lm)) rfl ?_
        have h_z := Option.some.inj h
        subst h_z
        exact q_ev_ret rfl rfl
      · rw [if_neg hc3] at h
        refine q_ev_brF hc3 (a := 19) (b := 14) rfl ?_
        refine q_ev_run 2 (S' := (16, [some (.ref 0), some (.int a1), some (.int a2), none, none, none, none, none], [.int 1, .int a2], qMM m n lm)) rfl ?_
        by_cases hc4 : a2 ≤ 1
        · rw [if_pos hc4] at h
          refine q_ev_brT hc4 (a := 23) (b := 19) rfl ?_
          refine q_ev_run 3 (S' := (30, [some (.ref 0), some (.int a1), some (.int a2), none, none, none, none, none], [.int (m 39 0)], qMM m n lm)) rfl ?_
          by_cases hc5 : m 39 0 = 0
          · rw [if_pos hc5] at h
            refine q_ev_brT hc5 (a := 33) (b := 36) rfl ?_
            refine q_ev_run 2 (S' := (35, [some (.ref 0), some (.int a1), some (.int a2), none, none, none, none, none], [.long a2.toInt64], qMM m n lm)) rfl ?_
            have h_z := Option.some.inj h
            subst h_z
            exact q_ev_ret rfl rfl
          · rw [if_neg hc5] at h
            refine q_ev_brF hc5 (a := 33) (b := 36) rfl ?_
            refine q_ev_run 4 (S' := (42, [some (.ref 0), some (.int a1), some (.int a2), none, none, none, none, none], [.int 10, .int (10 - a1)], qMM m n lm)) rfl ?_
            obtain ⟨r6, hf7, h⟩ := Option.bind_eq_some_iff.mp h
            try dsimp only at h
            refine q_ev_call (S' := (45, [some (.ref 0), some (.int a1), some (.int a2), none, none, none, none, none], [], qMM m n lm)) rfl (by omega) (T_AT_greatestShared (by first | omega | decide) hf7) ?_
            refine q_ev_eq (S' := (45, [some (.ref 0), some (.int a1), some (.int a2), none, none, none, none, none], [.int r6], qMM m n lm)) rfl ?_
            refine q_ev_run 2 (S' := (47, [some (.ref 0), some (.int a1), some (.int a2), some (.int r6), none, none, none, none], [.int a2], qMM m n lm)) rfl ?_
            by_cases hc8 : a2 = 0
            · rw [if_pos hc8] at h
              refine q_ev_brT hc8 (a := 50) (b := 57) rfl ?_
              refine q_ev_run 5 (S' := (60, [some (.ref 0), some (.int a1), some (.int a2), some (.int r6), none, none, none, none], [.int r6, .int (10 - a1)], qMM m n lm)) rfl ?_
              by_cases hz9 : r6 = 0
              · rw [if_pos hz9] at h; cases h
              rw [if_neg hz9] at h
              refine q_ev_nz hz9 (S' := (61, [some (.ref 0), some (.int a1), some (.int a2), some (.int r6), none, none, none, none], [.int ((10 - a1) / r6)], qMM m n lm)) rfl ?_
              refine q_ev_run 5 (S' := (69, [some (.ref 0), some (.int a1), some (.int a2), some (.int r6), some (.int ((10 - a1) / r6)), some (.long 1), none, some (.int 1)], [], qMM m n lm)) rfl ?_
              obtain ⟨⟨y10, y11⟩, hl12, h⟩ := Option.bind_eq_some_iff.mp h
              try dsimp only at h
              refine TL_AT_bet_69 (by first | omega | decide) _ m a1 a2 r6 ((10 - a1) / r6) 1 1 _ _ hl12 ?_
              refine q_ev_run 1 (S' := (97, [some (.ref 0), some (.int a1), some (.int a2), some (.int r6), some (.int ((10 - a1) / r6)), some (.long y10), none, some (.int y11)], [.long y10], qMM m n lm)) rfl ?_
              have h_z := Option.some.inj h
              subst h_z
              exact q_ev_ret rfl rfl
            · rw [if_neg hc8] at h
              refine q_ev_brF hc8 (a := 50) (b := 57) rfl ?_
              refine q_ev_run 2 (S' := (60, [some (.ref 0), some (.int a1), some (.int a2), some (.int r6), none, none, none, none], [.int r6, .int 10], qMM m n lm)) rfl ?_
              by_cases hz13 : r6 = 0
              · rw [if_pos hz13] at h; cases h
              rw [if_neg hz13] at h
              refine q_ev_nz hz13 (S' := (61, [some (.ref 0), some (.int a1), some (.int a2), some (.int r6), none, none, none, none], [.int (10 / r6)], qMM m n lm)) rfl ?_
              refine q_ev_run 5 (S' := (69, [some (.ref 0), some (.int a1), some (.int a2), some (.int r6), some (.int (10 / r6)), some (.long 1), none, some (.int 1)], [], qMM m n lm)) rfl ?_
              obtain ⟨⟨y14, y15⟩, hl16, h⟩ := Option.bind_eq_some_iff.mp h
              try dsimp only at h
              refine TL_AT_bet_69 (by first | omega | decide) _ m a1 a2 r6 (10 / r6) 1 1 _ _ hl16 ?_
              refine q_ev_run 1 (S' := (97, [some (.ref 0), some (.int a1), some (.int a2), some (.int r6), some (.int (10 / r6)), some (.long y14), none, some (.int y15)], [.long y14], qMM m n lm)) rfl ?_
              have h_z := Option.some.inj h
              subst h_z
              exact q_ev_ret rfl rfl
        · rw [if_neg hc4] at h
          refine q_ev_brF hc4 (a := 23) (b := 19) rfl ?_
          refine q_ev_run 1 (S' := (22, [some (.ref 0), some (.int a1), some (.int a2), none, none, none, none, none], [.long (Int64.ofInt (-1))], qMM m n lm)) rfl ?_
          have h_z := Option.some.inj h
          subst h_z
          exact q_ev_ret rfl rfl
noncomputable def FL_Mo_bet_44 : Nat → (Nat → Nat → Int32) → Int32 → Int32 → Int64 → Int64 → Int32 → Option (Int64 × Int64 × Int32)
  | 0, _, _, _, _, _, _ => none
  | fu + 1, m, x1, x2, x3, x5, x7 =>
    if m 58 2 ≤ x7 then
      some (x3, x5, x7)
    else
      FL_Mo_bet_44 fu m x1 x2 (x3 * (10 - x1).toInt64) (x5 * 10) (x7 + 1)
theorem TL_Mo_bet_44 {Ln : Nat} {xs : Nat → Int32} {n : (Nat → Nat → Int32)} {lm : Nat → Int64} {d : Nat} (hd : 0 ≤ d) {r : Option Value × qM} : ∀ (fu : Nat) (m : (Nat → Nat → Int32)) (x1 : Int32) (x2 : Int32) (x3 : Int64) (x5 : Int64) (x7 : Int32)  (y3 : Int64) (y5 : Int64) (y7 : Int32), FL_Mo_bet_44 fu m x1 x2 x3 x5 x7 = some (y3, y5, y7) → (q_Ev (qXT Ln xs) d 162 (77, [some (.ref 56), some (.int x1), some (.int x2), some (.long y3), none, some (.long y5), none, some (.int y7), none, none, none, none, none], [], qMM n m lm) r) → q_Ev (qXT Ln xs) d 162 (44, [some (.ref 56), some (.int x1), some (.int x2), some (.long x3), none, some (.long x5), none, some (.int x7), none, none, none, none, none], [], qMM n m lm) r := by
  intro fu
  induction fu with
  | zero => intro m x1 x2 x3 x5 x7 y3 y5 y7 h hk; cases h
  | succ fu ih =>
    intro m x1 x2 x3 x5 x7 y3 y5 y7 h hk
    rw [FL_Mo_bet_44] at h
    refine q_ev_run 5 (S' := (52, [some (.ref 56), some (.int x1), some (.int x2), some (.long x3), none, some (.long x5), none, some (.int x7), none, none, none, none, none], [.int (m 58 2), .int x7], qMM n m lm)) rfl ?_
    by_cases hc1 : m 58 2 ≤ x7
    · rw [if_pos hc1] at h
      refine q_ev_brT hc1 (a := 77) (b := 55) rfl ?_
      have h_z := Option.some.inj h
      obtain ⟨h_0, h_z⟩ := Prod.mk.inj h_z
      obtain ⟨h_1, h_z⟩ := Prod.mk.inj h_z
      subst h_0
      subst h_1
      subst h_z
      exact hk 
    · rw [if_neg hc1] at h
      refine q_ev_brF hc1 (a := 77) (b := 55) rfl ?_
      refine q_ev_run 13 (S' := (44, [some (.ref 56), some (.int x1), some (.int x2), some (.long (x3 * (10 - x1).toInt64)), none, some (.long (x5 * 10)), none, some (.int (x7 + 1)), none, none, none, none, none], [], qMM n m lm)) rfl ?_
      exact ih m x1 x2 (x3 * (10 - x1).toInt64) (x5 * 10) (x7 + 1) _ _ _ h hk
noncomputable def FL_Mo_bet_84 : Nat → (Nat → Nat → Int32) → Int32 → Int32 → Int64 → Int64 → Int64 → Int64 → Option (Int64 × Int64)
  | 0, _, _, _, _, _, _, _ => none
  | fu + 1, m, x1, x2, x3, x5, x7, x9 =>
    if (lg_cmp x9 0) = 0 then
      some (x7, x9)
    else
      if x9 = 0 then none else (
        FL_Mo_bet_84 fu m x1 x2 x3 x5 x9 (x7 - x7 / x9 * x9)
       )
theorem TL_Mo_bet_84 {Ln : Nat} {xs : Nat → Int32} {n : (Nat → Nat → Int32)} {lm : Nat → Int64} {d : Nat} (hd : 0 ≤ d) {r : Option Value × qM} : ∀ (fu : Nat) (m : (Nat → Nat → Int32)) (x1 : Int32) (x2 : Int32) (x3 : Int64) (x5 : Int64) (x7 : Int64) (x9 : Int64) (w11 : Option Value) (y7 : Int64) (y9 : Int64), FL_Mo_bet_84 fu m x1 x2 x3 x5 x7 x9 = some (y7, y9) → (∀ (u11 : Option Value), q_Ev (qXT Ln xs) d 162 (109, [some (.ref 56), some (.int x1), some (.int x2), some (.long x3), none, some (.long x5), none, some (.long y7), none, some (.long y9), none, u11, none], [], qMM n m lm) r) → q_Ev (qXT Ln xs) d 162 (84, [some (.ref 56), some (.int x1), some (.int x2), some (.long x3), none, some (.long x5), none, some (.long x7), none, some (.long x9), none, w11, none], [], qMM n m lm) r := by
  intro fu
  induction fu with
  | zero => intro m x1 x2 x3 x5 x7 x9 w11 y7 y9 h hk; cases h
  | succ fu ih =>
    intro m x1 x2 x3 x5 x7 x9 w11 y7 y9 h hk
    rw [FL_Mo_bet_84] at h
    refine q_ev_run 3 (S' := (88, [some (.ref 56), some (.int x1), some (.int x2), some (.long x3), none, some (.long x5), none, some (.long x7), none, some (.long x9), none, w11, none], [.int (lg_cmp x9 0)], qMM n m lm)) rfl ?_
    by_cases hc1 : (lg_cmp x9 0) = 0
    · rw [if_pos hc1] at h
      refine q_ev_brT hc1 (a := 109) (b := 91) rfl ?_
      have h_z := Option.some.inj h
      obtain ⟨h_0, h_z⟩ := Prod.mk.inj h_z
      subst h_0
      subst h_z
      exact hk (w11)
    · rw [if_neg hc1] at h
      refine q_ev_brF hc1 (a := 109) (b := 91) rfl ?_
      refine q_ev_run 2 (S' := (95, [some (.ref 56), some (.int x1), some (.int x2), some (.long x3), none, some (.long x5), none, some (.long x7), none, some (.long x9), none, w11, none], [.long x9, .long x7], qMM n m lm)) rfl ?_
      by_cases hz2 : x9 = 0
      · rw [if_pos hz2] at h; cases h
      rw [if_neg hz2] at h
      refine q_ev_nz hz2 (S' := (96, [some (.ref 56), some (.int x1), some (.int x2), some (.long x3), none, some (.long x5), none, some (.long x7), none, some (.long x9), none, w11, none], [.long (x7 - x7 / x9 * x9)], qMM n m lm)) rfl ?_
      refine q_ev_run 6 (S' := (84, [some (.ref 56), some (.int x1), some (.int x2), some (.long x3), none, some (.long x5), none, some (.long x9), none, some (.long (x7 - x7 / x9 * x9)), none, some (.long (x7 - x7 / x9 * x9)), none], [], qMM n m lm)) rfl ?_
      exact ih m x1 x2 x3 x5 x9 (x7 - x7 / x9 * x9) (some (.long (x7 - x7 / x9 * x9))) _ _ h hk
