noncomputable def FL_La_measureWays_9_12 : Nat → (Nat → Nat → Int32) → Int32 → Int32 → Option ((Nat → Nat → Int32))
  | 0, _, _, _ => none
  | fu + 1, m, x1, x2 =>
    if m 9 0 ≤ x2 then
      some (m)
    else
      Option.bind (F_La_pair x1 x2) (fun r2 =>
        cond (q_in r2 64) (
          Option.bind (F_La_pair x1 x2) (fun r5 =>
            if x1 = x2 then
              cond (q_in r5 64) (FL_La_measureWays_9_12 fu (q_w m 11 r5.toNatClampNeg 0) x1 (x2 + 1)) none
            else
              if m 10 r2.toNatClampNeg ≤ 0 then
                cond (q_in r5 64) (FL_La_measureWays_9_12 fu (q_w m 11 r5.toNatClampNeg 1000000) x1 (x2 + 1)) none
              else
                cond (q_in r5 64) (FL_La_measureWays_9_12 fu (q_w m 11 r5.toNatClampNeg (m 9 3 * m 10 r2.toNatClampNeg)) x1 (x2 + 1)) none)
         ) none)
theorem TL_La_measureWays_9_12 {Ln : Nat} {xs : Nat → Int32} {n : (Nat → Nat → Int32)} {lm : Nat → Int64} {d : Nat} (hd : 1 ≤ d) {r : Option Value × qM} : ∀ (fu : Nat) (m : (Nat → Nat → Int32)) (x1 : Int32) (x2 : Int32) (w3 : Option Value) (w4 : Option Value) (m1 : (Nat → Nat → Int32)), FL_La_measureWays_9_12 fu m x1 x2 = some m1 → (∀ (u2 u3 u4 : Option Value), q_Ev (qXT Ln xs) d 22 (71, [some (.ref 11), some (.int x1), u2, u3, u4], [], qMM m1 n lm) r) → q_Ev (qXT Ln xs) d 22 (12, [some (.ref 11), some (.int x1), some (.int x2), w3, w4], [], qMM m n lm) r := by
  intro fu
  induction fu with
  | zero => intro m x1 x2 w3 w4 m1 h hk; cases h
  | succ fu ih =>
    intro m x1 x2 w3 w4 m1 h hk
    rw [FL_La_measureWays_9_12] at h
    refine q_ev_run 3 (S' := (17, [some (.ref 11), some (.int x1), some (.int x2), w3, w4], [.int (m 9 0), .int x2], qMM m n lm)) rfl ?_
    by_cases hc1 : m 9 0 ≤ x2
    · rw [if_pos hc1] at h
      refine q_ev_brT hc1 (a := 71) (b := 20) rfl ?_
      have h_z0 := Option.some.inj h
      subst h_z0
      exact hk (some (.int x2)) (w3) (w4)
    · rw [if_neg hc1] at h
      refine q_ev_brF hc1 (a := 71) (b := 20) rfl ?_
      refine q_ev_run 4 (S' := (26, [some (.ref 11), some (.int x1), some (.int x2), w3, w4], [.int x2, .int x1, .ref 12], qMM m n lm)) rfl ?_
      obtain ⟨r2, hf3, h⟩ := Option.bind_eq_some_iff.mp h
      try dsimp only at h
      refine q_ev_call (S' := (29, [some (.ref 11), some (.int x1), some (.int x2), w3, w4], [.ref 12], qMM m n lm)) rfl (by omega) (T_La_pair (by first | omega | decide) hf3) ?_
      refine q_ev_eq (S' := (29, [some (.ref 11), some (.int x1), some (.int x2), w3, w4], [.int r2, .ref 12], qMM m n lm)) rfl ?_
      obtain ⟨hb4, h⟩ := q_cd h
      refine q_ev_chk (b := q_in r2 64) hb4 (S' := (30, [some (.ref 11), some (.int x1), some (.int x2), w3, w4], [.int (m 10 r2.toNatClampNeg)], qMM m n lm)) rfl ?_
      refine q_ev_run 5 (S' := (37, [some (.ref 11), some (.int x1), some (.int x2), some (.int (m 10 r2.toNatClampNeg)), w4], [.int x2, .int x1, .ref 13], qMM m n lm)) rfl ?_
      obtain ⟨r5, hf6, h⟩ := Option.bind_eq_some_iff.mp h
      try dsimp only at h
      refine q_ev_call (S' := (40, [some (.ref 11), some (.int x1), some (.int x2), some (.int (m 10 r2.toNatClampNeg)), w4], [.ref 13], qMM m n lm)) rfl (by omega) (T_La_pair (by first | omega | decide) hf6) ?_
      refine q_ev_eq (S' := (40, [some (.ref 11), some (.int x1), some (.int x2), some (.int (m 10 r2.toNatClampNeg)), w4], [.int r5, .ref 13], qMM m n lm)) rfl ?_
      refine q_ev_run 2 (S' := (42, [some (.ref 11), some (.int x1), some (.int x2), some (.int (m 10 r2.toNatClampNeg)), w4], [.int x2, .int x1, .int r5, .ref 13], qMM m n lm)) rfl ?_
      by_cases hc7 : x1 = x2
      · rw [if_pos hc7] at h
        refine q_ev_brT hc7 (a := 45) (b := 49) rfl ?_
        refine q_ev_run 2 (S' := (64, [some (.ref 11), some (.int x1), some (.int x2), some (.int (m 10 r2.toNatClampNeg)), w4], [.int 0, .int r5, .ref 13], qMM m n lm)) rfl ?_
        obtain ⟨hb8, h⟩ := q_cd h
        refine q_ev_chk (b := q_in r5 64) hb8 (S' := (65, [some (.ref 11), some (.int x1), some (.int x2), some (.int (m 10 r2.toNatClampNeg)), w4], [], qMM (q_w m 11 r5.toNatClampNeg 0) n lm)) rfl ?_
        refine q_ev_run 2 (S' := (12, [some (.ref 11), some (.int x1), some (.int (x2 + 1)), some (.int (m 10 r2.toNatClampNeg)), w4], [], qMM (q_w m 11 r5.toNatClampNeg 0) n lm)) rfl ?_
        exact ih (q_w m 11 r5.toNatClampNeg 0) x1 (x2 + 1) (some (.int (m 10 r2.toNatClampNeg))) (w4) _ h hk
      · rw [if_neg hc7] at h
        refine q_ev_brF hc7 (a := 45) (b := 49) rfl ?_
        refine q_ev_run 1 (S' := (50, [some (.ref 11), some (.int x1), some (.int x2), some (.int (m 10 r2.toNatClampNeg)), w4], [.int (m 10 r2.toNatClampNeg), .int r5, .ref 13], qMM m n lm)) rfl ?_
        by_cases hc9 : m 10 r2.toNatClampNeg ≤ 0
        · rw [if_pos hc9] at h
          refine q_ev_brT hc9 (a := 62) (b := 53) rfl ?_
          refine q_ev_run 1 (S' := (64, [some (.ref 11), some (.int x1), some (.int x2), some (.int (m 10 r2.toNatClampNeg)), w4], [.int 1000000, .int r5, .ref 13], qMM m n lm)) rfl ?_
          obtain ⟨hb10, h⟩ := q_cd h
          refine q_ev_chk (b := q_in r5 64) hb10 (S' := (65, [some (.ref 11), some (.int x1), some (.int x2), some (.int (m 10 r2.toNatClampNeg)), w4], [], qMM (q_w m 11 r5.toNatClampNeg 1000000) n lm)) rfl ?_
          refine q_ev_run 2 (S' := (12, [some (.ref 11), some (.int x1), some (.int (x2 + 1)), some (.int (m 10 r2.toNatClampNeg)), w4], [], qMM (q_w m 11 r5.toNatClampNeg 1000000) n lm)) rfl ?_
          exact ih (q_w m 11 r5.toNatClampNeg 1000000) x1 (x2 + 1) (some (.int (m 10 r2.toNatClampNeg))) (w4) _ h hk
        · rw [if_neg hc9] at h
          refine q_ev_brF hc9 (a := 62) (b := 53) rfl ?_
          refine q_ev_run 5 (S' := (64, [some (.ref 11), some (.int x1), some (.int x2), some (.int (m 10 r2.toNatClampNeg)), w4], [.int (m 9 3 * m 10 r2.toNatClampNeg), .int r5, .ref 13], qMM m n lm)) rfl ?_
          obtain ⟨hb11, h⟩ := q_cd h
          refine q_ev_chk (b := q_in r5 64) hb11 (S' := (65, [some (.ref 11), some (.int x1), some (.int x2), some (.int (m 10 r2.toNatClampNeg)), w4], [], qMM (q_w m 11 r5.toNatClampNeg (m 9 3 * m 10 r2.toNatClampNeg)) n lm)) rfl ?_
          refine q_ev_run 2 (S' := (12, [some (.ref 11), some (.int x1), some (.int (x2 + 1)), some (.int (m 10 r2.toNatClampNeg)), w4], [], qMM (q_w m 11 r5.toNatClampNeg (m 9 3 * m 10 r2.toNatClampNeg)) n lm)) rfl ?_
          exact ih (q_w m 11 r5.toNatClampNeg (m 9 3 * m 10 r2.toNatClampNeg)) x1 (x2 + 1) (some (.int (m 10 r2.toNatClampNeg))) (w4) _ h hk
noncomputable def FL_La_measureWays_9_2 : Nat → (Nat → Nat → Int32) → Int32 → Option ((Nat → Nat → Int32))
  | 0, _, _ => none
  | fu + 1, m, x1 =>
    if m 9 0 ≤ x1 then
      some (m)
    else
      Option.bind (FL_La_measureWays_9_12 qFU m x1 0) (fun m5 =>
        FL_La_measureWays_9_2 fu m5 (x1 + 1))
theorem TL_La_measureWays_9_2 {Ln : Nat} {xs : Nat → Int32} {n : (Nat → Nat → Int32)} {lm : Nat → Int64} {d : Nat} (hd : 1 ≤ d) {r : Option Value × qM} : ∀ (fu : Nat) (m : (Nat → Nat → Int32)) (x1 : Int32) (w2 : Option Value) (w3 : Option Value) (w4 : Option Value) (m1 : (Nat → Nat → Int32)), FL_La_measureWays_9_2 fu m x1 = some m1 → (∀ (u1 u2 u3 u4 : Option Value), q_Ev (qXT Ln xs) d 22 (77, [some (.ref 11), u1, u2, u3, u4], [], qMM m1 n lm) r) → q_Ev (qXT Ln xs) d 22 (2, [some (.ref 11), some (.int x1), w2, w3, w4], [], qMM m n lm) r := by
  intro fu
  induction fu with
  | zero => intro m x1 w2 w3 w4 m1 h hk; cases h
  | succ fu ih =>
    intro m x1 w2 w3 w4 m1 h hk
    rw [FL_La_measureWays_9_2] at h
    refine q_ev_run 3 (S' := (7, [some (.ref 11), some (.int x1), w2, w3, w4], [.int (m 9 0), .int x1], qMM m n lm)) rfl ?_
    by_cases hc1 : m 9 0 ≤ x1
    · rw [if_pos hc1] at h
      refine q_ev_brT hc1 (a := 77) (b := 10) rfl ?_
      have h_z0 := Option.some.inj h
      subst h_z0
      exact hk (some (.int x1)) (w2) (w3) (w4)
    · rw [if_neg hc1] at h
      refine q_ev_brF hc1 (a := 77) (b := 10) rfl ?_
      refine q_ev_run 2 (S' := (12, [some (.ref 11), some (.int x1), some (.int 0), w3, w4], [], qMM m n lm)) rfl ?_
      obtain ⟨m5, hl6, h⟩ := Option.bind_eq_some_iff.mp h
      try dsimp only at h
      refine TL_La_measureWays_9_12 (by first | omega | decide) _ m x1 0 (w3) (w4) _ hl6 (fun w2 w3 w4 => ?_)
      refine q_ev_run 2 (S' := (2, [some (.ref 11), some (.int (x1 + 1)), w2, w3, w4], [], qMM m5 n lm)) rfl ?_
      exact ih m5 (x1 + 1) (w2) (w3) (w4) _ h hk
noncomputable def FL_La_measureWays_9_99 : Nat → (Nat → Nat → Int32) → Int32 → Int32 → Int32 → Option ((Nat → Nat → Int32))
  | 0, _, _, _, _ => none
  | fu + 1, m, x1, x2, x3 =>
    if m 9 0 ≤ x3 then
      some (m)
    else
      Option.bind (F_La_pair x2 x1) (fun r2 =>
        cond (q_in r2 64) (
          Option.bind (F_La_pair x1 x3) (fun r5 =>
            cond (q_in r5 64) (
              Option.bind (F_La_pair x2 x3) (fun r8 =>
                Option.bind (F_La_pair x2 x3) (fun r10 =>
                  cond (q_in r10 64) (cond (q_in r8 64) (FL_La_measureWays_9_99 fu (q_w m 11 r8.toNatClampNeg (if (m 11 r2.toNatClampNeg + m 11 r5.toNatClampNeg) < m 11 r10.toNatClampNeg then (m 11 r2.toNatClampNeg + m 11 r5.toNatClampNeg) else m 11 r10.toNatClampNeg)) x1 x2 (x3 + 1)) none) none))
             ) none)
         ) none)
theorem TL_La_measureWays_9_99 {Ln : Nat} {xs : Nat → Int32} {n : (Nat → Nat → Int32)} {lm : Nat → Int64} {d : Nat} (hd : 1 ≤ d) {r : Option Value × qM} : ∀ (fu : Nat) (m : (Nat → Nat → Int32)) (x1 : Int32) (x2 : Int32) (x3 : Int32) (w4 : Option Value) (m1 : (Nat → Nat → Int32)), FL_La_measureWays_9_99 fu m x1 x2 x3 = some m1 → (∀ (u3 u4 : Option Value), q_Ev (qXT Ln xs) d 22 (161, [some (.ref 11), some (.int x1), some (.int x2), u3, u4], [], qMM m1 n lm) r) → q_Ev (qXT Ln xs) d 22 (99, [some (.ref 11), some (.int x1), some (.int x2), some (.int x3), w4], [], qMM m n lm) r := by
  intro fu
  induction fu with
  | zero => intro m x1 x2 x3 w4 m1 h hk; cases h
  | succ fu ih =>
    intro m x1 x2 x3 w4 m1 h hk
    rw [FL_La_measureWays_9_99] at h
    refine q_ev_run 3 (S' := (104, [some (.ref 11), some (.int x1), some (.int x2), some (.int x3), w4], [.int (m 9 0), .int x3], qMM m n lm)) rfl ?_
    by_cases hc1 : m 9 0 ≤ x3
    · rw [if_pos hc1] at h
      refine q_ev_brT hc1 (a := 161) (b := 107) rfl ?_
      have h_z0 := Option.some.inj h
      subst h_z0
      exact hk (some (.int x3)) (w4)
    · rw [if_neg hc1] at h
      refine q_ev_brF hc1 (a := 161) (b := 107) rfl ?_
      refine q_ev_run 4 (S' := (113, [some (.ref 11), some (.int x1), some (.int x2), some (.int x3), w4], [.int x1, .int x2, .ref 13], qMM m n lm)) rfl ?_
      obtain ⟨r2, hf3, h⟩ := Option.bind_eq_some_iff.mp h
      try dsimp only at h
      refine q_ev_call (S' := (116, [some (.ref 11), some (.int x1), some (.int x2), some (.int x3), w4], [.ref 13], qMM m n lm)) rfl (by omega) (T_La_pair (by first | omega | decide) hf3) ?_
      refine q_ev_eq (S' := (116, [some (.ref 11), some (.int x1), some (.int x2), some (.int x3), w4], [.int r2, .ref 13], qMM m n lm)) rfl ?_
      obtain ⟨hb4, h⟩ := q_cd h
      refine q_ev_chk (b := q_in r2 64) hb4 (S' := (117, [some (.ref 11), some (.int x1), some (.int x2), some (.int x3), w4], [.int (m 11 r2.toNatClampNeg)], qMM m n lm)) rfl ?_
      refine q_ev_run 4 (S' := (123, [some (.ref 11), some (.int x1), some (.int x2), some (.int x3), w4], [.int x3, .int x1, .ref 13, .int (m 11 r2.toNatClampNeg)], qMM m n lm)) rfl ?_
      obtain ⟨r5, hf6, h⟩ := Option.bind_eq_some_iff.mp h
      try dsimp only at h
      refine q_ev_call (S' := (126, [some (.ref 11), some (.int x1), some (.int x2), some (.int x3), w4], [.ref 13, .int (m 11 r2.toNatClampNeg)], qMM m n lm)) rfl (by omega) (T_La_pair (by first | omega | decide) hf6) ?_
      refine q_ev_eq (S' := (126, [some (.ref 11), some (.int x1), some (.int x2), some (.int x3), w4], [.int r5, .ref 13, .int (m 11 r2.toNatClampNeg)], qMM m n lm)) rfl ?_
      obtain ⟨hb7, h⟩ := q_cd h
      refine q_ev_chk (b := q_in r5 64) hb7 (S' := (127, [some (.ref 11), some (.int x1), some (.int x2), some (.int x3), w4], [.int (m 11 r5.toNatClampNeg), .int (m 11 r2.toNatClampNeg)], qMM m n lm)) rfl ?_
      refine q_ev_run 6 (S' := (136, [some (.ref 11), some (.int x1), some (.int x2), some (.int x3), some (.int (m 11 r2.toNatClampNeg + m 11 r5.toNatClampNeg))], [.int x3, .int x2, .ref 13], qMM m n lm)) rfl ?_
      obtain ⟨r8, hf9, h⟩ := Option.bind_eq_some_iff.mp h
      try dsimp only at h
      refine q_ev_call (S' := (139, [some (.ref 11), some (.int x1), some (.int x2), some (.int x3), some (.int (m 11 r2.toNatClampNeg + m 11 r5.toNatClampNeg))], [.ref 13], qMM m n lm)) rfl (by omega) (T_La_pair (by first | omega | decide) hf9) ?_
      refine q_ev_eq (S' := (139, [some (.ref 11), some (.int x1), some (.int x2), some (.int x3), some (.int (m 11 r2.toNatClampNeg + m 11 r5.toNatClampNeg))], [.int r8, .ref 13], qMM m n lm)) rfl ?_
      refine q_ev_run 4 (S' := (145, [some (.ref 11), some (.int x1), some (.int x2), some (.int x3), some (.int (m 11 r2.toNatClampNeg + m 11 r5.toNatClampNeg))], [.int x3, .int x2, .ref 13, .int r8, .ref 13], qMM m n lm)) rfl ?_
      obtain ⟨r10, hf11, h⟩ := Option.bind_eq_some_iff.mp h
      try dsimp only at h
      refine q_ev_call (S' := (148, [some (.ref 11), some (.int x1), some (.int x2), some (.int x3), some (.int (m 11 r2.toNatClampNeg + m 11 r5.toNatClampNeg))], [.ref 13, .int r8, .ref 13], qMM m n lm)) rfl (by omega) (T_La_pair (by first | omega | decide) hf11) ?_
      refine q_ev_eq (S' := (148, [some (.ref 11), some (.int x1), some (.int x2), some (.int x3), some (.int (m 11 r2.toNatClampNeg + m 11 r5.toNatClampNeg))], [.int r10, .ref 13, .int r8, .ref 13], qMM m n lm)) rfl ?_
      obtain ⟨hb12, h⟩ := q_cd h
      refine q_ev_chk (b := q_in r10 64) hb12 (S' := (149, [some (.ref 11), some (.int x1), some (.int x2), some (.int x3), some (.int (m 11 r2.toNatClampNeg + m 11 r5.toNatClampNeg))], [.int (m 11 r10.toNatClampNeg), .int r8, .ref 13], qMM m n lm)) rfl ?_
      refine q_ev_run 2 (S' := (154, [some (.ref 11), some (.int x1), some (.int x2), some (.int x3), some (.int (m 11 r2.toNatClampNeg + m 11 r5.toNatClampNeg))], [.int (if (m 11 r2.toNatClampNeg + m 11 r5.toNatClampNeg) < m 11 r10.toNatClampNeg then (m 11 r2.toNatClampNeg + m 11 r5.toNatClampNeg) else m 11 r10.toNatClampNeg), .int r8, .ref 13], qMM m n lm)) rfl ?_
      obtain ⟨hb13, h⟩ := q_cd h
      refine q_ev_chk (b := q_in r8 64) hb13 (S' := (155, [some (.ref 11), some (.int x1), some (.int x2), some (.int x3), some (.int (m 11 r2.toNatClampNeg + m 11 r5.toNatClampNeg))], [], qMM (q_w m 11 r8.toNatClampNeg (if (m 11 r2.toNatClampNeg + m 11 r5.toNatClampNeg) < m 11 r10.toNatClampNeg then (m 11 r2.toNatClampNeg + m 11 r5.toNatClampNeg) else m 11 r10.toNatClampNeg)) n lm)) rfl ?_
      refine q_ev_run 2 (S' := (99, [some (.ref 11), some (.int x1), some (.int x2), some (.int (x3 + 1)), some (.int (m 11 r2.toNatClampNeg + m 11 r5.toNatClampNeg))], [], qMM (q_w m 11 r8.toNatClampNeg (if (m 11 r2.toNatClampNeg + m 11 r5.toNatClampNeg) < m 11 r10.toNatClampNeg then (m 11 r2.toNatClampNeg + m 11 r5.toNatClampNeg) else m 11 r10.toNatClampNeg)) n lm)) rfl ?_
      exact ih (q_w m 11 r8.toNatClampNeg (if (m 11 r2.toNatClampNeg + m 11 r5.toNatClampNeg) < m 11 r10.toNatClampNeg then (m 11 r2.toNatClampNeg + m 11 r5.toNatClampNeg) else m 11 r10.toNatClampNeg)) x1 x2 (x3 + 1) (some (.int (m 11 r2.toNatClampNeg + m 11 r5.toNatClampNeg))) _ h hk
noncomputable def FL_La_measureWays_9_89 : Nat → (Nat → Nat → Int32) → Int32 → Int32 → Option ((Nat → Nat → Int32))
  | 0, _, _, _ => none
  | fu + 1, m, x1, x2 =>
    if m 9 0 ≤ x2 then
      some (m)
    else
      Option.bind (FL_La_measureWays_9_99 qFU m x1 x2 0) (fun m4 =>
        FL_La_measureWays_9_89 fu m4 x1 (x2 + 1))
theorem TL_La_measureWays_9_89 {Ln : Nat} {xs : Nat → Int32} {n : (Nat → Nat → Int32)} {lm : Nat → Int64} {d : Nat} (hd : 1 ≤ d) {r : Option Value × qM} : ∀ (fu : Nat) (m : (Nat → Nat → Int32)) (x1 : Int32) (x2 : Int32) (w3 : Option Value) (w4 : Option Value) (m1 : (Nat → Nat → Int32)), FL_La_measureWays_9_89 fu m x1 x2 = some m1 → (∀ (u2 u3 u4 : Option Value), q_Ev (qXT Ln xs) d 22 (167, [some (.ref 11), some (.int x1), u2, u3, u4], [], qMM m1 n lm) r) → q_Ev (qXT Ln xs) d 22 (89, [some (.ref 11), some (.int x1), some (.int x2), w3, w4], [], qMM m n lm) r := by
  intro fu
  induction fu with
  | zero => intro m x1 x2 w3 w4 m1 h hk; cases h
  | succ fu ih =>
    intro m x1 x2 w3 w4 m1 h hk
    rw [FL_La_measureWays_9_89] at h
    refine q_ev_run 3 (S' := (94, [some (.ref 11), some (.int x1), some (.int x2), w3, w4], [.int (m 9 0), .int x2], qMM m n lm)) rfl ?_
    by_cases hc1 : m 9 0 ≤ x2
    · rw [if_pos hc1] at h
      refine q_ev_brT hc1 (a := 167) (b := 97) rfl ?_
      have h_z0 := Option.some.inj h
      subst h_z0
      exact hk (some (.int x2)) (w3) (w4)
    · rw [if_neg hc1] at h
      refine q_ev_brF hc1 (a := 167) (b := 97) rfl ?_
      refine q_ev_run 2 (S' := (99, [some (.ref 11), some (.int x1), some (.int x2), some (.int 0), w4], [], qMM m n lm)) rfl ?_
      obtain ⟨m4, hl5, h⟩ := Option.bind_eq_some_iff.mp h
      try dsimp only at h
      refine TL_La_measureWays_9_99 (by first | omega | decide) _ m x1 x2 0 (w4) _ hl5 (fun w2 w3 => ?_)
      refine q_ev_run 2 (S' := (89, [some (.ref 11), some (.int x1), some (.int (x2 + 1)), w2, w3], [], qMM m4 n lm)) rfl ?_
      exact ih m4 x1 (x2 + 1) (w2) (w3) _ h hk
noncomputable def FL_La_measureWays_9_79 : Nat → (Nat → Nat → Int32) → Int32 → Option ((Nat → Nat → Int32))
  | 0, _, _ => none
  | fu + 1, m, x1 =>
    if m 9 0 ≤ x1 then
      some (m)
    else
      Option.bind (FL_La_measureWays_9_89 qFU m x1 0) (fun m5 =>
        FL_La_measureWays_9_79 fu m5 (x1 + 1))
theorem TL_La_measureWays_9_79 {Ln : Nat} {xs : Nat → Int32} {n : (Nat → Nat → Int32)} {lm : Nat → Int64} {d : Nat} (hd : 1 ≤ d) {r : Option Value × qM} : ∀ (fu : Nat) (m : (Nat → Nat → Int32)) (x1 : Int32) (w2 : Option Value) (w3 : Option Value) (w4 : Option Value) (m1 : (Nat → Nat → Int32)), FL_La_measureWays_9_79 fu m x1 = some m1 → (∀ (u1 u2 u3 u4 : Option Value), q_Ev (qXT Ln xs) d 22 (173, [some (.ref 11), u1, u2, u3, u4], [], qMM m1 n lm) r) → q_Ev (qXT Ln xs) d 22 (79, [some (.ref 11), some (.int x1), w2, w3, w4], [], qMM m n lm) r := by
  intro fu
  induction fu with
  | zero => intro m x1 w2 w3 w4 m1 h hk; cases h
  | succ fu ih =>
    intro m x1 w2 w3 w4 m1 h hk
    rw [FL_La_measureWays_9_79] at h
    refine q_ev_run 3 (S' := (84, [some (.ref 11), some (.int x1), w2, w3, w4], [.int (m 9 0), .int x1], qMM m n lm)) rfl ?_
    by_cases hc1 : m 9 0 ≤ x1
    · rw [if_pos hc1] at h
      refine q_ev_brT hc1 (a := 173) (b := 87) rfl ?_
      have h_z0 := Option.some.inj h
      subst h_z0
      exact hk (some (.int x1)) (w2) (w3) (w4)
    · rw [if_neg hc1] at h
      refine q_ev_brF hc1 (a := 173) (b := 87) rfl ?_
      refine q_ev_run 2 (S' := (89, [some (.ref 11), some (.int x1), some (.int 0), w3, w4], [], qMM m n lm)) rfl ?_
      obtain ⟨m5, hl6, h⟩ := Option.bind_eq_some_iff.mp h
      try dsimp only at h
      refine TL_La_measureWays_9_89 (by first | omega | decide) _ m x1 0 (w3) (w4) _ hl6 (fun w2 w3 w4 => ?_)
      refine q_ev_run 2 (S' := (79, [some (.ref 11), some (.int (x1 + 1)), w2, w3, w4], [], qMM m5 n lm)) rfl ?_
      exact ih m5 (x1 + 1) (w2) (w3) (w4) _ h hk
noncomputable def F_La_measureWays_9 (m : (Nat → Nat → Int32)) : Option ((Nat → Nat → Int32)) :=
  Option.bind (FL_La_measureWays_9_2 qFU m 0) (fun m5 =>
    Option.bind (FL_La_measureWays_9_79 qFU m5 0) (fun m11 =>
      some (m11)))
theorem T_La_measureWays_9 {Ln : Nat} {xs : Nat → Int32} {n : (Nat → Nat → Int32)} {lm : Nat → Int64} {d : Nat} (hd : 1 ≤ d) {m : (Nat → Nat → Int32)} {m1 : (Nat → Nat → Int32)} (h : F_La_measureWays_9 m = some m1) : q_Ev (qXT Ln xs) d 22 (0, [some (.ref 11), none, none, none, none], [], qMM m n lm) (none, qMM m1 n lm) := by
  unfold F_La_measureWays_9 at h
  refine q_ev_run 2 (S' := (2, [some (.ref 11), some (.int 0), none, none, none], [], qMM m n lm)) rfl ?_
  obtain ⟨m5, hl6, h⟩ := Option.bind_eq_some_iff.mp h
  try dsimp only at h
  refine TL_La_measureWays_9_2 (by first | omega | decide) _ m 0 (none) (none) (none) _ hl6 (fun w1 w2 w3 w4 => ?_)
  refine q_ev_run 2 (S' := (79, [some (.ref 11), some (.int 0), w2, w3, w4], [], qMM m5 n lm)) rfl ?_
  obtain ⟨m11, hl12, h⟩ := Option.bind_eq_some_iff.mp h
  try dsimp only at h
  refine TL_La_measureWays_9_79 (by first | omega | decide) _ m5 0 (w2) (w3) (w4) _ hl12 (fun w7 w8 w9 w10 => ?_)
  have h_z0 := Option.some.inj h
  subst h_z0
  exact q_ev_ret rfl rfl
noncomputable def F_La_become_9_3 (m : (Nat → Nat → Int32)) : Option ((Nat → Nat → Int32)) :=
  Option.bind (F_La_measureWays_9 (q_cw (q_cw (q_cw (q_cw (q_w (q_w (q_w (q_w (q_w (q_w m 9 0 (m 3 0)) 9 1 (m 3 1)) 9 2 (m 3 2)) 9 3 (m 3 3)) 9 4 (m 3 4)) 9 5 (m 3 5)) 4 10 0 0 64) 6 12 0 0 8) 7 13 0 0 5) 8 14 0 0 8)) (fun m1 =>
    some (m1))
theorem T_La_become_9_3 {Ln : Nat} {xs : Nat → Int32} {n : (Nat → Nat → Int32)} {lm : Nat → Int64} {d : Nat} (hd : 2 ≤ d) {m : (Nat → Nat → Int32)} {m1 : (Nat → Nat → Int32)} (h : F_La_become_9_3 m = some m1) : q_Ev (qXT Ln xs) d 14 (0, [some (.ref 11), some (.ref 3)], [], qMM m n lm) (none, qMM m1 n lm) := by
  unfold F_La_become_9_3 at h
  refine q_ev_run 65 (S' := (121, [some (.ref 11), some (.ref 3)], [.ref 11], qMM (q_cw (q_cw (q_cw (q_cw (q_w (q_w (q_w (q_w (q_w (q_w m 9 0 (m 3 0)) 9 1 (m 3 1)) 9 2 (m 3 2)) 9 3 (m 3 3)) 9 4 (m 3 4)) 9 5 (m 3 5)) 4 10 0 0 64) 6 12 0 0 8) 7 13 0 0 5) 8 14 0 0 8) n lm)) rfl ?_
  obtain ⟨m1, hf2, h⟩ := Option.bind_eq_some_iff.mp h
  try dsimp only at h
  refine q_ev_call (S' := (124, [some (.ref 11), some (.ref 3)], [], qMM (q_cw (q_cw (q_cw (q_cw (q_w (q_w (q_w (q_w (q_w (q_w m 9 0 (m 3 0)) 9 1 (m 3 1)) 9 2 (m 3 2)) 9 3 (m 3 3)) 9 4 (m 3 4)) 9 5 (m 3 5)) 4 10 0 0 64) 6 12 0 0 8) 7 13 0 0 5) 8 14 0 0 8) n lm)) rfl (by omega) (T_La_measureWays_9 (by first | omega | decide) hf2) ?_
  refine q_ev_eq (S' := (124, [some (.ref 11), some (.ref 3)], [], qMM m1 n lm)) rfl ?_
  have h_z0 := Option.some.inj h
  subst h_z0
  exact q_ev_ret rfl rfl
noncomputable def FL_Ar_fill_20_5 : Nat → (Nat → Nat → Int32) → Int32 → Int32 → Int32 → Option ((Nat → Nat → Int32))
  | 0, _, _, _, _ => none
  | fu + 1, m, x1, x2, x3 =>
    if x3 ≤ x2 then
      some (m)
    else
      cond (q_in x2 8) (FL_Ar_fill_20_5 fu (q_w m 20 x2.toNatClampNeg x1) x1 (x2 + 1) x3) none
theorem TL_Ar_fill_20_5 {Ln : Nat} {xs : Nat → Int32} {n : (Nat → Nat → Int32)} {lm : Nat → Int64} {d : Nat} (hd : 0 ≤ d) {r : Option Value × qM} : ∀ (fu : Nat) (m : (Nat → Nat → Int32)) (x1 : Int32) (x2 : Int32) (x3 : Int32)  (m1 : (Nat → Nat → Int32)), FL_Ar_fill_20_5 fu m x1 x2 x3 = some m1 → (∀ (u2 : Option Value), q_Ev (qXT Ln xs) d 170 (20, [some (.ref 22), some (.int x1), u2, some (.int x3)], [], qMM m1 n lm) r) → q_Ev (qXT Ln xs) d 170 (5, [some (.ref 22), some (.int x1), some (.int x2), some (.int x3)], [], qMM m n lm) r := by
  intro fu
  induction fu with
  | zero => intro m x1 x2 x3 m1 h hk; cases h
  | succ fu ih =>
    intro m x1 x2 x3 m1 h hk
    rw [FL_Ar_fill_20_5] at h
    refine q_ev_run 2 (S' := (7, [some (.ref 22), some (.int x1), some (.int x2), some (.int x3)], [.int x3, .int x2], qMM m n lm)) rfl ?_
    by_cases hc1 : x3 ≤ x2
    · rw [if_pos hc1] at h
      refine q_ev_brT hc1 (a := 20) (b := 10) rfl ?_
      have h_z0 := Option.some.inj h
      subst h_z0
      exact hk (some (.int x2))
    · rw [if_neg hc1] at h
      refine q_ev_brF hc1 (a := 20) (b := 10) rfl ?_
      refine q_ev_run 3 (S' := (13, [some (.ref 22), some (.int x1), some (.int x2), some (.int x3)], [.int x1, .int x2, .ref 22], qMM m n lm)) rfl ?_
      obtain ⟨hb2, h⟩ := q_cd h
      refine q_ev_chk (b := q_in x2 8) hb2 (S' := (14, [some (.ref 22), some (.int x1), some (.int x2), some (.int x3)], [], qMM (q_w m 20 x2.toNatClampNeg x1) n lm)) rfl ?_
      refine q_ev_run 2 (S' := (5, [some (.ref 22), some (.int x1), some (.int (x2 + 1)), some (.int x3)], [], qMM (q_w m 20 x2.toNatClampNeg x1) n lm)) rfl ?_
      exact ih (q_w m 20 x2.toNatClampNeg x1) x1 (x2 + 1) x3 _ h hk
noncomputable def F_Ar_fill_20 (m : (Nat → Nat → Int32)) (a1 : Int32) : Option ((Nat → Nat → Int32)) :=
  Option.bind (FL_Ar_fill_20_5 qFU m a1 0 8) (fun m2 =>
    some (m2))
theorem T_Ar_fill_20 {Ln : Nat} {xs : Nat → Int32} {n : (Nat → Nat → Int32)} {lm : Nat → Int64} {d : Nat} (hd : 0 ≤ d) {m : (Nat → Nat → Int32)} {a1 : Int32} {m1 : (Nat → Nat → Int32)} (h : F_Ar_fill_20 m a1 = some m1) : q_Ev (qXT Ln xs) d 170 (0, [some (.ref 22), some (.int a1), none, none], [], qMM m n lm) (none, qMM m1 n lm) := by
  unfold F_Ar_fill_20 at h
  refine q_ev_run 5 (S' := (5, [some (.ref 22), some (.int a1), some (.int 0), some (.int 8)], [], qMM m n lm)) rfl ?_
  obtain ⟨m2, hl3, h⟩ := Option.bind_eq_some_iff.mp h
  try dsimp only at h
  refine TL_Ar_fill_20_5 (by first | omega | decide) _ m a1 0 8 _ hl3 (fun w1 => ?_)
  have h_z0 := Option.some.inj h
  subst h_z0
  exact q_ev_ret rfl rfl
noncomputable def FL_Ar_fill_21_5 : Nat → (Nat → Nat → Int32) → Int32 → Int32 → Int32 → Option ((Nat → Nat → Int32))
  | 0, _, _, _, _ => none
  | fu + 1, m, x1, x2, x3 =>
    if x3 ≤ x2 then
      some (m)
    else
      cond (q_in x2 8) (FL_Ar_fill_21_5 fu (q_w m 21 x2.toNatClampNeg x1) x1 (x2 + 1) x3) none
theorem TL_Ar_fill_21_5 {Ln : Nat} {xs : Nat → Int32} {n : (Nat → Nat → Int32)} {lm : Nat → Int64} {d : Nat} (hd : 0 ≤ d) {r : Option Value × qM} : ∀ (fu : Nat) (m : (Nat → Nat → Int32)) (x1 : Int32) (x2 : Int32) (x3 : Int32)  (m1 : (Nat → Nat → Int32)), FL_Ar_fill_21_5 fu m x1 x2 x3 = some m1 → (∀ (u2 : Option Value), q_Ev (qXT Ln xs) d 170 (20, [some (.ref 23), some (.int x1), u2, some (.int x3)], [], qMM m1 n lm) r) → q_Ev (qXT Ln xs) d 170 (5, [some (.ref 23), some (.int x1), some (.int x2), some (.int x3)], [], qMM m n lm) r := by
  intro fu
  induction fu with
  | zero => intro m x1 x2 x3 m1 h hk; cases h
  | succ fu ih =>
    intro m x1 x2 x3 m1 h hk
    rw [FL_Ar_fill_21_5] at h
    refine q_ev_run 2 (S' := (7, [some (.ref 23), some (.int x1), some (.int x2), some (.int x3)], [.int x3, .int x2], qMM m n lm)) rfl ?_
    by_cases hc1 : x3 ≤ x2
    · rw [if_pos hc1] at h
      refine q_ev_brT hc1 (a := 20) (b := 10) rfl ?_
      have h_z0 := Option.some.inj h
      subst h_z0
      exact hk (some (.int x2))
    · rw [if_neg hc1] at h
      refine q_ev_brF hc1 (a := 20) (b := 10) rfl ?_
      refine q_ev_run 3 (S' := (13, [some (.ref 23), some (.int x1), some (.int x2), some (.int x3)], [.int x1, .int x2, .ref 23], qMM m n lm)) rfl ?_
      obtain ⟨hb2, h⟩ := q_cd h
      refine q_ev_chk (b := q_in x2 8) hb2 (S' := (14, [some (.ref 23), some (.int x1), some (.int x2), some (.int x3)], [], qMM (q_w m 21 x2.toNatClampNeg x1) n lm)) rfl ?_
      refine q_ev_run 2 (S' := (5, [some (.ref 23), some (.int x1), some (.int (x2 + 1)), some (.int x3)], [], qMM (q_w m 21 x2.toNatClampNeg x1) n lm)) rfl ?_
      exact ih (q_w m 21 x2.toNatClampNeg x1) x1 (x2 + 1) x3 _ h hk
noncomputable def F_Ar_fill_21 (m : (Nat → Nat → Int32)) (a1 : Int32) : Option ((Nat → Nat → Int32)) :=
  Option.bind (FL_Ar_fill_21_5 qFU m a1 0 8) (fun m2 =>
    some (m2))
theorem T_Ar_fill_21 {Ln : Nat} {xs : Nat → Int32} {n : (Nat → Nat → Int32)} {lm : Nat → Int64} {d : Nat} (hd : 0 ≤ d) {m : (Nat → Nat → Int32)} {a1 : Int32} {m1 : (Nat → Nat → Int32)} (h : F_Ar_fill_21 m a1 = some m1) : q_Ev (qXT Ln xs) d 170 (0, [some (.ref 23), some (.int a1), none, none], [], qMM m n lm) (none, qMM m1 n lm) := by
  unfold F_Ar_fill_21 at h
  refine q_ev_run 5 (S' := (5, [some (.ref 23), some (.int a1), some (.int 0), some (.int 8)], [], qMM m n lm)) rfl ?_
  obtain ⟨m2, hl3, h⟩ := Option.bind_eq_some_iff.mp h
  try dsimp only at h
  refine TL_Ar_fill_21_5 (by first | omega | decide) _ m a1 0 8 _ hl3 (fun w1 => ?_)
  have h_z0 := Option.some.inj h
  subst h_z0
  exact q_ev_ret rfl rfl
noncomputable def F_No_wipe_15 (m : (Nat → Nat → Int32)) : Option ((Nat → Nat → Int32)) :=
  Option.bind (F_Ar_fill_20 (q_w m 15 1 0) 0) (fun m1 =>
    Option.bind (F_Ar_fill_21 m1 (Int32.ofInt (-9))) (fun m3 =>
      some (m3)))
theorem T_No_wipe_15 {Ln : Nat} {xs : Nat → Int32} {n : (Nat → Nat → Int32)} {lm : Nat → Int64} {d : Nat} (hd : 1 ≤ d) {m : (Nat → Nat → Int32)} {m1 : (Nat → Nat → Int32)} (h : F_No_wipe_15 m = some m1) : q_Ev (qXT Ln xs) d 27 (0, [some (.ref 17)], [], qMM m n lm) (none, qMM m1 n lm) := by
  unfold F_No_wipe_15 at h
  refine q_ev_run 6 (S' := (10, [some (.ref 17)], [.int 0, .ref 22], qMM (q_w m 15 1 0) n lm)) rfl ?_
  obtain ⟨m1, hf2, h⟩ := Option.bind_eq_some_iff.mp h
  try dsimp only at h
  refine q_ev_call (S' := (13, [some (.ref 17)], [], qMM (q_w m 15 1 0) n lm)) rfl (by omega) (T_Ar_fill_20 (by first | omega | decide) hf2) ?_
  refine q_ev_eq (S' := (13, [some (.ref 17)], [], qMM m1 n lm)) rfl ?_
  refine q_ev_run 3 (S' := (19, [some (.ref 17)], [.int (Int32.ofInt (-9)), .ref 23], qMM m1 n lm)) rfl ?_
  obtain ⟨m3, hf4, h⟩ := Option.bind_eq_some_iff.mp h
  try dsimp only at h
  refine q_ev_call (S' := (22, [some (.ref 17)], [], qMM m1 n lm)) rfl (by omega) (T_Ar_fill_21 (by first | omega | decide) hf4) ?_
  refine q_ev_eq (S' := (22, [some (.ref 17)], [], qMM m3 n lm)) rfl ?_
  have h_z0 := Option.some.inj h
  subst h_z0
  exact q_ev_ret rfl rfl
noncomputable def F_La_wayBetween_9 (m : (Nat → Nat → Int32)) (a1 : Int32) (a2 : Int32) : Option (Int32) :=
  Option.bind (F_La_pair a1 a2) (fun r1 =>
    cond (q_in r1 64) (
      if 1000000 ≤ m 11 r1.toNatClampNeg then
        some ((Int32.ofInt (-9)))
      else
        some (m 11 r1.toNatClampNeg)
     ) none)
theorem T_La_wayBetween_9 {Ln : Nat} {xs : Nat → Int32} {n : (Nat → Nat → Int32)} {lm : Nat → Int64} {d : Nat} (hd : 1 ≤ d) {m : (Nat → Nat → Int32)} {a1 : Int32} {a2 : Int32} {rv : Int32} (h : F_La_wayBetween_9 m a1 a2 = some rv) : q_Ev (qXT Ln xs) d 21 (0, [some (.ref 11), some (.int a1), some (.int a2), none], [], qMM m n lm) (some (.int rv), qMM m n lm) := by
  unfold F_La_wayBetween_9 at h
  refine q_ev_run 4 (S' := (6, [some (.ref 11), some (.int a1), some (.int a2), none], [.int a2, .int a1, .ref 13], qMM m n lm)) rfl ?_
  obtain ⟨r1, hf2, h⟩ := Option.bind_eq_some_iff.mp h
  try dsimp only at h
  refine q_ev_call (S' := (9, [some (.ref 11), some (.int a1), some (.int a2), none], [.ref 13], qMM m n lm)) rfl (by omega) (T_La_pair (by first | omega | decide) hf2) ?_
  refine q_ev_eq (S' := (9, [some (.ref 11), some (.int a1), some (.int a2), none], [.int r1, .ref 13], qMM m n lm)) rfl ?_
  obtain ⟨hb3, h⟩ := q_cd h
  refine q_ev_chk (b := q_in r1 64) hb3 (S' := (10, [some (.ref 11), some (.int a1), some (.int a2), none], [.int (m 11 r1.toNatClampNeg)], qMM m n lm)) rfl ?_
  refine q_ev_run 3 (S' := (14, [some (.ref 11), some (.int a1), some (.int a2), some (.int (m 11 r1.toNatClampNeg))], [.int 1000000, .int (m 11 r1.toNatClampNeg)], qMM m n lm)) rfl ?_
  by_cases hc4 : 1000000 ≤ m 11 r1.toNatClampNeg
  · rw [if_pos hc4] at h
    refine q_ev_brT hc4 (a := 21) (b := 17) rfl ?_
    refine q_ev_run 1 (S' := (23, [some (.ref 11), some (.int a1), some (.int a2), some (.int (m 11 r1.toNatClampNeg))], [.int (Int32.ofInt (-9))], qMM m n lm)) rfl ?_
    have h_z0 := Option.some.inj h
    subst h_z0
    exact q_ev_ret rfl rfl
  · rw [if_neg hc4] at h
    refine q_ev_brF hc4 (a := 21) (b := 17) rfl ?_
    refine q_ev_run 2 (S' := (23, [some (.ref 11), some (.int a1), some (.int a2), some (.int (m 11 r1.toNatClampNeg))], [.int (m 11 r1.toNatClampNeg)], qMM m n lm)) rfl ?_
    have h_z0 := Option.some.inj h
    subst h_z0
    exact q_ev_ret rfl rfl
noncomputable def FL_Ru_stepTo_39_9_78 : Nat → (Nat → Nat → Int32) → Int32 → Int32 → Int32 → Int32 → Option (Int32)
  | 0, _, _, _, _, _ => none
  | fu + 1, m, x2, x4, x5, x6 =>
    if m 39 0 ≤ x6 then
      some (x5)
    else
      cond (q_in x6 8) (
        Option.bind (F_La_wayBetween_9 m (m 40 x6.toNatClampNeg) x2) (fun r3 =>
          if r3 = (Int32.ofInt (-9)) then
            FL_Ru_stepTo_39_9_78 fu m x2 x4 x5 (x6 + 1)
          else
            cond (q_in x6 8) (
              if (x4 - m 41 x6.toNatClampNeg) < r3 then
                FL_Ru_stepTo_39_9_78 fu m x2 x4 x5 (x6 + 1)
              else
                FL_Ru_stepTo_39_9_78 fu m x2 x4 (x5 ||| ((1 : Int32) <<< (x6 &&& 31))) (x6 + 1)
             ) none)
       ) none
theorem TL_Ru_stepTo_39_9_78 {Ln : Nat} {xs : Nat → Int32} {n : (Nat → Nat → Int32)} {lm : Nat → Int64} {d : Nat} (hd : 2 ≤ d) {r : Option Value × qM} : ∀ (fu : Nat) (m : (Nat → Nat → Int32)) (x2 : Int32) (x4 : Int32) (x5 : Int32) (x6 : Int32) (w3 : Option Value) (w7 : Option Value) (y5 : Int32), FL_Ru_stepTo_39_9_78 fu m x2 x4 x5 x6 = some y5 → (∀ (u3 u6 u7 : Option Value), q_Ev (qXT Ln xs) d 57 (138, [some (.ref 41), some (.ref 11), some (.int x2), u3, some (.int x4), some (.int y5), u6, u7], [], qMM m n lm) r) → q_Ev (qXT Ln xs) d 57 (78, [some (.ref 41), some (.ref 11), some (.int x2), w3, some (.int x4), some (.int x5), some (.int x6), w7], [], qMM m n lm) r := by
  intro fu
  induction fu with
  | zero => intro m x2 x4 x5 x6 w3 w7 y5 h hk; cases h
  | succ fu ih =>
    intro m x2 x4 x5 x6 w3 w7 y5 h hk
    rw [FL_Ru_stepTo_39_9_78] at h
    refine q_ev_run 3 (S' := (84, [some (.ref 41), some (.ref 11), some (.int x2), w3, some (.int x4), some (.int x5), some (.int x6), w7], [.int (m 39 0), .int x6], qMM m n lm)) rfl ?_
    by_cases hc1 : m 39 0 ≤ x6
    · rw [if_pos hc1] at h
      refine q_ev_brT hc1 (a := 138) (b := 87) rfl ?_
      have h_z0 := Option.some.inj h
      subst h_z0
      exact hk (w3) (some (.int x6)) (w7)
    · rw [if_neg hc1] at h
      refine q_ev_brF hc1 (a := 138) (b := 87) rfl ?_
      refine q_ev_run 4 (S' := (94, [some (.ref 41), some (.ref 11), some (.int x2), w3, some (.int x4), some (.int x5), some (.int x6), w7], [.int x6, .ref 42, .ref 11], qMM m n lm)) rfl ?_
      obtain ⟨hb2, h⟩ := q_cd h
      refine q_ev_chk (b := q_in x6 8) hb2 (S' := (95, [some (.ref 41), some (.ref 11), some (.int x2), w3, some (.int x4), some (.int x5), some (.int x6), w7], [.int (m 40 x6.toNatClampNeg), .ref 11], qMM m n lm)) rfl ?_
      refine q_ev_run 1 (S' := (96, [some (.ref 41), some (.ref 11), some (.int x2), w3, some (.int x4), some (.int x5), some (.int x6), w7], [.int x2, .int (m 40 x6.toNatClampNeg), .ref 11], qMM m n lm)) rfl ?_
      obtain ⟨r3, hf4, h⟩ := Option.bind_eq_some_iff.mp h
      try dsimp only at h
      refine q_ev_call (S' := (99, [some (.ref 41), some (.ref 11), some (.int x2), w3, some (.int x4), some (.int x5), some (.int x6), w7], [], qMM m n lm)) rfl (by omega) (T_La_wayBetween_9 (by first | omega | decide) hf4) ?_
      refine q_ev_eq (S' := (99, [some (.ref 41), some (.ref 11), some (.int x2), w3, some (.int x4), some (.int x5), some (.int x6), w7], [.int r3], qMM m n lm)) rfl ?_
      refine q_ev_run 3 (S' := (105, [some (.ref 41), some (.ref 11), some (.int x2), w3, some (.int x4), some (.int x5), some (.int x6), some (.int r3)], [.int (Int32.ofInt (-9)), .int r3], qMM m n lm)) rfl ?_
      by_cases hc5 : r3 = (Int32.ofInt (-9))
      · rw [if_pos hc5] at h
        refine q_ev_brT hc5 (a := 132) (b := 108) rfl ?_
        refine q_ev_run 2 (S' := (78, [some (.ref 41), some (.ref 11), some (.int x2), w3, some (.int x4), some (.int x5), some (.int (x6 + 1)), some (.int r3)], [], qMM m n lm)) rfl ?_
        exact ih m x2 x4 x5 (x6 + 1) (w3) (some (.int r3)) _ h hk
      · rw [if_neg hc5] at h
        refine q_ev_brF hc5 (a := 132) (b := 108) rfl ?_
        refine q_ev_run 5 (S' := (118, [some (.ref 41), some (.ref 11), some (.int x2), w3, some (.int x4), some (.int x5), some (.int x6), some (.int r3)], [.int x6, .ref 43, .int x4, .int r3], qMM m n lm)) rfl ?_
        obtain ⟨hb6, h⟩ := q_cd h
        refine q_ev_chk (b := q_in x6 8) hb6 (S' := (119, [some (.ref 41), some (.ref 11), some (.int x2), w3, some (.int x4), some (.int x5), some (.int x6), some (.int r3)], [.int (m 41 x6.toNatClampNeg), .int x4, .int r3], qMM m n lm)) rfl ?_
        refine q_ev_run 1 (S' := (120, [some (.ref 41), some (.ref 11), some (.int x2), w3, some (.int x4), some (.int x5), some (.int x6), some (.int r3)], [.int (x4 - m 41 x6.toNatClampNeg), .int r3], qMM m n lm)) rfl ?_
        by_cases hc7 : (x4 - m 41 x6.toNatClampNeg) < r3
        · rw [if_pos hc7] at h
          refine q_ev_brT hc7 (a := 132) (b := 123) rfl ?_
          refine q_ev_run 2 (S' := (78, [some (.ref 41), some (.ref 11), some (.int x2), w3, some (.int x4), some (.int x5), some (.int (x6 + 1)), some (.int r3)], [], qMM m n lm)) rfl ?_
          exact ih m x2 x4 x5 (x6 + 1) (w3) (some (.int r3)) _ h hk
        · rw [if_neg hc7] at h
          refine q_ev_brF hc7 (a := 132) (b := 123) rfl ?_
          refine q_ev_run 8 (S' := (78, [some (.ref 41), some (.ref 11), some (.int x2), w3, some (.int x4), some (.int (x5 ||| ((1 : Int32) <<< (x6 &&& 31)))), some (.int (x6 + 1)), some (.int r3)], [], qMM m n lm)) rfl ?_
          exact ih m x2 x4 (x5 ||| ((1 : Int32) <<< (x6 &&& 31))) (x6 + 1) (w3) (some (.int r3)) _ h hk
noncomputable def F_La_furrowBetween_9 (m : (Nat → Nat → Int32)) (a1 : Int32) (a2 : Int32) : Option (Int32) :=
  Option.bind (F_La_pair a1 a2) (fun r1 =>
    cond (q_in r1 64) (some (m 10 r1.toNatClampNeg)) none)
theorem T_La_furrowBetween_9 {Ln : Nat} {xs : Nat → Int32} {n : (Nat → Nat → Int32)} {lm : Nat → Int64} {d : Nat} (hd : 1 ≤ d) {m : (Nat → Nat → Int32)} {a1 : Int32} {a2 : Int32} {rv : Int32} (h : F_La_furrowBetween_9 m a1 a2 = some rv) : q_Ev (qXT Ln xs) d 18 (0, [some (.ref 11), some (.int a1), some (.int a2)], [], qMM m n lm) (some (.int rv), qMM m n lm) := by
  unfold F_La_furrowBetween_9 at h
  refine q_ev_run 4 (S' := (6, [some (.ref 11), some (.int a1), some (.int a2)], [.int a2, .int a1, .ref 12], qMM m n lm)) rfl ?_
  obtain ⟨r1, hf2, h⟩ := Option.bind_eq_some_iff.mp h
  try dsimp only at h
  refine q_ev_call (S' := (9, [some (.ref 11), some (.int a1), some (.int a2)], [.ref 12], qMM m n lm)) rfl (by omega) (T_La_pair (by first | omega | decide) hf2) ?_
  refine q_ev_eq (S' := (9, [some (.ref 11), some (.int a1), some (.int a2)], [.int r1, .ref 12], qMM m n lm)) rfl ?_
  obtain ⟨hb3, h⟩ := q_cd h
  refine q_ev_chk (b := q_in r1 64) hb3 (S' := (10, [some (.ref 11), some (.int a1), some (.int a2)], [.int (m 10 r1.toNatClampNeg)], qMM m n lm)) rfl ?_
  have h_z0 := Option.some.inj h
  subst h_z0
  exact q_ev_ret rfl rfl
noncomputable def F_Ru_stepTo_39_9 (m : (Nat → Nat → Int32)) (a2 : Int32) (a3 : Int32) : Option ((Nat → Nat → Int32)) :=
  if m 39 0 < 8 then
    if m 39 0 ≤ 0 then
      Option.bind (FL_Ru_stepTo_39_9_78 qFU m a2 0 0 0) (fun y4 =>
        cond (q_in (m 39 0) 8) (cond (q_in (m 39 0) 8) (cond (q_in (m 39 0) 8) (some ((q_w (q_w (q_w (q_w m 40 (m 39 0).toNatClampNeg a2) 41 (m 39 0).toNatClampNeg 0) 42 (m 39 0).toNatClampNeg y4) 39 0 (m 39 0 + 1)))) none) none) none)
    else
      cond (q_in (m 39 0 - 1) 8) (
        Option.bind (F_La_furrowBetween_9 m (m 40 ((m 39 0 - 1)).toNatClampNeg) a2) (fun r12 =>
          cond (q_in (m 39 0 - 1) 8) (
            Option.bind (FL_Ru_stepTo_39_9_78 qFU m a2 (((m 41 ((m 39 0 - 1)).toNatClampNeg + a3) + r12) + (m 9 4 * (m 39 0 - 1))) 0 0) (fun y16 =>
              cond (q_in (m 39 0) 8) (cond (q_in (m 39 0) 8) (cond (q_in (m 39 0) 8) (some ((q_w (q_w (q_w (q_w m 40 (m 39 0).toNatClampNeg a2) 41 (m 39 0).toNatClampNeg (((m 41 ((m 39 0 - 1)).toNatClampNeg + a3) + r12) + (m 9 4 * (m 39 0 - 1)))) 42 (m 39 0).toNatClampNeg y16) 39 0 (m 39 0 + 1)))) none) none) none)
           ) none)
       ) none
  else
    some (m)
theorem T_Ru_stepTo_39_9 {Ln : Nat} {xs : Nat → Int32} {n : (Nat → Nat → Int32)} {lm : Nat → Int64} {d : Nat} (hd : 2 ≤ d) {m : (Nat → Nat → Int32)} {a2 : Int32} {a3 : Int32} {m1 : (Nat → Nat → Int32)} (h : F_Ru_stepTo_39_9 m a2 a3 = some m1) : q_Ev (qXT Ln xs) d 57 (0, [some (.ref 41), some (.ref 11), some (.int a2), some (.int a3), none, none, none, none], [], qMM m n lm) (none, qMM m1 n lm) := by
  unfold F_Ru_stepTo_39_9 at h
  refine q_ev_run 3 (S' := (6, [some (.ref 41), some (.ref 11), some (.int a2), some (.int a3), none, none, none, none], [.int 8, .int (m 39 0)], qMM m n lm)) rfl ?_
  by_cases hc1 : m 39 0 < 8
  · rw [if_pos hc1] at h
    refine q_ev_brT hc1 (a := 10) (b := 9) rfl ?_
    refine q_ev_run 4 (S' := (17, [some (.ref 41), some (.ref 11), some (.int a2), some (.int a3), some (.int 0), none, none, none], [.int (m 39 0)], qMM m n lm)) rfl ?_
    by_cases hc2 : m 39 0 ≤ 0
    · rw [if_pos hc2] at h
      refine q_ev_brT hc2 (a := 72) (b := 20) rfl ?_
      refine q_ev_run 4 (S' := (78, [some (.ref 41), some (.ref 11), some (.int a2), some (.int a3), some (.int 0), some (.int 0), some (.int 0), none], [], qMM m n lm)) rfl ?_
      obtain ⟨y4, hl7, h⟩ := Option.bind_eq_some_iff.mp h
      try dsimp only at h
      refine TL_Ru_stepTo_39_9_78 (by first | omega | decide) _ m a2 0 0 0 (some (.int a3)) (none) _ hl7 (fun w3 w5 w6 => ?_)
      refine q_ev_run 5 (S' := (147, [some (.ref 41), some (.ref 11), some (.int a2), w3, some (.int 0), some (.int y4), w5, w6], [.int a2, .int (m 39 0), .ref 42], qMM m n lm)) rfl ?_
      obtain ⟨hb8, h⟩ := q_cd h
      refine q_ev_chk (b := q_in (m 39 0) 8) hb8 (S' := (148, [some (.ref 41), some (.ref 11), some (.int a2), w3, some (.int 0), some (.int y4), w5, w6], [], qMM (q_w m 40 (m 39 0).toNatClampNeg a2) n lm)) rfl ?_
      refine q_ev_run 5 (S' := (158, [some (.ref 41), some (.ref 11), some (.int a2), w3, some (.int 0), some (.int y4), w5, w6], [.int 0, .int (m 39 0), .ref 43], qMM (q_w m 40 (m 39 0).toNatClampNeg a2) n lm)) rfl ?_
      obtain ⟨hb9, h⟩ := q_cd h
      refine q_ev_chk (b := q_in (m 39 0) 8) hb9 (S' := (159, [some (.ref 41), some (.ref 11), some (.int a2), w3, some (.int 0), some (.int y4), w5, w6], [], qMM (q_w (q_w m 40 (m 39 0).toNatClampNeg a2) 41 (m 39 0).toNatClampNeg 0) n lm)) rfl ?_
      refine q_ev_run 5 (S' := (169, [some (.ref 41), some (.ref 11), some (.int a2), w3, some (.int 0), some (.int y4), w5, w6], [.int y4, .int (m 39 0), .ref 44], qMM (q_w (q_w m 40 (m 39 0).toNatClampNeg a2) 41 (m 39 0).toNatClampNeg 0) n lm)) rfl ?_
      obtain ⟨hb10, h⟩ := q_cd h
      refine q_ev_chk (b := q_in (m 39 0) 8) hb10 (S' := (170, [some (.ref 41), some (.ref 11), some (.int a2), w3, some (.int 0), some (.int y4), w5, w6], [], qMM (q_w (q_w (q_w m 40 (m 39 0).toNatClampNeg a2) 41 (m 39 0).toNatClampNeg 0) 42 (m 39 0).toNatClampNeg y4) n lm)) rfl ?_
      refine q_ev_run 6 (S' := (180, [some (.ref 41), some (.ref 11), some (.int a2), w3, some (.int 0), some (.int y4), w5, w6], [], qMM (q_w (q_w (q_w (q_w m 40 (m 39 0).toNatClampNeg a2) 41 (m 39 0).toNatClampNeg 0) 42 (m 39 0).toNatClampNeg y4) 39 0 (m 39 0 + 1)) n lm)) rfl ?_
      have h_z0 := Option.some.inj h
      subst h_z0
      exact q_ev_ret rfl rfl
    · rw [if_neg hc2] at h
      refine q_ev_brF hc2 (a := 72) (b := 20) rfl ?_
      refine q_ev_run 12 (S' := (39, [some (.ref 41), some (.ref 11), some (.int a2), some (.int a3), some (.int 0), some (.int (m 39 0 - 1)), none, none], [.int (m 39 0 - 1), .ref 42, .ref 11], qMM m n lm)) rfl ?_
      obtain ⟨hb11, h⟩ := q_cd h
      refine q_ev_chk (b := q_in (m 39 0 - 1) 8) hb11 (S' := (40, [some (.ref 41), some (.ref 11), some (.int a2), some (.int a3), some (.int 0), some (.int (m 39 0 - 1)), none, none], [.int (m 40 ((m 39 0 - 1)).toNatClampNeg), .ref 11], qMM m n lm)) rfl ?_
      refine q_ev_run 1 (S' := (41, [some (.ref 41), some (.ref 11), some (.int a2), some (.int a3), some (.int 0), some (.int (m 39 0 - 1)), none, none], [.int a2, .int (m 40 ((m 39 0 - 1)).toNatClampNeg), .ref 11], qMM m n lm)) rfl ?_
      obtain ⟨r12, hf13, h⟩ := Option.bind_eq_some_iff.mp h
      try dsimp only at h
      refine q_ev_call (S' := (44, [some (.ref 41), some (.ref 11), some (.int a2), some (.int a3), some (.int 0), some (.int (m 39 0 - 1)), none, none], [], qMM m n lm)) rfl (by omega) (T_La_furrowBetween_9 (by first | omega | decide) hf13) ?_
      refine q_ev_eq (S' := (44, [some (.ref 41), some (.ref 11), some (.int a2), some (.int a3), some (.int 0), some (.int (m 39 0 - 1)), none, none], [.int r12], qMM m n lm)) rfl ?_
      refine q_ev_run 7 (S' := (56, [some (.ref 41), some (.ref 11), some (.int a2), some (.int a3), some (.int 0), some (.int (m 39 0 - 1)), some (.int r12), none], [.int (m 39 0 - 1), .ref 43], qMM m n lm)) rfl ?_
      obtain ⟨hb14, h⟩ := q_cd h
      refine q_ev_chk (b := q_in (m 39 0 - 1) 8) hb14 (S' := (57, [some (.ref 41), some (.ref 11), some (.int a2), some (.int a3), some (.int 0), some (.int (m 39 0 - 1)), some (.int r12), none], [.int (m 41 ((m 39 0 - 1)).toNatClampNeg)], qMM m n lm)) rfl ?_
      refine q_ev_run 14 (S' := (78, [some (.ref 41), some (.ref 11), some (.int a2), some (.int a3), some (.int (((m 41 ((m 39 0 - 1)).toNatClampNeg + a3) + r12) + (m 9 4 * (m 39 0 - 1)))), some (.int 0), some (.int 0), none], [], qMM m n lm)) rfl ?_
      obtain ⟨y16, hl19, h⟩ := Option.bind_eq_some_iff.mp h
      try dsimp only at h
      refine TL_Ru_stepTo_39_9_78 (by first | omega | decide) _ m a2 (((m 41 ((m 39 0 - 1)).toNatClampNeg + a3) + r12) + (m 9 4 * (m 39 0 - 1))) 0 0 (some (.int a3)) (none) _ hl19 (fun w15 w17 w18 => ?_)
      refine q_ev_run 5 (S' := (147, [some (.ref 41), some (.ref 11), some (.int a2), w15, some (.int (((m 41 ((m 39 0 - 1)).toNatClampNeg + a3) + r12) + (m 9 4 * (m 39 0 - 1)))), some (.int y16), w17, w18], [.int a2, .int (m 39 0), .ref 42], qMM m n lm)) rfl ?_
      obtain ⟨hb20, h⟩ := q_cd h
      refine q_ev_chk (b := q_in (m 39 0) 8) hb20 (S' := (148, [some (.ref 41), some (.ref 11), some (.int a2), w15, some (.int (((m 41 ((m 39 0 - 1)).toNatClampNeg + a3) + r12) + (m 9 4 * (m 39 0 - 1)))), some (.int y16), w17, w18], [], qMM (q_w m 40 (m 39 0).toNatClampNeg a2) n lm)) rfl ?_
      refine q_ev_run 5 (S' := (158, [some (.ref 41), some (.ref 11), some (.int a2), w15, some (.int (((m 41 ((m 39 0 - 1)).toNatClampNeg + a3) + r12) + (m 9 4 * (m 39 0 - 1)))), some (.int y16), w17, w18], [.int (((m 41 ((m 39 0 - 1)).toNatClampNeg + a3) + r12) + (m 9 4 * (m 39 0 - 1))), .int (m 39 0), .ref 43], qMM (q_w m 40 (m 39 0).toNatClampNeg a2) n lm)) rfl ?_
      obtain ⟨hb21, h⟩ := q_cd h
      refine q_ev_chk (b := q_in (m 39 0) 8) hb21 (S' := (159, [some (.ref 41), some (.ref 11), some (.int a2), w15, some (.int (((m 41 ((m 39 0 - 1)).toNatClampNeg + a3) + r12) + (m 9 4 * (m 39 0 - 1)))), some (.int y16), w17, w18], [], qMM (q_w (q_w m 40 (m 39 0).toNatClampNeg a2) 41 (m 39 0).toNatClampNeg (((m 41 ((m 39 0 - 1)).toNatClampNeg + a3) + r12) + (m 9 4 * (m 39 0 - 1)))) n lm)) rfl ?_
      refine q_ev_run 5 (S' := (169, [some (.ref 41), some (.ref 11), some (.int a2), w15, some (.int (((m 41 ((m 39 0 - 1)).toNatClampNeg + a3) + r12) + (m 9 4 * (m 39 0 - 1)))), some (.int y16), w17, w18], [.int y16, .int (m 39 0), .ref 44], qMM (q_w (q_w m 40 (m 39 0).toNatClampNeg a2) 41 (m 39 0).toNatClampNeg (((m 41 ((m 39 0 - 1)).toNatClampNeg + a3) + r12) + (m 9 4 * (m 39 0 - 1)))) n lm)) rfl ?_
      obtain ⟨hb22, h⟩ := q_cd h
      refine q_ev_chk (b := q_in (m 39 0) 8) hb22 (S' := (170, [some (.ref 41), some (.ref 11), some (.int a2), w15, some (.int (((m 41 ((m 39 0 - 1)).toNatClampNeg + a3) + r12) + (m 9 4 * (m 39 0 - 1)))), some (.int y16), w17, w18], [], qMM (q_w (q_w (q_w m 40 (m 39 0).toNatClampNeg a2) 41 (m 39 0).toNatClampNeg (((m 41 ((m 39 0 - 1)).toNatClampNeg + a3) + r12) + (m 9 4 * (m 39 0 - 1)))) 42 (m 39 0).toNatClampNeg y16) n lm)) rfl ?_
      refine q_ev_run 6 (S' := (180, [some (.ref 41), some (.ref 11), some (.int a2), w15, some (.int (((m 41 ((m 39 0 - 1)).toNatClampNeg + a3) + r12) + (m 9 4 * (m 39 0 - 1)))), some (.int y16), w17, w18], [], qMM (q_w (q_w (q_w (q_w m 40 (m 39 0).toNatClampNeg a2) 41 (m 39 0).toNatClampNeg (((m 41 ((m 39 0 - 1)).toNatClampNeg + a3) + r12) + (m 9 4 * (m 39 0 - 1)))) 42 (m 39 0).toNatClampNeg y16) 39 0 (m 39 0 + 1)) n lm)) rfl ?_
      have h_z0 := Option.some.inj h
      subst h_z0
      exact q_ev_ret rfl rfl
  · rw [if_neg hc1] at h
    refine q_ev_brF hc1 (a := 10) (b := 9) rfl ?_
    have h_z0 := Option.some.inj h
    subst h_z0
    exact q_ev_ret rfl rfl
noncomputable def FL_Ru_follow_39_9_20_7 : Nat → (Nat → Nat → Int32) → Int32 → Option ((Nat → Nat → Int32))
  | 0, _, _ => none
  | fu + 1, m, x3 =>
    if m 9 2 ≤ x3 then
      some (m)
    else
      cond (q_in x3 8) (
        if x3 ≤ 0 then
          Option.bind (F_Ru_stepTo_39_9 m (m 14 x3.toNatClampNeg) 0) (fun m4 =>
            FL_Ru_follow_39_9_20_7 fu m4 (x3 + 1))
        else
          cond (q_in (x3 - 1) 8) (
            Option.bind (F_Ru_stepTo_39_9 m (m 14 x3.toNatClampNeg) (m 20 ((x3 - 1)).toNatClampNeg)) (fun m7 =>
              FL_Ru_follow_39_9_20_7 fu m7 (x3 + 1))
           ) none
       ) none
theorem TL_Ru_follow_39_9_20_7 {Ln : Nat} {xs : Nat → Int32} {n : (Nat → Nat → Int32)} {lm : Nat → Int64} {d : Nat} (hd : 3 ≤ d) {r : Option Value × qM} : ∀ (fu : Nat) (m : (Nat → Nat → Int32)) (x3 : Int32)  (m1 : (Nat → Nat → Int32)), FL_Ru_follow_39_9_20_7 fu m x3 = some m1 → (∀ (u3 : Option Value), q_Ev (qXT Ln xs) d 56 (45, [some (.ref 41), some (.ref 11), some (.ref 22), u3], [], qMM m1 n lm) r) → q_Ev (qXT Ln xs) d 56 (7, [some (.ref 41), some (.ref 11), some (.ref 22), some (.int x3)], [], qMM m n lm) r := by
  intro fu
  induction fu with
  | zero => intro m x3 m1 h hk; cases h
  | succ fu ih =>
    intro m x3 m1 h hk
    rw [FL_Ru_follow_39_9_20_7] at h
    refine q_ev_run 3 (S' := (12, [some (.ref 41), some (.ref 11), some (.ref 22), some (.int x3)], [.int (m 9 2), .int x3], qMM m n lm)) rfl ?_
    by_cases hc1 : m 9 2 ≤ x3
    · rw [if_pos hc1] at h
      refine q_ev_brT hc1 (a := 45) (b := 15) rfl ?_
      have h_z0 := Option.some.inj h
      subst h_z0
      exact hk (some (.int x3))
    · rw [if_neg hc1] at h
      refine q_ev_brF hc1 (a := 45) (b := 15) rfl ?_
      refine q_ev_run 5 (S' := (22, [some (.ref 41), some (.ref 11), some (.ref 22), some (.int x3)], [.int x3, .ref 16, .ref 11, .ref 41], qMM m n lm)) rfl ?_
      obtain ⟨hb2, h⟩ := q_cd h
      refine q_ev_chk (b := q_in x3 8) hb2 (S' := (23, [some (.ref 41), some (.ref 11), some (.ref 22), some (.int x3)], [.int (m 14 x3.toNatClampNeg), .ref 11, .ref 41], qMM m n lm)) rfl ?_
      refine q_ev_run 1 (S' := (24, [some (.ref 41), some (.ref 11), some (.ref 22), some (.int x3)], [.int x3, .int (m 14 x3.toNatClampNeg), .ref 11, .ref 41], qMM m n lm)) rfl ?_
      by_cases hc3 : x3 ≤ 0
      · rw [if_pos hc3] at h
        refine q_ev_brT hc3 (a := 35) (b := 27) rfl ?_
        refine q_ev_run 1 (S' := (36, [some (.ref 41), some (.ref 11), some (.ref 22), some (.int x3)], [.int 0, .int (m 14 x3.toNatClampNeg), .ref 11, .ref 41], qMM m n lm)) rfl ?_
        obtain ⟨m4, hf5, h⟩ := Option.bind_eq_some_iff.mp h
        try dsimp only at h
        refine q_ev_call (S' := (39, [some (.ref 41), some (.ref 11), some (.ref 22), some (.int x3)], [], qMM m n lm)) rfl (by omega) (T_Ru_stepTo_39_9 (by first | omega | decide) hf5) ?_
        refine q_ev_eq (S' := (39, [some (.ref 41), some (.ref 11), some (.ref 22), some (.int x3)], [], qMM m4 n lm)) rfl ?_
        refine q_ev_run 2 (S' := (7, [some (.ref 41), some (.ref 11), some (.ref 22), some (.int (x3 + 1))], [], qMM m4 n lm)) rfl ?_
        exact ih m4 (x3 + 1) _ h hk
      · rw [if_neg hc3] at h
        refine q_ev_brF hc3 (a := 35) (b := 27) rfl ?_
        refine q_ev_run 4 (S' := (31, [some (.ref 41), some (.ref 11), some (.ref 22), some (.int x3)], [.int (x3 - 1), .ref 22, .int (m 14 x3.toNatClampNeg), .ref 11, .ref 41], qMM m n lm)) rfl ?_
        obtain ⟨hb6, h⟩ := q_cd h
        refine q_ev_chk (b := q_in (x3 - 1) 8) hb6 (S' := (32, [some (.ref 41), some (.ref 11), some (.ref 22), some (.int x3)], [.int (m 20 ((x3 - 1)).toNatClampNeg), .int (m 14 x3.toNatClampNeg), .ref 11, .ref 41], qMM m n lm)) rfl ?_
        refine q_ev_run 1 (S' := (36, [some (.ref 41), some (.ref 11), some (.ref 22), some (.int x3)], [.int (m 20 ((x3 - 1)).toNatClampNeg), .int (m 14 x3.toNatClampNeg), .ref 11, .ref 41], qMM m n lm)) rfl ?_
        obtain ⟨m7, hf8, h⟩ := Option.bind_eq_some_iff.mp h
        try dsimp only at h
        refine q_ev_call (S' := (39, [some (.ref 41), some (.ref 11), some (.ref 22), some (.int x3)], [], qMM m n lm)) rfl (by omega) (T_Ru_stepTo_39_9 (by first | omega | decide) hf8) ?_
        refine q_ev_eq (S' := (39, [some (.ref 41), some (.ref 11), some (.ref 22), some (.int x3)], [], qMM m7 n lm)) rfl ?_
        refine q_ev_run 2 (S' := (7, [some (.ref 41), some (.ref 11), some (.ref 22), some (.int (x3 + 1))], [], qMM m7 n lm)) rfl ?_
        exact ih m7 (x3 + 1) _ h hk
noncomputable def F_Ru_follow_39_9_20 (m : (Nat → Nat → Int32)) : Option ((Nat → Nat → Int32)) :=
  Option.bind (FL_Ru_follow_39_9_20_7 qFU (q_w m 39 0 0) 0) (fun m2 =>
    some (m2))
theorem T_Ru_follow_39_9_20 {Ln : Nat} {xs : Nat → Int32} {n : (Nat → Nat → Int32)} {lm : Nat → Int64} {d : Nat} (hd : 3 ≤ d) {m : (Nat → Nat → Int32)} {m1 : (Nat → Nat → Int32)} (h : F_Ru_follow_39_9_20 m = some m1) : q_Ev (qXT Ln xs) d 56 (0, [some (.ref 41), some (.ref 11), some (.ref 22), none], [], qMM m n lm) (none, qMM m1 n lm) := by
  unfold F_Ru_follow_39_9_20 at h
  refine q_ev_run 5 (S' := (7, [some (.ref 41), some (.ref 11), some (.ref 22), some (.int 0)], [], qMM (q_w m 39 0 0) n lm)) rfl ?_
  obtain ⟨m2, hl3, h⟩ := Option.bind_eq_some_iff.mp h
  try dsimp only at h
  refine TL_Ru_follow_39_9_20_7 (by first | omega | decide) _ (q_w m 39 0 0) 0 _ hl3 (fun w1 => ?_)
  have h_z0 := Option.some.inj h
  subst h_z0
  exact q_ev_ret rfl rfl
noncomputable def F_AT_furrows (m : (Nat → Nat → Int32)) : Option (Int32 × (Nat → Nat → Int32)) :=
  Option.bind (F_Re_readAll_1 m) (fun (r1, m2) =>
    if 0 ≤ r1 then
      Option.bind (F_La_become_9_3 (q_w m2 1 1 0)) (fun m5 =>
        Option.bind (F_No_wipe_15 m5) (fun m7 =>
          Option.bind (F_Ru_follow_39_9_20 (q_w (q_w (q_w m7 22 0 0) 29 0 0) 36 0 0)) (fun m9 =>
            some (r1, m9))))
    else
      some (r1, m2))
theorem T_AT_furrows {Ln : Nat} {xs : Nat → Int32} {n : (Nat → Nat → Int32)} {lm : Nat → Int64} {d : Nat} (hd : 7 ≤ d) {m : (Nat → Nat → Int32)} {rv : Int32} {m1 : (Nat → Nat → Int32)} (h : F_AT_furrows m = some (rv, m1)) : q_Ev (qXT Ln xs) d 70 (0, [some (.ref 0), none], [], qMM m n lm) (some (.int rv), qMM m1 n lm) := by
  unfold F_AT_furrows at h
  refine q_ev_run 2 (S' := (4, [some (.ref 0), none], [.ref 1], qMM m n lm)) rfl ?_
  obtain ⟨⟨r1, m2⟩, hf3, h⟩ := Option.bind_eq_some_iff.mp h
  try dsimp only at h
  refine q_ev_call (S' := (7, [some (.ref 0), none], [], qMM m n lm)) rfl (by omega) (T_Re_readAll_1 (by first | omega | decide) hf3) ?_
  refine q_ev_eq (S' := (7, [some (.ref 0), none], [.int r1], qMM m2 n lm)) rfl ?_
  refine q_ev_run 2 (S' := (9, [some (.ref 0), some (.int r1)], [.int r1], qMM m2 n lm)) rfl ?_
  by_cases hc4 : 0 ≤ r1
  · rw [if_pos hc4] at h
    refine q_ev_brT hc4 (a := 14) (b := 12) rfl ?_
    refine q_ev_run 9 (S' := (33, [some (.ref 0), some (.int r1)], [.ref 3, .ref 11], qMM (q_w m2 1 1 0) n lm)) rfl ?_
    obtain ⟨m5, hf6, h⟩ := Option.bind_eq_some_iff.mp h
    try dsimp only at h
    refine q_ev_call (S' := (36, [some (.ref 0), some (.int r1)], [], qMM (q_w m2 1 1 0) n lm)) rfl (by omega) (T_La_become_9_3 (by first | omega | decide) hf6) ?_
    refine q_ev_eq (S' := (36, [some (.ref 0), some (.int r1)], [], qMM m5 n lm)) rfl ?_
    refine q_ev_run 2 (S' := (40, [some (.ref 0), some (.int r1)], [.ref 17], qMM m5 n lm)) rfl ?_
    obtain ⟨m7, hf8, h⟩ := Option.bind_eq_some_iff.mp h
    try dsimp only at h
    refine q_ev_call (S' := (43, [some (.ref 0), some (.int r1)], [], qMM m5 n lm)) rfl (by omega) (T_No_wipe_15 (by first | omega | decide) hf8) ?_
    refine q_ev_eq (S' := (43, [some (.ref 0), some (.int r1)], [], qMM m7 n lm)) rfl ?_
    refine q_ev_run 19 (S' := (82, [some (.ref 0), some (.int r1)], [.ref 22, .ref 11, .ref 41], qMM (q_w (q_w (q_w m7 22 0 0) 29 0 0) 36 0 0) n lm)) rfl ?_
    obtain ⟨m9, hf10, h⟩ := Option.bind_eq_some_iff.mp h
    try dsimp only at h
    refine q_ev_call (S' := (85, [some (.ref 0), some (.int r1)], [], qMM (q_w (q_w (q_w m7 22 0 0) 29 0 0) 36 0 0) n lm)) rfl (by omega) (T_Ru_follow_39_9_20 (by first | omega | decide) hf10) ?_
    refine q_ev_eq (S' := (85, [some (.ref 0), some (.int r1)], [], qMM m9 n lm)) rfl ?_
    refine q_ev_run 1 (S' := (86, [some (.ref 0), some (.int r1)], [.int r1], qMM m9 n lm)) rfl ?_
    have h_z0 := Option.some.inj h
    obtain ⟨h_0, h_z1⟩ := Prod.mk.inj h_z0
    subst h_0
    subst h_z1
    exact q_ev_ret rfl rfl
  · rw [if_neg hc4] at h
    refine q_ev_brF hc4 (a := 14) (b := 12) rfl ?_
    refine q_ev_run 1 (S' := (13, [some (.ref 0), some (.int r1)], [.int r1], qMM m2 n lm)) rfl ?_
    have h_z0 := Option.some.inj h
    obtain ⟨h_0, h_z1⟩ := Prod.mk.inj h_z0
    subst h_0
    subst h_z1
    exact q_ev_ret rfl rfl
noncomputable def FL_Mo_reads_2 : Nat → (Nat → Nat → Int32) → Int32 → Option ((Nat → Nat → Int32))
  | 0, _, _ => none
  | fu + 1, m, x1 =>
    if 93 ≤ x1 then
      some (m)
    else
      cond (q_in x1 93) (FL_Mo_reads_2 fu (q_w m 59 x1.toNatClampNeg 0) (x1 + 1)) none
theorem TL_Mo_reads_2 {Ln : Nat} {xs : Nat → Int32} {n : (Nat → Nat → Int32)} {lm : Nat → Int64} {d : Nat} (hd : 0 ≤ d) {r : Option Value × qM} : ∀ (fu : Nat) (m : (Nat → Nat → Int32)) (x1 : Int32)  (m1 : (Nat → Nat → Int32)), FL_Mo_reads_2 fu m x1 = some m1 → (∀ (u1 : Option Value), q_Ev (qXT Ln xs) d 124 (21, [some (.ref 58), u1], [], qMM n m1 lm) r) → q_Ev (qXT Ln xs) d 124 (2, [some (.ref 58), some (.int x1)], [], qMM n m lm) r := by
  intro fu
  induction fu with
  | zero => intro m x1 m1 h hk; cases h
  | succ fu ih =>
    intro m x1 m1 h hk
    rw [FL_Mo_reads_2] at h
    refine q_ev_run 2 (S' := (5, [some (.ref 58), some (.int x1)], [.int 93, .int x1], qMM n m lm)) rfl ?_
    by_cases hc1 : 93 ≤ x1
    · rw [if_pos hc1] at h
      refine q_ev_brT hc1 (a := 21) (b := 8) rfl ?_
      have h_z0 := Option.some.inj h
      subst h_z0
      exact hk (some (.int x1))
    · rw [if_neg hc1] at h
      refine q_ev_brF hc1 (a := 21) (b := 8) rfl ?_
      refine q_ev_run 4 (S' := (14, [some (.ref 58), some (.int x1)], [.int 0, .int x1, .ref 61], qMM n m lm)) rfl ?_
      obtain ⟨hb2, h⟩ := q_cd h
      refine q_ev_chk (b := q_in x1 93) hb2 (S' := (15, [some (.ref 58), some (.int x1)], [], qMM n (q_w m 59 x1.toNatClampNeg 0) lm)) rfl ?_
      refine q_ev_run 2 (S' := (2, [some (.ref 58), some (.int (x1 + 1))], [], qMM n (q_w m 59 x1.toNatClampNeg 0) lm)) rfl ?_
      exact ih (q_w m 59 x1.toNatClampNeg 0) (x1 + 1) _ h hk
